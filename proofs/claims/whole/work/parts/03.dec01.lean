theorem dX6_walk_142 : decode cX6_walk 142 = .ok (.iaload, 1) := by decide +kernel
theorem dX6_walk_143 : decode cX6_walk 143 = .ok (.isub, 1) := by decide +kernel
theorem dX6_walk_144 : decode cX6_walk 144 = .ok (.imul, 1) := by decide +kernel
theorem dX6_walk_145 : decode cX6_walk 145 = .ok (.bipush 100, 2) := by decide +kernel
theorem dX6_walk_147 : decode cX6_walk 147 = .ok (.idiv, 1) := by decide +kernel
theorem dX6_walk_148 : decode cX6_walk 148 = .ok (.iastore, 1) := by decide +kernel
theorem dX6_walk_149 : decode cX6_walk 149 = .ok (.aload_n 0, 1) := by decide +kernel
theorem dX6_walk_150 : decode cX6_walk 150 = .ok (.dup, 1) := by decide +kernel
theorem dX6_walk_151 : decode cX6_walk 151 = .ok (.getfield 149, 3) := by decide +kernel
theorem dX6_walk_154 : decode cX6_walk 154 = .ok (.iconst 1, 1) := by decide +kernel
theorem dX6_walk_155 : decode cX6_walk 155 = .ok (.iadd, 1) := by decide +kernel
theorem dX6_walk_156 : decode cX6_walk 156 = .ok (.putfield 149, 3) := by decide +kernel
theorem dX6_walk_159 : decode cX6_walk 159 = .ok (.iload 7, 2) := by decide +kernel
theorem dX6_walk_161 : decode cX6_walk 161 = .ok (.istore_n 3, 1) := by decide +kernel
theorem dX6_walk_162 : decode cX6_walk 162 = .ok (.iinc 4 1, 3) := by decide +kernel
theorem dX6_walk_165 : decode cX6_walk 165 = .ok (.goto (-122), 3) := by decide +kernel
theorem dX6_walk_168 : decode cX6_walk 168 = .ok (.aload_n 0, 1) := by decide +kernel
theorem dX6_walk_169 : decode cX6_walk 169 = .ok (.invokevirtual 158, 3) := by decide +kernel
theorem dX6_walk_172 : decode cX6_walk 172 = .ok (.lreturn, 1) := by decide +kernel
theorem dX6_worthHad_0 : decode cX6_worthHad 0 = .ok (.lconst 0, 1) := by decide +kernel
theorem dX6_worthHad_1 : decode cX6_worthHad 1 = .ok (.lstore_n 1, 1) := by decide +kernel
theorem dX6_worthHad_2 : decode cX6_worthHad 2 = .ok (.iconst 0, 1) := by decide +kernel
theorem dX6_worthHad_3 : decode cX6_worthHad 3 = .ok (.istore_n 3, 1) := by decide +kernel
theorem dX6_worthHad_4 : decode cX6_worthHad 4 = .ok (.iload_n 3, 1) := by decide +kernel
theorem dX6_worthHad_5 : decode cX6_worthHad 5 = .ok (.bipush 6, 2) := by decide +kernel
theorem dX6_worthHad_7 : decode cX6_worthHad 7 = .ok (.if_icmp .ge 33, 3) := by decide +kernel
theorem dX6_worthHad_10 : decode cX6_worthHad 10 = .ok (.lload_n 1, 1) := by decide +kernel
theorem dX6_worthHad_11 : decode cX6_worthHad 11 = .ok (.ldc 148, 2) := by decide +kernel
theorem dX6_worthHad_13 : decode cX6_worthHad 13 = .ok (.aload_n 0, 1) := by decide +kernel
theorem dX6_worthHad_14 : decode cX6_worthHad 14 = .ok (.getfield 41, 3) := by decide +kernel
theorem dX6_worthHad_17 : decode cX6_worthHad 17 = .ok (.iload_n 3, 1) := by decide +kernel
theorem dX6_worthHad_18 : decode cX6_worthHad 18 = .ok (.iaload, 1) := by decide +kernel
theorem dX6_worthHad_19 : decode cX6_worthHad 19 = .ok (.isub, 1) := by decide +kernel
theorem dX6_worthHad_20 : decode cX6_worthHad 20 = .ok (.i2l, 1) := by decide +kernel
theorem dX6_worthHad_21 : decode cX6_worthHad 21 = .ok (.aload_n 0, 1) := by decide +kernel
theorem dX6_worthHad_22 : decode cX6_worthHad 22 = .ok (.getfield 12, 3) := by decide +kernel
theorem dX6_worthHad_25 : decode cX6_worthHad 25 = .ok (.getfield 162, 3) := by decide +kernel
theorem dX6_worthHad_28 : decode cX6_worthHad 28 = .ok (.iload_n 3, 1) := by decide +kernel
theorem dX6_worthHad_29 : decode cX6_worthHad 29 = .ok (.iaload, 1) := by decide +kernel
theorem dX6_worthHad_30 : decode cX6_worthHad 30 = .ok (.i2l, 1) := by decide +kernel
theorem dX6_worthHad_31 : decode cX6_worthHad 31 = .ok (.lmul, 1) := by decide +kernel
theorem dX6_worthHad_32 : decode cX6_worthHad 32 = .ok (.ladd, 1) := by decide +kernel
theorem dX6_worthHad_33 : decode cX6_worthHad 33 = .ok (.lstore_n 1, 1) := by decide +kernel
theorem dX6_worthHad_34 : decode cX6_worthHad 34 = .ok (.iinc 3 1, 3) := by decide +kernel
theorem dX6_worthHad_37 : decode cX6_worthHad 37 = .ok (.goto (-33), 3) := by decide +kernel
theorem dX6_worthHad_40 : decode cX6_worthHad 40 = .ok (.lload_n 1, 1) := by decide +kernel
theorem dX6_worthHad_41 : decode cX6_worthHad 41 = .ok (.lreturn, 1) := by decide +kernel
theorem dX6_orderAsDigits_0 : decode cX6_orderAsDigits 0 = .ok (.lconst 0, 1) := by decide +kernel
theorem dX6_orderAsDigits_1 : decode cX6_orderAsDigits 1 = .ok (.lstore_n 1, 1) := by decide +kernel
theorem dX6_orderAsDigits_2 : decode cX6_orderAsDigits 2 = .ok (.iconst 0, 1) := by decide +kernel
theorem dX6_orderAsDigits_3 : decode cX6_orderAsDigits 3 = .ok (.istore_n 3, 1) := by decide +kernel
theorem dX6_orderAsDigits_4 : decode cX6_orderAsDigits 4 = .ok (.iload_n 3, 1) := by decide +kernel
theorem dX6_orderAsDigits_5 : decode cX6_orderAsDigits 5 = .ok (.aload_n 0, 1) := by decide +kernel
theorem dX6_orderAsDigits_6 : decode cX6_orderAsDigits 6 = .ok (.getfield 56, 3) := by decide +kernel
theorem dX6_orderAsDigits_9 : decode cX6_orderAsDigits 9 = .ok (.if_icmp .ge 25, 3) := by decide +kernel
theorem dX6_orderAsDigits_12 : decode cX6_orderAsDigits 12 = .ok (.ldc2_w 165, 3) := by decide +kernel
theorem dX6_orderAsDigits_15 : decode cX6_orderAsDigits 15 = .ok (.lload_n 1, 1) := by decide +kernel
theorem dX6_orderAsDigits_16 : decode cX6_orderAsDigits 16 = .ok (.lmul, 1) := by decide +kernel
theorem dX6_orderAsDigits_17 : decode cX6_orderAsDigits 17 = .ok (.aload_n 0, 1) := by decide +kernel
theorem dX6_orderAsDigits_18 : decode cX6_orderAsDigits 18 = .ok (.getfield 44, 3) := by decide +kernel
theorem dX6_orderAsDigits_21 : decode cX6_orderAsDigits 21 = .ok (.iload_n 3, 1) := by decide +kernel
theorem dX6_orderAsDigits_22 : decode cX6_orderAsDigits 22 = .ok (.iaload, 1) := by decide +kernel
theorem dX6_orderAsDigits_23 : decode cX6_orderAsDigits 23 = .ok (.i2l, 1) := by decide +kernel
theorem dX6_orderAsDigits_24 : decode cX6_orderAsDigits 24 = .ok (.ladd, 1) := by decide +kernel
theorem dX6_orderAsDigits_25 : decode cX6_orderAsDigits 25 = .ok (.lconst 1, 1) := by decide +kernel
theorem dX6_orderAsDigits_26 : decode cX6_orderAsDigits 26 = .ok (.ladd, 1) := by decide +kernel
theorem dX6_orderAsDigits_27 : decode cX6_orderAsDigits 27 = .ok (.lstore_n 1, 1) := by decide +kernel
theorem dX6_orderAsDigits_28 : decode cX6_orderAsDigits 28 = .ok (.iinc 3 1, 3) := by decide +kernel
theorem dX6_orderAsDigits_31 : decode cX6_orderAsDigits 31 = .ok (.goto (-27), 3) := by decide +kernel
theorem dX6_orderAsDigits_34 : decode cX6_orderAsDigits 34 = .ok (.lload_n 1, 1) := by decide +kernel
theorem dX6_orderAsDigits_35 : decode cX6_orderAsDigits 35 = .ok (.lreturn, 1) := by decide +kernel
theorem dX6_tryAllOrders_0 : decode cX6_tryAllOrders 0 = .ok (.ldc2_w 167, 3) := by decide +kernel
theorem dX6_tryAllOrders_3 : decode cX6_tryAllOrders 3 = .ok (.lstore_n 1, 1) := by decide +kernel
theorem dX6_tryAllOrders_4 : decode cX6_tryAllOrders 4 = .ok (.iconst 1, 1) := by decide +kernel
theorem dX6_tryAllOrders_5 : decode cX6_tryAllOrders 5 = .ok (.istore_n 3, 1) := by decide +kernel
theorem dX6_tryAllOrders_6 : decode cX6_tryAllOrders 6 = .ok (.iconst 0, 1) := by decide +kernel
theorem dX6_tryAllOrders_7 : decode cX6_tryAllOrders 7 = .ok (.istore 4, 2) := by decide +kernel
theorem dX6_tryAllOrders_9 : decode cX6_tryAllOrders 9 = .ok (.iload 4, 2) := by decide +kernel
theorem dX6_tryAllOrders_11 : decode cX6_tryAllOrders 11 = .ok (.bipush 120, 2) := by decide +kernel
theorem dX6_tryAllOrders_13 : decode cX6_tryAllOrders 13 = .ok (.if_icmp .ge 55, 3) := by decide +kernel
theorem dX6_tryAllOrders_16 : decode cX6_tryAllOrders 16 = .ok (.iload_n 3, 1) := by decide +kernel
theorem dX6_tryAllOrders_17 : decode cX6_tryAllOrders 17 = .ok (.ifCond .eq 51, 3) := by decide +kernel
theorem dX6_tryAllOrders_20 : decode cX6_tryAllOrders 20 = .ok (.aload_n 0, 1) := by decide +kernel
theorem dX6_tryAllOrders_21 : decode cX6_tryAllOrders 21 = .ok (.aload_n 0, 1) := by decide +kernel
theorem dX6_tryAllOrders_22 : decode cX6_tryAllOrders 22 = .ok (.getfield 56, 3) := by decide +kernel
theorem dX6_tryAllOrders_25 : decode cX6_tryAllOrders 25 = .ok (.invokevirtual 135, 3) := by decide +kernel
theorem dX6_tryAllOrders_28 : decode cX6_tryAllOrders 28 = .ok (.lstore 5, 2) := by decide +kernel
theorem dX6_tryAllOrders_30 : decode cX6_tryAllOrders 30 = .ok (.lload 5, 2) := by decide +kernel
theorem dX6_tryAllOrders_32 : decode cX6_tryAllOrders 32 = .ok (.lload_n 1, 1) := by decide +kernel
theorem dX6_tryAllOrders_33 : decode cX6_tryAllOrders 33 = .ok (.lcmp, 1) := by decide +kernel
theorem dX6_tryAllOrders_34 : decode cX6_tryAllOrders 34 = .ok (.ifCond .le 23, 3) := by decide +kernel
theorem dX6_tryAllOrders_37 : decode cX6_tryAllOrders 37 = .ok (.lload 5, 2) := by decide +kernel
theorem dX6_tryAllOrders_39 : decode cX6_tryAllOrders 39 = .ok (.lstore_n 1, 1) := by decide +kernel
theorem dX6_tryAllOrders_40 : decode cX6_tryAllOrders 40 = .ok (.aload_n 0, 1) := by decide +kernel
theorem dX6_tryAllOrders_41 : decode cX6_tryAllOrders 41 = .ok (.getfield 44, 3) := by decide +kernel
theorem dX6_tryAllOrders_44 : decode cX6_tryAllOrders 44 = .ok (.iconst 0, 1) := by decide +kernel
theorem dX6_tryAllOrders_45 : decode cX6_tryAllOrders 45 = .ok (.aload_n 0, 1) := by decide +kernel
theorem dX6_tryAllOrders_46 : decode cX6_tryAllOrders 46 = .ok (.getfield 47, 3) := by decide +kernel
theorem dX6_tryAllOrders_49 : decode cX6_tryAllOrders 49 = .ok (.iconst 0, 1) := by decide +kernel
theorem dX6_tryAllOrders_50 : decode cX6_tryAllOrders 50 = .ok (.aload_n 0, 1) := by decide +kernel
theorem dX6_tryAllOrders_51 : decode cX6_tryAllOrders 51 = .ok (.getfield 56, 3) := by decide +kernel
theorem dX6_tryAllOrders_54 : decode cX6_tryAllOrders 54 = .ok (.invokestatic 169, 3) := by decide +kernel
theorem dX6_tryAllOrders_57 : decode cX6_tryAllOrders 57 = .ok (.aload_n 0, 1) := by decide +kernel
theorem dX6_tryAllOrders_58 : decode cX6_tryAllOrders 58 = .ok (.invokevirtual 175, 3) := by decide +kernel
theorem dX6_tryAllOrders_61 : decode cX6_tryAllOrders 61 = .ok (.istore_n 3, 1) := by decide +kernel
theorem dX6_tryAllOrders_62 : decode cX6_tryAllOrders 62 = .ok (.iinc 4 1, 3) := by decide +kernel
theorem dX6_tryAllOrders_65 : decode cX6_tryAllOrders 65 = .ok (.goto (-56), 3) := by decide +kernel
theorem dX6_tryAllOrders_68 : decode cX6_tryAllOrders 68 = .ok (.aload_n 0, 1) := by decide +kernel
theorem dX6_tryAllOrders_69 : decode cX6_tryAllOrders 69 = .ok (.getfield 47, 3) := by decide +kernel
theorem dX6_tryAllOrders_72 : decode cX6_tryAllOrders 72 = .ok (.iconst 0, 1) := by decide +kernel
theorem dX6_tryAllOrders_73 : decode cX6_tryAllOrders 73 = .ok (.aload_n 0, 1) := by decide +kernel
theorem dX6_tryAllOrders_74 : decode cX6_tryAllOrders 74 = .ok (.getfield 44, 3) := by decide +kernel
theorem dX6_tryAllOrders_77 : decode cX6_tryAllOrders 77 = .ok (.iconst 0, 1) := by decide +kernel
theorem dX6_tryAllOrders_78 : decode cX6_tryAllOrders 78 = .ok (.aload_n 0, 1) := by decide +kernel
theorem dX6_tryAllOrders_79 : decode cX6_tryAllOrders 79 = .ok (.getfield 56, 3) := by decide +kernel
theorem dX6_tryAllOrders_82 : decode cX6_tryAllOrders 82 = .ok (.invokestatic 169, 3) := by decide +kernel
theorem dX6_tryAllOrders_85 : decode cX6_tryAllOrders 85 = .ok (.lload_n 1, 1) := by decide +kernel
theorem dX6_tryAllOrders_86 : decode cX6_tryAllOrders 86 = .ok (.lreturn, 1) := by decide +kernel
theorem dX6_nextOrder_0 : decode cX6_nextOrder 0 = .ok (.aload_n 0, 1) := by decide +kernel
theorem dX6_nextOrder_1 : decode cX6_nextOrder 1 = .ok (.getfield 56, 3) := by decide +kernel
theorem dX6_nextOrder_4 : decode cX6_nextOrder 4 = .ok (.iconst 2, 1) := by decide +kernel
theorem dX6_nextOrder_5 : decode cX6_nextOrder 5 = .ok (.isub, 1) := by decide +kernel
theorem dX6_nextOrder_6 : decode cX6_nextOrder 6 = .ok (.istore_n 1, 1) := by decide +kernel
theorem dX6_nextOrder_7 : decode cX6_nextOrder 7 = .ok (.iload_n 1, 1) := by decide +kernel
theorem dX6_nextOrder_8 : decode cX6_nextOrder 8 = .ok (.ifCond .lt 26, 3) := by decide +kernel
theorem dX6_nextOrder_11 : decode cX6_nextOrder 11 = .ok (.aload_n 0, 1) := by decide +kernel
theorem dX6_nextOrder_12 : decode cX6_nextOrder 12 = .ok (.getfield 44, 3) := by decide +kernel
theorem dX6_nextOrder_15 : decode cX6_nextOrder 15 = .ok (.iload_n 1, 1) := by decide +kernel
theorem dX6_nextOrder_16 : decode cX6_nextOrder 16 = .ok (.iaload, 1) := by decide +kernel
theorem dX6_nextOrder_17 : decode cX6_nextOrder 17 = .ok (.aload_n 0, 1) := by decide +kernel
theorem dX6_nextOrder_18 : decode cX6_nextOrder 18 = .ok (.getfield 44, 3) := by decide +kernel
theorem dX6_nextOrder_21 : decode cX6_nextOrder 21 = .ok (.iload_n 1, 1) := by decide +kernel
theorem dX6_nextOrder_22 : decode cX6_nextOrder 22 = .ok (.iconst 1, 1) := by decide +kernel
theorem dX6_nextOrder_23 : decode cX6_nextOrder 23 = .ok (.iadd, 1) := by decide +kernel
theorem dX6_nextOrder_24 : decode cX6_nextOrder 24 = .ok (.iaload, 1) := by decide +kernel
theorem dX6_nextOrder_25 : decode cX6_nextOrder 25 = .ok (.if_icmp .le 9, 3) := by decide +kernel
theorem dX6_nextOrder_28 : decode cX6_nextOrder 28 = .ok (.iinc 1 (-1), 3) := by decide +kernel
theorem dX6_nextOrder_31 : decode cX6_nextOrder 31 = .ok (.goto (-24), 3) := by decide +kernel
theorem dX6_nextOrder_34 : decode cX6_nextOrder 34 = .ok (.iload_n 1, 1) := by decide +kernel
theorem dX6_nextOrder_35 : decode cX6_nextOrder 35 = .ok (.ifCond .ge 5, 3) := by decide +kernel
theorem dX6_nextOrder_38 : decode cX6_nextOrder 38 = .ok (.iconst 0, 1) := by decide +kernel
theorem dX6_nextOrder_39 : decode cX6_nextOrder 39 = .ok (.ireturn, 1) := by decide +kernel
theorem dX6_nextOrder_40 : decode cX6_nextOrder 40 = .ok (.aload_n 0, 1) := by decide +kernel
theorem dX6_nextOrder_41 : decode cX6_nextOrder 41 = .ok (.getfield 56, 3) := by decide +kernel
theorem dX6_nextOrder_44 : decode cX6_nextOrder 44 = .ok (.iconst 1, 1) := by decide +kernel
theorem dX6_nextOrder_45 : decode cX6_nextOrder 45 = .ok (.isub, 1) := by decide +kernel
theorem dX6_nextOrder_46 : decode cX6_nextOrder 46 = .ok (.istore_n 2, 1) := by decide +kernel
theorem dX6_nextOrder_47 : decode cX6_nextOrder 47 = .ok (.iload_n 2, 1) := by decide +kernel
theorem dX6_nextOrder_48 : decode cX6_nextOrder 48 = .ok (.iload_n 1, 1) := by decide +kernel
theorem dX6_nextOrder_49 : decode cX6_nextOrder 49 = .ok (.if_icmp .le 24, 3) := by decide +kernel
theorem dX6_nextOrder_52 : decode cX6_nextOrder 52 = .ok (.aload_n 0, 1) := by decide +kernel
theorem dX6_nextOrder_53 : decode cX6_nextOrder 53 = .ok (.getfield 44, 3) := by decide +kernel
theorem dX6_nextOrder_56 : decode cX6_nextOrder 56 = .ok (.iload_n 2, 1) := by decide +kernel
theorem dX6_nextOrder_57 : decode cX6_nextOrder 57 = .ok (.iaload, 1) := by decide +kernel
theorem dX6_nextOrder_58 : decode cX6_nextOrder 58 = .ok (.aload_n 0, 1) := by decide +kernel
theorem dX6_nextOrder_59 : decode cX6_nextOrder 59 = .ok (.getfield 44, 3) := by decide +kernel
theorem dX6_nextOrder_62 : decode cX6_nextOrder 62 = .ok (.iload_n 1, 1) := by decide +kernel
theorem dX6_nextOrder_63 : decode cX6_nextOrder 63 = .ok (.iaload, 1) := by decide +kernel
theorem dX6_nextOrder_64 : decode cX6_nextOrder 64 = .ok (.if_icmp .ge 9, 3) := by decide +kernel
theorem dX6_nextOrder_67 : decode cX6_nextOrder 67 = .ok (.iinc 2 (-1), 3) := by decide +kernel
theorem dX6_nextOrder_70 : decode cX6_nextOrder 70 = .ok (.goto (-23), 3) := by decide +kernel
theorem dX6_nextOrder_73 : decode cX6_nextOrder 73 = .ok (.aload_n 0, 1) := by decide +kernel
theorem dX6_nextOrder_74 : decode cX6_nextOrder 74 = .ok (.iload_n 1, 1) := by decide +kernel
theorem dX6_nextOrder_75 : decode cX6_nextOrder 75 = .ok (.iload_n 2, 1) := by decide +kernel
theorem dX6_nextOrder_76 : decode cX6_nextOrder 76 = .ok (.invokevirtual 179, 3) := by decide +kernel
theorem dX6_nextOrder_79 : decode cX6_nextOrder 79 = .ok (.iload_n 1, 1) := by decide +kernel
theorem dX6_nextOrder_80 : decode cX6_nextOrder 80 = .ok (.iconst 1, 1) := by decide +kernel
theorem dX6_nextOrder_81 : decode cX6_nextOrder 81 = .ok (.iadd, 1) := by decide +kernel
theorem dX6_nextOrder_82 : decode cX6_nextOrder 82 = .ok (.istore_n 3, 1) := by decide +kernel
theorem dX6_nextOrder_83 : decode cX6_nextOrder 83 = .ok (.aload_n 0, 1) := by decide +kernel
theorem dX6_nextOrder_84 : decode cX6_nextOrder 84 = .ok (.getfield 56, 3) := by decide +kernel
theorem dX6_nextOrder_87 : decode cX6_nextOrder 87 = .ok (.iconst 1, 1) := by decide +kernel
theorem dX6_nextOrder_88 : decode cX6_nextOrder 88 = .ok (.isub, 1) := by decide +kernel
theorem dX6_nextOrder_89 : decode cX6_nextOrder 89 = .ok (.istore 4, 2) := by decide +kernel
theorem dX6_nextOrder_91 : decode cX6_nextOrder 91 = .ok (.iload_n 3, 1) := by decide +kernel
theorem dX6_nextOrder_92 : decode cX6_nextOrder 92 = .ok (.iload 4, 2) := by decide +kernel
theorem dX6_nextOrder_94 : decode cX6_nextOrder 94 = .ok (.if_icmp .ge 19, 3) := by decide +kernel
theorem dX6_nextOrder_97 : decode cX6_nextOrder 97 = .ok (.aload_n 0, 1) := by decide +kernel
theorem dX6_nextOrder_98 : decode cX6_nextOrder 98 = .ok (.iload_n 3, 1) := by decide +kernel
theorem dX6_nextOrder_99 : decode cX6_nextOrder 99 = .ok (.iload 4, 2) := by decide +kernel
theorem dX6_nextOrder_101 : decode cX6_nextOrder 101 = .ok (.invokevirtual 179, 3) := by decide +kernel
theorem dX6_nextOrder_104 : decode cX6_nextOrder 104 = .ok (.iinc 3 1, 3) := by decide +kernel
theorem dX6_nextOrder_107 : decode cX6_nextOrder 107 = .ok (.iinc 4 (-1), 3) := by decide +kernel
theorem dX6_nextOrder_110 : decode cX6_nextOrder 110 = .ok (.goto (-19), 3) := by decide +kernel
theorem dX6_nextOrder_113 : decode cX6_nextOrder 113 = .ok (.iconst 1, 1) := by decide +kernel
theorem dX6_nextOrder_114 : decode cX6_nextOrder 114 = .ok (.ireturn, 1) := by decide +kernel
theorem dX6_exchange_0 : decode cX6_exchange 0 = .ok (.aload_n 0, 1) := by decide +kernel
theorem dX6_exchange_1 : decode cX6_exchange 1 = .ok (.getfield 44, 3) := by decide +kernel
theorem dX6_exchange_4 : decode cX6_exchange 4 = .ok (.iload_n 1, 1) := by decide +kernel
theorem dX6_exchange_5 : decode cX6_exchange 5 = .ok (.iaload, 1) := by decide +kernel
theorem dX6_exchange_6 : decode cX6_exchange 6 = .ok (.istore_n 3, 1) := by decide +kernel
theorem dX6_exchange_7 : decode cX6_exchange 7 = .ok (.aload_n 0, 1) := by decide +kernel
theorem dX6_exchange_8 : decode cX6_exchange 8 = .ok (.getfield 44, 3) := by decide +kernel
theorem dX6_exchange_11 : decode cX6_exchange 11 = .ok (.iload_n 1, 1) := by decide +kernel
theorem dX6_exchange_12 : decode cX6_exchange 12 = .ok (.aload_n 0, 1) := by decide +kernel
theorem dX6_exchange_13 : decode cX6_exchange 13 = .ok (.getfield 44, 3) := by decide +kernel
theorem dX6_exchange_16 : decode cX6_exchange 16 = .ok (.iload_n 2, 1) := by decide +kernel
theorem dX6_exchange_17 : decode cX6_exchange 17 = .ok (.iaload, 1) := by decide +kernel
theorem dX6_exchange_18 : decode cX6_exchange 18 = .ok (.iastore, 1) := by decide +kernel
theorem dX6_exchange_19 : decode cX6_exchange 19 = .ok (.aload_n 0, 1) := by decide +kernel
theorem dX6_exchange_20 : decode cX6_exchange 20 = .ok (.getfield 44, 3) := by decide +kernel
theorem dX6_exchange_23 : decode cX6_exchange 23 = .ok (.iload_n 2, 1) := by decide +kernel
theorem dX6_exchange_24 : decode cX6_exchange 24 = .ok (.iload_n 3, 1) := by decide +kernel
theorem dX6_exchange_25 : decode cX6_exchange 25 = .ok (.iastore, 1) := by decide +kernel
theorem dX6_exchange_26 : decode cX6_exchange 26 = .ok (.return_, 1) := by decide +kernel
theorem dX6_exchangeWhileBetter_0 : decode cX6_exchangeWhileBetter 0 = .ok (.aload_n 0, 1) := by decide +kernel
theorem dX6_exchangeWhileBetter_1 : decode cX6_exchangeWhileBetter 1 = .ok (.aload_n 0, 1) := by decide +kernel
theorem dX6_exchangeWhileBetter_2 : decode cX6_exchangeWhileBetter 2 = .ok (.getfield 56, 3) := by decide +kernel
theorem dX6_exchangeWhileBetter_5 : decode cX6_exchangeWhileBetter 5 = .ok (.invokevirtual 135, 3) := by decide +kernel
theorem dX6_exchangeWhileBetter_8 : decode cX6_exchangeWhileBetter 8 = .ok (.lstore_n 1, 1) := by decide +kernel
theorem dX6_exchangeWhileBetter_9 : decode cX6_exchangeWhileBetter 9 = .ok (.iconst 1, 1) := by decide +kernel
theorem dX6_exchangeWhileBetter_10 : decode cX6_exchangeWhileBetter 10 = .ok (.istore_n 3, 1) := by decide +kernel
theorem dX6_exchangeWhileBetter_11 : decode cX6_exchangeWhileBetter 11 = .ok (.iconst 0, 1) := by decide +kernel
theorem dX6_exchangeWhileBetter_12 : decode cX6_exchangeWhileBetter 12 = .ok (.istore 4, 2) := by decide +kernel
theorem dX6_exchangeWhileBetter_14 : decode cX6_exchangeWhileBetter 14 = .ok (.iload 4, 2) := by decide +kernel
theorem dX6_exchangeWhileBetter_16 : decode cX6_exchangeWhileBetter 16 = .ok (.ldc 183, 2) := by decide +kernel
theorem dX6_exchangeWhileBetter_18 : decode cX6_exchangeWhileBetter 18 = .ok (.if_icmp .ge 36, 3) := by decide +kernel
theorem dX6_exchangeWhileBetter_21 : decode cX6_exchangeWhileBetter 21 = .ok (.iload_n 3, 1) := by decide +kernel
theorem dX6_exchangeWhileBetter_22 : decode cX6_exchangeWhileBetter 22 = .ok (.ifCond .eq 32, 3) := by decide +kernel
theorem dX6_exchangeWhileBetter_25 : decode cX6_exchangeWhileBetter 25 = .ok (.lload_n 1, 1) := by decide +kernel
theorem dX6_exchangeWhileBetter_26 : decode cX6_exchangeWhileBetter 26 = .ok (.lstore 5, 2) := by decide +kernel
theorem dX6_exchangeWhileBetter_28 : decode cX6_exchangeWhileBetter 28 = .ok (.aload_n 0, 1) := by decide +kernel
theorem dX6_exchangeWhileBetter_29 : decode cX6_exchangeWhileBetter 29 = .ok (.lload 5, 2) := by decide +kernel
theorem dX6_exchangeWhileBetter_31 : decode cX6_exchangeWhileBetter 31 = .ok (.invokevirtual 184, 3) := by decide +kernel
theorem dX6_exchangeWhileBetter_34 : decode cX6_exchangeWhileBetter 34 = .ok (.lstore_n 1, 1) := by decide +kernel
theorem dX6_exchangeWhileBetter_35 : decode cX6_exchangeWhileBetter 35 = .ok (.lload_n 1, 1) := by decide +kernel
theorem dX6_exchangeWhileBetter_36 : decode cX6_exchangeWhileBetter 36 = .ok (.lload 5, 2) := by decide +kernel
theorem dX6_exchangeWhileBetter_38 : decode cX6_exchangeWhileBetter 38 = .ok (.lcmp, 1) := by decide +kernel
theorem dX6_exchangeWhileBetter_39 : decode cX6_exchangeWhileBetter 39 = .ok (.ifCond .le 7, 3) := by decide +kernel
theorem dX6_exchangeWhileBetter_42 : decode cX6_exchangeWhileBetter 42 = .ok (.iconst 1, 1) := by decide +kernel
theorem dX6_exchangeWhileBetter_43 : decode cX6_exchangeWhileBetter 43 = .ok (.goto 4, 3) := by decide +kernel
theorem dX6_exchangeWhileBetter_46 : decode cX6_exchangeWhileBetter 46 = .ok (.iconst 0, 1) := by decide +kernel
theorem dX6_exchangeWhileBetter_47 : decode cX6_exchangeWhileBetter 47 = .ok (.istore_n 3, 1) := by decide +kernel
theorem dX6_exchangeWhileBetter_48 : decode cX6_exchangeWhileBetter 48 = .ok (.iinc 4 1, 3) := by decide +kernel
theorem dX6_exchangeWhileBetter_51 : decode cX6_exchangeWhileBetter 51 = .ok (.goto (-37), 3) := by decide +kernel
theorem dX6_exchangeWhileBetter_54 : decode cX6_exchangeWhileBetter 54 = .ok (.lload_n 1, 1) := by decide +kernel
theorem dX6_exchangeWhileBetter_55 : decode cX6_exchangeWhileBetter 55 = .ok (.lreturn, 1) := by decide +kernel
theorem dX6_bestExchange_0 : decode cX6_bestExchange 0 = .ok (.lload_n 1, 1) := by decide +kernel
theorem dX6_bestExchange_1 : decode cX6_bestExchange 1 = .ok (.lstore_n 3, 1) := by decide +kernel
theorem dX6_bestExchange_2 : decode cX6_bestExchange 2 = .ok (.iconst 0, 1) := by decide +kernel
theorem dX6_bestExchange_3 : decode cX6_bestExchange 3 = .ok (.istore 5, 2) := by decide +kernel
theorem dX6_bestExchange_5 : decode cX6_bestExchange 5 = .ok (.iconst 0, 1) := by decide +kernel
theorem dX6_bestExchange_6 : decode cX6_bestExchange 6 = .ok (.istore 6, 2) := by decide +kernel
theorem dX6_bestExchange_8 : decode cX6_bestExchange 8 = .ok (.iconst 0, 1) := by decide +kernel
theorem dX6_bestExchange_9 : decode cX6_bestExchange 9 = .ok (.istore 7, 2) := by decide +kernel
theorem dX6_bestExchange_11 : decode cX6_bestExchange 11 = .ok (.iload 7, 2) := by decide +kernel
theorem dX6_bestExchange_13 : decode cX6_bestExchange 13 = .ok (.aload_n 0, 1) := by decide +kernel
theorem dX6_bestExchange_14 : decode cX6_bestExchange 14 = .ok (.getfield 56, 3) := by decide +kernel
theorem dX6_bestExchange_17 : decode cX6_bestExchange 17 = .ok (.if_icmp .ge 74, 3) := by decide +kernel
theorem dX6_bestExchange_20 : decode cX6_bestExchange 20 = .ok (.iload 7, 2) := by decide +kernel
theorem dX6_bestExchange_22 : decode cX6_bestExchange 22 = .ok (.iconst 1, 1) := by decide +kernel
theorem dX6_bestExchange_23 : decode cX6_bestExchange 23 = .ok (.iadd, 1) := by decide +kernel
theorem dX6_bestExchange_24 : decode cX6_bestExchange 24 = .ok (.istore 8, 2) := by decide +kernel
theorem dX6_bestExchange_26 : decode cX6_bestExchange 26 = .ok (.iload 8, 2) := by decide +kernel
theorem dX6_bestExchange_28 : decode cX6_bestExchange 28 = .ok (.aload_n 0, 1) := by decide +kernel
theorem dX6_bestExchange_29 : decode cX6_bestExchange 29 = .ok (.getfield 56, 3) := by decide +kernel
theorem dX6_bestExchange_32 : decode cX6_bestExchange 32 = .ok (.if_icmp .ge 53, 3) := by decide +kernel
theorem dX6_bestExchange_35 : decode cX6_bestExchange 35 = .ok (.aload_n 0, 1) := by decide +kernel
theorem dX6_bestExchange_36 : decode cX6_bestExchange 36 = .ok (.iload 7, 2) := by decide +kernel
theorem dX6_bestExchange_38 : decode cX6_bestExchange 38 = .ok (.iload 8, 2) := by decide +kernel
theorem dX6_bestExchange_40 : decode cX6_bestExchange 40 = .ok (.invokevirtual 179, 3) := by decide +kernel
theorem dX6_bestExchange_43 : decode cX6_bestExchange 43 = .ok (.aload_n 0, 1) := by decide +kernel
theorem dX6_bestExchange_44 : decode cX6_bestExchange 44 = .ok (.aload_n 0, 1) := by decide +kernel
theorem dX6_bestExchange_45 : decode cX6_bestExchange 45 = .ok (.getfield 56, 3) := by decide +kernel
theorem dX6_bestExchange_48 : decode cX6_bestExchange 48 = .ok (.invokevirtual 135, 3) := by decide +kernel
theorem dX6_bestExchange_51 : decode cX6_bestExchange 51 = .ok (.lstore 9, 2) := by decide +kernel
theorem dX6_bestExchange_53 : decode cX6_bestExchange 53 = .ok (.aload_n 0, 1) := by decide +kernel
theorem dX6_bestExchange_54 : decode cX6_bestExchange 54 = .ok (.iload 7, 2) := by decide +kernel
theorem dX6_bestExchange_56 : decode cX6_bestExchange 56 = .ok (.iload 8, 2) := by decide +kernel
theorem dX6_bestExchange_58 : decode cX6_bestExchange 58 = .ok (.invokevirtual 179, 3) := by decide +kernel
theorem dX6_bestExchange_61 : decode cX6_bestExchange 61 = .ok (.lload 9, 2) := by decide +kernel
theorem dX6_bestExchange_63 : decode cX6_bestExchange 63 = .ok (.lload_n 3, 1) := by decide +kernel
theorem dX6_bestExchange_64 : decode cX6_bestExchange 64 = .ok (.lcmp, 1) := by decide +kernel
theorem dX6_bestExchange_65 : decode cX6_bestExchange 65 = .ok (.ifCond .le 14, 3) := by decide +kernel
theorem dX6_bestExchange_68 : decode cX6_bestExchange 68 = .ok (.lload 9, 2) := by decide +kernel
theorem dX6_bestExchange_70 : decode cX6_bestExchange 70 = .ok (.lstore_n 3, 1) := by decide +kernel
theorem dX6_bestExchange_71 : decode cX6_bestExchange 71 = .ok (.iload 7, 2) := by decide +kernel
theorem dX6_bestExchange_73 : decode cX6_bestExchange 73 = .ok (.istore 5, 2) := by decide +kernel
theorem dX6_bestExchange_75 : decode cX6_bestExchange 75 = .ok (.iload 8, 2) := by decide +kernel
theorem dX6_bestExchange_77 : decode cX6_bestExchange 77 = .ok (.istore 6, 2) := by decide +kernel
theorem dX6_bestExchange_79 : decode cX6_bestExchange 79 = .ok (.iinc 8 1, 3) := by decide +kernel
theorem dX6_bestExchange_82 : decode cX6_bestExchange 82 = .ok (.goto (-56), 3) := by decide +kernel
theorem dX6_bestExchange_85 : decode cX6_bestExchange 85 = .ok (.iinc 7 1, 3) := by decide +kernel
theorem dX6_bestExchange_88 : decode cX6_bestExchange 88 = .ok (.goto (-77), 3) := by decide +kernel
theorem dX6_bestExchange_91 : decode cX6_bestExchange 91 = .ok (.aload_n 0, 1) := by decide +kernel
theorem dX6_bestExchange_92 : decode cX6_bestExchange 92 = .ok (.iload 5, 2) := by decide +kernel
theorem dX6_bestExchange_94 : decode cX6_bestExchange 94 = .ok (.iload 6, 2) := by decide +kernel
theorem dX6_bestExchange_96 : decode cX6_bestExchange 96 = .ok (.invokevirtual 179, 3) := by decide +kernel
theorem dX6_bestExchange_99 : decode cX6_bestExchange 99 = .ok (.lload_n 3, 1) := by decide +kernel
theorem dX6_bestExchange_100 : decode cX6_bestExchange 100 = .ok (.lreturn, 1) := by decide +kernel
theorem dX6_drawnSayings_0 : decode cX6_drawnSayings 0 = .ok (.aload_n 0, 1) := by decide +kernel
theorem dX6_drawnSayings_1 : decode cX6_drawnSayings 1 = .ok (.aload_n 0, 1) := by decide +kernel
theorem dX6_drawnSayings_2 : decode cX6_drawnSayings 2 = .ok (.getfield 12, 3) := by decide +kernel
theorem dX6_drawnSayings_5 : decode cX6_drawnSayings 5 = .ok (.invokevirtual 145, 3) := by decide +kernel
theorem dX6_drawnSayings_8 : decode cX6_drawnSayings 8 = .ok (.invokevirtual 188, 3) := by decide +kernel
theorem dX6_drawnSayings_11 : decode cX6_drawnSayings 11 = .ok (.pop2, 1) := by decide +kernel
theorem dX6_drawnSayings_12 : decode cX6_drawnSayings 12 = .ok (.iload_n 1, 1) := by decide +kernel
theorem dX6_drawnSayings_13 : decode cX6_drawnSayings 13 = .ok (.iconst 1, 1) := by decide +kernel
theorem dX6_drawnSayings_14 : decode cX6_drawnSayings 14 = .ok (.iadd, 1) := by decide +kernel
theorem dX6_drawnSayings_15 : decode cX6_drawnSayings 15 = .ok (.i2l, 1) := by decide +kernel
theorem dX6_drawnSayings_16 : decode cX6_drawnSayings 16 = .ok (.lstore_n 2, 1) := by decide +kernel
theorem dX6_drawnSayings_17 : decode cX6_drawnSayings 17 = .ok (.iconst 0, 1) := by decide +kernel
theorem dX6_drawnSayings_18 : decode cX6_drawnSayings 18 = .ok (.istore 4, 2) := by decide +kernel
theorem dX6_drawnSayings_20 : decode cX6_drawnSayings 20 = .ok (.iconst 0, 1) := by decide +kernel
theorem dX6_drawnSayings_21 : decode cX6_drawnSayings 21 = .ok (.istore 5, 2) := by decide +kernel
theorem dX6_drawnSayings_23 : decode cX6_drawnSayings 23 = .ok (.iload 5, 2) := by decide +kernel
theorem dX6_drawnSayings_25 : decode cX6_drawnSayings 25 = .ok (.aload_n 0, 1) := by decide +kernel
theorem dX6_drawnSayings_26 : decode cX6_drawnSayings 26 = .ok (.getfield 56, 3) := by decide +kernel
theorem dX6_drawnSayings_29 : decode cX6_drawnSayings 29 = .ok (.if_icmp .ge 56, 3) := by decide +kernel
theorem dX6_drawnSayings_32 : decode cX6_drawnSayings 32 = .ok (.aload_n 0, 1) := by decide +kernel
theorem dX6_drawnSayings_33 : decode cX6_drawnSayings 33 = .ok (.getfield 38, 3) := by decide +kernel
theorem dX6_drawnSayings_36 : decode cX6_drawnSayings 36 = .ok (.iload 5, 2) := by decide +kernel
theorem dX6_drawnSayings_38 : decode cX6_drawnSayings 38 = .ok (.iaload, 1) := by decide +kernel
theorem dX6_drawnSayings_39 : decode cX6_drawnSayings 39 = .ok (.iconst 1, 1) := by decide +kernel
theorem dX6_drawnSayings_40 : decode cX6_drawnSayings 40 = .ok (.if_icmp .lt 39, 3) := by decide +kernel
theorem dX6_drawnSayings_43 : decode cX6_drawnSayings 43 = .ok (.lload_n 2, 1) := by decide +kernel
theorem dX6_drawnSayings_44 : decode cX6_drawnSayings 44 = .ok (.ldc2_w 191, 3) := by decide +kernel
theorem dX6_drawnSayings_47 : decode cX6_drawnSayings 47 = .ok (.lmul, 1) := by decide +kernel
theorem dX6_drawnSayings_48 : decode cX6_drawnSayings 48 = .ok (.ldc2_w 193, 3) := by decide +kernel
theorem dX6_drawnSayings_51 : decode cX6_drawnSayings 51 = .ok (.lrem, 1) := by decide +kernel
theorem dX6_drawnSayings_52 : decode cX6_drawnSayings 52 = .ok (.lstore_n 2, 1) := by decide +kernel
theorem dX6_drawnSayings_53 : decode cX6_drawnSayings 53 = .ok (.lload_n 2, 1) := by decide +kernel
theorem dX6_drawnSayings_54 : decode cX6_drawnSayings 54 = .ok (.ldc2_w 195, 3) := by decide +kernel
theorem dX6_drawnSayings_57 : decode cX6_drawnSayings 57 = .ok (.lrem, 1) := by decide +kernel
theorem dX6_drawnSayings_58 : decode cX6_drawnSayings 58 = .ok (.aload_n 0, 1) := by decide +kernel
theorem dX6_drawnSayings_59 : decode cX6_drawnSayings 59 = .ok (.getfield 38, 3) := by decide +kernel
theorem dX6_drawnSayings_62 : decode cX6_drawnSayings 62 = .ok (.iload 5, 2) := by decide +kernel
theorem dX6_drawnSayings_64 : decode cX6_drawnSayings 64 = .ok (.iaload, 1) := by decide +kernel
theorem dX6_drawnSayings_65 : decode cX6_drawnSayings 65 = .ok (.i2l, 1) := by decide +kernel
theorem dX6_drawnSayings_66 : decode cX6_drawnSayings 66 = .ok (.lcmp, 1) := by decide +kernel
theorem dX6_drawnSayings_67 : decode cX6_drawnSayings 67 = .ok (.ifCond .ge 12, 3) := by decide +kernel
theorem dX6_drawnSayings_70 : decode cX6_drawnSayings 70 = .ok (.iload 4, 2) := by decide +kernel
theorem dX6_drawnSayings_72 : decode cX6_drawnSayings 72 = .ok (.iconst 1, 1) := by decide +kernel
theorem dX6_drawnSayings_73 : decode cX6_drawnSayings 73 = .ok (.iload 5, 2) := by decide +kernel
theorem dX6_drawnSayings_75 : decode cX6_drawnSayings 75 = .ok (.ishl, 1) := by decide +kernel
theorem dX6_drawnSayings_76 : decode cX6_drawnSayings 76 = .ok (.ior, 1) := by decide +kernel
theorem dX6_drawnSayings_77 : decode cX6_drawnSayings 77 = .ok (.istore 4, 2) := by decide +kernel
theorem dX6_drawnSayings_79 : decode cX6_drawnSayings 79 = .ok (.iinc 5 1, 3) := by decide +kernel
theorem dX6_drawnSayings_82 : decode cX6_drawnSayings 82 = .ok (.goto (-59), 3) := by decide +kernel
theorem dX6_drawnSayings_85 : decode cX6_drawnSayings 85 = .ok (.iload 4, 2) := by decide +kernel
theorem dX6_drawnSayings_87 : decode cX6_drawnSayings 87 = .ok (.ireturn, 1) := by decide +kernel
theorem dX6_thingsOf_0 : decode cX6_thingsOf 0 = .ok (.iconst 0, 1) := by decide +kernel
theorem dX6_thingsOf_1 : decode cX6_thingsOf 1 = .ok (.istore_n 2, 1) := by decide +kernel
theorem dX6_thingsOf_2 : decode cX6_thingsOf 2 = .ok (.iconst 0, 1) := by decide +kernel
theorem dX6_thingsOf_3 : decode cX6_thingsOf 3 = .ok (.istore_n 3, 1) := by decide +kernel
theorem dX6_thingsOf_4 : decode cX6_thingsOf 4 = .ok (.iload_n 3, 1) := by decide +kernel
theorem dX6_thingsOf_5 : decode cX6_thingsOf 5 = .ok (.aload_n 0, 1) := by decide +kernel
theorem dX6_thingsOf_6 : decode cX6_thingsOf 6 = .ok (.getfield 56, 3) := by decide +kernel
theorem dX6_thingsOf_9 : decode cX6_thingsOf 9 = .ok (.if_icmp .ge 28, 3) := by decide +kernel
theorem dX6_thingsOf_12 : decode cX6_thingsOf 12 = .ok (.iload_n 1, 1) := by decide +kernel
theorem dX6_thingsOf_13 : decode cX6_thingsOf 13 = .ok (.iload_n 3, 1) := by decide +kernel
theorem dX6_thingsOf_14 : decode cX6_thingsOf 14 = .ok (.ishr, 1) := by decide +kernel
theorem dX6_thingsOf_15 : decode cX6_thingsOf 15 = .ok (.iconst 1, 1) := by decide +kernel
theorem dX6_thingsOf_16 : decode cX6_thingsOf 16 = .ok (.iand, 1) := by decide +kernel
theorem dX6_thingsOf_17 : decode cX6_thingsOf 17 = .ok (.ifCond .eq 14, 3) := by decide +kernel
theorem dX6_thingsOf_20 : decode cX6_thingsOf 20 = .ok (.iload_n 2, 1) := by decide +kernel
theorem dX6_thingsOf_21 : decode cX6_thingsOf 21 = .ok (.iconst 1, 1) := by decide +kernel
theorem dX6_thingsOf_22 : decode cX6_thingsOf 22 = .ok (.aload_n 0, 1) := by decide +kernel
theorem dX6_thingsOf_23 : decode cX6_thingsOf 23 = .ok (.getfield 29, 3) := by decide +kernel
theorem dX6_thingsOf_26 : decode cX6_thingsOf 26 = .ok (.iload_n 3, 1) := by decide +kernel
theorem dX6_thingsOf_27 : decode cX6_thingsOf 27 = .ok (.iaload, 1) := by decide +kernel
theorem dX6_thingsOf_28 : decode cX6_thingsOf 28 = .ok (.ishl, 1) := by decide +kernel
theorem dX6_thingsOf_29 : decode cX6_thingsOf 29 = .ok (.ior, 1) := by decide +kernel
theorem dX6_thingsOf_30 : decode cX6_thingsOf 30 = .ok (.istore_n 2, 1) := by decide +kernel
theorem dX6_thingsOf_31 : decode cX6_thingsOf 31 = .ok (.iinc 3 1, 3) := by decide +kernel
theorem dX6_thingsOf_34 : decode cX6_thingsOf 34 = .ok (.goto (-30), 3) := by decide +kernel
theorem dX6_thingsOf_37 : decode cX6_thingsOf 37 = .ok (.iload_n 2, 1) := by decide +kernel
theorem dX6_thingsOf_38 : decode cX6_thingsOf 38 = .ok (.ireturn, 1) := by decide +kernel
theorem dX7_init_0 : decode cX7_init 0 = .ok (.aload_n 0, 1) := by decide +kernel
theorem dX7_init_1 : decode cX7_init 1 = .ok (.invokespecial 1, 3) := by decide +kernel
theorem dX7_init_4 : decode cX7_init 4 = .ok (.aload_n 0, 1) := by decide +kernel
theorem dX7_init_5 : decode cX7_init 5 = .ok (.iconst 4, 1) := by decide +kernel
theorem dX7_init_6 : decode cX7_init 6 = .ok (.bipush 40, 2) := by decide +kernel
theorem dX7_init_8 : decode cX7_init 8 = .ok (.multianewarray 9 2, 4) := by decide +kernel
theorem dX7_init_12 : decode cX7_init 12 = .ok (.putfield 11, 3) := by decide +kernel
theorem dX7_init_15 : decode cX7_init 15 = .ok (.aload_n 0, 1) := by decide +kernel
theorem dX7_init_16 : decode cX7_init 16 = .ok (.iconst 4, 1) := by decide +kernel
theorem dX7_init_17 : decode cX7_init 17 = .ok (.newarray .int, 2) := by decide +kernel
theorem dX7_init_19 : decode cX7_init 19 = .ok (.dup, 1) := by decide +kernel
theorem dX7_init_20 : decode cX7_init 20 = .ok (.iconst 0, 1) := by decide +kernel
theorem dX7_init_21 : decode cX7_init 21 = .ok (.iconst (-1), 1) := by decide +kernel
theorem dX7_init_22 : decode cX7_init 22 = .ok (.iastore, 1) := by decide +kernel
theorem dX7_init_23 : decode cX7_init 23 = .ok (.dup, 1) := by decide +kernel
theorem dX7_init_24 : decode cX7_init 24 = .ok (.iconst 1, 1) := by decide +kernel
theorem dX7_init_25 : decode cX7_init 25 = .ok (.iconst (-1), 1) := by decide +kernel
theorem dX7_init_26 : decode cX7_init 26 = .ok (.iastore, 1) := by decide +kernel
theorem dX7_init_27 : decode cX7_init 27 = .ok (.dup, 1) := by decide +kernel
theorem dX7_init_28 : decode cX7_init 28 = .ok (.iconst 2, 1) := by decide +kernel
theorem dX7_init_29 : decode cX7_init 29 = .ok (.iconst (-1), 1) := by decide +kernel
theorem dX7_init_30 : decode cX7_init 30 = .ok (.iastore, 1) := by decide +kernel
theorem dX7_init_31 : decode cX7_init 31 = .ok (.dup, 1) := by decide +kernel
theorem dX7_init_32 : decode cX7_init 32 = .ok (.iconst 3, 1) := by decide +kernel
theorem dX7_init_33 : decode cX7_init 33 = .ok (.iconst (-1), 1) := by decide +kernel
theorem dX7_init_34 : decode cX7_init 34 = .ok (.iastore, 1) := by decide +kernel
theorem dX7_init_35 : decode cX7_init 35 = .ok (.putfield 14, 3) := by decide +kernel
theorem dX7_init_38 : decode cX7_init 38 = .ok (.aload_n 0, 1) := by decide +kernel
theorem dX7_init_39 : decode cX7_init 39 = .ok (.iconst 4, 1) := by decide +kernel
theorem dX7_init_40 : decode cX7_init 40 = .ok (.newarray .int, 2) := by decide +kernel
theorem dX7_init_42 : decode cX7_init 42 = .ok (.putfield 18, 3) := by decide +kernel
theorem dX7_init_45 : decode cX7_init 45 = .ok (.return_, 1) := by decide +kernel
theorem dX7_renew_0 : decode cX7_renew 0 = .ok (.aload_n 0, 1) := by decide +kernel
theorem dX7_renew_1 : decode cX7_renew 1 = .ok (.getfield 11, 3) := by decide +kernel
theorem dX7_renew_4 : decode cX7_renew 4 = .ok (.iload_n 1, 1) := by decide +kernel
theorem dX7_renew_5 : decode cX7_renew 5 = .ok (.aaload, 1) := by decide +kernel
theorem dX7_renew_6 : decode cX7_renew 6 = .ok (.iconst 0, 1) := by decide +kernel
theorem dX7_renew_7 : decode cX7_renew 7 = .ok (.invokestatic 21, 3) := by decide +kernel
theorem dX7_renew_10 : decode cX7_renew 10 = .ok (.aload_n 0, 1) := by decide +kernel
theorem dX7_renew_11 : decode cX7_renew 11 = .ok (.getfield 14, 3) := by decide +kernel
theorem dX7_renew_14 : decode cX7_renew 14 = .ok (.iload_n 1, 1) := by decide +kernel
theorem dX7_renew_15 : decode cX7_renew 15 = .ok (.iload_n 2, 1) := by decide +kernel
theorem dX7_renew_16 : decode cX7_renew 16 = .ok (.iastore, 1) := by decide +kernel
theorem dX7_renew_17 : decode cX7_renew 17 = .ok (.aload_n 0, 1) := by decide +kernel
theorem dX7_renew_18 : decode cX7_renew 18 = .ok (.getfield 18, 3) := by decide +kernel
theorem dX7_renew_21 : decode cX7_renew 21 = .ok (.iload_n 1, 1) := by decide +kernel
theorem dX7_renew_22 : decode cX7_renew 22 = .ok (.iload_n 3, 1) := by decide +kernel
theorem dX7_renew_23 : decode cX7_renew 23 = .ok (.iastore, 1) := by decide +kernel
theorem dX7_renew_24 : decode cX7_renew 24 = .ok (.iconst 1, 1) := by decide +kernel
theorem dX7_renew_25 : decode cX7_renew 25 = .ok (.ireturn, 1) := by decide +kernel
theorem dX7_write_0 : decode cX7_write 0 = .ok (.aload_n 0, 1) := by decide +kernel
theorem dX7_write_1 : decode cX7_write 1 = .ok (.getfield 14, 3) := by decide +kernel
theorem dX7_write_4 : decode cX7_write 4 = .ok (.iload_n 1, 1) := by decide +kernel
theorem dX7_write_5 : decode cX7_write 5 = .ok (.iaload, 1) := by decide +kernel
theorem dX7_write_6 : decode cX7_write 6 = .ok (.ifCond .ne 16, 3) := by decide +kernel
theorem dX7_write_9 : decode cX7_write 9 = .ok (.aload_n 0, 1) := by decide +kernel
theorem dX7_write_10 : decode cX7_write 10 = .ok (.getfield 11, 3) := by decide +kernel
theorem dX7_write_13 : decode cX7_write 13 = .ok (.iload_n 1, 1) := by decide +kernel
theorem dX7_write_14 : decode cX7_write 14 = .ok (.aaload, 1) := by decide +kernel
theorem dX7_write_15 : decode cX7_write 15 = .ok (.iload_n 2, 1) := by decide +kernel
theorem dX7_write_16 : decode cX7_write 16 = .ok (.iload_n 3, 1) := by decide +kernel
theorem dX7_write_17 : decode cX7_write 17 = .ok (.i2b, 1) := by decide +kernel
theorem dX7_write_18 : decode cX7_write 18 = .ok (.iastore, 1) := by decide +kernel
theorem dX7_write_19 : decode cX7_write 19 = .ok (.goto 27, 3) := by decide +kernel
theorem dX7_write_22 : decode cX7_write 22 = .ok (.aload_n 0, 1) := by decide +kernel
theorem dX7_write_23 : decode cX7_write 23 = .ok (.getfield 11, 3) := by decide +kernel
theorem dX7_write_26 : decode cX7_write 26 = .ok (.iload_n 1, 1) := by decide +kernel
theorem dX7_write_27 : decode cX7_write 27 = .ok (.aaload, 1) := by decide +kernel
theorem dX7_write_28 : decode cX7_write 28 = .ok (.iload_n 2, 1) := by decide +kernel
theorem dX7_write_29 : decode cX7_write 29 = .ok (.aload_n 0, 1) := by decide +kernel
theorem dX7_write_30 : decode cX7_write 30 = .ok (.getfield 14, 3) := by decide +kernel
theorem dX7_write_33 : decode cX7_write 33 = .ok (.iload_n 1, 1) := by decide +kernel
theorem dX7_write_34 : decode cX7_write 34 = .ok (.iaload, 1) := by decide +kernel
theorem dX7_write_35 : decode cX7_write 35 = .ok (.iconst 1, 1) := by decide +kernel
theorem dX7_write_36 : decode cX7_write 36 = .ok (.if_icmp .ne 8, 3) := by decide +kernel
theorem dX7_write_39 : decode cX7_write 39 = .ok (.iload_n 3, 1) := by decide +kernel
theorem dX7_write_40 : decode cX7_write 40 = .ok (.i2s, 1) := by decide +kernel
theorem dX7_write_41 : decode cX7_write 41 = .ok (.goto 4, 3) := by decide +kernel
theorem dX7_write_44 : decode cX7_write 44 = .ok (.iload_n 3, 1) := by decide +kernel
theorem dX7_write_45 : decode cX7_write 45 = .ok (.iastore, 1) := by decide +kernel
theorem dX7_write_46 : decode cX7_write 46 = .ok (.iconst 1, 1) := by decide +kernel
theorem dX7_write_47 : decode cX7_write 47 = .ok (.ireturn, 1) := by decide +kernel
theorem dX7_holds_0 : decode cX7_holds 0 = .ok (.iload_n 3, 1) := by decide +kernel
theorem dX7_holds_1 : decode cX7_holds 1 = .ok (.ifCond .lt 23, 3) := by decide +kernel
theorem dX7_holds_4 : decode cX7_holds 4 = .ok (.iload_n 2, 1) := by decide +kernel
theorem dX7_holds_5 : decode cX7_holds 5 = .ok (.ifCond .lt 19, 3) := by decide +kernel
theorem dX7_holds_8 : decode cX7_holds 8 = .ok (.iload_n 2, 1) := by decide +kernel
theorem dX7_holds_9 : decode cX7_holds 9 = .ok (.aload_n 0, 1) := by decide +kernel
theorem dX7_holds_10 : decode cX7_holds 10 = .ok (.getfield 18, 3) := by decide +kernel
theorem dX7_holds_13 : decode cX7_holds 13 = .ok (.iload_n 1, 1) := by decide +kernel
theorem dX7_holds_14 : decode cX7_holds 14 = .ok (.iaload, 1) := by decide +kernel
theorem dX7_holds_15 : decode cX7_holds 15 = .ok (.iload_n 3, 1) := by decide +kernel
theorem dX7_holds_16 : decode cX7_holds 16 = .ok (.isub, 1) := by decide +kernel
theorem dX7_holds_17 : decode cX7_holds 17 = .ok (.if_icmp .gt 7, 3) := by decide +kernel
theorem dX7_holds_20 : decode cX7_holds 20 = .ok (.iconst 1, 1) := by decide +kernel
theorem dX7_holds_21 : decode cX7_holds 21 = .ok (.goto 4, 3) := by decide +kernel
theorem dX7_holds_24 : decode cX7_holds 24 = .ok (.iconst 0, 1) := by decide +kernel
theorem dX7_holds_25 : decode cX7_holds 25 = .ok (.ireturn, 1) := by decide +kernel
theorem dX8_init_0 : decode cX8_init 0 = .ok (.aload_n 0, 1) := by decide +kernel
theorem dX8_init_1 : decode cX8_init 1 = .ok (.invokespecial 3, 3) := by decide +kernel
theorem dX8_init_4 : decode cX8_init 4 = .ok (.aload_n 0, 1) := by decide +kernel
theorem dX8_init_5 : decode cX8_init 5 = .ok (.sipush 160, 3) := by decide +kernel
theorem dX8_init_8 : decode cX8_init 8 = .ok (.newarray .int, 2) := by decide +kernel
theorem dX8_init_10 : decode cX8_init 10 = .ok (.putfield 9, 3) := by decide +kernel
theorem dX8_init_13 : decode cX8_init 13 = .ok (.aload_n 0, 1) := by decide +kernel
theorem dX8_init_14 : decode cX8_init 14 = .ok (.sipush 161, 3) := by decide +kernel
theorem dX8_init_17 : decode cX8_init 17 = .ok (.newarray .int, 2) := by decide +kernel
theorem dX8_init_19 : decode cX8_init 19 = .ok (.putfield 13, 3) := by decide +kernel
theorem dX8_init_22 : decode cX8_init 22 = .ok (.aload_n 0, 1) := by decide +kernel
theorem dX8_init_23 : decode cX8_init 23 = .ok (.sipush 161, 3) := by decide +kernel
theorem dX8_init_26 : decode cX8_init 26 = .ok (.newarray .int, 2) := by decide +kernel
theorem dX8_init_28 : decode cX8_init 28 = .ok (.putfield 16, 3) := by decide +kernel
theorem dX8_init_31 : decode cX8_init 31 = .ok (.return_, 1) := by decide +kernel
theorem dX8_put_0 : decode cX8_put 0 = .ok (.aload_n 0, 1) := by decide +kernel
theorem dX8_put_1 : decode cX8_put 1 = .ok (.getfield 19, 3) := by decide +kernel
theorem dX8_put_4 : decode cX8_put 4 = .ok (.sipush 160, 3) := by decide +kernel
theorem dX8_put_7 : decode cX8_put 7 = .ok (.if_icmp .ge 23, 3) := by decide +kernel
theorem dX8_put_10 : decode cX8_put 10 = .ok (.aload_n 0, 1) := by decide +kernel
theorem dX8_put_11 : decode cX8_put 11 = .ok (.getfield 9, 3) := by decide +kernel
theorem dX8_put_14 : decode cX8_put 14 = .ok (.aload_n 0, 1) := by decide +kernel
theorem dX8_put_15 : decode cX8_put 15 = .ok (.getfield 19, 3) := by decide +kernel
theorem dX8_put_18 : decode cX8_put 18 = .ok (.iload_n 1, 1) := by decide +kernel
theorem dX8_put_19 : decode cX8_put 19 = .ok (.iastore, 1) := by decide +kernel
theorem dX8_put_20 : decode cX8_put 20 = .ok (.aload_n 0, 1) := by decide +kernel
theorem dX8_put_21 : decode cX8_put 21 = .ok (.dup, 1) := by decide +kernel
theorem dX8_put_22 : decode cX8_put 22 = .ok (.getfield 19, 3) := by decide +kernel
theorem dX8_put_25 : decode cX8_put 25 = .ok (.iconst 1, 1) := by decide +kernel
theorem dX8_put_26 : decode cX8_put 26 = .ok (.iadd, 1) := by decide +kernel
theorem dX8_put_27 : decode cX8_put 27 = .ok (.putfield 19, 3) := by decide +kernel
theorem dX8_put_30 : decode cX8_put 30 = .ok (.return_, 1) := by decide +kernel
theorem dX8_cutUp_0 : decode cX8_cutUp 0 = .ok (.aload_n 0, 1) := by decide +kernel
theorem dX8_cutUp_1 : decode cX8_cutUp 1 = .ok (.iconst 0, 1) := by decide +kernel
theorem dX8_cutUp_2 : decode cX8_cutUp 2 = .ok (.putfield 23, 3) := by decide +kernel
theorem dX8_cutUp_5 : decode cX8_cutUp 5 = .ok (.aload_n 0, 1) := by decide +kernel
theorem dX8_cutUp_6 : decode cX8_cutUp 6 = .ok (.iconst 0, 1) := by decide +kernel
theorem dX8_cutUp_7 : decode cX8_cutUp 7 = .ok (.putfield 26, 3) := by decide +kernel
theorem dX8_cutUp_10 : decode cX8_cutUp 10 = .ok (.iconst 1, 1) := by decide +kernel
theorem dX8_cutUp_11 : decode cX8_cutUp 11 = .ok (.istore_n 1, 1) := by decide +kernel
theorem dX8_cutUp_12 : decode cX8_cutUp 12 = .ok (.iload_n 1, 1) := by decide +kernel
theorem dX8_cutUp_13 : decode cX8_cutUp 13 = .ok (.ifCond .eq 140, 3) := by decide +kernel
theorem dX8_cutUp_16 : decode cX8_cutUp 16 = .ok (.aload_n 0, 1) := by decide +kernel
theorem dX8_cutUp_17 : decode cX8_cutUp 17 = .ok (.getfield 23, 3) := by decide +kernel
theorem dX8_cutUp_20 : decode cX8_cutUp 20 = .ok (.sipush 160, 3) := by decide +kernel
theorem dX8_cutUp_23 : decode cX8_cutUp 23 = .ok (.if_icmp .gt 130, 3) := by decide +kernel
theorem dX8_cutUp_26 : decode cX8_cutUp 26 = .ok (.aload_n 0, 1) := by decide +kernel
theorem dX8_cutUp_27 : decode cX8_cutUp 27 = .ok (.getfield 26, 3) := by decide +kernel
theorem dX8_cutUp_30 : decode cX8_cutUp 30 = .ok (.aload_n 0, 1) := by decide +kernel
theorem dX8_cutUp_31 : decode cX8_cutUp 31 = .ok (.getfield 19, 3) := by decide +kernel
theorem dX8_cutUp_34 : decode cX8_cutUp 34 = .ok (.if_icmp .ge 44, 3) := by decide +kernel
theorem dX8_cutUp_37 : decode cX8_cutUp 37 = .ok (.aload_n 0, 1) := by decide +kernel
theorem dX8_cutUp_38 : decode cX8_cutUp 38 = .ok (.getfield 9, 3) := by decide +kernel
theorem dX8_cutUp_41 : decode cX8_cutUp 41 = .ok (.aload_n 0, 1) := by decide +kernel
theorem dX8_cutUp_42 : decode cX8_cutUp 42 = .ok (.getfield 26, 3) := by decide +kernel
theorem dX8_cutUp_45 : decode cX8_cutUp 45 = .ok (.iaload, 1) := by decide +kernel
theorem dX8_cutUp_46 : decode cX8_cutUp 46 = .ok (.bipush 32, 2) := by decide +kernel
theorem dX8_cutUp_48 : decode cX8_cutUp 48 = .ok (.if_icmp .eq 17, 3) := by decide +kernel
theorem dX8_cutUp_51 : decode cX8_cutUp 51 = .ok (.aload_n 0, 1) := by decide +kernel
theorem dX8_cutUp_52 : decode cX8_cutUp 52 = .ok (.getfield 9, 3) := by decide +kernel
theorem dX8_cutUp_55 : decode cX8_cutUp 55 = .ok (.aload_n 0, 1) := by decide +kernel
theorem dX8_cutUp_56 : decode cX8_cutUp 56 = .ok (.getfield 26, 3) := by decide +kernel
theorem dX8_cutUp_59 : decode cX8_cutUp 59 = .ok (.iaload, 1) := by decide +kernel
theorem dX8_cutUp_60 : decode cX8_cutUp 60 = .ok (.bipush 10, 2) := by decide +kernel
theorem dX8_cutUp_62 : decode cX8_cutUp 62 = .ok (.if_icmp .ne 16, 3) := by decide +kernel
theorem dX8_cutUp_65 : decode cX8_cutUp 65 = .ok (.aload_n 0, 1) := by decide +kernel
theorem dX8_cutUp_66 : decode cX8_cutUp 66 = .ok (.dup, 1) := by decide +kernel
theorem dX8_cutUp_67 : decode cX8_cutUp 67 = .ok (.getfield 26, 3) := by decide +kernel
theorem dX8_cutUp_70 : decode cX8_cutUp 70 = .ok (.iconst 1, 1) := by decide +kernel
theorem dX8_cutUp_71 : decode cX8_cutUp 71 = .ok (.iadd, 1) := by decide +kernel
theorem dX8_cutUp_72 : decode cX8_cutUp 72 = .ok (.putfield 26, 3) := by decide +kernel
theorem dX8_cutUp_75 : decode cX8_cutUp 75 = .ok (.goto (-49), 3) := by decide +kernel
theorem dX8_cutUp_78 : decode cX8_cutUp 78 = .ok (.aload_n 0, 1) := by decide +kernel
theorem dX8_cutUp_79 : decode cX8_cutUp 79 = .ok (.getfield 16, 3) := by decide +kernel
theorem dX8_cutUp_82 : decode cX8_cutUp 82 = .ok (.aload_n 0, 1) := by decide +kernel
theorem dX8_cutUp_83 : decode cX8_cutUp 83 = .ok (.getfield 23, 3) := by decide +kernel
theorem dX8_cutUp_86 : decode cX8_cutUp 86 = .ok (.aload_n 0, 1) := by decide +kernel
theorem dX8_cutUp_87 : decode cX8_cutUp 87 = .ok (.getfield 26, 3) := by decide +kernel
theorem dX8_cutUp_90 : decode cX8_cutUp 90 = .ok (.iastore, 1) := by decide +kernel
theorem dX8_cutUp_91 : decode cX8_cutUp 91 = .ok (.aload_n 0, 1) := by decide +kernel
theorem dX8_cutUp_92 : decode cX8_cutUp 92 = .ok (.getfield 26, 3) := by decide +kernel
theorem dX8_cutUp_95 : decode cX8_cutUp 95 = .ok (.aload_n 0, 1) := by decide +kernel
theorem dX8_cutUp_96 : decode cX8_cutUp 96 = .ok (.getfield 19, 3) := by decide +kernel
theorem dX8_cutUp_99 : decode cX8_cutUp 99 = .ok (.if_icmp .ge 14, 3) := by decide +kernel
theorem dX8_cutUp_102 : decode cX8_cutUp 102 = .ok (.aload_n 0, 1) := by decide +kernel
theorem dX8_cutUp_103 : decode cX8_cutUp 103 = .ok (.aload_n 0, 1) := by decide +kernel
theorem dX8_cutUp_104 : decode cX8_cutUp 104 = .ok (.getfield 26, 3) := by decide +kernel
theorem dX8_cutUp_107 : decode cX8_cutUp 107 = .ok (.invokevirtual 29, 3) := by decide +kernel
theorem dX8_cutUp_110 : decode cX8_cutUp 110 = .ok (.goto 4, 3) := by decide +kernel
theorem dX8_cutUp_113 : decode cX8_cutUp 113 = .ok (.iconst 0, 1) := by decide +kernel
theorem dX8_cutUp_114 : decode cX8_cutUp 114 = .ok (.istore_n 2, 1) := by decide +kernel
theorem dX8_cutUp_115 : decode cX8_cutUp 115 = .ok (.aload_n 0, 1) := by decide +kernel
theorem dX8_cutUp_116 : decode cX8_cutUp 116 = .ok (.getfield 13, 3) := by decide +kernel
theorem dX8_cutUp_119 : decode cX8_cutUp 119 = .ok (.aload_n 0, 1) := by decide +kernel
theorem dX8_cutUp_120 : decode cX8_cutUp 120 = .ok (.getfield 23, 3) := by decide +kernel
theorem dX8_cutUp_123 : decode cX8_cutUp 123 = .ok (.iload_n 2, 1) := by decide +kernel
theorem dX8_cutUp_124 : decode cX8_cutUp 124 = .ok (.iastore, 1) := by decide +kernel
theorem dX8_cutUp_125 : decode cX8_cutUp 125 = .ok (.aload_n 0, 1) := by decide +kernel
theorem dX8_cutUp_126 : decode cX8_cutUp 126 = .ok (.dup, 1) := by decide +kernel
theorem dX8_cutUp_127 : decode cX8_cutUp 127 = .ok (.getfield 23, 3) := by decide +kernel
theorem dX8_cutUp_130 : decode cX8_cutUp 130 = .ok (.iconst 1, 1) := by decide +kernel
theorem dX8_cutUp_131 : decode cX8_cutUp 131 = .ok (.iadd, 1) := by decide +kernel
theorem dX8_cutUp_132 : decode cX8_cutUp 132 = .ok (.putfield 23, 3) := by decide +kernel
theorem dX8_cutUp_135 : decode cX8_cutUp 135 = .ok (.iload_n 2, 1) := by decide +kernel
theorem dX8_cutUp_136 : decode cX8_cutUp 136 = .ok (.ifCond .eq 12, 3) := by decide +kernel
theorem dX8_cutUp_139 : decode cX8_cutUp 139 = .ok (.iload_n 2, 1) := by decide +kernel
theorem dX8_cutUp_140 : decode cX8_cutUp 140 = .ok (.iconst 1, 1) := by decide +kernel
theorem dX8_cutUp_141 : decode cX8_cutUp 141 = .ok (.if_icmp .eq 7, 3) := by decide +kernel
theorem dX8_cutUp_144 : decode cX8_cutUp 144 = .ok (.iconst 1, 1) := by decide +kernel
theorem dX8_cutUp_145 : decode cX8_cutUp 145 = .ok (.goto 4, 3) := by decide +kernel
theorem dX8_cutUp_148 : decode cX8_cutUp 148 = .ok (.iconst 0, 1) := by decide +kernel
theorem dX8_cutUp_149 : decode cX8_cutUp 149 = .ok (.istore_n 1, 1) := by decide +kernel
theorem dX8_cutUp_150 : decode cX8_cutUp 150 = .ok (.goto (-138), 3) := by decide +kernel
theorem dX8_cutUp_153 : decode cX8_cutUp 153 = .ok (.return_, 1) := by decide +kernel
theorem dX8_tokenAt_0 : decode cX8_tokenAt 0 = .ok (.aload_n 0, 1) := by decide +kernel
theorem dX8_tokenAt_1 : decode cX8_tokenAt 1 = .ok (.getfield 9, 3) := by decide +kernel
theorem dX8_tokenAt_4 : decode cX8_tokenAt 4 = .ok (.iload_n 1, 1) := by decide +kernel
theorem dX8_tokenAt_5 : decode cX8_tokenAt 5 = .ok (.iaload, 1) := by decide +kernel
theorem dX8_tokenAt_6 : decode cX8_tokenAt 6 = .ok (.invokestatic 33, 3) := by decide +kernel
theorem dX8_tokenAt_9 : decode cX8_tokenAt 9 = .ok (.ifCond .eq 48, 3) := by decide +kernel
theorem dX8_tokenAt_12 : decode cX8_tokenAt 12 = .ok (.aload_n 0, 1) := by decide +kernel
theorem dX8_tokenAt_13 : decode cX8_tokenAt 13 = .ok (.getfield 26, 3) := by decide +kernel
theorem dX8_tokenAt_16 : decode cX8_tokenAt 16 = .ok (.aload_n 0, 1) := by decide +kernel
theorem dX8_tokenAt_17 : decode cX8_tokenAt 17 = .ok (.getfield 19, 3) := by decide +kernel
theorem dX8_tokenAt_20 : decode cX8_tokenAt 20 = .ok (.if_icmp .ge 31, 3) := by decide +kernel
theorem dX8_tokenAt_23 : decode cX8_tokenAt 23 = .ok (.aload_n 0, 1) := by decide +kernel
theorem dX8_tokenAt_24 : decode cX8_tokenAt 24 = .ok (.getfield 9, 3) := by decide +kernel
theorem dX8_tokenAt_27 : decode cX8_tokenAt 27 = .ok (.aload_n 0, 1) := by decide +kernel
theorem dX8_tokenAt_28 : decode cX8_tokenAt 28 = .ok (.getfield 26, 3) := by decide +kernel
theorem dX8_tokenAt_31 : decode cX8_tokenAt 31 = .ok (.iaload, 1) := by decide +kernel
theorem dX8_tokenAt_32 : decode cX8_tokenAt 32 = .ok (.invokestatic 33, 3) := by decide +kernel
theorem dX8_tokenAt_35 : decode cX8_tokenAt 35 = .ok (.ifCond .eq 16, 3) := by decide +kernel
theorem dX8_tokenAt_38 : decode cX8_tokenAt 38 = .ok (.aload_n 0, 1) := by decide +kernel
theorem dX8_tokenAt_39 : decode cX8_tokenAt 39 = .ok (.dup, 1) := by decide +kernel
theorem dX8_tokenAt_40 : decode cX8_tokenAt 40 = .ok (.getfield 26, 3) := by decide +kernel
theorem dX8_tokenAt_43 : decode cX8_tokenAt 43 = .ok (.iconst 1, 1) := by decide +kernel
theorem dX8_tokenAt_44 : decode cX8_tokenAt 44 = .ok (.iadd, 1) := by decide +kernel
theorem dX8_tokenAt_45 : decode cX8_tokenAt 45 = .ok (.putfield 26, 3) := by decide +kernel
theorem dX8_tokenAt_48 : decode cX8_tokenAt 48 = .ok (.goto (-36), 3) := by decide +kernel
theorem dX8_tokenAt_51 : decode cX8_tokenAt 51 = .ok (.aload_n 0, 1) := by decide +kernel
theorem dX8_tokenAt_52 : decode cX8_tokenAt 52 = .ok (.iload_n 1, 1) := by decide +kernel
theorem dX8_tokenAt_53 : decode cX8_tokenAt 53 = .ok (.invokevirtual 37, 3) := by decide +kernel
theorem dX8_tokenAt_56 : decode cX8_tokenAt 56 = .ok (.ireturn, 1) := by decide +kernel
theorem dX8_tokenAt_57 : decode cX8_tokenAt 57 = .ok (.aload_n 0, 1) := by decide +kernel
theorem dX8_tokenAt_58 : decode cX8_tokenAt 58 = .ok (.getfield 9, 3) := by decide +kernel
theorem dX8_tokenAt_61 : decode cX8_tokenAt 61 = .ok (.iload_n 1, 1) := by decide +kernel
theorem dX8_tokenAt_62 : decode cX8_tokenAt 62 = .ok (.iaload, 1) := by decide +kernel
theorem dX8_tokenAt_63 : decode cX8_tokenAt 63 = .ok (.invokestatic 40, 3) := by decide +kernel
theorem dX8_tokenAt_66 : decode cX8_tokenAt 66 = .ok (.ifCond .eq 48, 3) := by decide +kernel
theorem dX8_tokenAt_69 : decode cX8_tokenAt 69 = .ok (.aload_n 0, 1) := by decide +kernel
theorem dX8_tokenAt_70 : decode cX8_tokenAt 70 = .ok (.getfield 26, 3) := by decide +kernel
theorem dX8_tokenAt_73 : decode cX8_tokenAt 73 = .ok (.aload_n 0, 1) := by decide +kernel
theorem dX8_tokenAt_74 : decode cX8_tokenAt 74 = .ok (.getfield 19, 3) := by decide +kernel
theorem dX8_tokenAt_77 : decode cX8_tokenAt 77 = .ok (.if_icmp .ge 31, 3) := by decide +kernel
theorem dX8_tokenAt_80 : decode cX8_tokenAt 80 = .ok (.aload_n 0, 1) := by decide +kernel
theorem dX8_tokenAt_81 : decode cX8_tokenAt 81 = .ok (.getfield 9, 3) := by decide +kernel
theorem dX8_tokenAt_84 : decode cX8_tokenAt 84 = .ok (.aload_n 0, 1) := by decide +kernel
theorem dX8_tokenAt_85 : decode cX8_tokenAt 85 = .ok (.getfield 26, 3) := by decide +kernel
theorem dX8_tokenAt_88 : decode cX8_tokenAt 88 = .ok (.iaload, 1) := by decide +kernel
theorem dX8_tokenAt_89 : decode cX8_tokenAt 89 = .ok (.invokestatic 40, 3) := by decide +kernel
theorem dX8_tokenAt_92 : decode cX8_tokenAt 92 = .ok (.ifCond .eq 16, 3) := by decide +kernel
theorem dX8_tokenAt_95 : decode cX8_tokenAt 95 = .ok (.aload_n 0, 1) := by decide +kernel
theorem dX8_tokenAt_96 : decode cX8_tokenAt 96 = .ok (.dup, 1) := by decide +kernel
theorem dX8_tokenAt_97 : decode cX8_tokenAt 97 = .ok (.getfield 26, 3) := by decide +kernel
theorem dX8_tokenAt_100 : decode cX8_tokenAt 100 = .ok (.iconst 1, 1) := by decide +kernel
theorem dX8_tokenAt_101 : decode cX8_tokenAt 101 = .ok (.iadd, 1) := by decide +kernel
theorem dX8_tokenAt_102 : decode cX8_tokenAt 102 = .ok (.putfield 26, 3) := by decide +kernel
theorem dX8_tokenAt_105 : decode cX8_tokenAt 105 = .ok (.goto (-36), 3) := by decide +kernel
theorem dX8_tokenAt_108 : decode cX8_tokenAt 108 = .ok (.aload_n 0, 1) := by decide +kernel
theorem dX8_tokenAt_109 : decode cX8_tokenAt 109 = .ok (.iload_n 1, 1) := by decide +kernel
theorem dX8_tokenAt_110 : decode cX8_tokenAt 110 = .ok (.invokevirtual 43, 3) := by decide +kernel
theorem dX8_tokenAt_113 : decode cX8_tokenAt 113 = .ok (.ireturn, 1) := by decide +kernel
theorem dX8_tokenAt_114 : decode cX8_tokenAt 114 = .ok (.aload_n 0, 1) := by decide +kernel
theorem dX8_tokenAt_115 : decode cX8_tokenAt 115 = .ok (.dup, 1) := by decide +kernel
theorem dX8_tokenAt_116 : decode cX8_tokenAt 116 = .ok (.getfield 26, 3) := by decide +kernel
theorem dX8_tokenAt_119 : decode cX8_tokenAt 119 = .ok (.iconst 1, 1) := by decide +kernel
theorem dX8_tokenAt_120 : decode cX8_tokenAt 120 = .ok (.iadd, 1) := by decide +kernel
theorem dX8_tokenAt_121 : decode cX8_tokenAt 121 = .ok (.putfield 26, 3) := by decide +kernel
theorem dX8_tokenAt_124 : decode cX8_tokenAt 124 = .ok (.ldc 46, 2) := by decide +kernel
theorem dX8_tokenAt_126 : decode cX8_tokenAt 126 = .ok (.aload_n 0, 1) := by decide +kernel
theorem dX8_tokenAt_127 : decode cX8_tokenAt 127 = .ok (.getfield 9, 3) := by decide +kernel
theorem dX8_tokenAt_130 : decode cX8_tokenAt 130 = .ok (.iload_n 1, 1) := by decide +kernel
theorem dX8_tokenAt_131 : decode cX8_tokenAt 131 = .ok (.iaload, 1) := by decide +kernel
theorem dX8_tokenAt_132 : decode cX8_tokenAt 132 = .ok (.i2c, 1) := by decide +kernel
theorem dX8_tokenAt_133 : decode cX8_tokenAt 133 = .ok (.invokevirtual 48, 3) := by decide +kernel
theorem dX8_tokenAt_136 : decode cX8_tokenAt 136 = .ok (.ifCond .lt 12, 3) := by decide +kernel
theorem dX8_tokenAt_139 : decode cX8_tokenAt 139 = .ok (.aload_n 0, 1) := by decide +kernel
theorem dX8_tokenAt_140 : decode cX8_tokenAt 140 = .ok (.getfield 9, 3) := by decide +kernel
theorem dX8_tokenAt_143 : decode cX8_tokenAt 143 = .ok (.iload_n 1, 1) := by decide +kernel
theorem dX8_tokenAt_144 : decode cX8_tokenAt 144 = .ok (.iaload, 1) := by decide +kernel
theorem dX8_tokenAt_145 : decode cX8_tokenAt 145 = .ok (.goto 4, 3) := by decide +kernel
theorem dX8_tokenAt_148 : decode cX8_tokenAt 148 = .ok (.iconst 1, 1) := by decide +kernel
theorem dX8_tokenAt_149 : decode cX8_tokenAt 149 = .ok (.ireturn, 1) := by decide +kernel
theorem dX8_wordFrom_0 : decode cX8_wordFrom 0 = .ok (.aload_n 0, 1) := by decide +kernel
theorem dX8_wordFrom_1 : decode cX8_wordFrom 1 = .ok (.ldc 53, 2) := by decide +kernel
theorem dX8_wordFrom_3 : decode cX8_wordFrom 3 = .ok (.iload_n 1, 1) := by decide +kernel
theorem dX8_wordFrom_4 : decode cX8_wordFrom 4 = .ok (.invokevirtual 55, 3) := by decide +kernel
theorem dX8_wordFrom_7 : decode cX8_wordFrom 7 = .ok (.istore_n 2, 1) := by decide +kernel
theorem dX8_wordFrom_8 : decode cX8_wordFrom 8 = .ok (.iload_n 2, 1) := by decide +kernel
theorem dX8_wordFrom_9 : decode cX8_wordFrom 9 = .ok (.ifCond .lt 9, 3) := by decide +kernel
theorem dX8_wordFrom_12 : decode cX8_wordFrom 12 = .ok (.sipush 200, 3) := by decide +kernel
theorem dX8_wordFrom_15 : decode cX8_wordFrom 15 = .ok (.iload_n 2, 1) := by decide +kernel
theorem dX8_wordFrom_16 : decode cX8_wordFrom 16 = .ok (.iadd, 1) := by decide +kernel
theorem dX8_wordFrom_17 : decode cX8_wordFrom 17 = .ok (.ireturn, 1) := by decide +kernel
theorem dX8_wordFrom_18 : decode cX8_wordFrom 18 = .ok (.aload_n 0, 1) := by decide +kernel
theorem dX8_wordFrom_19 : decode cX8_wordFrom 19 = .ok (.ldc 59, 2) := by decide +kernel
theorem dX8_wordFrom_21 : decode cX8_wordFrom 21 = .ok (.iload_n 1, 1) := by decide +kernel
theorem dX8_wordFrom_22 : decode cX8_wordFrom 22 = .ok (.invokevirtual 55, 3) := by decide +kernel
theorem dX8_wordFrom_25 : decode cX8_wordFrom 25 = .ok (.istore_n 3, 1) := by decide +kernel
theorem dX8_wordFrom_26 : decode cX8_wordFrom 26 = .ok (.iload_n 3, 1) := by decide +kernel
theorem dX8_wordFrom_27 : decode cX8_wordFrom 27 = .ok (.ifCond .lt 11, 3) := by decide +kernel
theorem dX8_wordFrom_30 : decode cX8_wordFrom 30 = .ok (.sipush 300, 3) := by decide +kernel
theorem dX8_wordFrom_33 : decode cX8_wordFrom 33 = .ok (.iload_n 3, 1) := by decide +kernel
theorem dX8_wordFrom_34 : decode cX8_wordFrom 34 = .ok (.iadd, 1) := by decide +kernel
theorem dX8_wordFrom_35 : decode cX8_wordFrom 35 = .ok (.goto 4, 3) := by decide +kernel
theorem dX8_wordFrom_38 : decode cX8_wordFrom 38 = .ok (.iconst 1, 1) := by decide +kernel
theorem dX8_wordFrom_39 : decode cX8_wordFrom 39 = .ok (.ireturn, 1) := by decide +kernel
theorem dX8_numberFrom_0 : decode cX8_numberFrom 0 = .ok (.aload_n 0, 1) := by decide +kernel
theorem dX8_numberFrom_1 : decode cX8_numberFrom 1 = .ok (.getfield 26, 3) := by decide +kernel
theorem dX8_numberFrom_4 : decode cX8_numberFrom 4 = .ok (.iload_n 1, 1) := by decide +kernel
theorem dX8_numberFrom_5 : decode cX8_numberFrom 5 = .ok (.isub, 1) := by decide +kernel
theorem dX8_numberFrom_6 : decode cX8_numberFrom 6 = .ok (.iconst 4, 1) := by decide +kernel
theorem dX8_numberFrom_7 : decode cX8_numberFrom 7 = .ok (.if_icmp .le 5, 3) := by decide +kernel
theorem dX8_numberFrom_10 : decode cX8_numberFrom 10 = .ok (.iconst 1, 1) := by decide +kernel
theorem dX8_numberFrom_11 : decode cX8_numberFrom 11 = .ok (.ireturn, 1) := by decide +kernel
theorem dX8_numberFrom_12 : decode cX8_numberFrom 12 = .ok (.iconst 0, 1) := by decide +kernel
theorem dX8_numberFrom_13 : decode cX8_numberFrom 13 = .ok (.istore_n 2, 1) := by decide +kernel
theorem dX8_numberFrom_14 : decode cX8_numberFrom 14 = .ok (.iload_n 1, 1) := by decide +kernel
theorem dX8_numberFrom_15 : decode cX8_numberFrom 15 = .ok (.istore_n 3, 1) := by decide +kernel
theorem dX8_numberFrom_16 : decode cX8_numberFrom 16 = .ok (.iload_n 3, 1) := by decide +kernel
theorem dX8_numberFrom_17 : decode cX8_numberFrom 17 = .ok (.aload_n 0, 1) := by decide +kernel
theorem dX8_numberFrom_18 : decode cX8_numberFrom 18 = .ok (.getfield 26, 3) := by decide +kernel
theorem dX8_numberFrom_21 : decode cX8_numberFrom 21 = .ok (.if_icmp .ge 24, 3) := by decide +kernel
theorem dX8_numberFrom_24 : decode cX8_numberFrom 24 = .ok (.bipush 10, 2) := by decide +kernel
theorem dX8_numberFrom_26 : decode cX8_numberFrom 26 = .ok (.iload_n 2, 1) := by decide +kernel
theorem dX8_numberFrom_27 : decode cX8_numberFrom 27 = .ok (.imul, 1) := by decide +kernel
theorem dX8_numberFrom_28 : decode cX8_numberFrom 28 = .ok (.aload_n 0, 1) := by decide +kernel
theorem dX8_numberFrom_29 : decode cX8_numberFrom 29 = .ok (.getfield 9, 3) := by decide +kernel
theorem dX8_numberFrom_32 : decode cX8_numberFrom 32 = .ok (.iload_n 3, 1) := by decide +kernel
theorem dX8_numberFrom_33 : decode cX8_numberFrom 33 = .ok (.iaload, 1) := by decide +kernel
theorem dX8_numberFrom_34 : decode cX8_numberFrom 34 = .ok (.iadd, 1) := by decide +kernel
theorem dX8_numberFrom_35 : decode cX8_numberFrom 35 = .ok (.bipush 48, 2) := by decide +kernel
theorem dX8_numberFrom_37 : decode cX8_numberFrom 37 = .ok (.isub, 1) := by decide +kernel
theorem dX8_numberFrom_38 : decode cX8_numberFrom 38 = .ok (.istore_n 2, 1) := by decide +kernel
theorem dX8_numberFrom_39 : decode cX8_numberFrom 39 = .ok (.iinc 3 1, 3) := by decide +kernel
theorem dX8_numberFrom_42 : decode cX8_numberFrom 42 = .ok (.goto (-26), 3) := by decide +kernel
theorem dX8_numberFrom_45 : decode cX8_numberFrom 45 = .ok (.sipush 1000, 3) := by decide +kernel
theorem dX8_numberFrom_48 : decode cX8_numberFrom 48 = .ok (.iload_n 2, 1) := by decide +kernel
theorem dX8_numberFrom_49 : decode cX8_numberFrom 49 = .ok (.iadd, 1) := by decide +kernel
theorem dX8_numberFrom_50 : decode cX8_numberFrom 50 = .ok (.ireturn, 1) := by decide +kernel
theorem dX8_numberIn_0 : decode cX8_numberIn 0 = .ok (.iconst 0, 1) := by decide +kernel
theorem dX8_numberIn_1 : decode cX8_numberIn 1 = .ok (.istore_n 3, 1) := by decide +kernel
theorem dX8_numberIn_2 : decode cX8_numberIn 2 = .ok (.iconst 0, 1) := by decide +kernel
theorem dX8_numberIn_3 : decode cX8_numberIn 3 = .ok (.istore 4, 2) := by decide +kernel
theorem dX8_numberIn_5 : decode cX8_numberIn 5 = .ok (.iconst 0, 1) := by decide +kernel
theorem dX8_numberIn_6 : decode cX8_numberIn 6 = .ok (.istore 5, 2) := by decide +kernel
theorem dX8_numberIn_8 : decode cX8_numberIn 8 = .ok (.iload 5, 2) := by decide +kernel
theorem dX8_numberIn_10 : decode cX8_numberIn 10 = .ok (.aload_n 1, 1) := by decide +kernel
theorem dX8_numberIn_11 : decode cX8_numberIn 11 = .ok (.invokevirtual 61, 3) := by decide +kernel
theorem dX8_numberIn_14 : decode cX8_numberIn 14 = .ok (.if_icmp .ge 56, 3) := by decide +kernel
theorem dX8_numberIn_17 : decode cX8_numberIn 17 = .ok (.aload_n 1, 1) := by decide +kernel
theorem dX8_numberIn_18 : decode cX8_numberIn 18 = .ok (.iload 5, 2) := by decide +kernel
theorem dX8_numberIn_20 : decode cX8_numberIn 20 = .ok (.invokevirtual 65, 3) := by decide +kernel
theorem dX8_numberIn_23 : decode cX8_numberIn 23 = .ok (.bipush 32, 2) := by decide +kernel
theorem dX8_numberIn_25 : decode cX8_numberIn 25 = .ok (.if_icmp .ne 39, 3) := by decide +kernel
theorem dX8_numberIn_28 : decode cX8_numberIn 28 = .ok (.iload 5, 2) := by decide +kernel
theorem dX8_numberIn_30 : decode cX8_numberIn 30 = .ok (.iload 4, 2) := by decide +kernel
theorem dX8_numberIn_32 : decode cX8_numberIn 32 = .ok (.isub, 1) := by decide +kernel
theorem dX8_numberIn_33 : decode cX8_numberIn 33 = .ok (.aload_n 0, 1) := by decide +kernel
theorem dX8_numberIn_34 : decode cX8_numberIn 34 = .ok (.getfield 26, 3) := by decide +kernel
theorem dX8_numberIn_37 : decode cX8_numberIn 37 = .ok (.iload_n 2, 1) := by decide +kernel
theorem dX8_numberIn_38 : decode cX8_numberIn 38 = .ok (.isub, 1) := by decide +kernel
theorem dX8_numberIn_39 : decode cX8_numberIn 39 = .ok (.if_icmp .ne 16, 3) := by decide +kernel
theorem dX8_numberIn_42 : decode cX8_numberIn 42 = .ok (.aload_n 0, 1) := by decide +kernel
theorem dX8_numberIn_43 : decode cX8_numberIn 43 = .ok (.aload_n 1, 1) := by decide +kernel
theorem dX8_numberIn_44 : decode cX8_numberIn 44 = .ok (.iload 4, 2) := by decide +kernel
theorem dX8_numberIn_46 : decode cX8_numberIn 46 = .ok (.iload_n 2, 1) := by decide +kernel
theorem dX8_numberIn_47 : decode cX8_numberIn 47 = .ok (.invokevirtual 69, 3) := by decide +kernel
theorem dX8_numberIn_50 : decode cX8_numberIn 50 = .ok (.ifCond .eq 5, 3) := by decide +kernel
theorem dX8_numberIn_53 : decode cX8_numberIn 53 = .ok (.iload_n 3, 1) := by decide +kernel
theorem dX8_numberIn_54 : decode cX8_numberIn 54 = .ok (.ireturn, 1) := by decide +kernel
theorem dX8_numberIn_55 : decode cX8_numberIn 55 = .ok (.iinc 3 1, 3) := by decide +kernel
theorem dX8_numberIn_58 : decode cX8_numberIn 58 = .ok (.iload 5, 2) := by decide +kernel
theorem dX8_numberIn_60 : decode cX8_numberIn 60 = .ok (.iconst 1, 1) := by decide +kernel
theorem dX8_numberIn_61 : decode cX8_numberIn 61 = .ok (.iadd, 1) := by decide +kernel
theorem dX8_numberIn_62 : decode cX8_numberIn 62 = .ok (.istore 4, 2) := by decide +kernel
theorem dX8_numberIn_64 : decode cX8_numberIn 64 = .ok (.iinc 5 1, 3) := by decide +kernel
theorem dX8_numberIn_67 : decode cX8_numberIn 67 = .ok (.goto (-59), 3) := by decide +kernel
theorem dX8_numberIn_70 : decode cX8_numberIn 70 = .ok (.iconst (-1), 1) := by decide +kernel
theorem dX8_numberIn_71 : decode cX8_numberIn 71 = .ok (.ireturn, 1) := by decide +kernel
theorem dX8_isSpelt_0 : decode cX8_isSpelt 0 = .ok (.iload_n 3, 1) := by decide +kernel
theorem dX8_isSpelt_1 : decode cX8_isSpelt 1 = .ok (.istore 4, 2) := by decide +kernel
theorem dX8_isSpelt_3 : decode cX8_isSpelt 3 = .ok (.iload 4, 2) := by decide +kernel
theorem dX8_isSpelt_5 : decode cX8_isSpelt 5 = .ok (.aload_n 0, 1) := by decide +kernel
theorem dX8_isSpelt_6 : decode cX8_isSpelt 6 = .ok (.getfield 26, 3) := by decide +kernel
theorem dX8_isSpelt_9 : decode cX8_isSpelt 9 = .ok (.if_icmp .ge 31, 3) := by decide +kernel
theorem dX8_isSpelt_12 : decode cX8_isSpelt 12 = .ok (.aload_n 0, 1) := by decide +kernel
theorem dX8_isSpelt_13 : decode cX8_isSpelt 13 = .ok (.getfield 9, 3) := by decide +kernel
theorem dX8_isSpelt_16 : decode cX8_isSpelt 16 = .ok (.iload 4, 2) := by decide +kernel
theorem dX8_isSpelt_18 : decode cX8_isSpelt 18 = .ok (.iaload, 1) := by decide +kernel
theorem dX8_isSpelt_19 : decode cX8_isSpelt 19 = .ok (.aload_n 1, 1) := by decide +kernel
theorem dX8_isSpelt_20 : decode cX8_isSpelt 20 = .ok (.iload_n 2, 1) := by decide +kernel
theorem dX8_isSpelt_21 : decode cX8_isSpelt 21 = .ok (.iload 4, 2) := by decide +kernel
theorem dX8_isSpelt_23 : decode cX8_isSpelt 23 = .ok (.iadd, 1) := by decide +kernel
theorem dX8_isSpelt_24 : decode cX8_isSpelt 24 = .ok (.iload_n 3, 1) := by decide +kernel
theorem dX8_isSpelt_25 : decode cX8_isSpelt 25 = .ok (.isub, 1) := by decide +kernel
theorem dX8_isSpelt_26 : decode cX8_isSpelt 26 = .ok (.invokevirtual 65, 3) := by decide +kernel
theorem dX8_isSpelt_29 : decode cX8_isSpelt 29 = .ok (.if_icmp .eq 5, 3) := by decide +kernel
theorem dX8_isSpelt_32 : decode cX8_isSpelt 32 = .ok (.iconst 0, 1) := by decide +kernel
theorem dX8_isSpelt_33 : decode cX8_isSpelt 33 = .ok (.ireturn, 1) := by decide +kernel
theorem dX8_isSpelt_34 : decode cX8_isSpelt 34 = .ok (.iinc 4 1, 3) := by decide +kernel
theorem dX8_isSpelt_37 : decode cX8_isSpelt 37 = .ok (.goto (-34), 3) := by decide +kernel
theorem dX8_isSpelt_40 : decode cX8_isSpelt 40 = .ok (.iconst 1, 1) := by decide +kernel
theorem dX8_isSpelt_41 : decode cX8_isSpelt 41 = .ok (.ireturn, 1) := by decide +kernel
theorem dX8_isLetter_0 : decode cX8_isLetter 0 = .ok (.iload_n 0, 1) := by decide +kernel
theorem dX8_isLetter_1 : decode cX8_isLetter 1 = .ok (.bipush 97, 2) := by decide +kernel
theorem dX8_isLetter_3 : decode cX8_isLetter 3 = .ok (.bipush 122, 2) := by decide +kernel
theorem dX8_isLetter_5 : decode cX8_isLetter 5 = .ok (.invokestatic 73, 3) := by decide +kernel
theorem dX8_isLetter_8 : decode cX8_isLetter 8 = .ok (.ireturn, 1) := by decide +kernel
theorem dX8_isDigit_0 : decode cX8_isDigit 0 = .ok (.iload_n 0, 1) := by decide +kernel
theorem dX8_isDigit_1 : decode cX8_isDigit 1 = .ok (.bipush 48, 2) := by decide +kernel
theorem dX8_isDigit_3 : decode cX8_isDigit 3 = .ok (.bipush 57, 2) := by decide +kernel
theorem dX8_isDigit_5 : decode cX8_isDigit 5 = .ok (.invokestatic 73, 3) := by decide +kernel
theorem dX8_isDigit_8 : decode cX8_isDigit 8 = .ok (.ireturn, 1) := by decide +kernel
theorem dX9_init_0 : decode cX9_init 0 = .ok (.aload_n 0, 1) := by decide +kernel
theorem dX9_init_1 : decode cX9_init 1 = .ok (.invokespecial 1, 3) := by decide +kernel
theorem dX9_init_4 : decode cX9_init 4 = .ok (.aload_n 0, 1) := by decide +kernel
theorem dX9_init_5 : decode cX9_init 5 = .ok (.bipush 6, 2) := by decide +kernel
theorem dX9_init_7 : decode cX9_init 7 = .ok (.newarray .int, 2) := by decide +kernel
theorem dX9_init_9 : decode cX9_init 9 = .ok (.putfield 9, 3) := by decide +kernel
theorem dX9_init_12 : decode cX9_init 12 = .ok (.aload_n 0, 1) := by decide +kernel
theorem dX9_init_13 : decode cX9_init 13 = .ok (.bipush 6, 2) := by decide +kernel
theorem dX9_init_15 : decode cX9_init 15 = .ok (.bipush 6, 2) := by decide +kernel
theorem dX9_init_17 : decode cX9_init 17 = .ok (.multianewarray 13 2, 4) := by decide +kernel
theorem dX9_init_21 : decode cX9_init 21 = .ok (.putfield 15, 3) := by decide +kernel
theorem dX9_init_24 : decode cX9_init 24 = .ok (.aload_n 0, 1) := by decide +kernel
theorem dX9_init_25 : decode cX9_init 25 = .ok (.bipush 6, 2) := by decide +kernel
theorem dX9_init_27 : decode cX9_init 27 = .ok (.newarray .int, 2) := by decide +kernel
theorem dX9_init_29 : decode cX9_init 29 = .ok (.putfield 18, 3) := by decide +kernel
theorem dX9_init_32 : decode cX9_init 32 = .ok (.iconst 0, 1) := by decide +kernel
theorem dX9_init_33 : decode cX9_init 33 = .ok (.istore_n 1, 1) := by decide +kernel
theorem dX9_init_34 : decode cX9_init 34 = .ok (.iload_n 1, 1) := by decide +kernel
theorem dX9_init_35 : decode cX9_init 35 = .ok (.bipush 6, 2) := by decide +kernel
theorem dX9_init_37 : decode cX9_init 37 = .ok (.if_icmp .ge 19, 3) := by decide +kernel
theorem dX9_init_40 : decode cX9_init 40 = .ok (.aload_n 0, 1) := by decide +kernel
theorem dX9_init_41 : decode cX9_init 41 = .ok (.getfield 15, 3) := by decide +kernel
theorem dX9_init_44 : decode cX9_init 44 = .ok (.iload_n 1, 1) := by decide +kernel
theorem dX9_init_45 : decode cX9_init 45 = .ok (.aaload, 1) := by decide +kernel
theorem dX9_init_46 : decode cX9_init 46 = .ok (.iload_n 1, 1) := by decide +kernel
theorem dX9_init_47 : decode cX9_init 47 = .ok (.bipush 10, 2) := by decide +kernel
theorem dX9_init_49 : decode cX9_init 49 = .ok (.iastore, 1) := by decide +kernel
theorem dX9_init_50 : decode cX9_init 50 = .ok (.iinc 1 1, 3) := by decide +kernel
theorem dX9_init_53 : decode cX9_init 53 = .ok (.goto (-19), 3) := by decide +kernel
theorem dX9_init_56 : decode cX9_init 56 = .ok (.return_, 1) := by decide +kernel
theorem dX9_add_0 : decode cX9_add 0 = .ok (.aload_n 0, 1) := by decide +kernel
theorem dX9_add_1 : decode cX9_add 1 = .ok (.getfield 9, 3) := by decide +kernel
theorem dX9_add_4 : decode cX9_add 4 = .ok (.aload_n 0, 1) := by decide +kernel
theorem dX9_add_5 : decode cX9_add 5 = .ok (.getfield 21, 3) := by decide +kernel
theorem dX9_add_8 : decode cX9_add 8 = .ok (.iload_n 1, 1) := by decide +kernel
theorem dX9_add_9 : decode cX9_add 9 = .ok (.iastore, 1) := by decide +kernel
theorem dX9_add_10 : decode cX9_add 10 = .ok (.aload_n 0, 1) := by decide +kernel
theorem dX9_add_11 : decode cX9_add 11 = .ok (.getfield 18, 3) := by decide +kernel
theorem dX9_add_14 : decode cX9_add 14 = .ok (.aload_n 0, 1) := by decide +kernel
theorem dX9_add_15 : decode cX9_add 15 = .ok (.getfield 21, 3) := by decide +kernel
theorem dX9_add_18 : decode cX9_add 18 = .ok (.iload_n 2, 1) := by decide +kernel
theorem dX9_add_19 : decode cX9_add 19 = .ok (.iastore, 1) := by decide +kernel
theorem dX9_add_20 : decode cX9_add 20 = .ok (.aload_n 0, 1) := by decide +kernel
theorem dX9_add_21 : decode cX9_add 21 = .ok (.dup, 1) := by decide +kernel
theorem dX9_add_22 : decode cX9_add 22 = .ok (.getfield 21, 3) := by decide +kernel
theorem dX9_add_25 : decode cX9_add 25 = .ok (.iconst 1, 1) := by decide +kernel
theorem dX9_add_26 : decode cX9_add 26 = .ok (.iadd, 1) := by decide +kernel
theorem dX9_add_27 : decode cX9_add 27 = .ok (.putfield 21, 3) := by decide +kernel
theorem dX9_add_30 : decode cX9_add 30 = .ok (.aload_n 0, 1) := by decide +kernel
theorem dX9_add_31 : decode cX9_add 31 = .ok (.getfield 21, 3) := by decide +kernel
theorem dX9_add_34 : decode cX9_add 34 = .ok (.iconst 1, 1) := by decide +kernel
theorem dX9_add_35 : decode cX9_add 35 = .ok (.isub, 1) := by decide +kernel
theorem dX9_add_36 : decode cX9_add 36 = .ok (.ireturn, 1) := by decide +kernel
theorem dX9_has_0 : decode cX9_has 0 = .ok (.iload_n 1, 1) := by decide +kernel
theorem dX9_has_1 : decode cX9_has 1 = .ok (.iconst 0, 1) := by decide +kernel
theorem dX9_has_2 : decode cX9_has 2 = .ok (.aload_n 0, 1) := by decide +kernel
theorem dX9_has_3 : decode cX9_has 3 = .ok (.getfield 21, 3) := by decide +kernel
theorem dX9_has_6 : decode cX9_has 6 = .ok (.iconst 1, 1) := by decide +kernel
theorem dX9_has_7 : decode cX9_has 7 = .ok (.isub, 1) := by decide +kernel
theorem dX9_has_8 : decode cX9_has 8 = .ok (.invokestatic 25, 3) := by decide +kernel
theorem dX9_has_11 : decode cX9_has 11 = .ok (.ireturn, 1) := by decide +kernel
theorem dX9_weight_0 : decode cX9_weight 0 = .ok (.aload_n 0, 1) := by decide +kernel
theorem dX9_weight_1 : decode cX9_weight 1 = .ok (.getfield 18, 3) := by decide +kernel
theorem dX9_weight_4 : decode cX9_weight 4 = .ok (.iload_n 1, 1) := by decide +kernel
theorem dX9_weight_5 : decode cX9_weight 5 = .ok (.iaload, 1) := by decide +kernel
theorem dX9_weight_6 : decode cX9_weight 6 = .ok (.aload_n 0, 1) := by decide +kernel
theorem dX9_weight_7 : decode cX9_weight 7 = .ok (.getfield 15, 3) := by decide +kernel
theorem dX9_weight_10 : decode cX9_weight 10 = .ok (.iload_n 1, 1) := by decide +kernel
theorem dX9_weight_11 : decode cX9_weight 11 = .ok (.aaload, 1) := by decide +kernel
theorem dX9_weight_12 : decode cX9_weight 12 = .ok (.iload_n 2, 1) := by decide +kernel
theorem dX9_weight_13 : decode cX9_weight 13 = .ok (.iaload, 1) := by decide +kernel
theorem dX9_weight_14 : decode cX9_weight 14 = .ok (.imul, 1) := by decide +kernel
theorem dX9_weight_15 : decode cX9_weight 15 = .ok (.i2l, 1) := by decide +kernel
theorem dX9_weight_16 : decode cX9_weight 16 = .ok (.lstore_n 3, 1) := by decide +kernel
theorem dX9_weight_17 : decode cX9_weight 17 = .ok (.iconst 0, 1) := by decide +kernel
theorem dX9_weight_18 : decode cX9_weight 18 = .ok (.istore 5, 2) := by decide +kernel
theorem dX9_weight_20 : decode cX9_weight 20 = .ok (.iload 5, 2) := by decide +kernel
theorem dX9_weight_22 : decode cX9_weight 22 = .ok (.aload_n 0, 1) := by decide +kernel
theorem dX9_weight_23 : decode cX9_weight 23 = .ok (.getfield 21, 3) := by decide +kernel
theorem dX9_weight_26 : decode cX9_weight 26 = .ok (.if_icmp .ge 29, 3) := by decide +kernel
theorem dX9_weight_29 : decode cX9_weight 29 = .ok (.iload 5, 2) := by decide +kernel
theorem dX9_weight_31 : decode cX9_weight 31 = .ok (.iload_n 1, 1) := by decide +kernel
theorem dX9_weight_32 : decode cX9_weight 32 = .ok (.if_icmp .eq 17, 3) := by decide +kernel
theorem dX9_weight_35 : decode cX9_weight 35 = .ok (.lload_n 3, 1) := by decide +kernel
theorem dX9_weight_36 : decode cX9_weight 36 = .ok (.iconst 1, 1) := by decide +kernel
theorem dX9_weight_37 : decode cX9_weight 37 = .ok (.aload_n 0, 1) := by decide +kernel
theorem dX9_weight_38 : decode cX9_weight 38 = .ok (.iload 5, 2) := by decide +kernel
theorem dX9_weight_40 : decode cX9_weight 40 = .ok (.invokevirtual 31, 3) := by decide +kernel
theorem dX9_weight_43 : decode cX9_weight 43 = .ok (.invokestatic 35, 3) := by decide +kernel
theorem dX9_weight_46 : decode cX9_weight 46 = .ok (.i2l, 1) := by decide +kernel
theorem dX9_weight_47 : decode cX9_weight 47 = .ok (.lmul, 1) := by decide +kernel
theorem dX9_weight_48 : decode cX9_weight 48 = .ok (.lstore_n 3, 1) := by decide +kernel
theorem dX9_weight_49 : decode cX9_weight 49 = .ok (.iinc 5 1, 3) := by decide +kernel
theorem dX9_weight_52 : decode cX9_weight 52 = .ok (.goto (-32), 3) := by decide +kernel
theorem dX9_weight_55 : decode cX9_weight 55 = .ok (.lload_n 3, 1) := by decide +kernel
theorem dX9_weight_56 : decode cX9_weight 56 = .ok (.lreturn, 1) := by decide +kernel
theorem dX9_weightOfAll_0 : decode cX9_weightOfAll 0 = .ok (.lconst 0, 1) := by decide +kernel
theorem dX9_weightOfAll_1 : decode cX9_weightOfAll 1 = .ok (.lstore_n 2, 1) := by decide +kernel
theorem dX9_weightOfAll_2 : decode cX9_weightOfAll 2 = .ok (.iconst 0, 1) := by decide +kernel
theorem dX9_weightOfAll_3 : decode cX9_weightOfAll 3 = .ok (.istore 4, 2) := by decide +kernel
theorem dX9_weightOfAll_5 : decode cX9_weightOfAll 5 = .ok (.iload 4, 2) := by decide +kernel
theorem dX9_weightOfAll_7 : decode cX9_weightOfAll 7 = .ok (.aload_n 0, 1) := by decide +kernel
theorem dX9_weightOfAll_8 : decode cX9_weightOfAll 8 = .ok (.getfield 21, 3) := by decide +kernel
theorem dX9_weightOfAll_11 : decode cX9_weightOfAll 11 = .ok (.if_icmp .ge 19, 3) := by decide +kernel
theorem dX9_weightOfAll_14 : decode cX9_weightOfAll 14 = .ok (.lload_n 2, 1) := by decide +kernel
theorem dX9_weightOfAll_15 : decode cX9_weightOfAll 15 = .ok (.aload_n 0, 1) := by decide +kernel
theorem dX9_weightOfAll_16 : decode cX9_weightOfAll 16 = .ok (.iload 4, 2) := by decide +kernel
theorem dX9_weightOfAll_18 : decode cX9_weightOfAll 18 = .ok (.iload_n 1, 1) := by decide +kernel
theorem dX9_weightOfAll_19 : decode cX9_weightOfAll 19 = .ok (.invokevirtual 41, 3) := by decide +kernel
theorem dX9_weightOfAll_22 : decode cX9_weightOfAll 22 = .ok (.ladd, 1) := by decide +kernel
theorem dX9_weightOfAll_23 : decode cX9_weightOfAll 23 = .ok (.lstore_n 2, 1) := by decide +kernel
theorem dX9_weightOfAll_24 : decode cX9_weightOfAll 24 = .ok (.iinc 4 1, 3) := by decide +kernel
theorem dX9_weightOfAll_27 : decode cX9_weightOfAll 27 = .ok (.goto (-22), 3) := by decide +kernel
theorem dX9_weightOfAll_30 : decode cX9_weightOfAll 30 = .ok (.lload_n 2, 1) := by decide +kernel
theorem dX9_weightOfAll_31 : decode cX9_weightOfAll 31 = .ok (.lreturn, 1) := by decide +kernel
theorem dX9_allTakenOf_0 : decode cX9_allTakenOf 0 = .ok (.iconst 0, 1) := by decide +kernel
theorem dX9_allTakenOf_1 : decode cX9_allTakenOf 1 = .ok (.istore_n 2, 1) := by decide +kernel
theorem dX9_allTakenOf_2 : decode cX9_allTakenOf 2 = .ok (.iconst 0, 1) := by decide +kernel
theorem dX9_allTakenOf_3 : decode cX9_allTakenOf 3 = .ok (.istore_n 3, 1) := by decide +kernel
theorem dX9_allTakenOf_4 : decode cX9_allTakenOf 4 = .ok (.iload_n 3, 1) := by decide +kernel
theorem dX9_allTakenOf_5 : decode cX9_allTakenOf 5 = .ok (.aload_n 0, 1) := by decide +kernel
theorem dX9_allTakenOf_6 : decode cX9_allTakenOf 6 = .ok (.getfield 21, 3) := by decide +kernel
theorem dX9_allTakenOf_9 : decode cX9_allTakenOf 9 = .ok (.if_icmp .ge 20, 3) := by decide +kernel
theorem dX9_allTakenOf_12 : decode cX9_allTakenOf 12 = .ok (.iload_n 2, 1) := by decide +kernel
theorem dX9_allTakenOf_13 : decode cX9_allTakenOf 13 = .ok (.aload_n 0, 1) := by decide +kernel
theorem dX9_allTakenOf_14 : decode cX9_allTakenOf 14 = .ok (.getfield 15, 3) := by decide +kernel
theorem dX9_allTakenOf_17 : decode cX9_allTakenOf 17 = .ok (.iload_n 1, 1) := by decide +kernel
theorem dX9_allTakenOf_18 : decode cX9_allTakenOf 18 = .ok (.aaload, 1) := by decide +kernel
theorem dX9_allTakenOf_19 : decode cX9_allTakenOf 19 = .ok (.iload_n 3, 1) := by decide +kernel
theorem dX9_allTakenOf_20 : decode cX9_allTakenOf 20 = .ok (.iaload, 1) := by decide +kernel
theorem dX9_allTakenOf_21 : decode cX9_allTakenOf 21 = .ok (.iadd, 1) := by decide +kernel
theorem dX9_allTakenOf_22 : decode cX9_allTakenOf 22 = .ok (.istore_n 2, 1) := by decide +kernel
theorem dX9_allTakenOf_23 : decode cX9_allTakenOf 23 = .ok (.iinc 3 1, 3) := by decide +kernel
theorem dX9_allTakenOf_26 : decode cX9_allTakenOf 26 = .ok (.goto (-22), 3) := by decide +kernel
theorem dX9_allTakenOf_29 : decode cX9_allTakenOf 29 = .ok (.iload_n 2, 1) := by decide +kernel
theorem dX9_allTakenOf_30 : decode cX9_allTakenOf 30 = .ok (.ireturn, 1) := by decide +kernel
theorem dX9_likeliest_0 : decode cX9_likeliest 0 = .ok (.iconst (-1), 1) := by decide +kernel
theorem dX9_likeliest_1 : decode cX9_likeliest 1 = .ok (.istore_n 2, 1) := by decide +kernel
theorem dX9_likeliest_2 : decode cX9_likeliest 2 = .ok (.lconst 0, 1) := by decide +kernel
theorem dX9_likeliest_3 : decode cX9_likeliest 3 = .ok (.lstore_n 3, 1) := by decide +kernel
theorem dX9_likeliest_4 : decode cX9_likeliest 4 = .ok (.iconst 0, 1) := by decide +kernel
theorem dX9_likeliest_5 : decode cX9_likeliest 5 = .ok (.istore 5, 2) := by decide +kernel
theorem dX9_likeliest_7 : decode cX9_likeliest 7 = .ok (.iload 5, 2) := by decide +kernel
theorem dX9_likeliest_9 : decode cX9_likeliest 9 = .ok (.aload_n 0, 1) := by decide +kernel
theorem dX9_likeliest_10 : decode cX9_likeliest 10 = .ok (.getfield 21, 3) := by decide +kernel
theorem dX9_likeliest_13 : decode cX9_likeliest 13 = .ok (.if_icmp .ge 31, 3) := by decide +kernel
theorem dX9_likeliest_16 : decode cX9_likeliest 16 = .ok (.aload_n 0, 1) := by decide +kernel
theorem dX9_likeliest_17 : decode cX9_likeliest 17 = .ok (.iload 5, 2) := by decide +kernel
theorem dX9_likeliest_19 : decode cX9_likeliest 19 = .ok (.iload_n 1, 1) := by decide +kernel
theorem dX9_likeliest_20 : decode cX9_likeliest 20 = .ok (.invokevirtual 41, 3) := by decide +kernel
theorem dX9_likeliest_23 : decode cX9_likeliest 23 = .ok (.lstore 6, 2) := by decide +kernel
theorem dX9_likeliest_25 : decode cX9_likeliest 25 = .ok (.lload 6, 2) := by decide +kernel
theorem dX9_likeliest_27 : decode cX9_likeliest 27 = .ok (.lload_n 3, 1) := by decide +kernel
theorem dX9_likeliest_28 : decode cX9_likeliest 28 = .ok (.lcmp, 1) := by decide +kernel
theorem dX9_likeliest_29 : decode cX9_likeliest 29 = .ok (.ifCond .le 9, 3) := by decide +kernel
theorem dX9_likeliest_32 : decode cX9_likeliest 32 = .ok (.lload 6, 2) := by decide +kernel
theorem dX9_likeliest_34 : decode cX9_likeliest 34 = .ok (.lstore_n 3, 1) := by decide +kernel
theorem dX9_likeliest_35 : decode cX9_likeliest 35 = .ok (.iload 5, 2) := by decide +kernel
theorem dX9_likeliest_37 : decode cX9_likeliest 37 = .ok (.istore_n 2, 1) := by decide +kernel
theorem dX9_likeliest_38 : decode cX9_likeliest 38 = .ok (.iinc 5 1, 3) := by decide +kernel
theorem dX9_likeliest_41 : decode cX9_likeliest 41 = .ok (.goto (-34), 3) := by decide +kernel
theorem dX9_likeliest_44 : decode cX9_likeliest 44 = .ok (.iload_n 2, 1) := by decide +kernel
theorem dX9_likeliest_45 : decode cX9_likeliest 45 = .ok (.ireturn, 1) := by decide +kernel
theorem dX9_clearestList_0 : decode cX9_clearestList 0 = .ok (.iconst 0, 1) := by decide +kernel
theorem dX9_clearestList_1 : decode cX9_clearestList 1 = .ok (.istore_n 2, 1) := by decide +kernel
theorem dX9_clearestList_2 : decode cX9_clearestList 2 = .ok (.iconst (-1), 1) := by decide +kernel
theorem dX9_clearestList_3 : decode cX9_clearestList 3 = .ok (.istore_n 3, 1) := by decide +kernel
theorem dX9_clearestList_4 : decode cX9_clearestList 4 = .ok (.iconst 0, 1) := by decide +kernel
theorem dX9_clearestList_5 : decode cX9_clearestList 5 = .ok (.istore 4, 2) := by decide +kernel
theorem dX9_clearestList_7 : decode cX9_clearestList 7 = .ok (.iload 4, 2) := by decide +kernel
theorem dX9_clearestList_9 : decode cX9_clearestList 9 = .ok (.iconst 1, 1) := by decide +kernel
theorem dX9_clearestList_10 : decode cX9_clearestList 10 = .ok (.aload_n 0, 1) := by decide +kernel
theorem dX9_clearestList_11 : decode cX9_clearestList 11 = .ok (.getfield 21, 3) := by decide +kernel
theorem dX9_clearestList_14 : decode cX9_clearestList 14 = .ok (.ishl, 1) := by decide +kernel
theorem dX9_clearestList_15 : decode cX9_clearestList 15 = .ok (.if_icmp .ge 42, 3) := by decide +kernel
theorem dX9_clearestList_18 : decode cX9_clearestList 18 = .ok (.iload 4, 2) := by decide +kernel
theorem dX9_clearestList_20 : decode cX9_clearestList 20 = .ok (.invokestatic 45, 3) := by decide +kernel
theorem dX9_clearestList_23 : decode cX9_clearestList 23 = .ok (.iload_n 1, 1) := by decide +kernel
theorem dX9_clearestList_24 : decode cX9_clearestList 24 = .ok (.if_icmp .ne 27, 3) := by decide +kernel
theorem dX9_clearestList_27 : decode cX9_clearestList 27 = .ok (.aload_n 0, 1) := by decide +kernel
theorem dX9_clearestList_28 : decode cX9_clearestList 28 = .ok (.iload 4, 2) := by decide +kernel
theorem dX9_clearestList_30 : decode cX9_clearestList 30 = .ok (.invokevirtual 50, 3) := by decide +kernel
theorem dX9_clearestList_33 : decode cX9_clearestList 33 = .ok (.istore 5, 2) := by decide +kernel
theorem dX9_clearestList_35 : decode cX9_clearestList 35 = .ok (.iload_n 3, 1) := by decide +kernel
theorem dX9_clearestList_36 : decode cX9_clearestList 36 = .ok (.ifCond .lt 9, 3) := by decide +kernel
theorem dX9_clearestList_39 : decode cX9_clearestList 39 = .ok (.iload 5, 2) := by decide +kernel
theorem dX9_clearestList_41 : decode cX9_clearestList 41 = .ok (.iload_n 3, 1) := by decide +kernel
theorem dX9_clearestList_42 : decode cX9_clearestList 42 = .ok (.if_icmp .ge 9, 3) := by decide +kernel
theorem dX9_clearestList_45 : decode cX9_clearestList 45 = .ok (.iload 5, 2) := by decide +kernel
theorem dX9_clearestList_47 : decode cX9_clearestList 47 = .ok (.istore_n 3, 1) := by decide +kernel
theorem dX9_clearestList_48 : decode cX9_clearestList 48 = .ok (.iload 4, 2) := by decide +kernel
theorem dX9_clearestList_50 : decode cX9_clearestList 50 = .ok (.istore_n 2, 1) := by decide +kernel
theorem dX9_clearestList_51 : decode cX9_clearestList 51 = .ok (.iinc 4 1, 3) := by decide +kernel
theorem dX9_clearestList_54 : decode cX9_clearestList 54 = .ok (.goto (-47), 3) := by decide +kernel
theorem dX9_clearestList_57 : decode cX9_clearestList 57 = .ok (.iload_n 2, 1) := by decide +kernel
theorem dX9_clearestList_58 : decode cX9_clearestList 58 = .ok (.ireturn, 1) := by decide +kernel
theorem dX9_muddle_0 : decode cX9_muddle 0 = .ok (.iconst 0, 1) := by decide +kernel
theorem dX9_muddle_1 : decode cX9_muddle 1 = .ok (.istore_n 2, 1) := by decide +kernel
theorem dX9_muddle_2 : decode cX9_muddle 2 = .ok (.iconst 0, 1) := by decide +kernel
theorem dX9_muddle_3 : decode cX9_muddle 3 = .ok (.istore_n 3, 1) := by decide +kernel
theorem dX9_muddle_4 : decode cX9_muddle 4 = .ok (.iload_n 3, 1) := by decide +kernel
theorem dX9_muddle_5 : decode cX9_muddle 5 = .ok (.aload_n 0, 1) := by decide +kernel
theorem dX9_muddle_6 : decode cX9_muddle 6 = .ok (.getfield 21, 3) := by decide +kernel
theorem dX9_muddle_9 : decode cX9_muddle 9 = .ok (.if_icmp .ge 62, 3) := by decide +kernel
theorem dX9_muddle_12 : decode cX9_muddle 12 = .ok (.iconst 0, 1) := by decide +kernel
theorem dX9_muddle_13 : decode cX9_muddle 13 = .ok (.istore 4, 2) := by decide +kernel
theorem dX9_muddle_15 : decode cX9_muddle 15 = .ok (.iload 4, 2) := by decide +kernel
theorem dX9_muddle_17 : decode cX9_muddle 17 = .ok (.aload_n 0, 1) := by decide +kernel
theorem dX9_muddle_18 : decode cX9_muddle 18 = .ok (.getfield 21, 3) := by decide +kernel
theorem dX9_muddle_21 : decode cX9_muddle 21 = .ok (.if_icmp .ge 44, 3) := by decide +kernel
theorem dX9_muddle_24 : decode cX9_muddle 24 = .ok (.iload_n 3, 1) := by decide +kernel
theorem dX9_muddle_25 : decode cX9_muddle 25 = .ok (.iload 4, 2) := by decide +kernel
theorem dX9_muddle_27 : decode cX9_muddle 27 = .ok (.if_icmp .eq 32, 3) := by decide +kernel
theorem dX9_muddle_30 : decode cX9_muddle 30 = .ok (.iload_n 1, 1) := by decide +kernel
theorem dX9_muddle_31 : decode cX9_muddle 31 = .ok (.iload_n 3, 1) := by decide +kernel
theorem dX9_muddle_32 : decode cX9_muddle 32 = .ok (.ishr, 1) := by decide +kernel
theorem dX9_muddle_33 : decode cX9_muddle 33 = .ok (.iconst 1, 1) := by decide +kernel
theorem dX9_muddle_34 : decode cX9_muddle 34 = .ok (.iand, 1) := by decide +kernel
theorem dX9_muddle_35 : decode cX9_muddle 35 = .ok (.ifCond .eq 24, 3) := by decide +kernel
theorem dX9_muddle_38 : decode cX9_muddle 38 = .ok (.iload_n 1, 1) := by decide +kernel
theorem dX9_muddle_39 : decode cX9_muddle 39 = .ok (.iload 4, 2) := by decide +kernel
theorem dX9_muddle_41 : decode cX9_muddle 41 = .ok (.ishr, 1) := by decide +kernel
theorem dX9_muddle_42 : decode cX9_muddle 42 = .ok (.iconst 1, 1) := by decide +kernel
theorem dX9_muddle_43 : decode cX9_muddle 43 = .ok (.iand, 1) := by decide +kernel
theorem dX9_muddle_44 : decode cX9_muddle 44 = .ok (.ifCond .eq 15, 3) := by decide +kernel
theorem dX9_muddle_47 : decode cX9_muddle 47 = .ok (.iload_n 2, 1) := by decide +kernel
theorem dX9_muddle_48 : decode cX9_muddle 48 = .ok (.aload_n 0, 1) := by decide +kernel
theorem dX9_muddle_49 : decode cX9_muddle 49 = .ok (.getfield 15, 3) := by decide +kernel
theorem dX9_muddle_52 : decode cX9_muddle 52 = .ok (.iload_n 3, 1) := by decide +kernel
theorem dX9_muddle_53 : decode cX9_muddle 53 = .ok (.aaload, 1) := by decide +kernel
theorem dX9_muddle_54 : decode cX9_muddle 54 = .ok (.iload 4, 2) := by decide +kernel
theorem dX9_muddle_56 : decode cX9_muddle 56 = .ok (.iaload, 1) := by decide +kernel
theorem dX9_muddle_57 : decode cX9_muddle 57 = .ok (.iadd, 1) := by decide +kernel
theorem dX9_muddle_58 : decode cX9_muddle 58 = .ok (.istore_n 2, 1) := by decide +kernel
theorem dX9_muddle_59 : decode cX9_muddle 59 = .ok (.iinc 4 1, 3) := by decide +kernel
theorem dX9_muddle_62 : decode cX9_muddle 62 = .ok (.goto (-47), 3) := by decide +kernel
theorem dX9_muddle_65 : decode cX9_muddle 65 = .ok (.iinc 3 1, 3) := by decide +kernel
theorem dX9_muddle_68 : decode cX9_muddle 68 = .ok (.goto (-64), 3) := by decide +kernel
theorem dX9_muddle_71 : decode cX9_muddle 71 = .ok (.iload_n 2, 1) := by decide +kernel
theorem dX9_muddle_72 : decode cX9_muddle 72 = .ok (.ireturn, 1) := by decide +kernel
theorem dX9_fitting_0 : decode cX9_fitting 0 = .ok (.iconst 0, 1) := by decide +kernel
theorem dX9_fitting_1 : decode cX9_fitting 1 = .ok (.istore_n 3, 1) := by decide +kernel
theorem dX9_fitting_2 : decode cX9_fitting 2 = .ok (.iconst 0, 1) := by decide +kernel
theorem dX9_fitting_3 : decode cX9_fitting 3 = .ok (.istore 4, 2) := by decide +kernel
theorem dX9_fitting_5 : decode cX9_fitting 5 = .ok (.iload 4, 2) := by decide +kernel
theorem dX9_fitting_7 : decode cX9_fitting 7 = .ok (.aload_n 0, 1) := by decide +kernel
theorem dX9_fitting_8 : decode cX9_fitting 8 = .ok (.getfield 21, 3) := by decide +kernel
theorem dX9_fitting_11 : decode cX9_fitting 11 = .ok (.if_icmp .ge 31, 3) := by decide +kernel
theorem dX9_fitting_14 : decode cX9_fitting 14 = .ok (.aload_n 0, 1) := by decide +kernel
theorem dX9_fitting_15 : decode cX9_fitting 15 = .ok (.getfield 9, 3) := by decide +kernel
theorem dX9_fitting_18 : decode cX9_fitting 18 = .ok (.iload 4, 2) := by decide +kernel
theorem dX9_fitting_20 : decode cX9_fitting 20 = .ok (.iaload, 1) := by decide +kernel
theorem dX9_fitting_21 : decode cX9_fitting 21 = .ok (.iload_n 1, 1) := by decide +kernel
theorem dX9_fitting_22 : decode cX9_fitting 22 = .ok (.iload_n 2, 1) := by decide +kernel
theorem dX9_fitting_23 : decode cX9_fitting 23 = .ok (.invokestatic 53, 3) := by decide +kernel
theorem dX9_fitting_26 : decode cX9_fitting 26 = .ok (.ifCond .eq 10, 3) := by decide +kernel
theorem dX9_fitting_29 : decode cX9_fitting 29 = .ok (.iload_n 3, 1) := by decide +kernel
theorem dX9_fitting_30 : decode cX9_fitting 30 = .ok (.iconst 1, 1) := by decide +kernel
theorem dX9_fitting_31 : decode cX9_fitting 31 = .ok (.iload 4, 2) := by decide +kernel
theorem dX9_fitting_33 : decode cX9_fitting 33 = .ok (.ishl, 1) := by decide +kernel
theorem dX9_fitting_34 : decode cX9_fitting 34 = .ok (.ior, 1) := by decide +kernel
theorem dX9_fitting_35 : decode cX9_fitting 35 = .ok (.istore_n 3, 1) := by decide +kernel
theorem dX9_fitting_36 : decode cX9_fitting 36 = .ok (.iinc 4 1, 3) := by decide +kernel
theorem dX9_fitting_39 : decode cX9_fitting 39 = .ok (.goto (-34), 3) := by decide +kernel
theorem dX9_fitting_42 : decode cX9_fitting 42 = .ok (.iload_n 3, 1) := by decide +kernel
theorem dX9_fitting_43 : decode cX9_fitting 43 = .ok (.ireturn, 1) := by decide +kernel
theorem dX9_fits_0 : decode cX9_fits 0 = .ok (.iconst 0, 1) := by decide +kernel
theorem dX9_fits_1 : decode cX9_fits 1 = .ok (.istore_n 3, 1) := by decide +kernel
theorem dX9_fits_2 : decode cX9_fits 2 = .ok (.iload_n 3, 1) := by decide +kernel
theorem dX9_fits_3 : decode cX9_fits 3 = .ok (.iconst 4, 1) := by decide +kernel
theorem dX9_fits_4 : decode cX9_fits 4 = .ok (.if_icmp .ge 32, 3) := by decide +kernel
theorem dX9_fits_7 : decode cX9_fits 7 = .ok (.iload_n 2, 1) := by decide +kernel
theorem dX9_fits_8 : decode cX9_fits 8 = .ok (.iload_n 3, 1) := by decide +kernel
theorem dX9_fits_9 : decode cX9_fits 9 = .ok (.ishr, 1) := by decide +kernel
theorem dX9_fits_10 : decode cX9_fits 10 = .ok (.iconst 1, 1) := by decide +kernel
theorem dX9_fits_11 : decode cX9_fits 11 = .ok (.iand, 1) := by decide +kernel
theorem dX9_fits_12 : decode cX9_fits 12 = .ok (.ifCond .eq 18, 3) := by decide +kernel
theorem dX9_fits_15 : decode cX9_fits 15 = .ok (.iload_n 0, 1) := by decide +kernel
theorem dX9_fits_16 : decode cX9_fits 16 = .ok (.iload_n 3, 1) := by decide +kernel
theorem dX9_fits_17 : decode cX9_fits 17 = .ok (.invokestatic 56, 3) := by decide +kernel
theorem dX9_fits_20 : decode cX9_fits 20 = .ok (.iload_n 1, 1) := by decide +kernel
theorem dX9_fits_21 : decode cX9_fits 21 = .ok (.iload_n 3, 1) := by decide +kernel
theorem dX9_fits_22 : decode cX9_fits 22 = .ok (.invokestatic 56, 3) := by decide +kernel
theorem dX9_fits_25 : decode cX9_fits 25 = .ok (.if_icmp .eq 5, 3) := by decide +kernel
theorem dX9_fits_28 : decode cX9_fits 28 = .ok (.iconst 0, 1) := by decide +kernel
theorem dX9_fits_29 : decode cX9_fits 29 = .ok (.ireturn, 1) := by decide +kernel
theorem dX9_fits_30 : decode cX9_fits 30 = .ok (.iinc 3 1, 3) := by decide +kernel
theorem dX9_fits_33 : decode cX9_fits 33 = .ok (.goto (-31), 3) := by decide +kernel
theorem dX9_fits_36 : decode cX9_fits 36 = .ok (.iconst 1, 1) := by decide +kernel
theorem dX9_fits_37 : decode cX9_fits 37 = .ok (.ireturn, 1) := by decide +kernel
theorem dX9_figure_0 : decode cX9_figure 0 = .ok (.iload_n 0, 1) := by decide +kernel
theorem dX9_figure_1 : decode cX9_figure 1 = .ok (.istore_n 2, 1) := by decide +kernel
theorem dX9_figure_2 : decode cX9_figure 2 = .ok (.iload_n 1, 1) := by decide +kernel
theorem dX9_figure_3 : decode cX9_figure 3 = .ok (.iconst 1, 1) := by decide +kernel
theorem dX9_figure_4 : decode cX9_figure 4 = .ok (.iadd, 1) := by decide +kernel
theorem dX9_figure_5 : decode cX9_figure 5 = .ok (.istore_n 3, 1) := by decide +kernel
theorem dX9_figure_6 : decode cX9_figure 6 = .ok (.iload_n 3, 1) := by decide +kernel
theorem dX9_figure_7 : decode cX9_figure 7 = .ok (.iconst 4, 1) := by decide +kernel
theorem dX9_figure_8 : decode cX9_figure 8 = .ok (.if_icmp .ge 14, 3) := by decide +kernel
theorem dX9_figure_11 : decode cX9_figure 11 = .ok (.iload_n 2, 1) := by decide +kernel
theorem dX9_figure_12 : decode cX9_figure 12 = .ok (.bipush 10, 2) := by decide +kernel
theorem dX9_figure_14 : decode cX9_figure 14 = .ok (.idiv, 1) := by decide +kernel
theorem dX9_figure_15 : decode cX9_figure 15 = .ok (.istore_n 2, 1) := by decide +kernel
theorem dX9_figure_16 : decode cX9_figure 16 = .ok (.iinc 3 1, 3) := by decide +kernel
theorem dX9_figure_19 : decode cX9_figure 19 = .ok (.goto (-13), 3) := by decide +kernel
theorem dX9_figure_22 : decode cX9_figure 22 = .ok (.iload_n 2, 1) := by decide +kernel
theorem dX9_figure_23 : decode cX9_figure 23 = .ok (.bipush 10, 2) := by decide +kernel
theorem dX9_figure_25 : decode cX9_figure 25 = .ok (.irem, 1) := by decide +kernel
theorem dX9_figure_26 : decode cX9_figure 26 = .ok (.ireturn, 1) := by decide +kernel
theorem dX9_mostAlike_0 : decode cX9_mostAlike 0 = .ok (.iconst 0, 1) := by decide +kernel
theorem dX9_mostAlike_1 : decode cX9_mostAlike 1 = .ok (.istore_n 3, 1) := by decide +kernel
theorem dX9_mostAlike_2 : decode cX9_mostAlike 2 = .ok (.iconst 0, 1) := by decide +kernel
theorem dX9_mostAlike_3 : decode cX9_mostAlike 3 = .ok (.istore 4, 2) := by decide +kernel
theorem dX9_mostAlike_5 : decode cX9_mostAlike 5 = .ok (.iload 4, 2) := by decide +kernel
theorem dX9_mostAlike_7 : decode cX9_mostAlike 7 = .ok (.bipush 10, 2) := by decide +kernel
theorem dX9_mostAlike_9 : decode cX9_mostAlike 9 = .ok (.if_icmp .ge 65, 3) := by decide +kernel
theorem dX9_mostAlike_12 : decode cX9_mostAlike 12 = .ok (.iconst 0, 1) := by decide +kernel
theorem dX9_mostAlike_13 : decode cX9_mostAlike 13 = .ok (.istore 5, 2) := by decide +kernel
theorem dX9_mostAlike_15 : decode cX9_mostAlike 15 = .ok (.iconst 0, 1) := by decide +kernel
theorem dX9_mostAlike_16 : decode cX9_mostAlike 16 = .ok (.istore 6, 2) := by decide +kernel
theorem dX9_mostAlike_18 : decode cX9_mostAlike 18 = .ok (.iload 6, 2) := by decide +kernel
theorem dX9_mostAlike_20 : decode cX9_mostAlike 20 = .ok (.aload_n 0, 1) := by decide +kernel
theorem dX9_mostAlike_21 : decode cX9_mostAlike 21 = .ok (.getfield 21, 3) := by decide +kernel
theorem dX9_mostAlike_24 : decode cX9_mostAlike 24 = .ok (.if_icmp .ge 37, 3) := by decide +kernel
theorem dX9_mostAlike_27 : decode cX9_mostAlike 27 = .ok (.iload_n 1, 1) := by decide +kernel
theorem dX9_mostAlike_28 : decode cX9_mostAlike 28 = .ok (.iload 6, 2) := by decide +kernel
theorem dX9_mostAlike_30 : decode cX9_mostAlike 30 = .ok (.ishr, 1) := by decide +kernel
theorem dX9_mostAlike_31 : decode cX9_mostAlike 31 = .ok (.iconst 1, 1) := by decide +kernel
theorem dX9_mostAlike_32 : decode cX9_mostAlike 32 = .ok (.iand, 1) := by decide +kernel
theorem dX9_mostAlike_33 : decode cX9_mostAlike 33 = .ok (.ifCond .eq 22, 3) := by decide +kernel
theorem dX9_mostAlike_36 : decode cX9_mostAlike 36 = .ok (.aload_n 0, 1) := by decide +kernel
theorem dX9_mostAlike_37 : decode cX9_mostAlike 37 = .ok (.getfield 9, 3) := by decide +kernel
theorem dX9_mostAlike_40 : decode cX9_mostAlike 40 = .ok (.iload 6, 2) := by decide +kernel
theorem dX9_mostAlike_42 : decode cX9_mostAlike 42 = .ok (.iaload, 1) := by decide +kernel
theorem dX9_mostAlike_43 : decode cX9_mostAlike 43 = .ok (.iload_n 2, 1) := by decide +kernel
theorem dX9_mostAlike_44 : decode cX9_mostAlike 44 = .ok (.invokestatic 56, 3) := by decide +kernel
theorem dX9_mostAlike_47 : decode cX9_mostAlike 47 = .ok (.iload 4, 2) := by decide +kernel
theorem dX9_mostAlike_49 : decode cX9_mostAlike 49 = .ok (.if_icmp .ne 6, 3) := by decide +kernel
theorem dX9_mostAlike_52 : decode cX9_mostAlike 52 = .ok (.iinc 5 1, 3) := by decide +kernel
theorem dX9_mostAlike_55 : decode cX9_mostAlike 55 = .ok (.iinc 6 1, 3) := by decide +kernel
theorem dX9_mostAlike_58 : decode cX9_mostAlike 58 = .ok (.goto (-40), 3) := by decide +kernel
theorem dX9_mostAlike_61 : decode cX9_mostAlike 61 = .ok (.iload_n 3, 1) := by decide +kernel
theorem dX9_mostAlike_62 : decode cX9_mostAlike 62 = .ok (.iload 5, 2) := by decide +kernel
theorem dX9_mostAlike_64 : decode cX9_mostAlike 64 = .ok (.invokestatic 35, 3) := by decide +kernel
theorem dX9_mostAlike_67 : decode cX9_mostAlike 67 = .ok (.istore_n 3, 1) := by decide +kernel
theorem dX9_mostAlike_68 : decode cX9_mostAlike 68 = .ok (.iinc 4 1, 3) := by decide +kernel
theorem dX9_mostAlike_71 : decode cX9_mostAlike 71 = .ok (.goto (-66), 3) := by decide +kernel
theorem dX9_mostAlike_74 : decode cX9_mostAlike 74 = .ok (.iload_n 3, 1) := by decide +kernel
theorem dX9_mostAlike_75 : decode cX9_mostAlike 75 = .ok (.ireturn, 1) := by decide +kernel
theorem dX10_init_0 : decode cX10_init 0 = .ok (.aload_n 0, 1) := by decide +kernel
theorem dX10_init_1 : decode cX10_init 1 = .ok (.invokespecial 1, 3) := by decide +kernel
theorem dX10_init_4 : decode cX10_init 4 = .ok (.aload_n 0, 1) := by decide +kernel
theorem dX10_init_5 : decode cX10_init 5 = .ok (.new 7, 3) := by decide +kernel
theorem dX10_init_8 : decode cX10_init 8 = .ok (.dup, 1) := by decide +kernel
theorem dX10_init_9 : decode cX10_init 9 = .ok (.invokespecial 9, 3) := by decide +kernel
theorem dX10_init_12 : decode cX10_init 12 = .ok (.putfield 10, 3) := by decide +kernel
theorem dX10_init_15 : decode cX10_init 15 = .ok (.aload_n 0, 1) := by decide +kernel
theorem dX10_init_16 : decode cX10_init 16 = .ok (.new 16, 3) := by decide +kernel
theorem dX10_init_19 : decode cX10_init 19 = .ok (.dup, 1) := by decide +kernel
theorem dX10_init_20 : decode cX10_init 20 = .ok (.invokespecial 18, 3) := by decide +kernel
theorem dX10_init_23 : decode cX10_init 23 = .ok (.putfield 19, 3) := by decide +kernel
theorem dX10_init_26 : decode cX10_init 26 = .ok (.aload_n 0, 1) := by decide +kernel
theorem dX10_init_27 : decode cX10_init 27 = .ok (.new 23, 3) := by decide +kernel
theorem dX10_init_30 : decode cX10_init 30 = .ok (.dup, 1) := by decide +kernel
theorem dX10_init_31 : decode cX10_init 31 = .ok (.invokespecial 25, 3) := by decide +kernel
theorem dX10_init_34 : decode cX10_init 34 = .ok (.putfield 26, 3) := by decide +kernel
theorem dX10_init_37 : decode cX10_init 37 = .ok (.aload_n 0, 1) := by decide +kernel
theorem dX10_init_38 : decode cX10_init 38 = .ok (.new 30, 3) := by decide +kernel
theorem dX10_init_41 : decode cX10_init 41 = .ok (.dup, 1) := by decide +kernel
theorem dX10_init_42 : decode cX10_init 42 = .ok (.invokespecial 32, 3) := by decide +kernel
theorem dX10_init_45 : decode cX10_init 45 = .ok (.putfield 33, 3) := by decide +kernel
theorem dX10_init_48 : decode cX10_init 48 = .ok (.aload_n 0, 1) := by decide +kernel
theorem dX10_init_49 : decode cX10_init 49 = .ok (.new 37, 3) := by decide +kernel
theorem dX10_init_52 : decode cX10_init 52 = .ok (.dup, 1) := by decide +kernel
theorem dX10_init_53 : decode cX10_init 53 = .ok (.invokespecial 39, 3) := by decide +kernel
theorem dX10_init_56 : decode cX10_init 56 = .ok (.putfield 40, 3) := by decide +kernel
theorem dX10_init_59 : decode cX10_init 59 = .ok (.aload_n 0, 1) := by decide +kernel
theorem dX10_init_60 : decode cX10_init 60 = .ok (.new 44, 3) := by decide +kernel
theorem dX10_init_63 : decode cX10_init 63 = .ok (.dup, 1) := by decide +kernel
theorem dX10_init_64 : decode cX10_init 64 = .ok (.invokespecial 46, 3) := by decide +kernel
theorem dX10_init_67 : decode cX10_init 67 = .ok (.putfield 47, 3) := by decide +kernel
theorem dX10_init_70 : decode cX10_init 70 = .ok (.return_, 1) := by decide +kernel
theorem dX10_set_0 : decode cX10_set 0 = .ok (.iload_n 1, 1) := by decide +kernel
theorem dX10_set_1 : decode cX10_set 1 = .ok (.iconst 0, 1) := by decide +kernel
theorem dX10_set_2 : decode cX10_set 2 = .ok (.iconst 5, 1) := by decide +kernel
theorem dX10_set_3 : decode cX10_set 3 = .ok (.invokestatic 53, 3) := by decide +kernel
theorem dX10_set_6 : decode cX10_set 6 = .ok (.ifCond .ne 5, 3) := by decide +kernel
theorem dX10_set_9 : decode cX10_set 9 = .ok (.iconst (-1), 1) := by decide +kernel
theorem dX10_set_10 : decode cX10_set 10 = .ok (.ireturn, 1) := by decide +kernel
theorem dX10_set_11 : decode cX10_set 11 = .ok (.iload_n 2, 1) := by decide +kernel
theorem dX10_set_12 : decode cX10_set 12 = .ok (.getstatic 57, 3) := by decide +kernel
theorem dX10_set_15 : decode cX10_set 15 = .ok (.iload_n 1, 1) := by decide +kernel
theorem dX10_set_16 : decode cX10_set 16 = .ok (.iaload, 1) := by decide +kernel
theorem dX10_set_17 : decode cX10_set 17 = .ok (.getstatic 61, 3) := by decide +kernel
theorem dX10_set_20 : decode cX10_set 20 = .ok (.iload_n 1, 1) := by decide +kernel
theorem dX10_set_21 : decode cX10_set 21 = .ok (.iaload, 1) := by decide +kernel
theorem dX10_set_22 : decode cX10_set 22 = .ok (.invokestatic 53, 3) := by decide +kernel
theorem dX10_set_25 : decode cX10_set 25 = .ok (.ifCond .ne 6, 3) := by decide +kernel
theorem dX10_set_28 : decode cX10_set 28 = .ok (.bipush (-2), 2) := by decide +kernel
theorem dX10_set_30 : decode cX10_set 30 = .ok (.ireturn, 1) := by decide +kernel
theorem dX10_set_31 : decode cX10_set 31 = .ok (.aload_n 0, 1) := by decide +kernel
theorem dX10_set_32 : decode cX10_set 32 = .ok (.getfield 10, 3) := by decide +kernel
theorem dX10_set_35 : decode cX10_set 35 = .ok (.getfield 64, 3) := by decide +kernel
theorem dX10_set_38 : decode cX10_set 38 = .ok (.getfield 68, 3) := by decide +kernel
theorem dX10_set_41 : decode cX10_set 41 = .ok (.iload_n 1, 1) := by decide +kernel
theorem dX10_set_42 : decode cX10_set 42 = .ok (.iaload, 1) := by decide +kernel
theorem dX10_set_43 : decode cX10_set 43 = .ok (.istore_n 3, 1) := by decide +kernel
theorem dX10_set_44 : decode cX10_set 44 = .ok (.aload_n 0, 1) := by decide +kernel
theorem dX10_set_45 : decode cX10_set 45 = .ok (.getfield 10, 3) := by decide +kernel
theorem dX10_set_48 : decode cX10_set 48 = .ok (.getfield 64, 3) := by decide +kernel
theorem dX10_set_51 : decode cX10_set 51 = .ok (.getfield 68, 3) := by decide +kernel
theorem dX10_set_54 : decode cX10_set 54 = .ok (.iload_n 1, 1) := by decide +kernel
theorem dX10_set_55 : decode cX10_set 55 = .ok (.iload_n 2, 1) := by decide +kernel
theorem dX10_set_56 : decode cX10_set 56 = .ok (.iastore, 1) := by decide +kernel
theorem dX10_set_57 : decode cX10_set 57 = .ok (.iload_n 3, 1) := by decide +kernel
theorem dX10_set_58 : decode cX10_set 58 = .ok (.ireturn, 1) := by decide +kernel
theorem dX10_want_0 : decode cX10_want 0 = .ok (.iload_n 1, 1) := by decide +kernel
theorem dX10_want_1 : decode cX10_want 1 = .ok (.iconst 0, 1) := by decide +kernel
theorem dX10_want_2 : decode cX10_want 2 = .ok (.iconst 5, 1) := by decide +kernel
theorem dX10_want_3 : decode cX10_want 3 = .ok (.invokestatic 53, 3) := by decide +kernel
theorem dX10_want_6 : decode cX10_want 6 = .ok (.ifCond .ne 5, 3) := by decide +kernel
theorem dX10_want_9 : decode cX10_want 9 = .ok (.iconst (-1), 1) := by decide +kernel
theorem dX10_want_10 : decode cX10_want 10 = .ok (.ireturn, 1) := by decide +kernel
theorem dX10_want_11 : decode cX10_want 11 = .ok (.iload_n 2, 1) := by decide +kernel
theorem dX10_want_12 : decode cX10_want 12 = .ok (.iconst 0, 1) := by decide +kernel
theorem dX10_want_13 : decode cX10_want 13 = .ok (.bipush 99, 2) := by decide +kernel
theorem dX10_want_15 : decode cX10_want 15 = .ok (.invokestatic 53, 3) := by decide +kernel
theorem dX10_want_18 : decode cX10_want 18 = .ok (.ifCond .ne 6, 3) := by decide +kernel
theorem dX10_want_21 : decode cX10_want 21 = .ok (.bipush (-2), 2) := by decide +kernel
theorem dX10_want_23 : decode cX10_want 23 = .ok (.ireturn, 1) := by decide +kernel
theorem dX10_want_24 : decode cX10_want 24 = .ok (.aload_n 0, 1) := by decide +kernel
theorem dX10_want_25 : decode cX10_want 25 = .ok (.getfield 10, 3) := by decide +kernel
theorem dX10_want_28 : decode cX10_want 28 = .ok (.getfield 64, 3) := by decide +kernel
theorem dX10_want_31 : decode cX10_want 31 = .ok (.getfield 71, 3) := by decide +kernel
theorem dX10_want_34 : decode cX10_want 34 = .ok (.iload_n 1, 1) := by decide +kernel
theorem dX10_want_35 : decode cX10_want 35 = .ok (.iaload, 1) := by decide +kernel
theorem dX10_want_36 : decode cX10_want 36 = .ok (.istore_n 3, 1) := by decide +kernel
theorem dX10_want_37 : decode cX10_want 37 = .ok (.aload_n 0, 1) := by decide +kernel
theorem dX10_want_38 : decode cX10_want 38 = .ok (.getfield 10, 3) := by decide +kernel
theorem dX10_want_41 : decode cX10_want 41 = .ok (.getfield 64, 3) := by decide +kernel
theorem dX10_want_44 : decode cX10_want 44 = .ok (.getfield 71, 3) := by decide +kernel
theorem dX10_want_47 : decode cX10_want 47 = .ok (.iload_n 1, 1) := by decide +kernel
theorem dX10_want_48 : decode cX10_want 48 = .ok (.iload_n 2, 1) := by decide +kernel
theorem dX10_want_49 : decode cX10_want 49 = .ok (.iastore, 1) := by decide +kernel
theorem dX10_want_50 : decode cX10_want 50 = .ok (.iload_n 3, 1) := by decide +kernel
theorem dX10_want_51 : decode cX10_want 51 = .ok (.ireturn, 1) := by decide +kernel
theorem dX10_count_0 : decode cX10_count 0 = .ok (.iload_n 1, 1) := by decide +kernel
theorem dX10_count_1 : decode cX10_count 1 = .ok (.iconst 0, 1) := by decide +kernel
theorem dX10_count_2 : decode cX10_count 2 = .ok (.iconst 5, 1) := by decide +kernel
theorem dX10_count_3 : decode cX10_count 3 = .ok (.invokestatic 53, 3) := by decide +kernel
theorem dX10_count_6 : decode cX10_count 6 = .ok (.ifCond .eq 16, 3) := by decide +kernel
theorem dX10_count_9 : decode cX10_count 9 = .ok (.aload_n 0, 1) := by decide +kernel
theorem dX10_count_10 : decode cX10_count 10 = .ok (.getfield 10, 3) := by decide +kernel
theorem dX10_count_13 : decode cX10_count 13 = .ok (.getfield 64, 3) := by decide +kernel
theorem dX10_count_16 : decode cX10_count 16 = .ok (.getfield 68, 3) := by decide +kernel
theorem dX10_count_19 : decode cX10_count 19 = .ok (.iload_n 1, 1) := by decide +kernel
theorem dX10_count_20 : decode cX10_count 20 = .ok (.iaload, 1) := by decide +kernel
theorem dX10_count_21 : decode cX10_count 21 = .ok (.ireturn, 1) := by decide +kernel
theorem dX10_count_22 : decode cX10_count 22 = .ok (.iload_n 1, 1) := by decide +kernel
theorem dX10_count_23 : decode cX10_count 23 = .ok (.tableswitch 112 6 12 #[41, 49, 57, 65, 73, 84, 95], 41) := by decide +kernel
theorem dX10_count_64 : decode cX10_count 64 = .ok (.aload_n 0, 1) := by decide +kernel
theorem dX10_count_65 : decode cX10_count 65 = .ok (.getfield 10, 3) := by decide +kernel
theorem dX10_count_68 : decode cX10_count 68 = .ok (.getfield 74, 3) := by decide +kernel
theorem dX10_count_71 : decode cX10_count 71 = .ok (.ireturn, 1) := by decide +kernel
theorem dX10_count_72 : decode cX10_count 72 = .ok (.aload_n 0, 1) := by decide +kernel
theorem dX10_count_73 : decode cX10_count 73 = .ok (.getfield 19, 3) := by decide +kernel
theorem dX10_count_76 : decode cX10_count 76 = .ok (.getfield 78, 3) := by decide +kernel
theorem dX10_count_79 : decode cX10_count 79 = .ok (.ireturn, 1) := by decide +kernel
theorem dX10_count_80 : decode cX10_count 80 = .ok (.aload_n 0, 1) := by decide +kernel
theorem dX10_count_81 : decode cX10_count 81 = .ok (.getfield 26, 3) := by decide +kernel
theorem dX10_count_84 : decode cX10_count 84 = .ok (.getfield 79, 3) := by decide +kernel
theorem dX10_count_87 : decode cX10_count 87 = .ok (.ireturn, 1) := by decide +kernel
theorem dX10_count_88 : decode cX10_count 88 = .ok (.aload_n 0, 1) := by decide +kernel
theorem dX10_count_89 : decode cX10_count 89 = .ok (.getfield 33, 3) := by decide +kernel
theorem dX10_count_92 : decode cX10_count 92 = .ok (.getfield 80, 3) := by decide +kernel
theorem dX10_count_95 : decode cX10_count 95 = .ok (.ireturn, 1) := by decide +kernel
theorem dX10_count_96 : decode cX10_count 96 = .ok (.aload_n 0, 1) := by decide +kernel
theorem dX10_count_97 : decode cX10_count 97 = .ok (.getfield 10, 3) := by decide +kernel
theorem dX10_count_100 : decode cX10_count 100 = .ok (.getfield 81, 3) := by decide +kernel
theorem dX10_count_103 : decode cX10_count 103 = .ok (.getfield 85, 3) := by decide +kernel
theorem dX10_count_106 : decode cX10_count 106 = .ok (.ireturn, 1) := by decide +kernel
theorem dX10_count_107 : decode cX10_count 107 = .ok (.aload_n 0, 1) := by decide +kernel
theorem dX10_count_108 : decode cX10_count 108 = .ok (.getfield 10, 3) := by decide +kernel
theorem dX10_count_111 : decode cX10_count 111 = .ok (.getfield 64, 3) := by decide +kernel
theorem dX10_count_114 : decode cX10_count 114 = .ok (.getfield 88, 3) := by decide +kernel
theorem dX10_count_117 : decode cX10_count 117 = .ok (.ireturn, 1) := by decide +kernel
theorem dX10_count_118 : decode cX10_count 118 = .ok (.aload_n 0, 1) := by decide +kernel
theorem dX10_count_119 : decode cX10_count 119 = .ok (.getfield 10, 3) := by decide +kernel
theorem dX10_count_122 : decode cX10_count 122 = .ok (.getfield 81, 3) := by decide +kernel
theorem dX10_count_125 : decode cX10_count 125 = .ok (.getfield 91, 3) := by decide +kernel
theorem dX10_count_128 : decode cX10_count 128 = .ok (.getfield 95, 3) := by decide +kernel
theorem dX10_count_131 : decode cX10_count 131 = .ok (.getfield 101, 3) := by decide +kernel
theorem dX10_count_134 : decode cX10_count 134 = .ok (.ireturn, 1) := by decide +kernel
theorem dX10_count_135 : decode cX10_count 135 = .ok (.bipush (-2), 2) := by decide +kernel
theorem dX10_count_137 : decode cX10_count 137 = .ok (.ireturn, 1) := by decide +kernel
theorem dX10_pass_0 : decode cX10_pass 0 = .ok (.aload_n 0, 1) := by decide +kernel
theorem dX10_pass_1 : decode cX10_pass 1 = .ok (.getfield 10, 3) := by decide +kernel
theorem dX10_pass_4 : decode cX10_pass 4 = .ok (.getfield 64, 3) := by decide +kernel
theorem dX10_pass_7 : decode cX10_pass 7 = .ok (.iload_n 1, 1) := by decide +kernel
theorem dX10_pass_8 : decode cX10_pass 8 = .ok (.invokevirtual 104, 3) := by decide +kernel
theorem dX10_pass_11 : decode cX10_pass 11 = .ok (.ifCond .eq 27, 3) := by decide +kernel
theorem dX10_pass_14 : decode cX10_pass 14 = .ok (.aload_n 0, 1) := by decide +kernel
theorem dX10_pass_15 : decode cX10_pass 15 = .ok (.getfield 10, 3) := by decide +kernel
theorem dX10_pass_18 : decode cX10_pass 18 = .ok (.getfield 64, 3) := by decide +kernel
theorem dX10_pass_21 : decode cX10_pass 21 = .ok (.aload_n 0, 1) := by decide +kernel
theorem dX10_pass_22 : decode cX10_pass 22 = .ok (.getfield 10, 3) := by decide +kernel
theorem dX10_pass_25 : decode cX10_pass 25 = .ok (.getfield 64, 3) := by decide +kernel
theorem dX10_pass_28 : decode cX10_pass 28 = .ok (.invokevirtual 108, 3) := by decide +kernel
theorem dX10_pass_31 : decode cX10_pass 31 = .ok (.iload_n 1, 1) := by decide +kernel
theorem dX10_pass_32 : decode cX10_pass 32 = .ok (.invokevirtual 112, 3) := by decide +kernel
theorem dX10_pass_35 : decode cX10_pass 35 = .ok (.goto 5, 3) := by decide +kernel
theorem dX10_pass_38 : decode cX10_pass 38 = .ok (.bipush (-2), 2) := by decide +kernel
theorem dX10_pass_40 : decode cX10_pass 40 = .ok (.ireturn, 1) := by decide +kernel
theorem dX10_feed_0 : decode cX10_feed 0 = .ok (.iload_n 3, 1) := by decide +kernel
theorem dX10_feed_1 : decode cX10_feed 1 = .ok (.iconst 1, 1) := by decide +kernel
theorem dX10_feed_2 : decode cX10_feed 2 = .ok (.bipush 8, 2) := by decide +kernel
theorem dX10_feed_4 : decode cX10_feed 4 = .ok (.invokestatic 53, 3) := by decide +kernel
theorem dX10_feed_7 : decode cX10_feed 7 = .ok (.ifCond .ne 6, 3) := by decide +kernel
theorem dX10_feed_10 : decode cX10_feed 10 = .ok (.bipush (-2), 2) := by decide +kernel
theorem dX10_feed_12 : decode cX10_feed 12 = .ok (.ireturn, 1) := by decide +kernel
theorem dX10_feed_13 : decode cX10_feed 13 = .ok (.aload_n 0, 1) := by decide +kernel
theorem dX10_feed_14 : decode cX10_feed 14 = .ok (.getfield 10, 3) := by decide +kernel
theorem dX10_feed_17 : decode cX10_feed 17 = .ok (.getfield 81, 3) := by decide +kernel
theorem dX10_feed_20 : decode cX10_feed 20 = .ok (.getfield 91, 3) := by decide +kernel
theorem dX10_feed_23 : decode cX10_feed 23 = .ok (.getfield 95, 3) := by decide +kernel
theorem dX10_feed_26 : decode cX10_feed 26 = .ok (.astore 4, 2) := by decide +kernel
theorem dX10_feed_28 : decode cX10_feed 28 = .ok (.aload 4, 2) := by decide +kernel
theorem dX10_feed_30 : decode cX10_feed 30 = .ok (.getfield 101, 3) := by decide +kernel
theorem dX10_feed_33 : decode cX10_feed 33 = .ok (.iload_n 3, 1) := by decide +kernel
theorem dX10_feed_34 : decode cX10_feed 34 = .ok (.iadd, 1) := by decide +kernel
theorem dX10_feed_35 : decode cX10_feed 35 = .ok (.sipush 160, 3) := by decide +kernel
theorem dX10_feed_38 : decode cX10_feed 38 = .ok (.if_icmp .le 6, 3) := by decide +kernel
theorem dX10_feed_41 : decode cX10_feed 41 = .ok (.bipush (-4), 2) := by decide +kernel
theorem dX10_feed_43 : decode cX10_feed 43 = .ok (.ireturn, 1) := by decide +kernel
theorem dX10_feed_44 : decode cX10_feed 44 = .ok (.iload_n 3, 1) := by decide +kernel
theorem dX10_feed_45 : decode cX10_feed 45 = .ok (.iconst 1, 1) := by decide +kernel
theorem dX10_feed_46 : decode cX10_feed 46 = .ok (.isub, 1) := by decide +kernel
theorem dX10_feed_47 : decode cX10_feed 47 = .ok (.istore 5, 2) := by decide +kernel
theorem dX10_feed_49 : decode cX10_feed 49 = .ok (.iload 5, 2) := by decide +kernel
theorem dX10_feed_51 : decode cX10_feed 51 = .ok (.ifCond .lt 26, 3) := by decide +kernel
theorem dX10_feed_54 : decode cX10_feed 54 = .ok (.aload 4, 2) := by decide +kernel
theorem dX10_feed_56 : decode cX10_feed 56 = .ok (.lload_n 1, 1) := by decide +kernel
theorem dX10_feed_57 : decode cX10_feed 57 = .ok (.bipush 8, 2) := by decide +kernel
theorem dX10_feed_59 : decode cX10_feed 59 = .ok (.iload 5, 2) := by decide +kernel
theorem dX10_feed_61 : decode cX10_feed 61 = .ok (.imul, 1) := by decide +kernel
theorem dX10_feed_62 : decode cX10_feed 62 = .ok (.lushr, 1) := by decide +kernel
theorem dX10_feed_63 : decode cX10_feed 63 = .ok (.l2i, 1) := by decide +kernel
theorem dX10_feed_64 : decode cX10_feed 64 = .ok (.sipush 255, 3) := by decide +kernel
theorem dX10_feed_67 : decode cX10_feed 67 = .ok (.iand, 1) := by decide +kernel
theorem dX10_feed_68 : decode cX10_feed 68 = .ok (.invokevirtual 116, 3) := by decide +kernel
theorem dX10_feed_71 : decode cX10_feed 71 = .ok (.iinc 5 (-1), 3) := by decide +kernel
theorem dX10_feed_74 : decode cX10_feed 74 = .ok (.goto (-25), 3) := by decide +kernel
theorem dX10_feed_77 : decode cX10_feed 77 = .ok (.aload 4, 2) := by decide +kernel
theorem dX10_feed_79 : decode cX10_feed 79 = .ok (.getfield 101, 3) := by decide +kernel
theorem dX10_feed_82 : decode cX10_feed 82 = .ok (.ireturn, 1) := by decide +kernel
theorem dX10_text_0 : decode cX10_text 0 = .ok (.aload_n 0, 1) := by decide +kernel
theorem dX10_text_1 : decode cX10_text 1 = .ok (.getfield 10, 3) := by decide +kernel
theorem dX10_text_4 : decode cX10_text 4 = .ok (.getfield 81, 3) := by decide +kernel
theorem dX10_text_7 : decode cX10_text 7 = .ok (.astore_n 1, 1) := by decide +kernel
theorem dX10_text_8 : decode cX10_text 8 = .ok (.aload_n 1, 1) := by decide +kernel
theorem dX10_text_9 : decode cX10_text 9 = .ok (.getfield 85, 3) := by decide +kernel
theorem dX10_text_12 : decode cX10_text 12 = .ok (.bipush 6, 2) := by decide +kernel
theorem dX10_text_14 : decode cX10_text 14 = .ok (.if_icmp .lt 6, 3) := by decide +kernel
theorem dX10_text_17 : decode cX10_text 17 = .ok (.bipush (-4), 2) := by decide +kernel
theorem dX10_text_19 : decode cX10_text 19 = .ok (.ireturn, 1) := by decide +kernel
theorem dX10_text_20 : decode cX10_text 20 = .ok (.aload_n 1, 1) := by decide +kernel
theorem dX10_text_21 : decode cX10_text 21 = .ok (.getfield 91, 3) := by decide +kernel
theorem dX10_text_24 : decode cX10_text 24 = .ok (.invokevirtual 120, 3) := by decide +kernel
theorem dX10_text_27 : decode cX10_text 27 = .ok (.istore_n 2, 1) := by decide +kernel
theorem dX10_text_28 : decode cX10_text 28 = .ok (.iload_n 2, 1) := by decide +kernel
theorem dX10_text_29 : decode cX10_text 29 = .ok (.ifCond .ge 10, 3) := by decide +kernel
theorem dX10_text_32 : decode cX10_text 32 = .ok (.aload_n 1, 1) := by decide +kernel
theorem dX10_text_33 : decode cX10_text 33 = .ok (.invokevirtual 123, 3) := by decide +kernel
theorem dX10_text_36 : decode cX10_text 36 = .ok (.goto 7, 3) := by decide +kernel
theorem dX10_text_39 : decode cX10_text 39 = .ok (.bipush (-100), 2) := by decide +kernel
theorem dX10_text_41 : decode cX10_text 41 = .ok (.iload_n 2, 1) := by decide +kernel
theorem dX10_text_42 : decode cX10_text 42 = .ok (.isub, 1) := by decide +kernel
theorem dX10_text_43 : decode cX10_text 43 = .ok (.ireturn, 1) := by decide +kernel
theorem dX10_force_0 : decode cX10_force 0 = .ok (.iload_n 1, 1) := by decide +kernel
theorem dX10_force_1 : decode cX10_force 1 = .ok (.iconst 0, 1) := by decide +kernel
theorem dX10_force_2 : decode cX10_force 2 = .ok (.aload_n 0, 1) := by decide +kernel
theorem dX10_force_3 : decode cX10_force 3 = .ok (.getfield 10, 3) := by decide +kernel
theorem dX10_force_6 : decode cX10_force 6 = .ok (.getfield 81, 3) := by decide +kernel
theorem dX10_force_9 : decode cX10_force 9 = .ok (.getfield 85, 3) := by decide +kernel
theorem dX10_force_12 : decode cX10_force 12 = .ok (.iconst 1, 1) := by decide +kernel
theorem dX10_force_13 : decode cX10_force 13 = .ok (.isub, 1) := by decide +kernel
theorem dX10_force_14 : decode cX10_force 14 = .ok (.invokestatic 53, 3) := by decide +kernel
theorem dX10_force_17 : decode cX10_force 17 = .ok (.ifCond .ne 6, 3) := by decide +kernel
theorem dX10_force_20 : decode cX10_force 20 = .ok (.bipush (-2), 2) := by decide +kernel
theorem dX10_force_22 : decode cX10_force 22 = .ok (.ireturn, 1) := by decide +kernel
theorem dX10_force_23 : decode cX10_force 23 = .ok (.aload_n 0, 1) := by decide +kernel
theorem dX10_force_24 : decode cX10_force 24 = .ok (.getfield 10, 3) := by decide +kernel
theorem dX10_force_27 : decode cX10_force 27 = .ok (.getfield 64, 3) := by decide +kernel
theorem dX10_force_30 : decode cX10_force 30 = .ok (.getfield 88, 3) := by decide +kernel
theorem dX10_force_33 : decode cX10_force 33 = .ok (.istore_n 2, 1) := by decide +kernel
theorem dX10_force_34 : decode cX10_force 34 = .ok (.aload_n 0, 1) := by decide +kernel
theorem dX10_force_35 : decode cX10_force 35 = .ok (.getfield 10, 3) := by decide +kernel
theorem dX10_force_38 : decode cX10_force 38 = .ok (.getfield 64, 3) := by decide +kernel
theorem dX10_force_41 : decode cX10_force 41 = .ok (.iload_n 1, 1) := by decide +kernel
theorem dX10_force_42 : decode cX10_force 42 = .ok (.putfield 88, 3) := by decide +kernel
theorem dX10_force_45 : decode cX10_force 45 = .ok (.iload_n 2, 1) := by decide +kernel
theorem dX10_force_46 : decode cX10_force 46 = .ok (.ireturn, 1) := by decide +kernel
theorem dX10_asks_0 : decode cX10_asks 0 = .ok (.iload_n 1, 1) := by decide +kernel
theorem dX10_asks_1 : decode cX10_asks 1 = .ok (.iconst 0, 1) := by decide +kernel
theorem dX10_asks_2 : decode cX10_asks 2 = .ok (.iconst 2, 1) := by decide +kernel
theorem dX10_asks_3 : decode cX10_asks 3 = .ok (.invokestatic 53, 3) := by decide +kernel
theorem dX10_asks_6 : decode cX10_asks 6 = .ok (.ifCond .eq 26, 3) := by decide +kernel
theorem dX10_asks_9 : decode cX10_asks 9 = .ok (.aload_n 0, 1) := by decide +kernel
theorem dX10_asks_10 : decode cX10_asks 10 = .ok (.getfield 10, 3) := by decide +kernel
theorem dX10_asks_13 : decode cX10_asks 13 = .ok (.getfield 64, 3) := by decide +kernel
theorem dX10_asks_16 : decode cX10_asks 16 = .ok (.iload_n 2, 1) := by decide +kernel
theorem dX10_asks_17 : decode cX10_asks 17 = .ok (.invokevirtual 104, 3) := by decide +kernel
theorem dX10_asks_20 : decode cX10_asks 20 = .ok (.ifCond .eq 12, 3) := by decide +kernel
theorem dX10_asks_23 : decode cX10_asks 23 = .ok (.iload_n 3, 1) := by decide +kernel
theorem dX10_asks_24 : decode cX10_asks 24 = .ok (.iconst 0, 1) := by decide +kernel
theorem dX10_asks_25 : decode cX10_asks 25 = .ok (.iconst 5, 1) := by decide +kernel
theorem dX10_asks_26 : decode cX10_asks 26 = .ok (.invokestatic 53, 3) := by decide +kernel
theorem dX10_asks_29 : decode cX10_asks 29 = .ok (.ifCond .ne 6, 3) := by decide +kernel
theorem dX10_asks_32 : decode cX10_asks 32 = .ok (.bipush (-2), 2) := by decide +kernel
theorem dX10_asks_34 : decode cX10_asks 34 = .ok (.ireturn, 1) := by decide +kernel
theorem dX10_asks_35 : decode cX10_asks 35 = .ok (.aload_n 0, 1) := by decide +kernel
theorem dX10_asks_36 : decode cX10_asks 36 = .ok (.getfield 10, 3) := by decide +kernel
theorem dX10_asks_39 : decode cX10_asks 39 = .ok (.aload_n 0, 1) := by decide +kernel
theorem dX10_asks_40 : decode cX10_asks 40 = .ok (.getfield 10, 3) := by decide +kernel
theorem dX10_asks_43 : decode cX10_asks 43 = .ok (.getfield 64, 3) := by decide +kernel
theorem dX10_asks_46 : decode cX10_asks 46 = .ok (.invokevirtual 108, 3) := by decide +kernel
theorem dX10_asks_49 : decode cX10_asks 49 = .ok (.invokevirtual 126, 3) := by decide +kernel
theorem dX10_asks_52 : decode cX10_asks 52 = .ok (.aload_n 0, 1) := by decide +kernel
theorem dX10_asks_53 : decode cX10_asks 53 = .ok (.getfield 10, 3) := by decide +kernel
theorem dX10_asks_56 : decode cX10_asks 56 = .ok (.iload_n 1, 1) := by decide +kernel
theorem dX10_asks_57 : decode cX10_asks 57 = .ok (.iload_n 2, 1) := by decide +kernel
theorem dX10_asks_58 : decode cX10_asks 58 = .ok (.iload_n 3, 1) := by decide +kernel
theorem dX10_asks_59 : decode cX10_asks 59 = .ok (.invokevirtual 129, 3) := by decide +kernel
theorem dX10_asks_62 : decode cX10_asks 62 = .ok (.ireturn, 1) := by decide +kernel
theorem dX10_say_0 : decode cX10_say 0 = .ok (.iload_n 1, 1) := by decide +kernel
theorem dX10_say_1 : decode cX10_say 1 = .ok (.iconst 0, 1) := by decide +kernel
theorem dX10_say_2 : decode cX10_say 2 = .ok (.iconst 5, 1) := by decide +kernel
theorem dX10_say_3 : decode cX10_say 3 = .ok (.invokestatic 53, 3) := by decide +kernel
theorem dX10_say_6 : decode cX10_say 6 = .ok (.ifCond .eq 22, 3) := by decide +kernel
theorem dX10_say_9 : decode cX10_say 9 = .ok (.iload_n 2, 1) := by decide +kernel
theorem dX10_say_10 : decode cX10_say 10 = .ok (.iconst 0, 1) := by decide +kernel
theorem dX10_say_11 : decode cX10_say 11 = .ok (.iconst 5, 1) := by decide +kernel
theorem dX10_say_12 : decode cX10_say 12 = .ok (.invokestatic 53, 3) := by decide +kernel
theorem dX10_say_15 : decode cX10_say 15 = .ok (.ifCond .eq 13, 3) := by decide +kernel
theorem dX10_say_18 : decode cX10_say 18 = .ok (.iload_n 3, 1) := by decide +kernel
theorem dX10_say_19 : decode cX10_say 19 = .ok (.iconst 0, 1) := by decide +kernel
theorem dX10_say_20 : decode cX10_say 20 = .ok (.bipush 9, 2) := by decide +kernel
theorem dX10_say_22 : decode cX10_say 22 = .ok (.invokestatic 53, 3) := by decide +kernel
theorem dX10_say_25 : decode cX10_say 25 = .ok (.ifCond .ne 6, 3) := by decide +kernel
theorem dX10_say_28 : decode cX10_say 28 = .ok (.bipush (-2), 2) := by decide +kernel
theorem dX10_say_30 : decode cX10_say 30 = .ok (.ireturn, 1) := by decide +kernel
theorem dX10_say_31 : decode cX10_say 31 = .ok (.aload_n 0, 1) := by decide +kernel
theorem dX10_say_32 : decode cX10_say 32 = .ok (.getfield 10, 3) := by decide +kernel
theorem dX10_say_35 : decode cX10_say 35 = .ok (.getfield 74, 3) := by decide +kernel
theorem dX10_say_38 : decode cX10_say 38 = .ok (.bipush 8, 2) := by decide +kernel
theorem dX10_say_40 : decode cX10_say 40 = .ok (.if_icmp .lt 8, 3) := by decide +kernel
theorem dX10_say_43 : decode cX10_say 43 = .ok (.bipush (-4), 2) := by decide +kernel
theorem dX10_say_45 : decode cX10_say 45 = .ok (.goto 13, 3) := by decide +kernel
theorem dX10_say_48 : decode cX10_say 48 = .ok (.aload_n 0, 1) := by decide +kernel
theorem dX10_say_49 : decode cX10_say 49 = .ok (.getfield 10, 3) := by decide +kernel
theorem dX10_say_52 : decode cX10_say 52 = .ok (.iload_n 1, 1) := by decide +kernel
theorem dX10_say_53 : decode cX10_say 53 = .ok (.iload_n 2, 1) := by decide +kernel
theorem dX10_say_54 : decode cX10_say 54 = .ok (.iload_n 3, 1) := by decide +kernel
theorem dX10_say_55 : decode cX10_say 55 = .ok (.invokevirtual 133, 3) := by decide +kernel
theorem dX10_say_58 : decode cX10_say 58 = .ok (.ireturn, 1) := by decide +kernel
theorem dX10_told_0 : decode cX10_told 0 = .ok (.iload_n 1, 1) := by decide +kernel
theorem dX10_told_1 : decode cX10_told 1 = .ok (.iconst 0, 1) := by decide +kernel
theorem dX10_told_2 : decode cX10_told 2 = .ok (.aload_n 0, 1) := by decide +kernel
theorem dX10_told_3 : decode cX10_told 3 = .ok (.getfield 10, 3) := by decide +kernel
theorem dX10_told_6 : decode cX10_told 6 = .ok (.getfield 74, 3) := by decide +kernel
theorem dX10_told_9 : decode cX10_told 9 = .ok (.iconst 1, 1) := by decide +kernel
theorem dX10_told_10 : decode cX10_told 10 = .ok (.isub, 1) := by decide +kernel
theorem dX10_told_11 : decode cX10_told 11 = .ok (.invokestatic 53, 3) := by decide +kernel
theorem dX10_told_14 : decode cX10_told 14 = .ok (.ifCond .ne 6, 3) := by decide +kernel
theorem dX10_told_17 : decode cX10_told 17 = .ok (.bipush (-5), 2) := by decide +kernel
theorem dX10_told_19 : decode cX10_told 19 = .ok (.ireturn, 1) := by decide +kernel
theorem dX10_told_20 : decode cX10_told 20 = .ok (.aload_n 0, 1) := by decide +kernel
theorem dX10_told_21 : decode cX10_told 21 = .ok (.getfield 10, 3) := by decide +kernel
theorem dX10_told_24 : decode cX10_told 24 = .ok (.getfield 64, 3) := by decide +kernel
theorem dX10_told_27 : decode cX10_told 27 = .ok (.iload_n 2, 1) := by decide +kernel
theorem dX10_told_28 : decode cX10_told 28 = .ok (.invokevirtual 104, 3) := by decide +kernel
theorem dX10_told_31 : decode cX10_told 31 = .ok (.ifCond .ne 6, 3) := by decide +kernel
theorem dX10_told_34 : decode cX10_told 34 = .ok (.bipush (-7), 2) := by decide +kernel
theorem dX10_told_36 : decode cX10_told 36 = .ok (.ireturn, 1) := by decide +kernel
theorem dX10_told_37 : decode cX10_told 37 = .ok (.aload_n 0, 1) := by decide +kernel
theorem dX10_told_38 : decode cX10_told 38 = .ok (.getfield 10, 3) := by decide +kernel
theorem dX10_told_41 : decode cX10_told 41 = .ok (.aload_n 0, 1) := by decide +kernel
theorem dX10_told_42 : decode cX10_told 42 = .ok (.getfield 10, 3) := by decide +kernel
theorem dX10_told_45 : decode cX10_told 45 = .ok (.getfield 64, 3) := by decide +kernel
theorem dX10_told_48 : decode cX10_told 48 = .ok (.invokevirtual 108, 3) := by decide +kernel
theorem dX10_told_51 : decode cX10_told 51 = .ok (.invokevirtual 126, 3) := by decide +kernel
theorem dX10_told_54 : decode cX10_told 54 = .ok (.iload_n 3, 1) := by decide +kernel
theorem dX10_told_55 : decode cX10_told 55 = .ok (.tableswitch 120 0 5 #[37, 47, 57, 67, 85, 103], 37) := by decide +kernel
theorem dX10_told_92 : decode cX10_told 92 = .ok (.aload_n 0, 1) := by decide +kernel
theorem dX10_told_93 : decode cX10_told 93 = .ok (.getfield 10, 3) := by decide +kernel
theorem dX10_told_96 : decode cX10_told 96 = .ok (.getfield 135, 3) := by decide +kernel
theorem dX10_told_99 : decode cX10_told 99 = .ok (.iload_n 1, 1) := by decide +kernel
theorem dX10_told_100 : decode cX10_told 100 = .ok (.iaload, 1) := by decide +kernel
theorem dX10_told_101 : decode cX10_told 101 = .ok (.ireturn, 1) := by decide +kernel
theorem dX10_told_102 : decode cX10_told 102 = .ok (.aload_n 0, 1) := by decide +kernel
theorem dX10_told_103 : decode cX10_told 103 = .ok (.getfield 10, 3) := by decide +kernel
theorem dX10_told_106 : decode cX10_told 106 = .ok (.getfield 138, 3) := by decide +kernel
theorem dX10_told_109 : decode cX10_told 109 = .ok (.iload_n 1, 1) := by decide +kernel
theorem dX10_told_110 : decode cX10_told 110 = .ok (.iaload, 1) := by decide +kernel
theorem dX10_told_111 : decode cX10_told 111 = .ok (.ireturn, 1) := by decide +kernel
theorem dX10_told_112 : decode cX10_told 112 = .ok (.aload_n 0, 1) := by decide +kernel
theorem dX10_told_113 : decode cX10_told 113 = .ok (.getfield 10, 3) := by decide +kernel
theorem dX10_told_116 : decode cX10_told 116 = .ok (.getfield 141, 3) := by decide +kernel
theorem dX10_told_119 : decode cX10_told 119 = .ok (.iload_n 1, 1) := by decide +kernel
theorem dX10_told_120 : decode cX10_told 120 = .ok (.iaload, 1) := by decide +kernel
theorem dX10_told_121 : decode cX10_told 121 = .ok (.ireturn, 1) := by decide +kernel
theorem dX10_told_122 : decode cX10_told 122 = .ok (.aload_n 0, 1) := by decide +kernel
theorem dX10_told_123 : decode cX10_told 123 = .ok (.getfield 10, 3) := by decide +kernel
theorem dX10_told_126 : decode cX10_told 126 = .ok (.getfield 144, 3) := by decide +kernel
theorem dX10_told_129 : decode cX10_told 129 = .ok (.aload_n 0, 1) := by decide +kernel
theorem dX10_told_130 : decode cX10_told 130 = .ok (.getfield 10, 3) := by decide +kernel
theorem dX10_told_133 : decode cX10_told 133 = .ok (.iload_n 1, 1) := by decide +kernel
theorem dX10_told_134 : decode cX10_told 134 = .ok (.iload_n 2, 1) := by decide +kernel
theorem dX10_told_135 : decode cX10_told 135 = .ok (.invokevirtual 147, 3) := by decide +kernel
theorem dX10_told_138 : decode cX10_told 138 = .ok (.iaload, 1) := by decide +kernel
theorem dX10_told_139 : decode cX10_told 139 = .ok (.ireturn, 1) := by decide +kernel
theorem dX10_told_140 : decode cX10_told 140 = .ok (.aload_n 0, 1) := by decide +kernel
theorem dX10_told_141 : decode cX10_told 141 = .ok (.getfield 10, 3) := by decide +kernel
theorem dX10_told_144 : decode cX10_told 144 = .ok (.getfield 150, 3) := by decide +kernel
theorem dX10_told_147 : decode cX10_told 147 = .ok (.aload_n 0, 1) := by decide +kernel
theorem dX10_told_148 : decode cX10_told 148 = .ok (.getfield 10, 3) := by decide +kernel
theorem dX10_told_151 : decode cX10_told 151 = .ok (.iload_n 1, 1) := by decide +kernel
theorem dX10_told_152 : decode cX10_told 152 = .ok (.iload_n 2, 1) := by decide +kernel
theorem dX10_told_153 : decode cX10_told 153 = .ok (.invokevirtual 147, 3) := by decide +kernel
theorem dX10_told_156 : decode cX10_told 156 = .ok (.iaload, 1) := by decide +kernel
theorem dX10_told_157 : decode cX10_told 157 = .ok (.ireturn, 1) := by decide +kernel
theorem dX10_told_158 : decode cX10_told 158 = .ok (.aload_n 0, 1) := by decide +kernel
theorem dX10_told_159 : decode cX10_told 159 = .ok (.getfield 10, 3) := by decide +kernel
theorem dX10_told_162 : decode cX10_told 162 = .ok (.iload_n 1, 1) := by decide +kernel
theorem dX10_told_163 : decode cX10_told 163 = .ok (.invokevirtual 153, 3) := by decide +kernel
theorem dX10_told_166 : decode cX10_told 166 = .ok (.ifCond .eq 7, 3) := by decide +kernel
theorem dX10_told_169 : decode cX10_told 169 = .ok (.iconst 1, 1) := by decide +kernel
theorem dX10_told_170 : decode cX10_told 170 = .ok (.goto 4, 3) := by decide +kernel
theorem dX10_told_173 : decode cX10_told 173 = .ok (.iconst 0, 1) := by decide +kernel
theorem dX10_told_174 : decode cX10_told 174 = .ok (.ireturn, 1) := by decide +kernel
theorem dX10_told_175 : decode cX10_told 175 = .ok (.bipush (-7), 2) := by decide +kernel
theorem dX10_told_177 : decode cX10_told 177 = .ok (.ireturn, 1) := by decide +kernel
theorem dX10_run_0 : decode cX10_run 0 = .ok (.iload_n 1, 1) := by decide +kernel
theorem dX10_run_1 : decode cX10_run 1 = .ok (.iconst 0, 1) := by decide +kernel
theorem dX10_run_2 : decode cX10_run 2 = .ok (.bipush 7, 2) := by decide +kernel
theorem dX10_run_4 : decode cX10_run 4 = .ok (.invokestatic 53, 3) := by decide +kernel
theorem dX10_run_7 : decode cX10_run 7 = .ok (.ifCond .ne 7, 3) := by decide +kernel
theorem dX10_run_10 : decode cX10_run 10 = .ok (.ldc2_w 156, 3) := by decide +kernel
theorem dX10_run_13 : decode cX10_run 13 = .ok (.lreturn, 1) := by decide +kernel
theorem dX10_run_14 : decode cX10_run 14 = .ok (.aload_n 0, 1) := by decide +kernel
theorem dX10_run_15 : decode cX10_run 15 = .ok (.getfield 10, 3) := by decide +kernel
theorem dX10_run_18 : decode cX10_run 18 = .ok (.aload_n 0, 1) := by decide +kernel
theorem dX10_run_19 : decode cX10_run 19 = .ok (.getfield 10, 3) := by decide +kernel
theorem dX10_run_22 : decode cX10_run 22 = .ok (.getfield 64, 3) := by decide +kernel
theorem dX10_run_25 : decode cX10_run 25 = .ok (.invokevirtual 108, 3) := by decide +kernel
theorem dX10_run_28 : decode cX10_run 28 = .ok (.invokevirtual 158, 3) := by decide +kernel
theorem dX10_run_31 : decode cX10_run 31 = .ok (.lstore_n 2, 1) := by decide +kernel
theorem dX10_run_32 : decode cX10_run 32 = .ok (.iload_n 1, 1) := by decide +kernel
theorem dX10_run_33 : decode cX10_run 33 = .ok (.ifCond .ne 5, 3) := by decide +kernel
theorem dX10_run_36 : decode cX10_run 36 = .ok (.lload_n 2, 1) := by decide +kernel
theorem dX10_run_37 : decode cX10_run 37 = .ok (.lreturn, 1) := by decide +kernel
theorem dX10_run_38 : decode cX10_run 38 = .ok (.iload_n 1, 1) := by decide +kernel
theorem dX10_run_39 : decode cX10_run 39 = .ok (.iconst 1, 1) := by decide +kernel
theorem dX10_run_40 : decode cX10_run 40 = .ok (.if_icmp .ne 14, 3) := by decide +kernel
theorem dX10_run_43 : decode cX10_run 43 = .ok (.aload_n 0, 1) := by decide +kernel
theorem dX10_run_44 : decode cX10_run 44 = .ok (.getfield 10, 3) := by decide +kernel
theorem dX10_run_47 : decode cX10_run 47 = .ok (.getfield 162, 3) := by decide +kernel
theorem dX10_run_50 : decode cX10_run 50 = .ok (.i2l, 1) := by decide +kernel
theorem dX10_run_51 : decode cX10_run 51 = .ok (.goto 18, 3) := by decide +kernel
theorem dX10_run_54 : decode cX10_run 54 = .ok (.ldc 165, 2) := by decide +kernel
theorem dX10_run_56 : decode cX10_run 56 = .ok (.aload_n 0, 1) := by decide +kernel
theorem dX10_run_57 : decode cX10_run 57 = .ok (.getfield 10, 3) := by decide +kernel
theorem dX10_run_60 : decode cX10_run 60 = .ok (.getfield 166, 3) := by decide +kernel
theorem dX10_run_63 : decode cX10_run 63 = .ok (.iload_n 1, 1) := by decide +kernel
theorem dX10_run_64 : decode cX10_run 64 = .ok (.iconst 2, 1) := by decide +kernel
theorem dX10_run_65 : decode cX10_run 65 = .ok (.isub, 1) := by decide +kernel
theorem dX10_run_66 : decode cX10_run 66 = .ok (.iaload, 1) := by decide +kernel
theorem dX10_run_67 : decode cX10_run 67 = .ok (.isub, 1) := by decide +kernel
theorem dX10_run_68 : decode cX10_run 68 = .ok (.i2l, 1) := by decide +kernel
theorem dX10_run_69 : decode cX10_run 69 = .ok (.lreturn, 1) := by decide +kernel
theorem dX10_minute_0 : decode cX10_minute 0 = .ok (.iload_n 1, 1) := by decide +kernel
theorem dX10_minute_1 : decode cX10_minute 1 = .ok (.iconst 0, 1) := by decide +kernel
theorem dX10_minute_2 : decode cX10_minute 2 = .ok (.aload_n 0, 1) := by decide +kernel
theorem dX10_minute_3 : decode cX10_minute 3 = .ok (.getfield 10, 3) := by decide +kernel
theorem dX10_minute_6 : decode cX10_minute 6 = .ok (.getfield 74, 3) := by decide +kernel
theorem dX10_minute_9 : decode cX10_minute 9 = .ok (.iconst 1, 1) := by decide +kernel
theorem dX10_minute_10 : decode cX10_minute 10 = .ok (.isub, 1) := by decide +kernel
theorem dX10_minute_11 : decode cX10_minute 11 = .ok (.invokestatic 53, 3) := by decide +kernel
theorem dX10_minute_14 : decode cX10_minute 14 = .ok (.ifCond .ne 6, 3) := by decide +kernel
theorem dX10_minute_17 : decode cX10_minute 17 = .ok (.bipush (-5), 2) := by decide +kernel
theorem dX10_minute_19 : decode cX10_minute 19 = .ok (.ireturn, 1) := by decide +kernel
theorem dX10_minute_20 : decode cX10_minute 20 = .ok (.iload_n 2, 1) := by decide +kernel
theorem dX10_minute_21 : decode cX10_minute 21 = .ok (.iconst 0, 1) := by decide +kernel
theorem dX10_minute_22 : decode cX10_minute 22 = .ok (.iconst 1, 1) := by decide +kernel
theorem dX10_minute_23 : decode cX10_minute 23 = .ok (.invokestatic 53, 3) := by decide +kernel
theorem dX10_minute_26 : decode cX10_minute 26 = .ok (.ifCond .ne 6, 3) := by decide +kernel
theorem dX10_minute_29 : decode cX10_minute 29 = .ok (.bipush (-7), 2) := by decide +kernel
theorem dX10_minute_31 : decode cX10_minute 31 = .ok (.ireturn, 1) := by decide +kernel
theorem dX10_minute_32 : decode cX10_minute 32 = .ok (.aload_n 0, 1) := by decide +kernel
theorem dX10_minute_33 : decode cX10_minute 33 = .ok (.getfield 10, 3) := by decide +kernel
theorem dX10_minute_36 : decode cX10_minute 36 = .ok (.aload_n 0, 1) := by decide +kernel
theorem dX10_minute_37 : decode cX10_minute 37 = .ok (.getfield 10, 3) := by decide +kernel
theorem dX10_minute_40 : decode cX10_minute 40 = .ok (.getfield 64, 3) := by decide +kernel
theorem dX10_minute_43 : decode cX10_minute 43 = .ok (.invokevirtual 108, 3) := by decide +kernel
theorem dX10_minute_46 : decode cX10_minute 46 = .ok (.invokevirtual 158, 3) := by decide +kernel
theorem dX10_minute_49 : decode cX10_minute 49 = .ok (.pop2, 1) := by decide +kernel
theorem dX10_minute_50 : decode cX10_minute 50 = .ok (.iload_n 2, 1) := by decide +kernel
theorem dX10_minute_51 : decode cX10_minute 51 = .ok (.ifCond .ne 15, 3) := by decide +kernel
theorem dX10_minute_54 : decode cX10_minute 54 = .ok (.aload_n 0, 1) := by decide +kernel
theorem dX10_minute_55 : decode cX10_minute 55 = .ok (.getfield 10, 3) := by decide +kernel
theorem dX10_minute_58 : decode cX10_minute 58 = .ok (.getfield 169, 3) := by decide +kernel
theorem dX10_minute_61 : decode cX10_minute 61 = .ok (.iload_n 1, 1) := by decide +kernel
theorem dX10_minute_62 : decode cX10_minute 62 = .ok (.iaload, 1) := by decide +kernel
theorem dX10_minute_63 : decode cX10_minute 63 = .ok (.goto 12, 3) := by decide +kernel
theorem dX10_minute_66 : decode cX10_minute 66 = .ok (.aload_n 0, 1) := by decide +kernel
theorem dX10_minute_67 : decode cX10_minute 67 = .ok (.getfield 10, 3) := by decide +kernel
theorem dX10_minute_70 : decode cX10_minute 70 = .ok (.getfield 172, 3) := by decide +kernel
theorem dX10_minute_73 : decode cX10_minute 73 = .ok (.iload_n 1, 1) := by decide +kernel
theorem dX10_minute_74 : decode cX10_minute 74 = .ok (.iaload, 1) := by decide +kernel
theorem dX10_minute_75 : decode cX10_minute 75 = .ok (.ireturn, 1) := by decide +kernel
theorem dX10_judge_0 : decode cX10_judge 0 = .ok (.iload_n 1, 1) := by decide +kernel
theorem dX10_judge_1 : decode cX10_judge 1 = .ok (.iconst 0, 1) := by decide +kernel
theorem dX10_judge_2 : decode cX10_judge 2 = .ok (.iconst 3, 1) := by decide +kernel
theorem dX10_judge_3 : decode cX10_judge 3 = .ok (.invokestatic 53, 3) := by decide +kernel
theorem dX10_judge_6 : decode cX10_judge 6 = .ok (.ifCond .eq 16, 3) := by decide +kernel
theorem dX10_judge_9 : decode cX10_judge 9 = .ok (.aload_n 0, 1) := by decide +kernel
theorem dX10_judge_10 : decode cX10_judge 10 = .ok (.getfield 40, 3) := by decide +kernel
theorem dX10_judge_13 : decode cX10_judge 13 = .ok (.getfield 175, 3) := by decide +kernel
theorem dX10_judge_16 : decode cX10_judge 16 = .ok (.iload_n 1, 1) := by decide +kernel
theorem dX10_judge_17 : decode cX10_judge 17 = .ok (.iaload, 1) := by decide +kernel
theorem dX10_judge_18 : decode cX10_judge 18 = .ok (.iconst (-1), 1) := by decide +kernel
theorem dX10_judge_19 : decode cX10_judge 19 = .ok (.if_icmp .ne 7, 3) := by decide +kernel
theorem dX10_judge_22 : decode cX10_judge 22 = .ok (.ldc2_w 156, 3) := by decide +kernel
theorem dX10_judge_25 : decode cX10_judge 25 = .ok (.lreturn, 1) := by decide +kernel
theorem dX10_judge_26 : decode cX10_judge 26 = .ok (.aload_n 0, 1) := by decide +kernel
theorem dX10_judge_27 : decode cX10_judge 27 = .ok (.getfield 10, 3) := by decide +kernel
theorem dX10_judge_30 : decode cX10_judge 30 = .ok (.aload_n 0, 1) := by decide +kernel
theorem dX10_judge_31 : decode cX10_judge 31 = .ok (.getfield 40, 3) := by decide +kernel
theorem dX10_judge_34 : decode cX10_judge 34 = .ok (.getfield 178, 3) := by decide +kernel
theorem dX10_judge_37 : decode cX10_judge 37 = .ok (.iload_n 1, 1) := by decide +kernel
theorem dX10_judge_38 : decode cX10_judge 38 = .ok (.aaload, 1) := by decide +kernel
theorem dX10_judge_39 : decode cX10_judge 39 = .ok (.aload_n 0, 1) := by decide +kernel
theorem dX10_judge_40 : decode cX10_judge 40 = .ok (.getfield 40, 3) := by decide +kernel
theorem dX10_judge_43 : decode cX10_judge 43 = .ok (.getfield 182, 3) := by decide +kernel
theorem dX10_judge_46 : decode cX10_judge 46 = .ok (.iload_n 1, 1) := by decide +kernel
theorem dX10_judge_47 : decode cX10_judge 47 = .ok (.iaload, 1) := by decide +kernel
theorem dX10_judge_48 : decode cX10_judge 48 = .ok (.invokevirtual 184, 3) := by decide +kernel
theorem dX10_judge_51 : decode cX10_judge 51 = .ok (.lreturn, 1) := by decide +kernel
theorem dX10_best_0 : decode cX10_best 0 = .ok (.iload_n 1, 1) := by decide +kernel
theorem dX10_best_1 : decode cX10_best 1 = .ok (.iconst 0, 1) := by decide +kernel
theorem dX10_best_2 : decode cX10_best 2 = .ok (.iconst 2, 1) := by decide +kernel
theorem dX10_best_3 : decode cX10_best 3 = .ok (.invokestatic 53, 3) := by decide +kernel
theorem dX10_best_6 : decode cX10_best 6 = .ok (.ifCond .ne 7, 3) := by decide +kernel
theorem dX10_best_9 : decode cX10_best 9 = .ok (.ldc2_w 156, 3) := by decide +kernel
theorem dX10_best_12 : decode cX10_best 12 = .ok (.lreturn, 1) := by decide +kernel
theorem dX10_best_13 : decode cX10_best 13 = .ok (.aload_n 0, 1) := by decide +kernel
theorem dX10_best_14 : decode cX10_best 14 = .ok (.getfield 10, 3) := by decide +kernel
theorem dX10_best_17 : decode cX10_best 17 = .ok (.aload_n 0, 1) := by decide +kernel
theorem dX10_best_18 : decode cX10_best 18 = .ok (.getfield 10, 3) := by decide +kernel
theorem dX10_best_21 : decode cX10_best 21 = .ok (.getfield 64, 3) := by decide +kernel
theorem dX10_best_24 : decode cX10_best 24 = .ok (.invokevirtual 108, 3) := by decide +kernel
theorem dX10_best_27 : decode cX10_best 27 = .ok (.invokevirtual 158, 3) := by decide +kernel
theorem dX10_best_30 : decode cX10_best 30 = .ok (.lstore_n 2, 1) := by decide +kernel
theorem dX10_best_31 : decode cX10_best 31 = .ok (.aload_n 0, 1) := by decide +kernel
theorem dX10_best_32 : decode cX10_best 32 = .ok (.getfield 10, 3) := by decide +kernel
theorem dX10_best_35 : decode cX10_best 35 = .ok (.getfield 74, 3) := by decide +kernel
theorem dX10_best_38 : decode cX10_best 38 = .ok (.iconst 5, 1) := by decide +kernel
theorem dX10_best_39 : decode cX10_best 39 = .ok (.if_icmp .gt 13, 3) := by decide +kernel
theorem dX10_best_42 : decode cX10_best 42 = .ok (.aload_n 0, 1) := by decide +kernel
theorem dX10_best_43 : decode cX10_best 43 = .ok (.getfield 10, 3) := by decide +kernel
theorem dX10_best_46 : decode cX10_best 46 = .ok (.invokevirtual 188, 3) := by decide +kernel
theorem dX10_best_49 : decode cX10_best 49 = .ok (.goto 10, 3) := by decide +kernel
theorem dX10_best_52 : decode cX10_best 52 = .ok (.aload_n 0, 1) := by decide +kernel
theorem dX10_best_53 : decode cX10_best 53 = .ok (.getfield 10, 3) := by decide +kernel
theorem dX10_best_56 : decode cX10_best 56 = .ok (.invokevirtual 192, 3) := by decide +kernel
theorem dX10_best_59 : decode cX10_best 59 = .ok (.lstore 4, 2) := by decide +kernel
theorem dX10_best_61 : decode cX10_best 61 = .ok (.iload_n 1, 1) := by decide +kernel
theorem dX10_best_62 : decode cX10_best 62 = .ok (.ifCond .ne 11, 3) := by decide +kernel
theorem dX10_best_65 : decode cX10_best 65 = .ok (.aload_n 0, 1) := by decide +kernel
theorem dX10_best_66 : decode cX10_best 66 = .ok (.getfield 10, 3) := by decide +kernel
theorem dX10_best_69 : decode cX10_best 69 = .ok (.invokevirtual 195, 3) := by decide +kernel
theorem dX10_best_72 : decode cX10_best 72 = .ok (.lreturn, 1) := by decide +kernel
theorem dX10_best_73 : decode cX10_best 73 = .ok (.iload_n 1, 1) := by decide +kernel
theorem dX10_best_74 : decode cX10_best 74 = .ok (.iconst 1, 1) := by decide +kernel
theorem dX10_best_75 : decode cX10_best 75 = .ok (.if_icmp .ne 8, 3) := by decide +kernel
theorem dX10_best_78 : decode cX10_best 78 = .ok (.lload 4, 2) := by decide +kernel
theorem dX10_best_80 : decode cX10_best 80 = .ok (.goto 7, 3) := by decide +kernel
theorem dX10_best_83 : decode cX10_best 83 = .ok (.lload 4, 2) := by decide +kernel
theorem dX10_best_85 : decode cX10_best 85 = .ok (.lload_n 2, 1) := by decide +kernel
theorem dX10_best_86 : decode cX10_best 86 = .ok (.lsub, 1) := by decide +kernel
theorem dX10_best_87 : decode cX10_best 87 = .ok (.lreturn, 1) := by decide +kernel
theorem dX10_side_0 : decode cX10_side 0 = .ok (.iconst 0, 1) := by decide +kernel
theorem dX10_side_1 : decode cX10_side 1 = .ok (.istore_n 1, 1) := by decide +kernel
theorem dX10_side_2 : decode cX10_side 2 = .ok (.ldc2_w 198, 3) := by decide +kernel
theorem dX10_side_5 : decode cX10_side 5 = .ok (.lstore_n 2, 1) := by decide +kernel
theorem dX10_side_6 : decode cX10_side 6 = .ok (.getstatic 57, 3) := by decide +kernel
theorem dX10_side_9 : decode cX10_side 9 = .ok (.iconst 0, 1) := by decide +kernel
theorem dX10_side_10 : decode cX10_side 10 = .ok (.iaload, 1) := by decide +kernel
theorem dX10_side_11 : decode cX10_side 11 = .ok (.istore 4, 2) := by decide +kernel
theorem dX10_side_13 : decode cX10_side 13 = .ok (.iload 4, 2) := by decide +kernel
theorem dX10_side_15 : decode cX10_side 15 = .ok (.getstatic 61, 3) := by decide +kernel
theorem dX10_side_18 : decode cX10_side 18 = .ok (.iconst 0, 1) := by decide +kernel
theorem dX10_side_19 : decode cX10_side 19 = .ok (.iaload, 1) := by decide +kernel
theorem dX10_side_20 : decode cX10_side 20 = .ok (.if_icmp .gt 33, 3) := by decide +kernel
theorem dX10_side_23 : decode cX10_side 23 = .ok (.aload_n 0, 1) := by decide +kernel
theorem dX10_side_24 : decode cX10_side 24 = .ok (.getfield 10, 3) := by decide +kernel
theorem dX10_side_27 : decode cX10_side 27 = .ok (.iload 4, 2) := by decide +kernel
theorem dX10_side_29 : decode cX10_side 29 = .ok (.invokevirtual 158, 3) := by decide +kernel
theorem dX10_side_32 : decode cX10_side 32 = .ok (.lstore 5, 2) := by decide +kernel
theorem dX10_side_34 : decode cX10_side 34 = .ok (.lload 5, 2) := by decide +kernel
theorem dX10_side_36 : decode cX10_side 36 = .ok (.lload_n 2, 1) := by decide +kernel
theorem dX10_side_37 : decode cX10_side 37 = .ok (.lcmp, 1) := by decide +kernel
theorem dX10_side_38 : decode cX10_side 38 = .ok (.ifCond .le 9, 3) := by decide +kernel
theorem dX10_side_41 : decode cX10_side 41 = .ok (.lload 5, 2) := by decide +kernel
theorem dX10_side_43 : decode cX10_side 43 = .ok (.lstore_n 2, 1) := by decide +kernel
theorem dX10_side_44 : decode cX10_side 44 = .ok (.iload 4, 2) := by decide +kernel
theorem dX10_side_46 : decode cX10_side 46 = .ok (.istore_n 1, 1) := by decide +kernel
theorem dX10_side_47 : decode cX10_side 47 = .ok (.iinc 4 1, 3) := by decide +kernel
theorem dX10_side_50 : decode cX10_side 50 = .ok (.goto (-37), 3) := by decide +kernel
theorem dX10_side_53 : decode cX10_side 53 = .ok (.iload_n 1, 1) := by decide +kernel
theorem dX10_side_54 : decode cX10_side 54 = .ok (.ireturn, 1) := by decide +kernel
theorem dX10_leave_0 : decode cX10_leave 0 = .ok (.aload_n 0, 1) := by decide +kernel
theorem dX10_leave_1 : decode cX10_leave 1 = .ok (.getfield 10, 3) := by decide +kernel
theorem dX10_leave_4 : decode cX10_leave 4 = .ok (.aload_n 0, 1) := by decide +kernel
theorem dX10_leave_5 : decode cX10_leave 5 = .ok (.getfield 10, 3) := by decide +kernel
theorem dX10_leave_8 : decode cX10_leave 8 = .ok (.getfield 64, 3) := by decide +kernel
theorem dX10_leave_11 : decode cX10_leave 11 = .ok (.invokevirtual 108, 3) := by decide +kernel
theorem dX10_leave_14 : decode cX10_leave 14 = .ok (.invokevirtual 158, 3) := by decide +kernel
theorem dX10_leave_17 : decode cX10_leave 17 = .ok (.lstore_n 1, 1) := by decide +kernel
theorem dX10_leave_18 : decode cX10_leave 18 = .ok (.iconst (-1), 1) := by decide +kernel
theorem dX10_leave_19 : decode cX10_leave 19 = .ok (.istore_n 3, 1) := by decide +kernel
theorem dX10_leave_20 : decode cX10_leave 20 = .ok (.ldc2_w 198, 3) := by decide +kernel
theorem dX10_leave_23 : decode cX10_leave 23 = .ok (.lstore 4, 2) := by decide +kernel
theorem dX10_leave_25 : decode cX10_leave 25 = .ok (.iconst 0, 1) := by decide +kernel
theorem dX10_leave_26 : decode cX10_leave 26 = .ok (.istore 6, 2) := by decide +kernel
theorem dX10_leave_28 : decode cX10_leave 28 = .ok (.iload 6, 2) := by decide +kernel
theorem dX10_leave_30 : decode cX10_leave 30 = .ok (.aload_n 0, 1) := by decide +kernel
theorem dX10_leave_31 : decode cX10_leave 31 = .ok (.getfield 10, 3) := by decide +kernel
theorem dX10_leave_34 : decode cX10_leave 34 = .ok (.getfield 74, 3) := by decide +kernel
theorem dX10_leave_37 : decode cX10_leave 37 = .ok (.if_icmp .ge 35, 3) := by decide +kernel
theorem dX10_leave_40 : decode cX10_leave 40 = .ok (.aload_n 0, 1) := by decide +kernel
theorem dX10_leave_41 : decode cX10_leave 41 = .ok (.getfield 10, 3) := by decide +kernel
theorem dX10_leave_44 : decode cX10_leave 44 = .ok (.iload 6, 2) := by decide +kernel
theorem dX10_leave_46 : decode cX10_leave 46 = .ok (.invokevirtual 200, 3) := by decide +kernel
theorem dX10_leave_49 : decode cX10_leave 49 = .ok (.lstore 7, 2) := by decide +kernel
theorem dX10_leave_51 : decode cX10_leave 51 = .ok (.lload 7, 2) := by decide +kernel
theorem dX10_leave_53 : decode cX10_leave 53 = .ok (.lload 4, 2) := by decide +kernel
theorem dX10_leave_55 : decode cX10_leave 55 = .ok (.lcmp, 1) := by decide +kernel
theorem dX10_leave_56 : decode cX10_leave 56 = .ok (.ifCond .le 10, 3) := by decide +kernel
theorem dX10_leave_59 : decode cX10_leave 59 = .ok (.lload 7, 2) := by decide +kernel
theorem dX10_leave_61 : decode cX10_leave 61 = .ok (.lstore 4, 2) := by decide +kernel
theorem dX10_leave_63 : decode cX10_leave 63 = .ok (.iload 6, 2) := by decide +kernel
theorem dX10_leave_65 : decode cX10_leave 65 = .ok (.istore_n 3, 1) := by decide +kernel
theorem dX10_leave_66 : decode cX10_leave 66 = .ok (.iinc 6 1, 3) := by decide +kernel
theorem dX10_leave_69 : decode cX10_leave 69 = .ok (.goto (-41), 3) := by decide +kernel
theorem dX10_leave_72 : decode cX10_leave 72 = .ok (.lload 4, 2) := by decide +kernel
theorem dX10_leave_74 : decode cX10_leave 74 = .ok (.lload_n 1, 1) := by decide +kernel
theorem dX10_leave_75 : decode cX10_leave 75 = .ok (.lcmp, 1) := by decide +kernel
theorem dX10_leave_76 : decode cX10_leave 76 = .ok (.ifCond .lt 7, 3) := by decide +kernel
theorem dX10_leave_79 : decode cX10_leave 79 = .ok (.iload_n 3, 1) := by decide +kernel
theorem dX10_leave_80 : decode cX10_leave 80 = .ok (.goto 4, 3) := by decide +kernel
theorem dX10_leave_83 : decode cX10_leave 83 = .ok (.iconst (-1), 1) := by decide +kernel
theorem dX10_leave_84 : decode cX10_leave 84 = .ok (.ireturn, 1) := by decide +kernel
theorem dX10_word_0 : decode cX10_word 0 = .ok (.iload_n 1, 1) := by decide +kernel
theorem dX10_word_1 : decode cX10_word 1 = .ok (.iconst 0, 1) := by decide +kernel
theorem dX10_word_2 : decode cX10_word 2 = .ok (.sipush 9999, 3) := by decide +kernel
theorem dX10_word_5 : decode cX10_word 5 = .ok (.invokestatic 53, 3) := by decide +kernel
theorem dX10_word_8 : decode cX10_word 8 = .ok (.ifCond .eq 13, 3) := by decide +kernel
theorem dX10_word_11 : decode cX10_word 11 = .ok (.iload_n 2, 1) := by decide +kernel
theorem dX10_word_12 : decode cX10_word 12 = .ok (.iconst 0, 1) := by decide +kernel
theorem dX10_word_13 : decode cX10_word 13 = .ok (.bipush 99, 2) := by decide +kernel
theorem dX10_word_15 : decode cX10_word 15 = .ok (.invokestatic 53, 3) := by decide +kernel
theorem dX10_word_18 : decode cX10_word 18 = .ok (.ifCond .ne 6, 3) := by decide +kernel
theorem dX10_word_21 : decode cX10_word 21 = .ok (.bipush (-2), 2) := by decide +kernel
theorem dX10_word_23 : decode cX10_word 23 = .ok (.ireturn, 1) := by decide +kernel
theorem dX10_word_24 : decode cX10_word 24 = .ok (.aload_n 0, 1) := by decide +kernel
theorem dX10_word_25 : decode cX10_word 25 = .ok (.getfield 19, 3) := by decide +kernel
theorem dX10_word_28 : decode cX10_word 28 = .ok (.getfield 78, 3) := by decide +kernel
theorem dX10_word_31 : decode cX10_word 31 = .ok (.bipush 6, 2) := by decide +kernel
theorem dX10_word_33 : decode cX10_word 33 = .ok (.if_icmp .lt 8, 3) := by decide +kernel
theorem dX10_word_36 : decode cX10_word 36 = .ok (.bipush (-4), 2) := by decide +kernel
theorem dX10_word_38 : decode cX10_word 38 = .ok (.goto 12, 3) := by decide +kernel
theorem dX10_word_41 : decode cX10_word 41 = .ok (.aload_n 0, 1) := by decide +kernel
theorem dX10_word_42 : decode cX10_word 42 = .ok (.getfield 19, 3) := by decide +kernel
theorem dX10_word_45 : decode cX10_word 45 = .ok (.iload_n 1, 1) := by decide +kernel
theorem dX10_word_46 : decode cX10_word 46 = .ok (.iload_n 2, 1) := by decide +kernel
theorem dX10_word_47 : decode cX10_word 47 = .ok (.invokevirtual 203, 3) := by decide +kernel
theorem dX10_word_50 : decode cX10_word 50 = .ok (.ireturn, 1) := by decide +kernel
theorem dX10_mistake_0 : decode cX10_mistake 0 = .ok (.aload_n 0, 1) := by decide +kernel
theorem dX10_mistake_1 : decode cX10_mistake 1 = .ok (.getfield 19, 3) := by decide +kernel
theorem dX10_mistake_4 : decode cX10_mistake 4 = .ok (.iload_n 1, 1) := by decide +kernel
theorem dX10_mistake_5 : decode cX10_mistake 5 = .ok (.invokevirtual 205, 3) := by decide +kernel
theorem dX10_mistake_8 : decode cX10_mistake 8 = .ok (.ifCond .eq 14, 3) := by decide +kernel
theorem dX10_mistake_11 : decode cX10_mistake 11 = .ok (.aload_n 0, 1) := by decide +kernel
theorem dX10_mistake_12 : decode cX10_mistake 12 = .ok (.getfield 19, 3) := by decide +kernel
theorem dX10_mistake_15 : decode cX10_mistake 15 = .ok (.iload_n 2, 1) := by decide +kernel
theorem dX10_mistake_16 : decode cX10_mistake 16 = .ok (.invokevirtual 205, 3) := by decide +kernel
theorem dX10_mistake_19 : decode cX10_mistake 19 = .ok (.ifCond .ne 5, 3) := by decide +kernel
theorem dX10_mistake_22 : decode cX10_mistake 22 = .ok (.iconst (-1), 1) := by decide +kernel
theorem dX10_mistake_23 : decode cX10_mistake 23 = .ok (.ireturn, 1) := by decide +kernel
theorem dX10_mistake_24 : decode cX10_mistake 24 = .ok (.iload_n 3, 1) := by decide +kernel
theorem dX10_mistake_25 : decode cX10_mistake 25 = .ok (.iconst 0, 1) := by decide +kernel
theorem dX10_mistake_26 : decode cX10_mistake 26 = .ok (.bipush 99, 2) := by decide +kernel
theorem dX10_mistake_28 : decode cX10_mistake 28 = .ok (.invokestatic 53, 3) := by decide +kernel
theorem dX10_mistake_31 : decode cX10_mistake 31 = .ok (.ifCond .ne 6, 3) := by decide +kernel
theorem dX10_mistake_34 : decode cX10_mistake 34 = .ok (.bipush (-2), 2) := by decide +kernel
theorem dX10_mistake_36 : decode cX10_mistake 36 = .ok (.ireturn, 1) := by decide +kernel
theorem dX10_mistake_37 : decode cX10_mistake 37 = .ok (.aload_n 0, 1) := by decide +kernel
theorem dX10_mistake_38 : decode cX10_mistake 38 = .ok (.getfield 19, 3) := by decide +kernel
theorem dX10_mistake_41 : decode cX10_mistake 41 = .ok (.getfield 208, 3) := by decide +kernel
theorem dX10_mistake_44 : decode cX10_mistake 44 = .ok (.iload_n 1, 1) := by decide +kernel
theorem dX10_mistake_45 : decode cX10_mistake 45 = .ok (.aaload, 1) := by decide +kernel
theorem dX10_mistake_46 : decode cX10_mistake 46 = .ok (.iload_n 2, 1) := by decide +kernel
theorem dX10_mistake_47 : decode cX10_mistake 47 = .ok (.iaload, 1) := by decide +kernel
theorem dX10_mistake_48 : decode cX10_mistake 48 = .ok (.istore 4, 2) := by decide +kernel
theorem dX10_mistake_50 : decode cX10_mistake 50 = .ok (.aload_n 0, 1) := by decide +kernel
theorem dX10_mistake_51 : decode cX10_mistake 51 = .ok (.getfield 19, 3) := by decide +kernel
theorem dX10_mistake_54 : decode cX10_mistake 54 = .ok (.getfield 208, 3) := by decide +kernel
theorem dX10_mistake_57 : decode cX10_mistake 57 = .ok (.iload_n 1, 1) := by decide +kernel
theorem dX10_mistake_58 : decode cX10_mistake 58 = .ok (.aaload, 1) := by decide +kernel
theorem dX10_mistake_59 : decode cX10_mistake 59 = .ok (.iload_n 2, 1) := by decide +kernel
theorem dX10_mistake_60 : decode cX10_mistake 60 = .ok (.iload_n 3, 1) := by decide +kernel
theorem dX10_mistake_61 : decode cX10_mistake 61 = .ok (.iastore, 1) := by decide +kernel
theorem dX10_mistake_62 : decode cX10_mistake 62 = .ok (.iload 4, 2) := by decide +kernel
theorem dX10_mistake_64 : decode cX10_mistake 64 = .ok (.ireturn, 1) := by decide +kernel
theorem dX10_odds_0 : decode cX10_odds 0 = .ok (.aload_n 0, 1) := by decide +kernel
theorem dX10_odds_1 : decode cX10_odds 1 = .ok (.getfield 19, 3) := by decide +kernel
theorem dX10_odds_4 : decode cX10_odds 4 = .ok (.iload_n 1, 1) := by decide +kernel
theorem dX10_odds_5 : decode cX10_odds 5 = .ok (.invokevirtual 205, 3) := by decide +kernel
theorem dX10_odds_8 : decode cX10_odds 8 = .ok (.ifCond .eq 23, 3) := by decide +kernel
theorem dX10_odds_11 : decode cX10_odds 11 = .ok (.aload_n 0, 1) := by decide +kernel
theorem dX10_odds_12 : decode cX10_odds 12 = .ok (.getfield 19, 3) := by decide +kernel
theorem dX10_odds_15 : decode cX10_odds 15 = .ok (.iload_n 2, 1) := by decide +kernel
theorem dX10_odds_16 : decode cX10_odds 16 = .ok (.invokevirtual 205, 3) := by decide +kernel
theorem dX10_odds_19 : decode cX10_odds 19 = .ok (.ifCond .eq 12, 3) := by decide +kernel
theorem dX10_odds_22 : decode cX10_odds 22 = .ok (.iload_n 3, 1) := by decide +kernel
theorem dX10_odds_23 : decode cX10_odds 23 = .ok (.iconst 0, 1) := by decide +kernel
theorem dX10_odds_24 : decode cX10_odds 24 = .ok (.iconst 1, 1) := by decide +kernel
theorem dX10_odds_25 : decode cX10_odds 25 = .ok (.invokestatic 53, 3) := by decide +kernel
theorem dX10_odds_28 : decode cX10_odds 28 = .ok (.ifCond .ne 7, 3) := by decide +kernel
theorem dX10_odds_31 : decode cX10_odds 31 = .ok (.ldc2_w 156, 3) := by decide +kernel
theorem dX10_odds_34 : decode cX10_odds 34 = .ok (.lreturn, 1) := by decide +kernel
theorem dX10_odds_35 : decode cX10_odds 35 = .ok (.aload_n 0, 1) := by decide +kernel
theorem dX10_odds_36 : decode cX10_odds 36 = .ok (.getfield 19, 3) := by decide +kernel
theorem dX10_odds_39 : decode cX10_odds 39 = .ok (.iload_n 2, 1) := by decide +kernel
theorem dX10_odds_40 : decode cX10_odds 40 = .ok (.iload_n 1, 1) := by decide +kernel
theorem dX10_odds_41 : decode cX10_odds 41 = .ok (.invokevirtual 211, 3) := by decide +kernel
theorem dX10_odds_44 : decode cX10_odds 44 = .ok (.aload_n 0, 1) := by decide +kernel
theorem dX10_odds_45 : decode cX10_odds 45 = .ok (.getfield 19, 3) := by decide +kernel
theorem dX10_odds_48 : decode cX10_odds 48 = .ok (.iload_n 1, 1) := by decide +kernel
theorem dX10_odds_49 : decode cX10_odds 49 = .ok (.invokevirtual 215, 3) := by decide +kernel
theorem dX10_odds_52 : decode cX10_odds 52 = .ok (.iload_n 3, 1) := by decide +kernel
theorem dX10_odds_53 : decode cX10_odds 53 = .ok (.invokestatic 218, 3) := by decide +kernel
theorem dX10_odds_56 : decode cX10_odds 56 = .ok (.lreturn, 1) := by decide +kernel
theorem dX10_was_0 : decode cX10_was 0 = .ok (.aload_n 0, 1) := by decide +kernel
theorem dX10_was_1 : decode cX10_was 1 = .ok (.getfield 19, 3) := by decide +kernel
theorem dX10_was_4 : decode cX10_was 4 = .ok (.iload_n 1, 1) := by decide +kernel
theorem dX10_was_5 : decode cX10_was 5 = .ok (.invokevirtual 205, 3) := by decide +kernel
theorem dX10_was_8 : decode cX10_was 8 = .ok (.ifCond .eq 14, 3) := by decide +kernel
theorem dX10_was_11 : decode cX10_was 11 = .ok (.aload_n 0, 1) := by decide +kernel
theorem dX10_was_12 : decode cX10_was 12 = .ok (.getfield 19, 3) := by decide +kernel
theorem dX10_was_15 : decode cX10_was 15 = .ok (.iload_n 1, 1) := by decide +kernel
theorem dX10_was_16 : decode cX10_was 16 = .ok (.invokevirtual 222, 3) := by decide +kernel
theorem dX10_was_19 : decode cX10_was 19 = .ok (.goto 5, 3) := by decide +kernel
theorem dX10_was_22 : decode cX10_was 22 = .ok (.bipush (-5), 2) := by decide +kernel
theorem dX10_was_24 : decode cX10_was 24 = .ok (.ireturn, 1) := by decide +kernel
theorem dX10_list_0 : decode cX10_list 0 = .ok (.iload_n 1, 1) := by decide +kernel
theorem dX10_list_1 : decode cX10_list 1 = .ok (.iconst 0, 1) := by decide +kernel
theorem dX10_list_2 : decode cX10_list 2 = .ok (.aload_n 0, 1) := by decide +kernel
theorem dX10_list_3 : decode cX10_list 3 = .ok (.getfield 19, 3) := by decide +kernel
theorem dX10_list_6 : decode cX10_list 6 = .ok (.getfield 78, 3) := by decide +kernel
theorem dX10_list_9 : decode cX10_list 9 = .ok (.invokestatic 53, 3) := by decide +kernel
theorem dX10_list_12 : decode cX10_list 12 = .ok (.ifCond .eq 12, 3) := by decide +kernel
theorem dX10_list_15 : decode cX10_list 15 = .ok (.iload_n 2, 1) := by decide +kernel
theorem dX10_list_16 : decode cX10_list 16 = .ok (.iconst 0, 1) := by decide +kernel
theorem dX10_list_17 : decode cX10_list 17 = .ok (.iconst 1, 1) := by decide +kernel
theorem dX10_list_18 : decode cX10_list 18 = .ok (.invokestatic 53, 3) := by decide +kernel
theorem dX10_list_21 : decode cX10_list 21 = .ok (.ifCond .ne 6, 3) := by decide +kernel
theorem dX10_list_24 : decode cX10_list 24 = .ok (.bipush (-2), 2) := by decide +kernel
theorem dX10_list_26 : decode cX10_list 26 = .ok (.ireturn, 1) := by decide +kernel
theorem dX10_list_27 : decode cX10_list 27 = .ok (.aload_n 0, 1) := by decide +kernel
theorem dX10_list_28 : decode cX10_list 28 = .ok (.getfield 19, 3) := by decide +kernel
theorem dX10_list_31 : decode cX10_list 31 = .ok (.iload_n 1, 1) := by decide +kernel
theorem dX10_list_32 : decode cX10_list 32 = .ok (.invokevirtual 226, 3) := by decide +kernel
theorem dX10_list_35 : decode cX10_list 35 = .ok (.istore_n 3, 1) := by decide +kernel
theorem dX10_list_36 : decode cX10_list 36 = .ok (.iload_n 2, 1) := by decide +kernel
theorem dX10_list_37 : decode cX10_list 37 = .ok (.ifCond .ne 7, 3) := by decide +kernel
theorem dX10_list_40 : decode cX10_list 40 = .ok (.iload_n 3, 1) := by decide +kernel
theorem dX10_list_41 : decode cX10_list 41 = .ok (.goto 11, 3) := by decide +kernel
theorem dX10_list_44 : decode cX10_list 44 = .ok (.aload_n 0, 1) := by decide +kernel
theorem dX10_list_45 : decode cX10_list 45 = .ok (.getfield 19, 3) := by decide +kernel
theorem dX10_list_48 : decode cX10_list 48 = .ok (.iload_n 3, 1) := by decide +kernel
theorem dX10_list_49 : decode cX10_list 49 = .ok (.invokevirtual 229, 3) := by decide +kernel
theorem dX10_list_52 : decode cX10_list 52 = .ok (.ireturn, 1) := by decide +kernel
theorem dX10_bits_0 : decode cX10_bits 0 = .ok (.iload_n 1, 1) := by decide +kernel
theorem dX10_bits_1 : decode cX10_bits 1 = .ok (.iconst 0, 1) := by decide +kernel
theorem dX10_bits_2 : decode cX10_bits 2 = .ok (.sipush 9999, 3) := by decide +kernel
theorem dX10_bits_5 : decode cX10_bits 5 = .ok (.invokestatic 53, 3) := by decide +kernel
theorem dX10_bits_8 : decode cX10_bits 8 = .ok (.ifCond .eq 13, 3) := by decide +kernel
theorem dX10_bits_11 : decode cX10_bits 11 = .ok (.iload_n 2, 1) := by decide +kernel
theorem dX10_bits_12 : decode cX10_bits 12 = .ok (.iconst 0, 1) := by decide +kernel
theorem dX10_bits_13 : decode cX10_bits 13 = .ok (.bipush 15, 2) := by decide +kernel
theorem dX10_bits_15 : decode cX10_bits 15 = .ok (.invokestatic 53, 3) := by decide +kernel
theorem dX10_bits_18 : decode cX10_bits 18 = .ok (.ifCond .ne 6, 3) := by decide +kernel
theorem dX10_bits_21 : decode cX10_bits 21 = .ok (.bipush (-2), 2) := by decide +kernel
theorem dX10_bits_23 : decode cX10_bits 23 = .ok (.ireturn, 1) := by decide +kernel
theorem dX10_bits_24 : decode cX10_bits 24 = .ok (.aload_n 0, 1) := by decide +kernel
theorem dX10_bits_25 : decode cX10_bits 25 = .ok (.getfield 19, 3) := by decide +kernel
theorem dX10_bits_28 : decode cX10_bits 28 = .ok (.iload_n 1, 1) := by decide +kernel
theorem dX10_bits_29 : decode cX10_bits 29 = .ok (.iload_n 2, 1) := by decide +kernel
theorem dX10_bits_30 : decode cX10_bits 30 = .ok (.invokevirtual 232, 3) := by decide +kernel
theorem dX10_bits_33 : decode cX10_bits 33 = .ok (.ireturn, 1) := by decide +kernel
theorem dX10_ask_0 : decode cX10_ask 0 = .ok (.iload_n 1, 1) := by decide +kernel
theorem dX10_ask_1 : decode cX10_ask 1 = .ok (.iconst 0, 1) := by decide +kernel
theorem dX10_ask_2 : decode cX10_ask 2 = .ok (.sipush 9999, 3) := by decide +kernel
theorem dX10_ask_5 : decode cX10_ask 5 = .ok (.invokestatic 53, 3) := by decide +kernel
theorem dX10_ask_8 : decode cX10_ask 8 = .ok (.ifCond .eq 22, 3) := by decide +kernel
theorem dX10_ask_11 : decode cX10_ask 11 = .ok (.iload_n 2, 1) := by decide +kernel
theorem dX10_ask_12 : decode cX10_ask 12 = .ok (.iconst 0, 1) := by decide +kernel
theorem dX10_ask_13 : decode cX10_ask 13 = .ok (.bipush 15, 2) := by decide +kernel
theorem dX10_ask_15 : decode cX10_ask 15 = .ok (.invokestatic 53, 3) := by decide +kernel
theorem dX10_ask_18 : decode cX10_ask 18 = .ok (.ifCond .eq 12, 3) := by decide +kernel
theorem dX10_ask_21 : decode cX10_ask 21 = .ok (.iload_n 3, 1) := by decide +kernel
theorem dX10_ask_22 : decode cX10_ask 22 = .ok (.iconst 0, 1) := by decide +kernel
theorem dX10_ask_23 : decode cX10_ask 23 = .ok (.iconst 1, 1) := by decide +kernel
theorem dX10_ask_24 : decode cX10_ask 24 = .ok (.invokestatic 53, 3) := by decide +kernel
theorem dX10_ask_27 : decode cX10_ask 27 = .ok (.ifCond .ne 6, 3) := by decide +kernel
theorem dX10_ask_30 : decode cX10_ask 30 = .ok (.bipush (-2), 2) := by decide +kernel
theorem dX10_ask_32 : decode cX10_ask 32 = .ok (.ireturn, 1) := by decide +kernel
theorem dX10_ask_33 : decode cX10_ask 33 = .ok (.aload_n 0, 1) := by decide +kernel
theorem dX10_ask_34 : decode cX10_ask 34 = .ok (.getfield 19, 3) := by decide +kernel
theorem dX10_ask_37 : decode cX10_ask 37 = .ok (.iload_n 1, 1) := by decide +kernel
theorem dX10_ask_38 : decode cX10_ask 38 = .ok (.iload_n 2, 1) := by decide +kernel
theorem dX10_ask_39 : decode cX10_ask 39 = .ok (.invokevirtual 232, 3) := by decide +kernel
theorem dX10_ask_42 : decode cX10_ask 42 = .ok (.istore 4, 2) := by decide +kernel
theorem dX10_ask_44 : decode cX10_ask 44 = .ok (.iconst (-1), 1) := by decide +kernel
theorem dX10_ask_45 : decode cX10_ask 45 = .ok (.istore 5, 2) := by decide +kernel
theorem dX10_ask_47 : decode cX10_ask 47 = .ok (.iconst (-1), 1) := by decide +kernel
theorem dX10_ask_48 : decode cX10_ask 48 = .ok (.istore 6, 2) := by decide +kernel
theorem dX10_ask_50 : decode cX10_ask 50 = .ok (.iconst 0, 1) := by decide +kernel
theorem dX10_ask_51 : decode cX10_ask 51 = .ok (.istore 7, 2) := by decide +kernel
theorem dX10_ask_53 : decode cX10_ask 53 = .ok (.iload 7, 2) := by decide +kernel
theorem dX10_ask_55 : decode cX10_ask 55 = .ok (.iconst 4, 1) := by decide +kernel
theorem dX10_ask_56 : decode cX10_ask 56 = .ok (.if_icmp .ge 51, 3) := by decide +kernel
theorem dX10_ask_59 : decode cX10_ask 59 = .ok (.iload_n 2, 1) := by decide +kernel
theorem dX10_ask_60 : decode cX10_ask 60 = .ok (.iload 7, 2) := by decide +kernel
theorem dX10_ask_62 : decode cX10_ask 62 = .ok (.ishr, 1) := by decide +kernel
theorem dX10_ask_63 : decode cX10_ask 63 = .ok (.iconst 1, 1) := by decide +kernel
theorem dX10_ask_64 : decode cX10_ask 64 = .ok (.iand, 1) := by decide +kernel
theorem dX10_ask_65 : decode cX10_ask 65 = .ok (.ifCond .ne 36, 3) := by decide +kernel
theorem dX10_ask_68 : decode cX10_ask 68 = .ok (.aload_n 0, 1) := by decide +kernel
theorem dX10_ask_69 : decode cX10_ask 69 = .ok (.getfield 19, 3) := by decide +kernel
theorem dX10_ask_72 : decode cX10_ask 72 = .ok (.iload 4, 2) := by decide +kernel
theorem dX10_ask_74 : decode cX10_ask 74 = .ok (.iload 7, 2) := by decide +kernel
theorem dX10_ask_76 : decode cX10_ask 76 = .ok (.invokevirtual 235, 3) := by decide +kernel
theorem dX10_ask_79 : decode cX10_ask 79 = .ok (.istore 8, 2) := by decide +kernel
theorem dX10_ask_81 : decode cX10_ask 81 = .ok (.iload 5, 2) := by decide +kernel
theorem dX10_ask_83 : decode cX10_ask 83 = .ok (.ifCond .lt 10, 3) := by decide +kernel
theorem dX10_ask_86 : decode cX10_ask 86 = .ok (.iload 8, 2) := by decide +kernel
theorem dX10_ask_88 : decode cX10_ask 88 = .ok (.iload 6, 2) := by decide +kernel
theorem dX10_ask_90 : decode cX10_ask 90 = .ok (.if_icmp .ge 11, 3) := by decide +kernel
theorem dX10_ask_93 : decode cX10_ask 93 = .ok (.iload 7, 2) := by decide +kernel
theorem dX10_ask_95 : decode cX10_ask 95 = .ok (.istore 5, 2) := by decide +kernel
theorem dX10_ask_97 : decode cX10_ask 97 = .ok (.iload 8, 2) := by decide +kernel
theorem dX10_ask_99 : decode cX10_ask 99 = .ok (.istore 6, 2) := by decide +kernel
theorem dX10_ask_101 : decode cX10_ask 101 = .ok (.iinc 7 1, 3) := by decide +kernel
theorem dX10_ask_104 : decode cX10_ask 104 = .ok (.goto (-51), 3) := by decide +kernel
theorem dX10_ask_107 : decode cX10_ask 107 = .ok (.iload_n 3, 1) := by decide +kernel
theorem dX10_ask_108 : decode cX10_ask 108 = .ok (.ifCond .ne 8, 3) := by decide +kernel
theorem dX10_ask_111 : decode cX10_ask 111 = .ok (.iload 5, 2) := by decide +kernel
theorem dX10_ask_113 : decode cX10_ask 113 = .ok (.goto 5, 3) := by decide +kernel
theorem dX10_ask_116 : decode cX10_ask 116 = .ok (.iload 6, 2) := by decide +kernel
theorem dX10_ask_118 : decode cX10_ask 118 = .ok (.ireturn, 1) := by decide +kernel
theorem dX10_clocks_0 : decode cX10_clocks 0 = .ok (.iload_n 1, 1) := by decide +kernel
theorem dX10_clocks_1 : decode cX10_clocks 1 = .ok (.sipush (-9999), 3) := by decide +kernel
theorem dX10_clocks_4 : decode cX10_clocks 4 = .ok (.sipush 9999, 3) := by decide +kernel
theorem dX10_clocks_7 : decode cX10_clocks 7 = .ok (.invokestatic 53, 3) := by decide +kernel
theorem dX10_clocks_10 : decode cX10_clocks 10 = .ok (.ifCond .eq 37, 3) := by decide +kernel
theorem dX10_clocks_13 : decode cX10_clocks 13 = .ok (.iload_n 2, 1) := by decide +kernel
theorem dX10_clocks_14 : decode cX10_clocks 14 = .ok (.sipush (-9999), 3) := by decide +kernel
theorem dX10_clocks_17 : decode cX10_clocks 17 = .ok (.sipush 9999, 3) := by decide +kernel
theorem dX10_clocks_20 : decode cX10_clocks 20 = .ok (.invokestatic 53, 3) := by decide +kernel
theorem dX10_clocks_23 : decode cX10_clocks 23 = .ok (.ifCond .eq 24, 3) := by decide +kernel
theorem dX10_clocks_26 : decode cX10_clocks 26 = .ok (.iload_n 3, 1) := by decide +kernel
theorem dX10_clocks_27 : decode cX10_clocks 27 = .ok (.iconst 0, 1) := by decide +kernel
theorem dX10_clocks_28 : decode cX10_clocks 28 = .ok (.sipush 9999, 3) := by decide +kernel
theorem dX10_clocks_31 : decode cX10_clocks 31 = .ok (.invokestatic 53, 3) := by decide +kernel
theorem dX10_clocks_34 : decode cX10_clocks 34 = .ok (.ifCond .eq 13, 3) := by decide +kernel
theorem dX10_clocks_37 : decode cX10_clocks 37 = .ok (.iload 4, 2) := by decide +kernel
theorem dX10_clocks_39 : decode cX10_clocks 39 = .ok (.iconst 0, 1) := by decide +kernel
theorem dX10_clocks_40 : decode cX10_clocks 40 = .ok (.iconst 3, 1) := by decide +kernel
theorem dX10_clocks_41 : decode cX10_clocks 41 = .ok (.invokestatic 53, 3) := by decide +kernel
theorem dX10_clocks_44 : decode cX10_clocks 44 = .ok (.ifCond .ne 7, 3) := by decide +kernel
theorem dX10_clocks_47 : decode cX10_clocks 47 = .ok (.ldc2_w 156, 3) := by decide +kernel
theorem dX10_clocks_50 : decode cX10_clocks 50 = .ok (.lreturn, 1) := by decide +kernel
theorem dX10_clocks_51 : decode cX10_clocks 51 = .ok (.iload_n 3, 1) := by decide +kernel
theorem dX10_clocks_52 : decode cX10_clocks 52 = .ok (.bipush 100, 2) := by decide +kernel
theorem dX10_clocks_54 : decode cX10_clocks 54 = .ok (.idiv, 1) := by decide +kernel
theorem dX10_clocks_55 : decode cX10_clocks 55 = .ok (.istore 5, 2) := by decide +kernel
theorem dX10_clocks_57 : decode cX10_clocks 57 = .ok (.iload_n 3, 1) := by decide +kernel
theorem dX10_clocks_58 : decode cX10_clocks 58 = .ok (.bipush 100, 2) := by decide +kernel
theorem dX10_clocks_60 : decode cX10_clocks 60 = .ok (.irem, 1) := by decide +kernel
theorem dX10_clocks_61 : decode cX10_clocks 61 = .ok (.istore 6, 2) := by decide +kernel
theorem dX10_clocks_63 : decode cX10_clocks 63 = .ok (.iload 5, 2) := by decide +kernel
theorem dX10_clocks_65 : decode cX10_clocks 65 = .ok (.iconst 1, 1) := by decide +kernel
theorem dX10_clocks_66 : decode cX10_clocks 66 = .ok (.if_icmp .lt 9, 3) := by decide +kernel
theorem dX10_clocks_69 : decode cX10_clocks 69 = .ok (.iload 6, 2) := by decide +kernel
theorem dX10_clocks_71 : decode cX10_clocks 71 = .ok (.iconst 1, 1) := by decide +kernel
theorem dX10_clocks_72 : decode cX10_clocks 72 = .ok (.if_icmp .ge 7, 3) := by decide +kernel
theorem dX10_clocks_75 : decode cX10_clocks 75 = .ok (.ldc2_w 156, 3) := by decide +kernel
