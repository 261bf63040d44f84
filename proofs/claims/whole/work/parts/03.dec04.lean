theorem dX11_ask_154 : decode cX11_ask 154 = .ok (.if_icmp .lt 6, 3) := by decide +kernel
theorem dX11_ask_157 : decode cX11_ask 157 = .ok (.goto 11, 3) := by decide +kernel
theorem dX11_ask_160 : decode cX11_ask 160 = .ok (.iload 7, 2) := by decide +kernel
theorem dX11_ask_162 : decode cX11_ask 162 = .ok (.istore 5, 2) := by decide +kernel
theorem dX11_ask_164 : decode cX11_ask 164 = .ok (.iload 8, 2) := by decide +kernel
theorem dX11_ask_166 : decode cX11_ask 166 = .ok (.istore 6, 2) := by decide +kernel
theorem dX11_ask_168 : decode cX11_ask 168 = .ok (.iinc 7 1, 3) := by decide +kernel
theorem dX11_ask_171 : decode cX11_ask 171 = .ok (.goto (-134), 3) := by decide +kernel
theorem dX11_ask_174 : decode cX11_ask 174 = .ok (.iload 5, 2) := by decide +kernel
theorem dX11_ask_176 : decode cX11_ask 176 = .ok (.ifCond .lt 7, 3) := by decide +kernel
theorem dX11_ask_179 : decode cX11_ask 179 = .ok (.iload_n 3, 1) := by decide +kernel
theorem dX11_ask_180 : decode cX11_ask 180 = .ok (.ifCond .ne 8, 3) := by decide +kernel
theorem dX11_ask_183 : decode cX11_ask 183 = .ok (.iload 5, 2) := by decide +kernel
theorem dX11_ask_185 : decode cX11_ask 185 = .ok (.goto 5, 3) := by decide +kernel
theorem dX11_ask_188 : decode cX11_ask 188 = .ok (.iload 6, 2) := by decide +kernel
theorem dX11_ask_190 : decode cX11_ask 190 = .ok (.ireturn, 1) := by decide +kernel
theorem dX11_clocks_0 : decode cX11_clocks 0 = .ok (.iload_n 1, 1) := by decide +kernel
theorem dX11_clocks_1 : decode cX11_clocks 1 = .ok (.sipush (-9999), 3) := by decide +kernel
theorem dX11_clocks_4 : decode cX11_clocks 4 = .ok (.sipush 9999, 3) := by decide +kernel
theorem dX11_clocks_7 : decode cX11_clocks 7 = .ok (.invokestatic 127, 3) := by decide +kernel
theorem dX11_clocks_10 : decode cX11_clocks 10 = .ok (.ifCond .eq 50, 3) := by decide +kernel
theorem dX11_clocks_13 : decode cX11_clocks 13 = .ok (.iload_n 2, 1) := by decide +kernel
theorem dX11_clocks_14 : decode cX11_clocks 14 = .ok (.sipush (-9999), 3) := by decide +kernel
theorem dX11_clocks_17 : decode cX11_clocks 17 = .ok (.sipush 9999, 3) := by decide +kernel
theorem dX11_clocks_20 : decode cX11_clocks 20 = .ok (.invokestatic 127, 3) := by decide +kernel
theorem dX11_clocks_23 : decode cX11_clocks 23 = .ok (.ifCond .eq 37, 3) := by decide +kernel
theorem dX11_clocks_26 : decode cX11_clocks 26 = .ok (.iload_n 3, 1) := by decide +kernel
theorem dX11_clocks_27 : decode cX11_clocks 27 = .ok (.ifCond .lt 33, 3) := by decide +kernel
theorem dX11_clocks_30 : decode cX11_clocks 30 = .ok (.iload_n 3, 1) := by decide +kernel
theorem dX11_clocks_31 : decode cX11_clocks 31 = .ok (.bipush 100, 2) := by decide +kernel
theorem dX11_clocks_33 : decode cX11_clocks 33 = .ok (.idiv, 1) := by decide +kernel
theorem dX11_clocks_34 : decode cX11_clocks 34 = .ok (.iconst 1, 1) := by decide +kernel
theorem dX11_clocks_35 : decode cX11_clocks 35 = .ok (.bipush 99, 2) := by decide +kernel
theorem dX11_clocks_37 : decode cX11_clocks 37 = .ok (.invokestatic 127, 3) := by decide +kernel
theorem dX11_clocks_40 : decode cX11_clocks 40 = .ok (.ifCond .eq 20, 3) := by decide +kernel
theorem dX11_clocks_43 : decode cX11_clocks 43 = .ok (.iload_n 3, 1) := by decide +kernel
theorem dX11_clocks_44 : decode cX11_clocks 44 = .ok (.bipush 100, 2) := by decide +kernel
theorem dX11_clocks_46 : decode cX11_clocks 46 = .ok (.irem, 1) := by decide +kernel
theorem dX11_clocks_47 : decode cX11_clocks 47 = .ok (.ifCond .eq 13, 3) := by decide +kernel
theorem dX11_clocks_50 : decode cX11_clocks 50 = .ok (.iload 4, 2) := by decide +kernel
theorem dX11_clocks_52 : decode cX11_clocks 52 = .ok (.iconst 0, 1) := by decide +kernel
theorem dX11_clocks_53 : decode cX11_clocks 53 = .ok (.iconst 3, 1) := by decide +kernel
theorem dX11_clocks_54 : decode cX11_clocks 54 = .ok (.invokestatic 127, 3) := by decide +kernel
theorem dX11_clocks_57 : decode cX11_clocks 57 = .ok (.ifCond .ne 7, 3) := by decide +kernel
theorem dX11_clocks_60 : decode cX11_clocks 60 = .ok (.ldc2_w 279, 3) := by decide +kernel
theorem dX11_clocks_63 : decode cX11_clocks 63 = .ok (.lreturn, 1) := by decide +kernel
theorem dX11_clocks_64 : decode cX11_clocks 64 = .ok (.iload_n 3, 1) := by decide +kernel
theorem dX11_clocks_65 : decode cX11_clocks 65 = .ok (.bipush 100, 2) := by decide +kernel
theorem dX11_clocks_67 : decode cX11_clocks 67 = .ok (.idiv, 1) := by decide +kernel
theorem dX11_clocks_68 : decode cX11_clocks 68 = .ok (.i2l, 1) := by decide +kernel
theorem dX11_clocks_69 : decode cX11_clocks 69 = .ok (.lstore 5, 2) := by decide +kernel
theorem dX11_clocks_71 : decode cX11_clocks 71 = .ok (.iload_n 3, 1) := by decide +kernel
theorem dX11_clocks_72 : decode cX11_clocks 72 = .ok (.bipush 100, 2) := by decide +kernel
theorem dX11_clocks_74 : decode cX11_clocks 74 = .ok (.irem, 1) := by decide +kernel
theorem dX11_clocks_75 : decode cX11_clocks 75 = .ok (.i2l, 1) := by decide +kernel
theorem dX11_clocks_76 : decode cX11_clocks 76 = .ok (.lstore 7, 2) := by decide +kernel
theorem dX11_clocks_78 : decode cX11_clocks 78 = .ok (.iload 4, 2) := by decide +kernel
theorem dX11_clocks_80 : decode cX11_clocks 80 = .ok (.iconst 2, 1) := by decide +kernel
theorem dX11_clocks_81 : decode cX11_clocks 81 = .ok (.if_icmp .ge 35, 3) := by decide +kernel
theorem dX11_clocks_84 : decode cX11_clocks 84 = .ok (.iload_n 1, 1) := by decide +kernel
theorem dX11_clocks_85 : decode cX11_clocks 85 = .ok (.i2l, 1) := by decide +kernel
theorem dX11_clocks_86 : decode cX11_clocks 86 = .ok (.lload 7, 2) := by decide +kernel
theorem dX11_clocks_88 : decode cX11_clocks 88 = .ok (.lmul, 1) := by decide +kernel
theorem dX11_clocks_89 : decode cX11_clocks 89 = .ok (.iload_n 2, 1) := by decide +kernel
theorem dX11_clocks_90 : decode cX11_clocks 90 = .ok (.i2l, 1) := by decide +kernel
theorem dX11_clocks_91 : decode cX11_clocks 91 = .ok (.lload 5, 2) := by decide +kernel
theorem dX11_clocks_93 : decode cX11_clocks 93 = .ok (.lmul, 1) := by decide +kernel
theorem dX11_clocks_94 : decode cX11_clocks 94 = .ok (.ladd, 1) := by decide +kernel
theorem dX11_clocks_95 : decode cX11_clocks 95 = .ok (.lload 5, 2) := by decide +kernel
theorem dX11_clocks_97 : decode cX11_clocks 97 = .ok (.lload 7, 2) := by decide +kernel
theorem dX11_clocks_99 : decode cX11_clocks 99 = .ok (.ladd, 1) := by decide +kernel
theorem dX11_clocks_100 : decode cX11_clocks 100 = .ok (.iload 4, 2) := by decide +kernel
theorem dX11_clocks_102 : decode cX11_clocks 102 = .ok (.ifCond .ne 7, 3) := by decide +kernel
theorem dX11_clocks_105 : decode cX11_clocks 105 = .ok (.iconst 1, 1) := by decide +kernel
theorem dX11_clocks_106 : decode cX11_clocks 106 = .ok (.goto 4, 3) := by decide +kernel
theorem dX11_clocks_109 : decode cX11_clocks 109 = .ok (.iconst 0, 1) := by decide +kernel
theorem dX11_clocks_110 : decode cX11_clocks 110 = .ok (.invokestatic 323, 3) := by decide +kernel
theorem dX11_clocks_113 : decode cX11_clocks 113 = .ok (.goto 27, 3) := by decide +kernel
theorem dX11_clocks_116 : decode cX11_clocks 116 = .ok (.lload 5, 2) := by decide +kernel
theorem dX11_clocks_118 : decode cX11_clocks 118 = .ok (.lload 7, 2) := by decide +kernel
theorem dX11_clocks_120 : decode cX11_clocks 120 = .ok (.lmul, 1) := by decide +kernel
theorem dX11_clocks_121 : decode cX11_clocks 121 = .ok (.lload 5, 2) := by decide +kernel
theorem dX11_clocks_123 : decode cX11_clocks 123 = .ok (.lload 7, 2) := by decide +kernel
theorem dX11_clocks_125 : decode cX11_clocks 125 = .ok (.ladd, 1) := by decide +kernel
theorem dX11_clocks_126 : decode cX11_clocks 126 = .ok (.iload 4, 2) := by decide +kernel
theorem dX11_clocks_128 : decode cX11_clocks 128 = .ok (.iconst 2, 1) := by decide +kernel
theorem dX11_clocks_129 : decode cX11_clocks 129 = .ok (.if_icmp .ne 7, 3) := by decide +kernel
theorem dX11_clocks_132 : decode cX11_clocks 132 = .ok (.iconst 1, 1) := by decide +kernel
theorem dX11_clocks_133 : decode cX11_clocks 133 = .ok (.goto 4, 3) := by decide +kernel
theorem dX11_clocks_136 : decode cX11_clocks 136 = .ok (.iconst 0, 1) := by decide +kernel
theorem dX11_clocks_137 : decode cX11_clocks 137 = .ok (.invokestatic 323, 3) := by decide +kernel
theorem dX11_clocks_140 : decode cX11_clocks 140 = .ok (.lreturn, 1) := by decide +kernel
theorem dX11_isReport_0 : decode cX11_isReport 0 = .ok (.iload_n 1, 1) := by decide +kernel
theorem dX11_isReport_1 : decode cX11_isReport 1 = .ok (.iconst 0, 1) := by decide +kernel
theorem dX11_isReport_2 : decode cX11_isReport 2 = .ok (.aload_n 0, 1) := by decide +kernel
theorem dX11_isReport_3 : decode cX11_isReport 3 = .ok (.getfield 141, 3) := by decide +kernel
theorem dX11_isReport_6 : decode cX11_isReport 6 = .ok (.iconst 1, 1) := by decide +kernel
theorem dX11_isReport_7 : decode cX11_isReport 7 = .ok (.isub, 1) := by decide +kernel
theorem dX11_isReport_8 : decode cX11_isReport 8 = .ok (.invokestatic 127, 3) := by decide +kernel
theorem dX11_isReport_11 : decode cX11_isReport 11 = .ok (.ireturn, 1) := by decide +kernel
theorem dX11_isShip_0 : decode cX11_isShip 0 = .ok (.iload_n 0, 1) := by decide +kernel
theorem dX11_isShip_1 : decode cX11_isShip 1 = .ok (.iconst 0, 1) := by decide +kernel
theorem dX11_isShip_2 : decode cX11_isShip 2 = .ok (.iconst 3, 1) := by decide +kernel
theorem dX11_isShip_3 : decode cX11_isShip 3 = .ok (.invokestatic 127, 3) := by decide +kernel
theorem dX11_isShip_6 : decode cX11_isShip 6 = .ok (.ireturn, 1) := by decide +kernel
theorem dX11_isDay_0 : decode cX11_isDay 0 = .ok (.iload_n 0, 1) := by decide +kernel
theorem dX11_isDay_1 : decode cX11_isDay 1 = .ok (.iconst 0, 1) := by decide +kernel
theorem dX11_isDay_2 : decode cX11_isDay 2 = .ok (.sipush 365, 3) := by decide +kernel
theorem dX11_isDay_5 : decode cX11_isDay 5 = .ok (.invokestatic 127, 3) := by decide +kernel
theorem dX11_isDay_8 : decode cX11_isDay 8 = .ok (.ireturn, 1) := by decide +kernel
theorem dX11_isSpeed_0 : decode cX11_isSpeed 0 = .ok (.iload_n 0, 1) := by decide +kernel
theorem dX11_isSpeed_1 : decode cX11_isSpeed 1 = .ok (.iconst 0, 1) := by decide +kernel
theorem dX11_isSpeed_2 : decode cX11_isSpeed 2 = .ok (.bipush 60, 2) := by decide +kernel
theorem dX11_isSpeed_4 : decode cX11_isSpeed 4 = .ok (.invokestatic 127, 3) := by decide +kernel
theorem dX11_isSpeed_7 : decode cX11_isSpeed 7 = .ok (.ireturn, 1) := by decide +kernel
theorem dX11_print_0 : decode cX11_print 0 = .ok (.iload_n 1, 1) := by decide +kernel
theorem dX11_print_1 : decode cX11_print 1 = .ok (.invokestatic 339, 3) := by decide +kernel
theorem dX11_print_4 : decode cX11_print 4 = .ok (.ifCond .eq 31, 3) := by decide +kernel
theorem dX11_print_7 : decode cX11_print 7 = .ok (.iload_n 2, 1) := by decide +kernel
theorem dX11_print_8 : decode cX11_print 8 = .ok (.invokestatic 342, 3) := by decide +kernel
theorem dX11_print_11 : decode cX11_print 11 = .ok (.ifCond .eq 24, 3) := by decide +kernel
theorem dX11_print_14 : decode cX11_print 14 = .ok (.iload_n 3, 1) := by decide +kernel
theorem dX11_print_15 : decode cX11_print 15 = .ok (.iconst 0, 1) := by decide +kernel
theorem dX11_print_16 : decode cX11_print 16 = .ok (.bipush 60, 2) := by decide +kernel
theorem dX11_print_18 : decode cX11_print 18 = .ok (.invokestatic 127, 3) := by decide +kernel
theorem dX11_print_21 : decode cX11_print 21 = .ok (.ifCond .eq 14, 3) := by decide +kernel
theorem dX11_print_24 : decode cX11_print 24 = .ok (.iload 4, 2) := by decide +kernel
theorem dX11_print_26 : decode cX11_print 26 = .ok (.iconst 0, 1) := by decide +kernel
theorem dX11_print_27 : decode cX11_print 27 = .ok (.bipush 9, 2) := by decide +kernel
theorem dX11_print_29 : decode cX11_print 29 = .ok (.invokestatic 127, 3) := by decide +kernel
theorem dX11_print_32 : decode cX11_print 32 = .ok (.ifCond .ne 6, 3) := by decide +kernel
theorem dX11_print_35 : decode cX11_print 35 = .ok (.bipush (-2), 2) := by decide +kernel
theorem dX11_print_37 : decode cX11_print 37 = .ok (.ireturn, 1) := by decide +kernel
theorem dX11_print_38 : decode cX11_print 38 = .ok (.aload_n 0, 1) := by decide +kernel
theorem dX11_print_39 : decode cX11_print 39 = .ok (.getfield 141, 3) := by decide +kernel
theorem dX11_print_42 : decode cX11_print 42 = .ok (.bipush 10, 2) := by decide +kernel
theorem dX11_print_44 : decode cX11_print 44 = .ok (.if_icmp .ne 6, 3) := by decide +kernel
theorem dX11_print_47 : decode cX11_print 47 = .ok (.bipush (-4), 2) := by decide +kernel
theorem dX11_print_49 : decode cX11_print 49 = .ok (.ireturn, 1) := by decide +kernel
theorem dX11_print_50 : decode cX11_print 50 = .ok (.aload_n 0, 1) := by decide +kernel
theorem dX11_print_51 : decode cX11_print 51 = .ok (.getfield 79, 3) := by decide +kernel
theorem dX11_print_54 : decode cX11_print 54 = .ok (.aload_n 0, 1) := by decide +kernel
theorem dX11_print_55 : decode cX11_print 55 = .ok (.getfield 141, 3) := by decide +kernel
theorem dX11_print_58 : decode cX11_print 58 = .ok (.iload_n 1, 1) := by decide +kernel
theorem dX11_print_59 : decode cX11_print 59 = .ok (.iastore, 1) := by decide +kernel
theorem dX11_print_60 : decode cX11_print 60 = .ok (.aload_n 0, 1) := by decide +kernel
theorem dX11_print_61 : decode cX11_print 61 = .ok (.getfield 82, 3) := by decide +kernel
theorem dX11_print_64 : decode cX11_print 64 = .ok (.aload_n 0, 1) := by decide +kernel
theorem dX11_print_65 : decode cX11_print 65 = .ok (.getfield 141, 3) := by decide +kernel
theorem dX11_print_68 : decode cX11_print 68 = .ok (.iload_n 2, 1) := by decide +kernel
theorem dX11_print_69 : decode cX11_print 69 = .ok (.iastore, 1) := by decide +kernel
theorem dX11_print_70 : decode cX11_print 70 = .ok (.aload_n 0, 1) := by decide +kernel
theorem dX11_print_71 : decode cX11_print 71 = .ok (.getfield 85, 3) := by decide +kernel
theorem dX11_print_74 : decode cX11_print 74 = .ok (.aload_n 0, 1) := by decide +kernel
theorem dX11_print_75 : decode cX11_print 75 = .ok (.getfield 141, 3) := by decide +kernel
theorem dX11_print_78 : decode cX11_print 78 = .ok (.iload_n 3, 1) := by decide +kernel
theorem dX11_print_79 : decode cX11_print 79 = .ok (.iastore, 1) := by decide +kernel
theorem dX11_print_80 : decode cX11_print 80 = .ok (.aload_n 0, 1) := by decide +kernel
theorem dX11_print_81 : decode cX11_print 81 = .ok (.getfield 88, 3) := by decide +kernel
theorem dX11_print_84 : decode cX11_print 84 = .ok (.aload_n 0, 1) := by decide +kernel
theorem dX11_print_85 : decode cX11_print 85 = .ok (.getfield 141, 3) := by decide +kernel
theorem dX11_print_88 : decode cX11_print 88 = .ok (.iload 4, 2) := by decide +kernel
theorem dX11_print_90 : decode cX11_print 90 = .ok (.iastore, 1) := by decide +kernel
theorem dX11_print_91 : decode cX11_print 91 = .ok (.aload_n 0, 1) := by decide +kernel
theorem dX11_print_92 : decode cX11_print 92 = .ok (.dup, 1) := by decide +kernel
theorem dX11_print_93 : decode cX11_print 93 = .ok (.getfield 141, 3) := by decide +kernel
theorem dX11_print_96 : decode cX11_print 96 = .ok (.iconst 1, 1) := by decide +kernel
theorem dX11_print_97 : decode cX11_print 97 = .ok (.iadd, 1) := by decide +kernel
theorem dX11_print_98 : decode cX11_print 98 = .ok (.putfield 141, 3) := by decide +kernel
theorem dX11_print_101 : decode cX11_print 101 = .ok (.aload_n 0, 1) := by decide +kernel
theorem dX11_print_102 : decode cX11_print 102 = .ok (.getfield 141, 3) := by decide +kernel
theorem dX11_print_105 : decode cX11_print 105 = .ok (.iconst 1, 1) := by decide +kernel
theorem dX11_print_106 : decode cX11_print 106 = .ok (.isub, 1) := by decide +kernel
theorem dX11_print_107 : decode cX11_print 107 = .ok (.ireturn, 1) := by decide +kernel
theorem dX11_printed_0 : decode cX11_printed 0 = .ok (.aload_n 0, 1) := by decide +kernel
theorem dX11_printed_1 : decode cX11_printed 1 = .ok (.iload_n 1, 1) := by decide +kernel
theorem dX11_printed_2 : decode cX11_printed 2 = .ok (.invokevirtual 345, 3) := by decide +kernel
theorem dX11_printed_5 : decode cX11_printed 5 = .ok (.ifCond .ne 6, 3) := by decide +kernel
theorem dX11_printed_8 : decode cX11_printed 8 = .ok (.bipush (-5), 2) := by decide +kernel
theorem dX11_printed_10 : decode cX11_printed 10 = .ok (.ireturn, 1) := by decide +kernel
theorem dX11_printed_11 : decode cX11_printed 11 = .ok (.iload_n 2, 1) := by decide +kernel
theorem dX11_printed_12 : decode cX11_printed 12 = .ok (.tableswitch 60 0 3 #[32, 39, 46, 53], 32) := by decide +kernel
theorem dX11_printed_44 : decode cX11_printed 44 = .ok (.aload_n 0, 1) := by decide +kernel
theorem dX11_printed_45 : decode cX11_printed 45 = .ok (.getfield 79, 3) := by decide +kernel
theorem dX11_printed_48 : decode cX11_printed 48 = .ok (.iload_n 1, 1) := by decide +kernel
theorem dX11_printed_49 : decode cX11_printed 49 = .ok (.iaload, 1) := by decide +kernel
theorem dX11_printed_50 : decode cX11_printed 50 = .ok (.ireturn, 1) := by decide +kernel
theorem dX11_printed_51 : decode cX11_printed 51 = .ok (.aload_n 0, 1) := by decide +kernel
theorem dX11_printed_52 : decode cX11_printed 52 = .ok (.getfield 82, 3) := by decide +kernel
theorem dX11_printed_55 : decode cX11_printed 55 = .ok (.iload_n 1, 1) := by decide +kernel
theorem dX11_printed_56 : decode cX11_printed 56 = .ok (.iaload, 1) := by decide +kernel
theorem dX11_printed_57 : decode cX11_printed 57 = .ok (.ireturn, 1) := by decide +kernel
theorem dX11_printed_58 : decode cX11_printed 58 = .ok (.aload_n 0, 1) := by decide +kernel
theorem dX11_printed_59 : decode cX11_printed 59 = .ok (.getfield 85, 3) := by decide +kernel
theorem dX11_printed_62 : decode cX11_printed 62 = .ok (.iload_n 1, 1) := by decide +kernel
theorem dX11_printed_63 : decode cX11_printed 63 = .ok (.iaload, 1) := by decide +kernel
theorem dX11_printed_64 : decode cX11_printed 64 = .ok (.ireturn, 1) := by decide +kernel
theorem dX11_printed_65 : decode cX11_printed 65 = .ok (.aload_n 0, 1) := by decide +kernel
theorem dX11_printed_66 : decode cX11_printed 66 = .ok (.getfield 88, 3) := by decide +kernel
theorem dX11_printed_69 : decode cX11_printed 69 = .ok (.iload_n 1, 1) := by decide +kernel
theorem dX11_printed_70 : decode cX11_printed 70 = .ok (.iaload, 1) := by decide +kernel
theorem dX11_printed_71 : decode cX11_printed 71 = .ok (.ireturn, 1) := by decide +kernel
theorem dX11_printed_72 : decode cX11_printed 72 = .ok (.bipush (-7), 2) := by decide +kernel
theorem dX11_printed_74 : decode cX11_printed 74 = .ok (.ireturn, 1) := by decide +kernel
theorem dX11_meetingOf_0 : decode cX11_meetingOf 0 = .ok (.iconst 1, 1) := by decide +kernel
theorem dX11_meetingOf_1 : decode cX11_meetingOf 1 = .ok (.iload_n 1, 1) := by decide +kernel
theorem dX11_meetingOf_2 : decode cX11_meetingOf 2 = .ok (.ishl, 1) := by decide +kernel
theorem dX11_meetingOf_3 : decode cX11_meetingOf 3 = .ok (.istore_n 2, 1) := by decide +kernel
theorem dX11_meetingOf_4 : decode cX11_meetingOf 4 = .ok (.iconst 1, 1) := by decide +kernel
theorem dX11_meetingOf_5 : decode cX11_meetingOf 5 = .ok (.istore_n 3, 1) := by decide +kernel
theorem dX11_meetingOf_6 : decode cX11_meetingOf 6 = .ok (.iload_n 3, 1) := by decide +kernel
theorem dX11_meetingOf_7 : decode cX11_meetingOf 7 = .ok (.ifCond .eq 142, 3) := by decide +kernel
theorem dX11_meetingOf_10 : decode cX11_meetingOf 10 = .ok (.iload_n 2, 1) := by decide +kernel
theorem dX11_meetingOf_11 : decode cX11_meetingOf 11 = .ok (.istore 4, 2) := by decide +kernel
theorem dX11_meetingOf_13 : decode cX11_meetingOf 13 = .ok (.iconst 0, 1) := by decide +kernel
theorem dX11_meetingOf_14 : decode cX11_meetingOf 14 = .ok (.istore 5, 2) := by decide +kernel
theorem dX11_meetingOf_16 : decode cX11_meetingOf 16 = .ok (.iload 5, 2) := by decide +kernel
theorem dX11_meetingOf_18 : decode cX11_meetingOf 18 = .ok (.aload_n 0, 1) := by decide +kernel
theorem dX11_meetingOf_19 : decode cX11_meetingOf 19 = .ok (.getfield 141, 3) := by decide +kernel
theorem dX11_meetingOf_22 : decode cX11_meetingOf 22 = .ok (.if_icmp .ge 109, 3) := by decide +kernel
theorem dX11_meetingOf_25 : decode cX11_meetingOf 25 = .ok (.iload_n 2, 1) := by decide +kernel
theorem dX11_meetingOf_26 : decode cX11_meetingOf 26 = .ok (.iload 5, 2) := by decide +kernel
theorem dX11_meetingOf_28 : decode cX11_meetingOf 28 = .ok (.ishr, 1) := by decide +kernel
theorem dX11_meetingOf_29 : decode cX11_meetingOf 29 = .ok (.iconst 1, 1) := by decide +kernel
theorem dX11_meetingOf_30 : decode cX11_meetingOf 30 = .ok (.iand, 1) := by decide +kernel
theorem dX11_meetingOf_31 : decode cX11_meetingOf 31 = .ok (.ifCond .ne 6, 3) := by decide +kernel
theorem dX11_meetingOf_34 : decode cX11_meetingOf 34 = .ok (.goto 91, 3) := by decide +kernel
theorem dX11_meetingOf_37 : decode cX11_meetingOf 37 = .ok (.iconst 0, 1) := by decide +kernel
theorem dX11_meetingOf_38 : decode cX11_meetingOf 38 = .ok (.istore 6, 2) := by decide +kernel
theorem dX11_meetingOf_40 : decode cX11_meetingOf 40 = .ok (.iload 6, 2) := by decide +kernel
theorem dX11_meetingOf_42 : decode cX11_meetingOf 42 = .ok (.aload_n 0, 1) := by decide +kernel
theorem dX11_meetingOf_43 : decode cX11_meetingOf 43 = .ok (.getfield 141, 3) := by decide +kernel
theorem dX11_meetingOf_46 : decode cX11_meetingOf 46 = .ok (.if_icmp .ge 79, 3) := by decide +kernel
theorem dX11_meetingOf_49 : decode cX11_meetingOf 49 = .ok (.aload_n 0, 1) := by decide +kernel
theorem dX11_meetingOf_50 : decode cX11_meetingOf 50 = .ok (.getfield 79, 3) := by decide +kernel
theorem dX11_meetingOf_53 : decode cX11_meetingOf 53 = .ok (.iload 5, 2) := by decide +kernel
theorem dX11_meetingOf_55 : decode cX11_meetingOf 55 = .ok (.iaload, 1) := by decide +kernel
theorem dX11_meetingOf_56 : decode cX11_meetingOf 56 = .ok (.aload_n 0, 1) := by decide +kernel
theorem dX11_meetingOf_57 : decode cX11_meetingOf 57 = .ok (.getfield 79, 3) := by decide +kernel
theorem dX11_meetingOf_60 : decode cX11_meetingOf 60 = .ok (.iload 6, 2) := by decide +kernel
theorem dX11_meetingOf_62 : decode cX11_meetingOf 62 = .ok (.iaload, 1) := by decide +kernel
theorem dX11_meetingOf_63 : decode cX11_meetingOf 63 = .ok (.if_icmp .ne 56, 3) := by decide +kernel
theorem dX11_meetingOf_66 : decode cX11_meetingOf 66 = .ok (.aload_n 0, 1) := by decide +kernel
theorem dX11_meetingOf_67 : decode cX11_meetingOf 67 = .ok (.getfield 82, 3) := by decide +kernel
theorem dX11_meetingOf_70 : decode cX11_meetingOf 70 = .ok (.iload 5, 2) := by decide +kernel
theorem dX11_meetingOf_72 : decode cX11_meetingOf 72 = .ok (.iaload, 1) := by decide +kernel
theorem dX11_meetingOf_73 : decode cX11_meetingOf 73 = .ok (.aload_n 0, 1) := by decide +kernel
theorem dX11_meetingOf_74 : decode cX11_meetingOf 74 = .ok (.getfield 82, 3) := by decide +kernel
theorem dX11_meetingOf_77 : decode cX11_meetingOf 77 = .ok (.iload 6, 2) := by decide +kernel
theorem dX11_meetingOf_79 : decode cX11_meetingOf 79 = .ok (.iaload, 1) := by decide +kernel
theorem dX11_meetingOf_80 : decode cX11_meetingOf 80 = .ok (.isub, 1) := by decide +kernel
theorem dX11_meetingOf_81 : decode cX11_meetingOf 81 = .ok (.invokestatic 153, 3) := by decide +kernel
theorem dX11_meetingOf_84 : decode cX11_meetingOf 84 = .ok (.iconst 1, 1) := by decide +kernel
theorem dX11_meetingOf_85 : decode cX11_meetingOf 85 = .ok (.if_icmp .gt 34, 3) := by decide +kernel
theorem dX11_meetingOf_88 : decode cX11_meetingOf 88 = .ok (.aload_n 0, 1) := by decide +kernel
theorem dX11_meetingOf_89 : decode cX11_meetingOf 89 = .ok (.getfield 85, 3) := by decide +kernel
theorem dX11_meetingOf_92 : decode cX11_meetingOf 92 = .ok (.iload 5, 2) := by decide +kernel
theorem dX11_meetingOf_94 : decode cX11_meetingOf 94 = .ok (.iaload, 1) := by decide +kernel
theorem dX11_meetingOf_95 : decode cX11_meetingOf 95 = .ok (.aload_n 0, 1) := by decide +kernel
theorem dX11_meetingOf_96 : decode cX11_meetingOf 96 = .ok (.getfield 85, 3) := by decide +kernel
theorem dX11_meetingOf_99 : decode cX11_meetingOf 99 = .ok (.iload 6, 2) := by decide +kernel
theorem dX11_meetingOf_101 : decode cX11_meetingOf 101 = .ok (.iaload, 1) := by decide +kernel
theorem dX11_meetingOf_102 : decode cX11_meetingOf 102 = .ok (.isub, 1) := by decide +kernel
theorem dX11_meetingOf_103 : decode cX11_meetingOf 103 = .ok (.invokestatic 153, 3) := by decide +kernel
theorem dX11_meetingOf_106 : decode cX11_meetingOf 106 = .ok (.iconst 2, 1) := by decide +kernel
theorem dX11_meetingOf_107 : decode cX11_meetingOf 107 = .ok (.if_icmp .gt 12, 3) := by decide +kernel
theorem dX11_meetingOf_110 : decode cX11_meetingOf 110 = .ok (.iload 4, 2) := by decide +kernel
theorem dX11_meetingOf_112 : decode cX11_meetingOf 112 = .ok (.iconst 1, 1) := by decide +kernel
theorem dX11_meetingOf_113 : decode cX11_meetingOf 113 = .ok (.iload 6, 2) := by decide +kernel
theorem dX11_meetingOf_115 : decode cX11_meetingOf 115 = .ok (.ishl, 1) := by decide +kernel
theorem dX11_meetingOf_116 : decode cX11_meetingOf 116 = .ok (.ior, 1) := by decide +kernel
theorem dX11_meetingOf_117 : decode cX11_meetingOf 117 = .ok (.istore 4, 2) := by decide +kernel
theorem dX11_meetingOf_119 : decode cX11_meetingOf 119 = .ok (.iinc 6 1, 3) := by decide +kernel
theorem dX11_meetingOf_122 : decode cX11_meetingOf 122 = .ok (.goto (-82), 3) := by decide +kernel
theorem dX11_meetingOf_125 : decode cX11_meetingOf 125 = .ok (.iinc 5 1, 3) := by decide +kernel
theorem dX11_meetingOf_128 : decode cX11_meetingOf 128 = .ok (.goto (-112), 3) := by decide +kernel
theorem dX11_meetingOf_131 : decode cX11_meetingOf 131 = .ok (.iload 4, 2) := by decide +kernel
theorem dX11_meetingOf_133 : decode cX11_meetingOf 133 = .ok (.iload_n 2, 1) := by decide +kernel
theorem dX11_meetingOf_134 : decode cX11_meetingOf 134 = .ok (.if_icmp .eq 7, 3) := by decide +kernel
theorem dX11_meetingOf_137 : decode cX11_meetingOf 137 = .ok (.iconst 1, 1) := by decide +kernel
theorem dX11_meetingOf_138 : decode cX11_meetingOf 138 = .ok (.goto 4, 3) := by decide +kernel
theorem dX11_meetingOf_141 : decode cX11_meetingOf 141 = .ok (.iconst 0, 1) := by decide +kernel
theorem dX11_meetingOf_142 : decode cX11_meetingOf 142 = .ok (.istore_n 3, 1) := by decide +kernel
theorem dX11_meetingOf_143 : decode cX11_meetingOf 143 = .ok (.iload 4, 2) := by decide +kernel
theorem dX11_meetingOf_145 : decode cX11_meetingOf 145 = .ok (.istore_n 2, 1) := by decide +kernel
theorem dX11_meetingOf_146 : decode cX11_meetingOf 146 = .ok (.goto (-140), 3) := by decide +kernel
theorem dX11_meetingOf_149 : decode cX11_meetingOf 149 = .ok (.iload_n 2, 1) := by decide +kernel
theorem dX11_meetingOf_150 : decode cX11_meetingOf 150 = .ok (.ireturn, 1) := by decide +kernel
theorem dX11_join_0 : decode cX11_join 0 = .ok (.aload_n 0, 1) := by decide +kernel
theorem dX11_join_1 : decode cX11_join 1 = .ok (.iload_n 1, 1) := by decide +kernel
theorem dX11_join_2 : decode cX11_join 2 = .ok (.invokevirtual 345, 3) := by decide +kernel
theorem dX11_join_5 : decode cX11_join 5 = .ok (.ifCond .eq 11, 3) := by decide +kernel
theorem dX11_join_8 : decode cX11_join 8 = .ok (.aload_n 0, 1) := by decide +kernel
theorem dX11_join_9 : decode cX11_join 9 = .ok (.iload_n 1, 1) := by decide +kernel
theorem dX11_join_10 : decode cX11_join 10 = .ok (.invokevirtual 348, 3) := by decide +kernel
theorem dX11_join_13 : decode cX11_join 13 = .ok (.goto 5, 3) := by decide +kernel
theorem dX11_join_16 : decode cX11_join 16 = .ok (.bipush (-5), 2) := by decide +kernel
theorem dX11_join_18 : decode cX11_join 18 = .ok (.ireturn, 1) := by decide +kernel
theorem dX11_met_0 : decode cX11_met 0 = .ok (.iload_n 1, 1) := by decide +kernel
theorem dX11_met_1 : decode cX11_met 1 = .ok (.invokestatic 339, 3) := by decide +kernel
theorem dX11_met_4 : decode cX11_met 4 = .ok (.ifCond .ne 6, 3) := by decide +kernel
theorem dX11_met_7 : decode cX11_met 7 = .ok (.bipush (-5), 2) := by decide +kernel
theorem dX11_met_9 : decode cX11_met 9 = .ok (.ireturn, 1) := by decide +kernel
theorem dX11_met_10 : decode cX11_met 10 = .ok (.iconst 0, 1) := by decide +kernel
theorem dX11_met_11 : decode cX11_met 11 = .ok (.istore_n 2, 1) := by decide +kernel
theorem dX11_met_12 : decode cX11_met 12 = .ok (.iconst 0, 1) := by decide +kernel
theorem dX11_met_13 : decode cX11_met 13 = .ok (.istore_n 3, 1) := by decide +kernel
theorem dX11_met_14 : decode cX11_met 14 = .ok (.iconst 0, 1) := by decide +kernel
theorem dX11_met_15 : decode cX11_met 15 = .ok (.istore 4, 2) := by decide +kernel
theorem dX11_met_17 : decode cX11_met 17 = .ok (.iload 4, 2) := by decide +kernel
theorem dX11_met_19 : decode cX11_met 19 = .ok (.aload_n 0, 1) := by decide +kernel
theorem dX11_met_20 : decode cX11_met 20 = .ok (.getfield 141, 3) := by decide +kernel
theorem dX11_met_23 : decode cX11_met 23 = .ok (.if_icmp .ge 45, 3) := by decide +kernel
theorem dX11_met_26 : decode cX11_met 26 = .ok (.aload_n 0, 1) := by decide +kernel
theorem dX11_met_27 : decode cX11_met 27 = .ok (.getfield 79, 3) := by decide +kernel
theorem dX11_met_30 : decode cX11_met 30 = .ok (.iload 4, 2) := by decide +kernel
theorem dX11_met_32 : decode cX11_met 32 = .ok (.iaload, 1) := by decide +kernel
theorem dX11_met_33 : decode cX11_met 33 = .ok (.iload_n 1, 1) := by decide +kernel
theorem dX11_met_34 : decode cX11_met 34 = .ok (.if_icmp .ne 28, 3) := by decide +kernel
theorem dX11_met_37 : decode cX11_met 37 = .ok (.iload_n 2, 1) := by decide +kernel
theorem dX11_met_38 : decode cX11_met 38 = .ok (.iload 4, 2) := by decide +kernel
theorem dX11_met_40 : decode cX11_met 40 = .ok (.ishr, 1) := by decide +kernel
theorem dX11_met_41 : decode cX11_met 41 = .ok (.iconst 1, 1) := by decide +kernel
theorem dX11_met_42 : decode cX11_met 42 = .ok (.iand, 1) := by decide +kernel
theorem dX11_met_43 : decode cX11_met 43 = .ok (.iconst 1, 1) := by decide +kernel
theorem dX11_met_44 : decode cX11_met 44 = .ok (.if_icmp .ne 6, 3) := by decide +kernel
theorem dX11_met_47 : decode cX11_met 47 = .ok (.goto 15, 3) := by decide +kernel
theorem dX11_met_50 : decode cX11_met 50 = .ok (.iload_n 2, 1) := by decide +kernel
theorem dX11_met_51 : decode cX11_met 51 = .ok (.aload_n 0, 1) := by decide +kernel
theorem dX11_met_52 : decode cX11_met 52 = .ok (.iload 4, 2) := by decide +kernel
theorem dX11_met_54 : decode cX11_met 54 = .ok (.invokevirtual 348, 3) := by decide +kernel
theorem dX11_met_57 : decode cX11_met 57 = .ok (.ior, 1) := by decide +kernel
theorem dX11_met_58 : decode cX11_met 58 = .ok (.istore_n 2, 1) := by decide +kernel
theorem dX11_met_59 : decode cX11_met 59 = .ok (.iinc 3 1, 3) := by decide +kernel
theorem dX11_met_62 : decode cX11_met 62 = .ok (.iinc 4 1, 3) := by decide +kernel
theorem dX11_met_65 : decode cX11_met 65 = .ok (.goto (-48), 3) := by decide +kernel
theorem dX11_met_68 : decode cX11_met 68 = .ok (.iload_n 3, 1) := by decide +kernel
theorem dX11_met_69 : decode cX11_met 69 = .ok (.ireturn, 1) := by decide +kernel
theorem dX11_canBoth_0 : decode cX11_canBoth 0 = .ok (.aload_n 0, 1) := by decide +kernel
theorem dX11_canBoth_1 : decode cX11_canBoth 1 = .ok (.getfield 85, 3) := by decide +kernel
theorem dX11_canBoth_4 : decode cX11_canBoth 4 = .ok (.iload_n 1, 1) := by decide +kernel
theorem dX11_canBoth_5 : decode cX11_canBoth 5 = .ok (.iaload, 1) := by decide +kernel
theorem dX11_canBoth_6 : decode cX11_canBoth 6 = .ok (.aload_n 0, 1) := by decide +kernel
theorem dX11_canBoth_7 : decode cX11_canBoth 7 = .ok (.getfield 85, 3) := by decide +kernel
theorem dX11_canBoth_10 : decode cX11_canBoth 10 = .ok (.iload_n 2, 1) := by decide +kernel
theorem dX11_canBoth_11 : decode cX11_canBoth 11 = .ok (.iaload, 1) := by decide +kernel
theorem dX11_canBoth_12 : decode cX11_canBoth 12 = .ok (.isub, 1) := by decide +kernel
theorem dX11_canBoth_13 : decode cX11_canBoth 13 = .ok (.invokestatic 153, 3) := by decide +kernel
theorem dX11_canBoth_16 : decode cX11_canBoth 16 = .ok (.iload_n 3, 1) := by decide +kernel
theorem dX11_canBoth_17 : decode cX11_canBoth 17 = .ok (.aload_n 0, 1) := by decide +kernel
theorem dX11_canBoth_18 : decode cX11_canBoth 18 = .ok (.getfield 82, 3) := by decide +kernel
theorem dX11_canBoth_21 : decode cX11_canBoth 21 = .ok (.iload_n 1, 1) := by decide +kernel
theorem dX11_canBoth_22 : decode cX11_canBoth 22 = .ok (.iaload, 1) := by decide +kernel
theorem dX11_canBoth_23 : decode cX11_canBoth 23 = .ok (.aload_n 0, 1) := by decide +kernel
theorem dX11_canBoth_24 : decode cX11_canBoth 24 = .ok (.getfield 82, 3) := by decide +kernel
theorem dX11_canBoth_27 : decode cX11_canBoth 27 = .ok (.iload_n 2, 1) := by decide +kernel
theorem dX11_canBoth_28 : decode cX11_canBoth 28 = .ok (.iaload, 1) := by decide +kernel
theorem dX11_canBoth_29 : decode cX11_canBoth 29 = .ok (.isub, 1) := by decide +kernel
theorem dX11_canBoth_30 : decode cX11_canBoth 30 = .ok (.invokestatic 153, 3) := by decide +kernel
theorem dX11_canBoth_33 : decode cX11_canBoth 33 = .ok (.imul, 1) := by decide +kernel
theorem dX11_canBoth_34 : decode cX11_canBoth 34 = .ok (.if_icmp .gt 7, 3) := by decide +kernel
theorem dX11_canBoth_37 : decode cX11_canBoth 37 = .ok (.iconst 1, 1) := by decide +kernel
theorem dX11_canBoth_38 : decode cX11_canBoth 38 = .ok (.goto 4, 3) := by decide +kernel
theorem dX11_canBoth_41 : decode cX11_canBoth 41 = .ok (.iconst 0, 1) := by decide +kernel
theorem dX11_canBoth_42 : decode cX11_canBoth 42 = .ok (.ireturn, 1) := by decide +kernel
theorem dX11_canAll_0 : decode cX11_canAll 0 = .ok (.iconst 0, 1) := by decide +kernel
theorem dX11_canAll_1 : decode cX11_canAll 1 = .ok (.istore_n 3, 1) := by decide +kernel
theorem dX11_canAll_2 : decode cX11_canAll 2 = .ok (.iload_n 3, 1) := by decide +kernel
theorem dX11_canAll_3 : decode cX11_canAll 3 = .ok (.aload_n 0, 1) := by decide +kernel
theorem dX11_canAll_4 : decode cX11_canAll 4 = .ok (.getfield 141, 3) := by decide +kernel
theorem dX11_canAll_7 : decode cX11_canAll 7 = .ok (.if_icmp .ge 61, 3) := by decide +kernel
theorem dX11_canAll_10 : decode cX11_canAll 10 = .ok (.iload_n 3, 1) := by decide +kernel
theorem dX11_canAll_11 : decode cX11_canAll 11 = .ok (.iconst 1, 1) := by decide +kernel
theorem dX11_canAll_12 : decode cX11_canAll 12 = .ok (.iadd, 1) := by decide +kernel
theorem dX11_canAll_13 : decode cX11_canAll 13 = .ok (.istore 4, 2) := by decide +kernel
theorem dX11_canAll_15 : decode cX11_canAll 15 = .ok (.iload 4, 2) := by decide +kernel
theorem dX11_canAll_17 : decode cX11_canAll 17 = .ok (.aload_n 0, 1) := by decide +kernel
theorem dX11_canAll_18 : decode cX11_canAll 18 = .ok (.getfield 141, 3) := by decide +kernel
theorem dX11_canAll_21 : decode cX11_canAll 21 = .ok (.if_icmp .ge 41, 3) := by decide +kernel
theorem dX11_canAll_24 : decode cX11_canAll 24 = .ok (.iload_n 1, 1) := by decide +kernel
theorem dX11_canAll_25 : decode cX11_canAll 25 = .ok (.iload_n 3, 1) := by decide +kernel
theorem dX11_canAll_26 : decode cX11_canAll 26 = .ok (.ishr, 1) := by decide +kernel
theorem dX11_canAll_27 : decode cX11_canAll 27 = .ok (.iconst 1, 1) := by decide +kernel
theorem dX11_canAll_28 : decode cX11_canAll 28 = .ok (.iand, 1) := by decide +kernel
theorem dX11_canAll_29 : decode cX11_canAll 29 = .ok (.iconst 1, 1) := by decide +kernel
theorem dX11_canAll_30 : decode cX11_canAll 30 = .ok (.if_icmp .ne 26, 3) := by decide +kernel
theorem dX11_canAll_33 : decode cX11_canAll 33 = .ok (.iload_n 1, 1) := by decide +kernel
theorem dX11_canAll_34 : decode cX11_canAll 34 = .ok (.iload 4, 2) := by decide +kernel
theorem dX11_canAll_36 : decode cX11_canAll 36 = .ok (.ishr, 1) := by decide +kernel
theorem dX11_canAll_37 : decode cX11_canAll 37 = .ok (.iconst 1, 1) := by decide +kernel
theorem dX11_canAll_38 : decode cX11_canAll 38 = .ok (.iand, 1) := by decide +kernel
theorem dX11_canAll_39 : decode cX11_canAll 39 = .ok (.iconst 1, 1) := by decide +kernel
theorem dX11_canAll_40 : decode cX11_canAll 40 = .ok (.if_icmp .ne 16, 3) := by decide +kernel
theorem dX11_canAll_43 : decode cX11_canAll 43 = .ok (.aload_n 0, 1) := by decide +kernel
theorem dX11_canAll_44 : decode cX11_canAll 44 = .ok (.iload_n 3, 1) := by decide +kernel
theorem dX11_canAll_45 : decode cX11_canAll 45 = .ok (.iload 4, 2) := by decide +kernel
theorem dX11_canAll_47 : decode cX11_canAll 47 = .ok (.iload_n 2, 1) := by decide +kernel
theorem dX11_canAll_48 : decode cX11_canAll 48 = .ok (.invokevirtual 351, 3) := by decide +kernel
theorem dX11_canAll_51 : decode cX11_canAll 51 = .ok (.ifCond .ne 5, 3) := by decide +kernel
theorem dX11_canAll_54 : decode cX11_canAll 54 = .ok (.iconst 0, 1) := by decide +kernel
theorem dX11_canAll_55 : decode cX11_canAll 55 = .ok (.ireturn, 1) := by decide +kernel
theorem dX11_canAll_56 : decode cX11_canAll 56 = .ok (.iinc 4 1, 3) := by decide +kernel
theorem dX11_canAll_59 : decode cX11_canAll 59 = .ok (.goto (-44), 3) := by decide +kernel
theorem dX11_canAll_62 : decode cX11_canAll 62 = .ok (.iinc 3 1, 3) := by decide +kernel
theorem dX11_canAll_65 : decode cX11_canAll 65 = .ok (.goto (-63), 3) := by decide +kernel
theorem dX11_canAll_68 : decode cX11_canAll 68 = .ok (.iconst 1, 1) := by decide +kernel
theorem dX11_canAll_69 : decode cX11_canAll 69 = .ok (.ireturn, 1) := by decide +kernel
theorem dX11_ofShip_0 : decode cX11_ofShip 0 = .ok (.iconst 0, 1) := by decide +kernel
theorem dX11_ofShip_1 : decode cX11_ofShip 1 = .ok (.istore_n 2, 1) := by decide +kernel
theorem dX11_ofShip_2 : decode cX11_ofShip 2 = .ok (.iconst 0, 1) := by decide +kernel
theorem dX11_ofShip_3 : decode cX11_ofShip 3 = .ok (.istore_n 3, 1) := by decide +kernel
theorem dX11_ofShip_4 : decode cX11_ofShip 4 = .ok (.iload_n 3, 1) := by decide +kernel
theorem dX11_ofShip_5 : decode cX11_ofShip 5 = .ok (.aload_n 0, 1) := by decide +kernel
theorem dX11_ofShip_6 : decode cX11_ofShip 6 = .ok (.getfield 141, 3) := by decide +kernel
theorem dX11_ofShip_9 : decode cX11_ofShip 9 = .ok (.if_icmp .ge 25, 3) := by decide +kernel
theorem dX11_ofShip_12 : decode cX11_ofShip 12 = .ok (.aload_n 0, 1) := by decide +kernel
theorem dX11_ofShip_13 : decode cX11_ofShip 13 = .ok (.getfield 79, 3) := by decide +kernel
theorem dX11_ofShip_16 : decode cX11_ofShip 16 = .ok (.iload_n 3, 1) := by decide +kernel
theorem dX11_ofShip_17 : decode cX11_ofShip 17 = .ok (.iaload, 1) := by decide +kernel
theorem dX11_ofShip_18 : decode cX11_ofShip 18 = .ok (.iload_n 1, 1) := by decide +kernel
theorem dX11_ofShip_19 : decode cX11_ofShip 19 = .ok (.if_icmp .ne 9, 3) := by decide +kernel
theorem dX11_ofShip_22 : decode cX11_ofShip 22 = .ok (.iload_n 2, 1) := by decide +kernel
theorem dX11_ofShip_23 : decode cX11_ofShip 23 = .ok (.iconst 1, 1) := by decide +kernel
theorem dX11_ofShip_24 : decode cX11_ofShip 24 = .ok (.iload_n 3, 1) := by decide +kernel
theorem dX11_ofShip_25 : decode cX11_ofShip 25 = .ok (.ishl, 1) := by decide +kernel
theorem dX11_ofShip_26 : decode cX11_ofShip 26 = .ok (.ior, 1) := by decide +kernel
theorem dX11_ofShip_27 : decode cX11_ofShip 27 = .ok (.istore_n 2, 1) := by decide +kernel
theorem dX11_ofShip_28 : decode cX11_ofShip 28 = .ok (.iinc 3 1, 3) := by decide +kernel
theorem dX11_ofShip_31 : decode cX11_ofShip 31 = .ok (.goto (-27), 3) := by decide +kernel
theorem dX11_ofShip_34 : decode cX11_ofShip 34 = .ok (.iload_n 2, 1) := by decide +kernel
theorem dX11_ofShip_35 : decode cX11_ofShip 35 = .ok (.ireturn, 1) := by decide +kernel
theorem dX11_falseOf_0 : decode cX11_falseOf 0 = .ok (.aload_n 0, 1) := by decide +kernel
theorem dX11_falseOf_1 : decode cX11_falseOf 1 = .ok (.iload_n 1, 1) := by decide +kernel
theorem dX11_falseOf_2 : decode cX11_falseOf 2 = .ok (.invokevirtual 354, 3) := by decide +kernel
theorem dX11_falseOf_5 : decode cX11_falseOf 5 = .ok (.istore_n 3, 1) := by decide +kernel
theorem dX11_falseOf_6 : decode cX11_falseOf 6 = .ok (.iconst (-1), 1) := by decide +kernel
theorem dX11_falseOf_7 : decode cX11_falseOf 7 = .ok (.istore 4, 2) := by decide +kernel
theorem dX11_falseOf_9 : decode cX11_falseOf 9 = .ok (.iconst 0, 1) := by decide +kernel
theorem dX11_falseOf_10 : decode cX11_falseOf 10 = .ok (.istore 5, 2) := by decide +kernel
theorem dX11_falseOf_12 : decode cX11_falseOf 12 = .ok (.iload 5, 2) := by decide +kernel
theorem dX11_falseOf_14 : decode cX11_falseOf 14 = .ok (.iload_n 3, 1) := by decide +kernel
theorem dX11_falseOf_15 : decode cX11_falseOf 15 = .ok (.if_icmp .gt 57, 3) := by decide +kernel
theorem dX11_falseOf_18 : decode cX11_falseOf 18 = .ok (.iload 5, 2) := by decide +kernel
theorem dX11_falseOf_20 : decode cX11_falseOf 20 = .ok (.iload_n 3, 1) := by decide +kernel
theorem dX11_falseOf_21 : decode cX11_falseOf 21 = .ok (.iconst (-1), 1) := by decide +kernel
theorem dX11_falseOf_22 : decode cX11_falseOf 22 = .ok (.ixor, 1) := by decide +kernel
theorem dX11_falseOf_23 : decode cX11_falseOf 23 = .ok (.iand, 1) := by decide +kernel
theorem dX11_falseOf_24 : decode cX11_falseOf 24 = .ok (.ifCond .ne 42, 3) := by decide +kernel
theorem dX11_falseOf_27 : decode cX11_falseOf 27 = .ok (.iload 4, 2) := by decide +kernel
theorem dX11_falseOf_29 : decode cX11_falseOf 29 = .ok (.ifCond .lt 19, 3) := by decide +kernel
theorem dX11_falseOf_32 : decode cX11_falseOf 32 = .ok (.iload 5, 2) := by decide +kernel
theorem dX11_falseOf_34 : decode cX11_falseOf 34 = .ok (.invokestatic 327, 3) := by decide +kernel
theorem dX11_falseOf_37 : decode cX11_falseOf 37 = .ok (.iload 4, 2) := by decide +kernel
theorem dX11_falseOf_39 : decode cX11_falseOf 39 = .ok (.invokestatic 327, 3) := by decide +kernel
theorem dX11_falseOf_42 : decode cX11_falseOf 42 = .ok (.if_icmp .lt 6, 3) := by decide +kernel
theorem dX11_falseOf_45 : decode cX11_falseOf 45 = .ok (.goto 21, 3) := by decide +kernel
theorem dX11_falseOf_48 : decode cX11_falseOf 48 = .ok (.aload_n 0, 1) := by decide +kernel
theorem dX11_falseOf_49 : decode cX11_falseOf 49 = .ok (.iload_n 3, 1) := by decide +kernel
theorem dX11_falseOf_50 : decode cX11_falseOf 50 = .ok (.iload 5, 2) := by decide +kernel
theorem dX11_falseOf_52 : decode cX11_falseOf 52 = .ok (.iconst (-1), 1) := by decide +kernel
theorem dX11_falseOf_53 : decode cX11_falseOf 53 = .ok (.ixor, 1) := by decide +kernel
theorem dX11_falseOf_54 : decode cX11_falseOf 54 = .ok (.iand, 1) := by decide +kernel
theorem dX11_falseOf_55 : decode cX11_falseOf 55 = .ok (.iload_n 2, 1) := by decide +kernel
theorem dX11_falseOf_56 : decode cX11_falseOf 56 = .ok (.invokevirtual 357, 3) := by decide +kernel
theorem dX11_falseOf_59 : decode cX11_falseOf 59 = .ok (.ifCond .eq 7, 3) := by decide +kernel
theorem dX11_falseOf_62 : decode cX11_falseOf 62 = .ok (.iload 5, 2) := by decide +kernel
theorem dX11_falseOf_64 : decode cX11_falseOf 64 = .ok (.istore 4, 2) := by decide +kernel
theorem dX11_falseOf_66 : decode cX11_falseOf 66 = .ok (.iinc 5 1, 3) := by decide +kernel
theorem dX11_falseOf_69 : decode cX11_falseOf 69 = .ok (.goto (-57), 3) := by decide +kernel
theorem dX11_falseOf_72 : decode cX11_falseOf 72 = .ok (.iload 4, 2) := by decide +kernel
theorem dX11_falseOf_74 : decode cX11_falseOf 74 = .ok (.ireturn, 1) := by decide +kernel
theorem dX11_falseOnes_0 : decode cX11_falseOnes 0 = .ok (.iload_n 1, 1) := by decide +kernel
theorem dX11_falseOnes_1 : decode cX11_falseOnes 1 = .ok (.invokestatic 339, 3) := by decide +kernel
theorem dX11_falseOnes_4 : decode cX11_falseOnes 4 = .ok (.ifCond .ne 8, 3) := by decide +kernel
theorem dX11_falseOnes_7 : decode cX11_falseOnes 7 = .ok (.bipush (-5), 2) := by decide +kernel
theorem dX11_falseOnes_9 : decode cX11_falseOnes 9 = .ok (.goto 21, 3) := by decide +kernel
theorem dX11_falseOnes_12 : decode cX11_falseOnes 12 = .ok (.iload_n 2, 1) := by decide +kernel
theorem dX11_falseOnes_13 : decode cX11_falseOnes 13 = .ok (.invokestatic 360, 3) := by decide +kernel
theorem dX11_falseOnes_16 : decode cX11_falseOnes 16 = .ok (.ifCond .eq 12, 3) := by decide +kernel
theorem dX11_falseOnes_19 : decode cX11_falseOnes 19 = .ok (.aload_n 0, 1) := by decide +kernel
theorem dX11_falseOnes_20 : decode cX11_falseOnes 20 = .ok (.iload_n 1, 1) := by decide +kernel
theorem dX11_falseOnes_21 : decode cX11_falseOnes 21 = .ok (.iload_n 2, 1) := by decide +kernel
theorem dX11_falseOnes_22 : decode cX11_falseOnes 22 = .ok (.invokevirtual 363, 3) := by decide +kernel
theorem dX11_falseOnes_25 : decode cX11_falseOnes 25 = .ok (.goto 5, 3) := by decide +kernel
theorem dX11_falseOnes_28 : decode cX11_falseOnes 28 = .ok (.bipush (-7), 2) := by decide +kernel
theorem dX11_falseOnes_30 : decode cX11_falseOnes 30 = .ok (.ireturn, 1) := by decide +kernel
theorem dX11_mayBe_0 : decode cX11_mayBe 0 = .ok (.aload_n 0, 1) := by decide +kernel
theorem dX11_mayBe_1 : decode cX11_mayBe 1 = .ok (.iload_n 1, 1) := by decide +kernel
theorem dX11_mayBe_2 : decode cX11_mayBe 2 = .ok (.invokevirtual 354, 3) := by decide +kernel
theorem dX11_mayBe_5 : decode cX11_mayBe 5 = .ok (.aload_n 0, 1) := by decide +kernel
theorem dX11_mayBe_6 : decode cX11_mayBe 6 = .ok (.iload_n 1, 1) := by decide +kernel
theorem dX11_mayBe_7 : decode cX11_mayBe 7 = .ok (.iload_n 2, 1) := by decide +kernel
theorem dX11_mayBe_8 : decode cX11_mayBe 8 = .ok (.invokevirtual 363, 3) := by decide +kernel
theorem dX11_mayBe_11 : decode cX11_mayBe 11 = .ok (.iconst (-1), 1) := by decide +kernel
theorem dX11_mayBe_12 : decode cX11_mayBe 12 = .ok (.ixor, 1) := by decide +kernel
theorem dX11_mayBe_13 : decode cX11_mayBe 13 = .ok (.iand, 1) := by decide +kernel
theorem dX11_mayBe_14 : decode cX11_mayBe 14 = .ok (.istore 4, 2) := by decide +kernel
theorem dX11_mayBe_16 : decode cX11_mayBe 16 = .ok (.lconst 0, 1) := by decide +kernel
theorem dX11_mayBe_17 : decode cX11_mayBe 17 = .ok (.lstore 5, 2) := by decide +kernel
theorem dX11_mayBe_19 : decode cX11_mayBe 19 = .ok (.iconst 0, 1) := by decide +kernel
theorem dX11_mayBe_20 : decode cX11_mayBe 20 = .ok (.istore 7, 2) := by decide +kernel
theorem dX11_mayBe_22 : decode cX11_mayBe 22 = .ok (.iload 7, 2) := by decide +kernel
theorem dX11_mayBe_24 : decode cX11_mayBe 24 = .ok (.bipush 61, 2) := by decide +kernel
theorem dX11_mayBe_26 : decode cX11_mayBe 26 = .ok (.if_icmp .ge 88, 3) := by decide +kernel
theorem dX11_mayBe_29 : decode cX11_mayBe 29 = .ok (.iconst 1, 1) := by decide +kernel
theorem dX11_mayBe_30 : decode cX11_mayBe 30 = .ok (.istore 8, 2) := by decide +kernel
theorem dX11_mayBe_32 : decode cX11_mayBe 32 = .ok (.iconst 0, 1) := by decide +kernel
theorem dX11_mayBe_33 : decode cX11_mayBe 33 = .ok (.istore 9, 2) := by decide +kernel
theorem dX11_mayBe_35 : decode cX11_mayBe 35 = .ok (.iload 9, 2) := by decide +kernel
theorem dX11_mayBe_37 : decode cX11_mayBe 37 = .ok (.aload_n 0, 1) := by decide +kernel
theorem dX11_mayBe_38 : decode cX11_mayBe 38 = .ok (.getfield 141, 3) := by decide +kernel
theorem dX11_mayBe_41 : decode cX11_mayBe 41 = .ok (.if_icmp .ge 53, 3) := by decide +kernel
theorem dX11_mayBe_44 : decode cX11_mayBe 44 = .ok (.iload 4, 2) := by decide +kernel
theorem dX11_mayBe_46 : decode cX11_mayBe 46 = .ok (.iload 9, 2) := by decide +kernel
theorem dX11_mayBe_48 : decode cX11_mayBe 48 = .ok (.ishr, 1) := by decide +kernel
theorem dX11_mayBe_49 : decode cX11_mayBe 49 = .ok (.iconst 1, 1) := by decide +kernel
theorem dX11_mayBe_50 : decode cX11_mayBe 50 = .ok (.iand, 1) := by decide +kernel
theorem dX11_mayBe_51 : decode cX11_mayBe 51 = .ok (.iconst 1, 1) := by decide +kernel
theorem dX11_mayBe_52 : decode cX11_mayBe 52 = .ok (.if_icmp .ne 36, 3) := by decide +kernel
theorem dX11_mayBe_55 : decode cX11_mayBe 55 = .ok (.aload_n 0, 1) := by decide +kernel
theorem dX11_mayBe_56 : decode cX11_mayBe 56 = .ok (.getfield 85, 3) := by decide +kernel
theorem dX11_mayBe_59 : decode cX11_mayBe 59 = .ok (.iload 9, 2) := by decide +kernel
theorem dX11_mayBe_61 : decode cX11_mayBe 61 = .ok (.iaload, 1) := by decide +kernel
theorem dX11_mayBe_62 : decode cX11_mayBe 62 = .ok (.iload 7, 2) := by decide +kernel
theorem dX11_mayBe_64 : decode cX11_mayBe 64 = .ok (.isub, 1) := by decide +kernel
theorem dX11_mayBe_65 : decode cX11_mayBe 65 = .ok (.invokestatic 153, 3) := by decide +kernel
theorem dX11_mayBe_68 : decode cX11_mayBe 68 = .ok (.iload_n 2, 1) := by decide +kernel
theorem dX11_mayBe_69 : decode cX11_mayBe 69 = .ok (.aload_n 0, 1) := by decide +kernel
theorem dX11_mayBe_70 : decode cX11_mayBe 70 = .ok (.getfield 82, 3) := by decide +kernel
theorem dX11_mayBe_73 : decode cX11_mayBe 73 = .ok (.iload 9, 2) := by decide +kernel
theorem dX11_mayBe_75 : decode cX11_mayBe 75 = .ok (.iaload, 1) := by decide +kernel
theorem dX11_mayBe_76 : decode cX11_mayBe 76 = .ok (.iload_n 3, 1) := by decide +kernel
theorem dX11_mayBe_77 : decode cX11_mayBe 77 = .ok (.isub, 1) := by decide +kernel
theorem dX11_mayBe_78 : decode cX11_mayBe 78 = .ok (.invokestatic 153, 3) := by decide +kernel
theorem dX11_mayBe_81 : decode cX11_mayBe 81 = .ok (.imul, 1) := by decide +kernel
theorem dX11_mayBe_82 : decode cX11_mayBe 82 = .ok (.if_icmp .le 6, 3) := by decide +kernel
theorem dX11_mayBe_85 : decode cX11_mayBe 85 = .ok (.iconst 0, 1) := by decide +kernel
theorem dX11_mayBe_86 : decode cX11_mayBe 86 = .ok (.istore 8, 2) := by decide +kernel
theorem dX11_mayBe_88 : decode cX11_mayBe 88 = .ok (.iinc 9 1, 3) := by decide +kernel
theorem dX11_mayBe_91 : decode cX11_mayBe 91 = .ok (.goto (-56), 3) := by decide +kernel
theorem dX11_mayBe_94 : decode cX11_mayBe 94 = .ok (.iload 8, 2) := by decide +kernel
theorem dX11_mayBe_96 : decode cX11_mayBe 96 = .ok (.ifCond .eq 12, 3) := by decide +kernel
theorem dX11_mayBe_99 : decode cX11_mayBe 99 = .ok (.lload 5, 2) := by decide +kernel
theorem dX11_mayBe_101 : decode cX11_mayBe 101 = .ok (.lconst 1, 1) := by decide +kernel
theorem dX11_mayBe_102 : decode cX11_mayBe 102 = .ok (.iload 7, 2) := by decide +kernel
theorem dX11_mayBe_104 : decode cX11_mayBe 104 = .ok (.lshl, 1) := by decide +kernel
theorem dX11_mayBe_105 : decode cX11_mayBe 105 = .ok (.lor, 1) := by decide +kernel
theorem dX11_mayBe_106 : decode cX11_mayBe 106 = .ok (.lstore 5, 2) := by decide +kernel
theorem dX11_mayBe_108 : decode cX11_mayBe 108 = .ok (.iinc 7 1, 3) := by decide +kernel
theorem dX11_mayBe_111 : decode cX11_mayBe 111 = .ok (.goto (-89), 3) := by decide +kernel
theorem dX11_mayBe_114 : decode cX11_mayBe 114 = .ok (.lload 5, 2) := by decide +kernel
theorem dX11_mayBe_116 : decode cX11_mayBe 116 = .ok (.lreturn, 1) := by decide +kernel
theorem dX11_there_0 : decode cX11_there 0 = .ok (.iload_n 1, 1) := by decide +kernel
theorem dX11_there_1 : decode cX11_there 1 = .ok (.invokestatic 339, 3) := by decide +kernel
theorem dX11_there_4 : decode cX11_there 4 = .ok (.ifCond .eq 27, 3) := by decide +kernel
theorem dX11_there_7 : decode cX11_there 7 = .ok (.iload_n 2, 1) := by decide +kernel
theorem dX11_there_8 : decode cX11_there 8 = .ok (.invokestatic 360, 3) := by decide +kernel
theorem dX11_there_11 : decode cX11_there 11 = .ok (.ifCond .eq 20, 3) := by decide +kernel
theorem dX11_there_14 : decode cX11_there 14 = .ok (.iload_n 3, 1) := by decide +kernel
theorem dX11_there_15 : decode cX11_there 15 = .ok (.invokestatic 342, 3) := by decide +kernel
theorem dX11_there_18 : decode cX11_there 18 = .ok (.ifCond .eq 13, 3) := by decide +kernel
theorem dX11_there_21 : decode cX11_there 21 = .ok (.aload_n 0, 1) := by decide +kernel
theorem dX11_there_22 : decode cX11_there 22 = .ok (.iload_n 1, 1) := by decide +kernel
theorem dX11_there_23 : decode cX11_there 23 = .ok (.iload_n 2, 1) := by decide +kernel
theorem dX11_there_24 : decode cX11_there 24 = .ok (.iload_n 3, 1) := by decide +kernel
theorem dX11_there_25 : decode cX11_there 25 = .ok (.invokevirtual 366, 3) := by decide +kernel
theorem dX11_there_28 : decode cX11_there 28 = .ok (.goto 6, 3) := by decide +kernel
theorem dX11_there_31 : decode cX11_there 31 = .ok (.ldc2_w 279, 3) := by decide +kernel
theorem dX11_there_34 : decode cX11_there 34 = .ok (.lreturn, 1) := by decide +kernel
theorem dX11_last_0 : decode cX11_last 0 = .ok (.iload_n 1, 1) := by decide +kernel
theorem dX11_last_1 : decode cX11_last 1 = .ok (.invokestatic 339, 3) := by decide +kernel
theorem dX11_last_4 : decode cX11_last 4 = .ok (.ifCond .ne 6, 3) := by decide +kernel
theorem dX11_last_7 : decode cX11_last 7 = .ok (.bipush (-5), 2) := by decide +kernel
theorem dX11_last_9 : decode cX11_last 9 = .ok (.ireturn, 1) := by decide +kernel
theorem dX11_last_10 : decode cX11_last 10 = .ok (.iload_n 2, 1) := by decide +kernel
theorem dX11_last_11 : decode cX11_last 11 = .ok (.invokestatic 360, 3) := by decide +kernel
theorem dX11_last_14 : decode cX11_last 14 = .ok (.ifCond .eq 12, 3) := by decide +kernel
theorem dX11_last_17 : decode cX11_last 17 = .ok (.iload_n 3, 1) := by decide +kernel
theorem dX11_last_18 : decode cX11_last 18 = .ok (.iconst 0, 1) := by decide +kernel
theorem dX11_last_19 : decode cX11_last 19 = .ok (.iconst 1, 1) := by decide +kernel
theorem dX11_last_20 : decode cX11_last 20 = .ok (.invokestatic 127, 3) := by decide +kernel
theorem dX11_last_23 : decode cX11_last 23 = .ok (.ifCond .ne 6, 3) := by decide +kernel
theorem dX11_last_26 : decode cX11_last 26 = .ok (.bipush (-7), 2) := by decide +kernel
theorem dX11_last_28 : decode cX11_last 28 = .ok (.ireturn, 1) := by decide +kernel
theorem dX11_last_29 : decode cX11_last 29 = .ok (.aload_n 0, 1) := by decide +kernel
theorem dX11_last_30 : decode cX11_last 30 = .ok (.iload_n 1, 1) := by decide +kernel
theorem dX11_last_31 : decode cX11_last 31 = .ok (.invokevirtual 354, 3) := by decide +kernel
theorem dX11_last_34 : decode cX11_last 34 = .ok (.aload_n 0, 1) := by decide +kernel
theorem dX11_last_35 : decode cX11_last 35 = .ok (.iload_n 1, 1) := by decide +kernel
theorem dX11_last_36 : decode cX11_last 36 = .ok (.iload_n 2, 1) := by decide +kernel
theorem dX11_last_37 : decode cX11_last 37 = .ok (.invokevirtual 363, 3) := by decide +kernel
theorem dX11_last_40 : decode cX11_last 40 = .ok (.iconst (-1), 1) := by decide +kernel
theorem dX11_last_41 : decode cX11_last 41 = .ok (.ixor, 1) := by decide +kernel
theorem dX11_last_42 : decode cX11_last 42 = .ok (.iand, 1) := by decide +kernel
theorem dX11_last_43 : decode cX11_last 43 = .ok (.istore 4, 2) := by decide +kernel
theorem dX11_last_45 : decode cX11_last 45 = .ok (.iconst (-1), 1) := by decide +kernel
theorem dX11_last_46 : decode cX11_last 46 = .ok (.istore 5, 2) := by decide +kernel
theorem dX11_last_48 : decode cX11_last 48 = .ok (.iconst 0, 1) := by decide +kernel
theorem dX11_last_49 : decode cX11_last 49 = .ok (.istore 6, 2) := by decide +kernel
theorem dX11_last_51 : decode cX11_last 51 = .ok (.iload 6, 2) := by decide +kernel
theorem dX11_last_53 : decode cX11_last 53 = .ok (.aload_n 0, 1) := by decide +kernel
theorem dX11_last_54 : decode cX11_last 54 = .ok (.getfield 141, 3) := by decide +kernel
theorem dX11_last_57 : decode cX11_last 57 = .ok (.if_icmp .ge 46, 3) := by decide +kernel
theorem dX11_last_60 : decode cX11_last 60 = .ok (.iload 4, 2) := by decide +kernel
theorem dX11_last_62 : decode cX11_last 62 = .ok (.iload 6, 2) := by decide +kernel
theorem dX11_last_64 : decode cX11_last 64 = .ok (.ishr, 1) := by decide +kernel
theorem dX11_last_65 : decode cX11_last 65 = .ok (.iconst 1, 1) := by decide +kernel
theorem dX11_last_66 : decode cX11_last 66 = .ok (.iand, 1) := by decide +kernel
theorem dX11_last_67 : decode cX11_last 67 = .ok (.iconst 1, 1) := by decide +kernel
theorem dX11_last_68 : decode cX11_last 68 = .ok (.if_icmp .ne 29, 3) := by decide +kernel
theorem dX11_last_71 : decode cX11_last 71 = .ok (.iload 5, 2) := by decide +kernel
theorem dX11_last_73 : decode cX11_last 73 = .ok (.ifCond .lt 20, 3) := by decide +kernel
theorem dX11_last_76 : decode cX11_last 76 = .ok (.aload_n 0, 1) := by decide +kernel
theorem dX11_last_77 : decode cX11_last 77 = .ok (.getfield 82, 3) := by decide +kernel
theorem dX11_last_80 : decode cX11_last 80 = .ok (.iload 6, 2) := by decide +kernel
theorem dX11_last_82 : decode cX11_last 82 = .ok (.iaload, 1) := by decide +kernel
theorem dX11_last_83 : decode cX11_last 83 = .ok (.aload_n 0, 1) := by decide +kernel
theorem dX11_last_84 : decode cX11_last 84 = .ok (.getfield 82, 3) := by decide +kernel
theorem dX11_last_87 : decode cX11_last 87 = .ok (.iload 5, 2) := by decide +kernel
theorem dX11_last_89 : decode cX11_last 89 = .ok (.iaload, 1) := by decide +kernel
theorem dX11_last_90 : decode cX11_last 90 = .ok (.if_icmp .le 7, 3) := by decide +kernel
theorem dX11_last_93 : decode cX11_last 93 = .ok (.iload 6, 2) := by decide +kernel
theorem dX11_last_95 : decode cX11_last 95 = .ok (.istore 5, 2) := by decide +kernel
theorem dX11_last_97 : decode cX11_last 97 = .ok (.iinc 6 1, 3) := by decide +kernel
theorem dX11_last_100 : decode cX11_last 100 = .ok (.goto (-49), 3) := by decide +kernel
theorem dX11_last_103 : decode cX11_last 103 = .ok (.iload 5, 2) := by decide +kernel
theorem dX11_last_105 : decode cX11_last 105 = .ok (.ifCond .ge 7, 3) := by decide +kernel
theorem dX11_last_108 : decode cX11_last 108 = .ok (.iconst (-1), 1) := by decide +kernel
theorem dX11_last_109 : decode cX11_last 109 = .ok (.goto 24, 3) := by decide +kernel
theorem dX11_last_112 : decode cX11_last 112 = .ok (.iload_n 3, 1) := by decide +kernel
theorem dX11_last_113 : decode cX11_last 113 = .ok (.ifCond .ne 13, 3) := by decide +kernel
theorem dX11_last_116 : decode cX11_last 116 = .ok (.aload_n 0, 1) := by decide +kernel
theorem dX11_last_117 : decode cX11_last 117 = .ok (.getfield 82, 3) := by decide +kernel
theorem dX11_last_120 : decode cX11_last 120 = .ok (.iload 5, 2) := by decide +kernel
theorem dX11_last_122 : decode cX11_last 122 = .ok (.iaload, 1) := by decide +kernel
theorem dX11_last_123 : decode cX11_last 123 = .ok (.goto 10, 3) := by decide +kernel
theorem dX11_last_126 : decode cX11_last 126 = .ok (.aload_n 0, 1) := by decide +kernel
theorem dX11_last_127 : decode cX11_last 127 = .ok (.getfield 85, 3) := by decide +kernel
theorem dX11_last_130 : decode cX11_last 130 = .ok (.iload 5, 2) := by decide +kernel
theorem dX11_last_132 : decode cX11_last 132 = .ok (.iaload, 1) := by decide +kernel
theorem dX11_last_133 : decode cX11_last 133 = .ok (.ireturn, 1) := by decide +kernel
theorem dX11_cellOdds_0 : decode cX11_cellOdds 0 = .ok (.iload_n 1, 1) := by decide +kernel
theorem dX11_cellOdds_1 : decode cX11_cellOdds 1 = .ok (.invokestatic 339, 3) := by decide +kernel
theorem dX11_cellOdds_4 : decode cX11_cellOdds 4 = .ok (.ifCond .eq 49, 3) := by decide +kernel
theorem dX11_cellOdds_7 : decode cX11_cellOdds 7 = .ok (.iload_n 2, 1) := by decide +kernel
theorem dX11_cellOdds_8 : decode cX11_cellOdds 8 = .ok (.ifCond .lt 45, 3) := by decide +kernel
theorem dX11_cellOdds_11 : decode cX11_cellOdds 11 = .ok (.iload_n 2, 1) := by decide +kernel
theorem dX11_cellOdds_12 : decode cX11_cellOdds 12 = .ok (.sipush 1000, 3) := by decide +kernel
theorem dX11_cellOdds_15 : decode cX11_cellOdds 15 = .ok (.idiv, 1) := by decide +kernel
theorem dX11_cellOdds_16 : decode cX11_cellOdds 16 = .ok (.invokestatic 360, 3) := by decide +kernel
theorem dX11_cellOdds_19 : decode cX11_cellOdds 19 = .ok (.ifCond .eq 34, 3) := by decide +kernel
theorem dX11_cellOdds_22 : decode cX11_cellOdds 22 = .ok (.iload_n 2, 1) := by decide +kernel
theorem dX11_cellOdds_23 : decode cX11_cellOdds 23 = .ok (.sipush 1000, 3) := by decide +kernel
theorem dX11_cellOdds_26 : decode cX11_cellOdds 26 = .ok (.irem, 1) := by decide +kernel
theorem dX11_cellOdds_27 : decode cX11_cellOdds 27 = .ok (.invokestatic 342, 3) := by decide +kernel
theorem dX11_cellOdds_30 : decode cX11_cellOdds 30 = .ok (.ifCond .eq 23, 3) := by decide +kernel
theorem dX11_cellOdds_33 : decode cX11_cellOdds 33 = .ok (.iload_n 3, 1) := by decide +kernel
theorem dX11_cellOdds_34 : decode cX11_cellOdds 34 = .ok (.iconst 0, 1) := by decide +kernel
theorem dX11_cellOdds_35 : decode cX11_cellOdds 35 = .ok (.bipush 60, 2) := by decide +kernel
theorem dX11_cellOdds_37 : decode cX11_cellOdds 37 = .ok (.invokestatic 127, 3) := by decide +kernel
theorem dX11_cellOdds_40 : decode cX11_cellOdds 40 = .ok (.ifCond .eq 13, 3) := by decide +kernel
theorem dX11_cellOdds_43 : decode cX11_cellOdds 43 = .ok (.iload 6, 2) := by decide +kernel
theorem dX11_cellOdds_45 : decode cX11_cellOdds 45 = .ok (.iconst 0, 1) := by decide +kernel
theorem dX11_cellOdds_46 : decode cX11_cellOdds 46 = .ok (.iconst 1, 1) := by decide +kernel
theorem dX11_cellOdds_47 : decode cX11_cellOdds 47 = .ok (.invokestatic 127, 3) := by decide +kernel
theorem dX11_cellOdds_50 : decode cX11_cellOdds 50 = .ok (.ifCond .ne 7, 3) := by decide +kernel
theorem dX11_cellOdds_53 : decode cX11_cellOdds 53 = .ok (.ldc2_w 279, 3) := by decide +kernel
theorem dX11_cellOdds_56 : decode cX11_cellOdds 56 = .ok (.lreturn, 1) := by decide +kernel
theorem dX11_cellOdds_57 : decode cX11_cellOdds 57 = .ok (.aload_n 0, 1) := by decide +kernel
theorem dX11_cellOdds_58 : decode cX11_cellOdds 58 = .ok (.iload_n 1, 1) := by decide +kernel
theorem dX11_cellOdds_59 : decode cX11_cellOdds 59 = .ok (.iload_n 2, 1) := by decide +kernel
theorem dX11_cellOdds_60 : decode cX11_cellOdds 60 = .ok (.sipush 1000, 3) := by decide +kernel
theorem dX11_cellOdds_63 : decode cX11_cellOdds 63 = .ok (.idiv, 1) := by decide +kernel
theorem dX11_cellOdds_64 : decode cX11_cellOdds 64 = .ok (.iload_n 2, 1) := by decide +kernel
theorem dX11_cellOdds_65 : decode cX11_cellOdds 65 = .ok (.sipush 1000, 3) := by decide +kernel
theorem dX11_cellOdds_68 : decode cX11_cellOdds 68 = .ok (.irem, 1) := by decide +kernel
theorem dX11_cellOdds_69 : decode cX11_cellOdds 69 = .ok (.invokevirtual 366, 3) := by decide +kernel
theorem dX11_cellOdds_72 : decode cX11_cellOdds 72 = .ok (.lload 4, 2) := by decide +kernel
theorem dX11_cellOdds_74 : decode cX11_cellOdds 74 = .ok (.ldc2_w 306, 3) := by decide +kernel
theorem dX11_cellOdds_77 : decode cX11_cellOdds 77 = .ok (.lxor, 1) := by decide +kernel
theorem dX11_cellOdds_78 : decode cX11_cellOdds 78 = .ok (.land, 1) := by decide +kernel
theorem dX11_cellOdds_79 : decode cX11_cellOdds 79 = .ok (.lstore 7, 2) := by decide +kernel
theorem dX11_cellOdds_81 : decode cX11_cellOdds 81 = .ok (.lconst 0, 1) := by decide +kernel
theorem dX11_cellOdds_82 : decode cX11_cellOdds 82 = .ok (.lstore 9, 2) := by decide +kernel
theorem dX11_cellOdds_84 : decode cX11_cellOdds 84 = .ok (.lload 7, 2) := by decide +kernel
theorem dX11_cellOdds_86 : decode cX11_cellOdds 86 = .ok (.lstore 11, 2) := by decide +kernel
theorem dX11_cellOdds_88 : decode cX11_cellOdds 88 = .ok (.lload 11, 2) := by decide +kernel
theorem dX11_cellOdds_90 : decode cX11_cellOdds 90 = .ok (.lconst 0, 1) := by decide +kernel
theorem dX11_cellOdds_91 : decode cX11_cellOdds 91 = .ok (.lcmp, 1) := by decide +kernel
theorem dX11_cellOdds_92 : decode cX11_cellOdds 92 = .ok (.ifCond .eq 21, 3) := by decide +kernel
theorem dX11_cellOdds_95 : decode cX11_cellOdds 95 = .ok (.lload 9, 2) := by decide +kernel
theorem dX11_cellOdds_97 : decode cX11_cellOdds 97 = .ok (.lconst 1, 1) := by decide +kernel
theorem dX11_cellOdds_98 : decode cX11_cellOdds 98 = .ok (.ladd, 1) := by decide +kernel
theorem dX11_cellOdds_99 : decode cX11_cellOdds 99 = .ok (.lstore 9, 2) := by decide +kernel
theorem dX11_cellOdds_101 : decode cX11_cellOdds 101 = .ok (.lload 11, 2) := by decide +kernel
theorem dX11_cellOdds_103 : decode cX11_cellOdds 103 = .ok (.lload 11, 2) := by decide +kernel
theorem dX11_cellOdds_105 : decode cX11_cellOdds 105 = .ok (.lconst 1, 1) := by decide +kernel
theorem dX11_cellOdds_106 : decode cX11_cellOdds 106 = .ok (.lsub, 1) := by decide +kernel
theorem dX11_cellOdds_107 : decode cX11_cellOdds 107 = .ok (.land, 1) := by decide +kernel
theorem dX11_cellOdds_108 : decode cX11_cellOdds 108 = .ok (.lstore 11, 2) := by decide +kernel
theorem dX11_cellOdds_110 : decode cX11_cellOdds 110 = .ok (.goto (-22), 3) := by decide +kernel
theorem dX11_cellOdds_113 : decode cX11_cellOdds 113 = .ok (.lload 7, 2) := by decide +kernel
theorem dX11_cellOdds_115 : decode cX11_cellOdds 115 = .ok (.iload_n 3, 1) := by decide +kernel
theorem dX11_cellOdds_116 : decode cX11_cellOdds 116 = .ok (.lshr, 1) := by decide +kernel
theorem dX11_cellOdds_117 : decode cX11_cellOdds 117 = .ok (.lconst 1, 1) := by decide +kernel
theorem dX11_cellOdds_118 : decode cX11_cellOdds 118 = .ok (.land, 1) := by decide +kernel
theorem dX11_cellOdds_119 : decode cX11_cellOdds 119 = .ok (.lload 9, 2) := by decide +kernel
theorem dX11_cellOdds_121 : decode cX11_cellOdds 121 = .ok (.iload 6, 2) := by decide +kernel
theorem dX11_cellOdds_123 : decode cX11_cellOdds 123 = .ok (.ifCond .ne 7, 3) := by decide +kernel
theorem dX11_cellOdds_126 : decode cX11_cellOdds 126 = .ok (.iconst 1, 1) := by decide +kernel
theorem dX11_cellOdds_127 : decode cX11_cellOdds 127 = .ok (.goto 4, 3) := by decide +kernel
theorem dX11_cellOdds_130 : decode cX11_cellOdds 130 = .ok (.iconst 0, 1) := by decide +kernel
theorem dX11_cellOdds_131 : decode cX11_cellOdds 131 = .ok (.invokestatic 323, 3) := by decide +kernel
theorem dX11_cellOdds_134 : decode cX11_cellOdds 134 = .ok (.lreturn, 1) := by decide +kernel
theorem dX11_meet_0 : decode cX11_meet 0 = .ok (.iload_n 1, 1) := by decide +kernel
theorem dX11_meet_1 : decode cX11_meet 1 = .ok (.invokestatic 342, 3) := by decide +kernel
theorem dX11_meet_4 : decode cX11_meet 4 = .ok (.ifCond .eq 22, 3) := by decide +kernel
theorem dX11_meet_7 : decode cX11_meet 7 = .ok (.iload_n 2, 1) := by decide +kernel
theorem dX11_meet_8 : decode cX11_meet 8 = .ok (.invokestatic 339, 3) := by decide +kernel
theorem dX11_meet_11 : decode cX11_meet 11 = .ok (.ifCond .eq 15, 3) := by decide +kernel
theorem dX11_meet_14 : decode cX11_meet 14 = .ok (.iload_n 3, 1) := by decide +kernel
theorem dX11_meet_15 : decode cX11_meet 15 = .ok (.invokestatic 339, 3) := by decide +kernel
theorem dX11_meet_18 : decode cX11_meet 18 = .ok (.ifCond .eq 8, 3) := by decide +kernel
theorem dX11_meet_21 : decode cX11_meet 21 = .ok (.iload_n 2, 1) := by decide +kernel
theorem dX11_meet_22 : decode cX11_meet 22 = .ok (.iload_n 3, 1) := by decide +kernel
theorem dX11_meet_23 : decode cX11_meet 23 = .ok (.if_icmp .ne 6, 3) := by decide +kernel
theorem dX11_meet_26 : decode cX11_meet 26 = .ok (.bipush (-2), 2) := by decide +kernel
theorem dX11_meet_28 : decode cX11_meet 28 = .ok (.ireturn, 1) := by decide +kernel
theorem dX11_meet_29 : decode cX11_meet 29 = .ok (.aload_n 0, 1) := by decide +kernel
theorem dX11_meet_30 : decode cX11_meet 30 = .ok (.getfield 144, 3) := by decide +kernel
theorem dX11_meet_33 : decode cX11_meet 33 = .ok (.ifCond .le 21, 3) := by decide +kernel
theorem dX11_meet_36 : decode cX11_meet 36 = .ok (.iload_n 1, 1) := by decide +kernel
theorem dX11_meet_37 : decode cX11_meet 37 = .ok (.aload_n 0, 1) := by decide +kernel
theorem dX11_meet_38 : decode cX11_meet 38 = .ok (.getfield 91, 3) := by decide +kernel
theorem dX11_meet_41 : decode cX11_meet 41 = .ok (.aload_n 0, 1) := by decide +kernel
theorem dX11_meet_42 : decode cX11_meet 42 = .ok (.getfield 144, 3) := by decide +kernel
theorem dX11_meet_45 : decode cX11_meet 45 = .ok (.iconst 1, 1) := by decide +kernel
theorem dX11_meet_46 : decode cX11_meet 46 = .ok (.isub, 1) := by decide +kernel
theorem dX11_meet_47 : decode cX11_meet 47 = .ok (.iaload, 1) := by decide +kernel
theorem dX11_meet_48 : decode cX11_meet 48 = .ok (.if_icmp .ge 6, 3) := by decide +kernel
theorem dX11_meet_51 : decode cX11_meet 51 = .ok (.bipush (-3), 2) := by decide +kernel
theorem dX11_meet_53 : decode cX11_meet 53 = .ok (.ireturn, 1) := by decide +kernel
theorem dX11_meet_54 : decode cX11_meet 54 = .ok (.aload_n 0, 1) := by decide +kernel
theorem dX11_meet_55 : decode cX11_meet 55 = .ok (.getfield 144, 3) := by decide +kernel
theorem dX11_meet_58 : decode cX11_meet 58 = .ok (.bipush 24, 2) := by decide +kernel
theorem dX11_meet_60 : decode cX11_meet 60 = .ok (.if_icmp .ne 6, 3) := by decide +kernel
theorem dX11_meet_63 : decode cX11_meet 63 = .ok (.bipush (-4), 2) := by decide +kernel
theorem dX11_meet_65 : decode cX11_meet 65 = .ok (.ireturn, 1) := by decide +kernel
theorem dX11_meet_66 : decode cX11_meet 66 = .ok (.aload_n 0, 1) := by decide +kernel
theorem dX11_meet_67 : decode cX11_meet 67 = .ok (.getfield 91, 3) := by decide +kernel
theorem dX11_meet_70 : decode cX11_meet 70 = .ok (.aload_n 0, 1) := by decide +kernel
theorem dX11_meet_71 : decode cX11_meet 71 = .ok (.getfield 144, 3) := by decide +kernel
theorem dX11_meet_74 : decode cX11_meet 74 = .ok (.iload_n 1, 1) := by decide +kernel
theorem dX11_meet_75 : decode cX11_meet 75 = .ok (.iastore, 1) := by decide +kernel
theorem dX11_meet_76 : decode cX11_meet 76 = .ok (.aload_n 0, 1) := by decide +kernel
theorem dX11_meet_77 : decode cX11_meet 77 = .ok (.getfield 94, 3) := by decide +kernel
theorem dX11_meet_80 : decode cX11_meet 80 = .ok (.aload_n 0, 1) := by decide +kernel
theorem dX11_meet_81 : decode cX11_meet 81 = .ok (.getfield 144, 3) := by decide +kernel
theorem dX11_meet_84 : decode cX11_meet 84 = .ok (.iload_n 2, 1) := by decide +kernel
theorem dX11_meet_85 : decode cX11_meet 85 = .ok (.iastore, 1) := by decide +kernel
theorem dX11_meet_86 : decode cX11_meet 86 = .ok (.aload_n 0, 1) := by decide +kernel
theorem dX11_meet_87 : decode cX11_meet 87 = .ok (.getfield 97, 3) := by decide +kernel
theorem dX11_meet_90 : decode cX11_meet 90 = .ok (.aload_n 0, 1) := by decide +kernel
theorem dX11_meet_91 : decode cX11_meet 91 = .ok (.getfield 144, 3) := by decide +kernel
theorem dX11_meet_94 : decode cX11_meet 94 = .ok (.iload_n 3, 1) := by decide +kernel
theorem dX11_meet_95 : decode cX11_meet 95 = .ok (.iastore, 1) := by decide +kernel
theorem dX11_meet_96 : decode cX11_meet 96 = .ok (.aload_n 0, 1) := by decide +kernel
theorem dX11_meet_97 : decode cX11_meet 97 = .ok (.dup, 1) := by decide +kernel
theorem dX11_meet_98 : decode cX11_meet 98 = .ok (.getfield 144, 3) := by decide +kernel
theorem dX11_meet_101 : decode cX11_meet 101 = .ok (.iconst 1, 1) := by decide +kernel
theorem dX11_meet_102 : decode cX11_meet 102 = .ok (.iadd, 1) := by decide +kernel
theorem dX11_meet_103 : decode cX11_meet 103 = .ok (.putfield 144, 3) := by decide +kernel
theorem dX11_meet_106 : decode cX11_meet 106 = .ok (.aload_n 0, 1) := by decide +kernel
theorem dX11_meet_107 : decode cX11_meet 107 = .ok (.getfield 144, 3) := by decide +kernel
theorem dX11_meet_110 : decode cX11_meet 110 = .ok (.iconst 1, 1) := by decide +kernel
theorem dX11_meet_111 : decode cX11_meet 111 = .ok (.isub, 1) := by decide +kernel
theorem dX11_meet_112 : decode cX11_meet 112 = .ok (.ireturn, 1) := by decide +kernel
theorem dX11_spread_0 : decode cX11_spread 0 = .ok (.iconst 0, 1) := by decide +kernel
theorem dX11_spread_1 : decode cX11_spread 1 = .ok (.istore 4, 2) := by decide +kernel
theorem dX11_spread_3 : decode cX11_spread 3 = .ok (.iload 4, 2) := by decide +kernel
theorem dX11_spread_5 : decode cX11_spread 5 = .ok (.iconst 4, 1) := by decide +kernel
theorem dX11_spread_6 : decode cX11_spread 6 = .ok (.if_icmp .ge 27, 3) := by decide +kernel
theorem dX11_spread_9 : decode cX11_spread 9 = .ok (.aload_n 0, 1) := by decide +kernel
theorem dX11_spread_10 : decode cX11_spread 10 = .ok (.getfield 100, 3) := by decide +kernel
theorem dX11_spread_13 : decode cX11_spread 13 = .ok (.iload 4, 2) := by decide +kernel
theorem dX11_spread_15 : decode cX11_spread 15 = .ok (.iload 4, 2) := by decide +kernel
theorem dX11_spread_17 : decode cX11_spread 17 = .ok (.iload_n 1, 1) := by decide +kernel
theorem dX11_spread_18 : decode cX11_spread 18 = .ok (.if_icmp .ne 7, 3) := by decide +kernel
theorem dX11_spread_21 : decode cX11_spread 21 = .ok (.iload_n 2, 1) := by decide +kernel
theorem dX11_spread_22 : decode cX11_spread 22 = .ok (.goto 4, 3) := by decide +kernel
theorem dX11_spread_25 : decode cX11_spread 25 = .ok (.iconst (-1), 1) := by decide +kernel
theorem dX11_spread_26 : decode cX11_spread 26 = .ok (.iastore, 1) := by decide +kernel
theorem dX11_spread_27 : decode cX11_spread 27 = .ok (.iinc 4 1, 3) := by decide +kernel
theorem dX11_spread_30 : decode cX11_spread 30 = .ok (.goto (-27), 3) := by decide +kernel
theorem dX11_spread_33 : decode cX11_spread 33 = .ok (.iconst 0, 1) := by decide +kernel
theorem dX11_spread_34 : decode cX11_spread 34 = .ok (.istore 4, 2) := by decide +kernel
theorem dX11_spread_36 : decode cX11_spread 36 = .ok (.iload 4, 2) := by decide +kernel
theorem dX11_spread_38 : decode cX11_spread 38 = .ok (.aload_n 0, 1) := by decide +kernel
theorem dX11_spread_39 : decode cX11_spread 39 = .ok (.getfield 144, 3) := by decide +kernel
theorem dX11_spread_42 : decode cX11_spread 42 = .ok (.if_icmp .ge 131, 3) := by decide +kernel
theorem dX11_spread_45 : decode cX11_spread 45 = .ok (.iload 4, 2) := by decide +kernel
theorem dX11_spread_47 : decode cX11_spread 47 = .ok (.iload_n 3, 1) := by decide +kernel
theorem dX11_spread_48 : decode cX11_spread 48 = .ok (.if_icmp .eq 119, 3) := by decide +kernel
theorem dX11_spread_51 : decode cX11_spread 51 = .ok (.aload_n 0, 1) := by decide +kernel
theorem dX11_spread_52 : decode cX11_spread 52 = .ok (.getfield 91, 3) := by decide +kernel
theorem dX11_spread_55 : decode cX11_spread 55 = .ok (.iload 4, 2) := by decide +kernel
theorem dX11_spread_57 : decode cX11_spread 57 = .ok (.iaload, 1) := by decide +kernel
theorem dX11_spread_58 : decode cX11_spread 58 = .ok (.iload_n 2, 1) := by decide +kernel
theorem dX11_spread_59 : decode cX11_spread 59 = .ok (.if_icmp .ge 6, 3) := by decide +kernel
theorem dX11_spread_62 : decode cX11_spread 62 = .ok (.goto 105, 3) := by decide +kernel
theorem dX11_spread_65 : decode cX11_spread 65 = .ok (.aload_n 0, 1) := by decide +kernel
theorem dX11_spread_66 : decode cX11_spread 66 = .ok (.getfield 100, 3) := by decide +kernel
theorem dX11_spread_69 : decode cX11_spread 69 = .ok (.aload_n 0, 1) := by decide +kernel
theorem dX11_spread_70 : decode cX11_spread 70 = .ok (.getfield 94, 3) := by decide +kernel
theorem dX11_spread_73 : decode cX11_spread 73 = .ok (.iload 4, 2) := by decide +kernel
theorem dX11_spread_75 : decode cX11_spread 75 = .ok (.iaload, 1) := by decide +kernel
theorem dX11_spread_76 : decode cX11_spread 76 = .ok (.iaload, 1) := by decide +kernel
theorem dX11_spread_77 : decode cX11_spread 77 = .ok (.ifCond .lt 7, 3) := by decide +kernel
theorem dX11_spread_80 : decode cX11_spread 80 = .ok (.iconst 1, 1) := by decide +kernel
theorem dX11_spread_81 : decode cX11_spread 81 = .ok (.goto 4, 3) := by decide +kernel
theorem dX11_spread_84 : decode cX11_spread 84 = .ok (.iconst 0, 1) := by decide +kernel
theorem dX11_spread_85 : decode cX11_spread 85 = .ok (.istore 5, 2) := by decide +kernel
theorem dX11_spread_87 : decode cX11_spread 87 = .ok (.aload_n 0, 1) := by decide +kernel
theorem dX11_spread_88 : decode cX11_spread 88 = .ok (.getfield 100, 3) := by decide +kernel
theorem dX11_spread_91 : decode cX11_spread 91 = .ok (.aload_n 0, 1) := by decide +kernel
theorem dX11_spread_92 : decode cX11_spread 92 = .ok (.getfield 97, 3) := by decide +kernel
theorem dX11_spread_95 : decode cX11_spread 95 = .ok (.iload 4, 2) := by decide +kernel
theorem dX11_spread_97 : decode cX11_spread 97 = .ok (.iaload, 1) := by decide +kernel
theorem dX11_spread_98 : decode cX11_spread 98 = .ok (.iaload, 1) := by decide +kernel
theorem dX11_spread_99 : decode cX11_spread 99 = .ok (.ifCond .lt 7, 3) := by decide +kernel
theorem dX11_spread_102 : decode cX11_spread 102 = .ok (.iconst 1, 1) := by decide +kernel
theorem dX11_spread_103 : decode cX11_spread 103 = .ok (.goto 4, 3) := by decide +kernel
theorem dX11_spread_106 : decode cX11_spread 106 = .ok (.iconst 0, 1) := by decide +kernel
theorem dX11_spread_107 : decode cX11_spread 107 = .ok (.istore 6, 2) := by decide +kernel
theorem dX11_spread_109 : decode cX11_spread 109 = .ok (.iload 5, 2) := by decide +kernel
theorem dX11_spread_111 : decode cX11_spread 111 = .ok (.ifCond .eq 27, 3) := by decide +kernel
theorem dX11_spread_114 : decode cX11_spread 114 = .ok (.iload 6, 2) := by decide +kernel
theorem dX11_spread_116 : decode cX11_spread 116 = .ok (.ifCond .ne 22, 3) := by decide +kernel
theorem dX11_spread_119 : decode cX11_spread 119 = .ok (.aload_n 0, 1) := by decide +kernel
theorem dX11_spread_120 : decode cX11_spread 120 = .ok (.getfield 100, 3) := by decide +kernel
theorem dX11_spread_123 : decode cX11_spread 123 = .ok (.aload_n 0, 1) := by decide +kernel
theorem dX11_spread_124 : decode cX11_spread 124 = .ok (.getfield 97, 3) := by decide +kernel
theorem dX11_spread_127 : decode cX11_spread 127 = .ok (.iload 4, 2) := by decide +kernel
theorem dX11_spread_129 : decode cX11_spread 129 = .ok (.iaload, 1) := by decide +kernel
theorem dX11_spread_130 : decode cX11_spread 130 = .ok (.aload_n 0, 1) := by decide +kernel
theorem dX11_spread_131 : decode cX11_spread 131 = .ok (.getfield 91, 3) := by decide +kernel
theorem dX11_spread_134 : decode cX11_spread 134 = .ok (.iload 4, 2) := by decide +kernel
theorem dX11_spread_136 : decode cX11_spread 136 = .ok (.iaload, 1) := by decide +kernel
theorem dX11_spread_137 : decode cX11_spread 137 = .ok (.iastore, 1) := by decide +kernel
theorem dX11_spread_138 : decode cX11_spread 138 = .ok (.iload 6, 2) := by decide +kernel
theorem dX11_spread_140 : decode cX11_spread 140 = .ok (.ifCond .eq 27, 3) := by decide +kernel
theorem dX11_spread_143 : decode cX11_spread 143 = .ok (.iload 5, 2) := by decide +kernel
theorem dX11_spread_145 : decode cX11_spread 145 = .ok (.ifCond .ne 22, 3) := by decide +kernel
theorem dX11_spread_148 : decode cX11_spread 148 = .ok (.aload_n 0, 1) := by decide +kernel
theorem dX11_spread_149 : decode cX11_spread 149 = .ok (.getfield 100, 3) := by decide +kernel
theorem dX11_spread_152 : decode cX11_spread 152 = .ok (.aload_n 0, 1) := by decide +kernel
theorem dX11_spread_153 : decode cX11_spread 153 = .ok (.getfield 94, 3) := by decide +kernel
theorem dX11_spread_156 : decode cX11_spread 156 = .ok (.iload 4, 2) := by decide +kernel
theorem dX11_spread_158 : decode cX11_spread 158 = .ok (.iaload, 1) := by decide +kernel
theorem dX11_spread_159 : decode cX11_spread 159 = .ok (.aload_n 0, 1) := by decide +kernel
theorem dX11_spread_160 : decode cX11_spread 160 = .ok (.getfield 91, 3) := by decide +kernel
theorem dX11_spread_163 : decode cX11_spread 163 = .ok (.iload 4, 2) := by decide +kernel
theorem dX11_spread_165 : decode cX11_spread 165 = .ok (.iaload, 1) := by decide +kernel
theorem dX11_spread_166 : decode cX11_spread 166 = .ok (.iastore, 1) := by decide +kernel
theorem dX11_spread_167 : decode cX11_spread 167 = .ok (.iinc 4 1, 3) := by decide +kernel
theorem dX11_spread_170 : decode cX11_spread 170 = .ok (.goto (-134), 3) := by decide +kernel
theorem dX11_spread_173 : decode cX11_spread 173 = .ok (.return_, 1) := by decide +kernel
theorem dX11_news_0 : decode cX11_news 0 = .ok (.iload_n 1, 1) := by decide +kernel
theorem dX11_news_1 : decode cX11_news 1 = .ok (.invokestatic 339, 3) := by decide +kernel
theorem dX11_news_4 : decode cX11_news 4 = .ok (.ifCond .eq 10, 3) := by decide +kernel
theorem dX11_news_7 : decode cX11_news 7 = .ok (.iload_n 3, 1) := by decide +kernel
theorem dX11_news_8 : decode cX11_news 8 = .ok (.invokestatic 339, 3) := by decide +kernel
theorem dX11_news_11 : decode cX11_news 11 = .ok (.ifCond .ne 6, 3) := by decide +kernel
theorem dX11_news_14 : decode cX11_news 14 = .ok (.bipush (-5), 2) := by decide +kernel
theorem dX11_news_16 : decode cX11_news 16 = .ok (.ireturn, 1) := by decide +kernel
theorem dX11_news_17 : decode cX11_news 17 = .ok (.iload_n 2, 1) := by decide +kernel
theorem dX11_news_18 : decode cX11_news 18 = .ok (.invokestatic 342, 3) := by decide +kernel
theorem dX11_news_21 : decode cX11_news 21 = .ok (.ifCond .ne 6, 3) := by decide +kernel
theorem dX11_news_24 : decode cX11_news 24 = .ok (.bipush (-7), 2) := by decide +kernel
theorem dX11_news_26 : decode cX11_news 26 = .ok (.ireturn, 1) := by decide +kernel
theorem dX11_news_27 : decode cX11_news 27 = .ok (.aload_n 0, 1) := by decide +kernel
theorem dX11_news_28 : decode cX11_news 28 = .ok (.iload_n 1, 1) := by decide +kernel
theorem dX11_news_29 : decode cX11_news 29 = .ok (.iload_n 2, 1) := by decide +kernel
theorem dX11_news_30 : decode cX11_news 30 = .ok (.iconst (-1), 1) := by decide +kernel
theorem dX11_news_31 : decode cX11_news 31 = .ok (.invokevirtual 370, 3) := by decide +kernel
theorem dX11_news_34 : decode cX11_news 34 = .ok (.aload_n 0, 1) := by decide +kernel
theorem dX11_news_35 : decode cX11_news 35 = .ok (.getfield 100, 3) := by decide +kernel
theorem dX11_news_38 : decode cX11_news 38 = .ok (.iload_n 3, 1) := by decide +kernel
theorem dX11_news_39 : decode cX11_news 39 = .ok (.iaload, 1) := by decide +kernel
theorem dX11_news_40 : decode cX11_news 40 = .ok (.ireturn, 1) := by decide +kernel
theorem dX11_peace_0 : decode cX11_peace 0 = .ok (.iload_n 1, 1) := by decide +kernel
theorem dX11_peace_1 : decode cX11_peace 1 = .ok (.invokestatic 339, 3) := by decide +kernel
theorem dX11_peace_4 : decode cX11_peace 4 = .ok (.ifCond .ne 6, 3) := by decide +kernel
theorem dX11_peace_7 : decode cX11_peace 7 = .ok (.bipush (-5), 2) := by decide +kernel
theorem dX11_peace_9 : decode cX11_peace 9 = .ok (.ireturn, 1) := by decide +kernel
theorem dX11_peace_10 : decode cX11_peace 10 = .ok (.iload_n 2, 1) := by decide +kernel
theorem dX11_peace_11 : decode cX11_peace 11 = .ok (.invokestatic 342, 3) := by decide +kernel
theorem dX11_peace_14 : decode cX11_peace 14 = .ok (.ifCond .eq 10, 3) := by decide +kernel
theorem dX11_peace_17 : decode cX11_peace 17 = .ok (.iload_n 3, 1) := by decide +kernel
theorem dX11_peace_18 : decode cX11_peace 18 = .ok (.invokestatic 342, 3) := by decide +kernel
theorem dX11_peace_21 : decode cX11_peace 21 = .ok (.ifCond .ne 6, 3) := by decide +kernel
theorem dX11_peace_24 : decode cX11_peace 24 = .ok (.bipush (-7), 2) := by decide +kernel
theorem dX11_peace_26 : decode cX11_peace 26 = .ok (.ireturn, 1) := by decide +kernel
theorem dX11_peace_27 : decode cX11_peace 27 = .ok (.aload_n 0, 1) := by decide +kernel
theorem dX11_peace_28 : decode cX11_peace 28 = .ok (.iload_n 1, 1) := by decide +kernel
theorem dX11_peace_29 : decode cX11_peace 29 = .ok (.iload_n 2, 1) := by decide +kernel
theorem dX11_peace_30 : decode cX11_peace 30 = .ok (.iconst (-1), 1) := by decide +kernel
theorem dX11_peace_31 : decode cX11_peace 31 = .ok (.invokevirtual 370, 3) := by decide +kernel
theorem dX11_peace_34 : decode cX11_peace 34 = .ok (.iconst 0, 1) := by decide +kernel
theorem dX11_peace_35 : decode cX11_peace 35 = .ok (.istore 4, 2) := by decide +kernel
theorem dX11_peace_37 : decode cX11_peace 37 = .ok (.iconst 0, 1) := by decide +kernel
theorem dX11_peace_38 : decode cX11_peace 38 = .ok (.istore 5, 2) := by decide +kernel
theorem dX11_peace_40 : decode cX11_peace 40 = .ok (.iload 5, 2) := by decide +kernel
theorem dX11_peace_42 : decode cX11_peace 42 = .ok (.iconst 4, 1) := by decide +kernel
theorem dX11_peace_43 : decode cX11_peace 43 = .ok (.if_icmp .ge 40, 3) := by decide +kernel
theorem dX11_peace_46 : decode cX11_peace 46 = .ok (.iload 4, 2) := by decide +kernel
theorem dX11_peace_48 : decode cX11_peace 48 = .ok (.aload_n 0, 1) := by decide +kernel
theorem dX11_peace_49 : decode cX11_peace 49 = .ok (.getfield 100, 3) := by decide +kernel
theorem dX11_peace_52 : decode cX11_peace 52 = .ok (.iload 5, 2) := by decide +kernel
theorem dX11_peace_54 : decode cX11_peace 54 = .ok (.iaload, 1) := by decide +kernel
theorem dX11_peace_55 : decode cX11_peace 55 = .ok (.ifCond .lt 18, 3) := by decide +kernel
theorem dX11_peace_58 : decode cX11_peace 58 = .ok (.aload_n 0, 1) := by decide +kernel
theorem dX11_peace_59 : decode cX11_peace 59 = .ok (.getfield 100, 3) := by decide +kernel
theorem dX11_peace_62 : decode cX11_peace 62 = .ok (.iload 5, 2) := by decide +kernel
theorem dX11_peace_64 : decode cX11_peace 64 = .ok (.iaload, 1) := by decide +kernel
theorem dX11_peace_65 : decode cX11_peace 65 = .ok (.iload_n 3, 1) := by decide +kernel
theorem dX11_peace_66 : decode cX11_peace 66 = .ok (.if_icmp .gt 7, 3) := by decide +kernel
theorem dX11_peace_69 : decode cX11_peace 69 = .ok (.iconst 1, 1) := by decide +kernel
theorem dX11_peace_70 : decode cX11_peace 70 = .ok (.goto 4, 3) := by decide +kernel
theorem dX11_peace_73 : decode cX11_peace 73 = .ok (.iconst 0, 1) := by decide +kernel
theorem dX11_peace_74 : decode cX11_peace 74 = .ok (.iadd, 1) := by decide +kernel
theorem dX11_peace_75 : decode cX11_peace 75 = .ok (.istore 4, 2) := by decide +kernel
theorem dX11_peace_77 : decode cX11_peace 77 = .ok (.iinc 5 1, 3) := by decide +kernel
theorem dX11_peace_80 : decode cX11_peace 80 = .ok (.goto (-40), 3) := by decide +kernel
theorem dX11_peace_83 : decode cX11_peace 83 = .ok (.iload 4, 2) := by decide +kernel
theorem dX11_peace_85 : decode cX11_peace 85 = .ok (.ireturn, 1) := by decide +kernel
theorem dX11_key_0 : decode cX11_key 0 = .ok (.iload_n 1, 1) := by decide +kernel
theorem dX11_key_1 : decode cX11_key 1 = .ok (.invokestatic 339, 3) := by decide +kernel
theorem dX11_key_4 : decode cX11_key 4 = .ok (.ifCond .eq 10, 3) := by decide +kernel
theorem dX11_key_7 : decode cX11_key 7 = .ok (.iload_n 3, 1) := by decide +kernel
theorem dX11_key_8 : decode cX11_key 8 = .ok (.invokestatic 339, 3) := by decide +kernel
theorem dX11_key_11 : decode cX11_key 11 = .ok (.ifCond .ne 6, 3) := by decide +kernel
theorem dX11_key_14 : decode cX11_key 14 = .ok (.bipush (-5), 2) := by decide +kernel
theorem dX11_key_16 : decode cX11_key 16 = .ok (.ireturn, 1) := by decide +kernel
theorem dX11_key_17 : decode cX11_key 17 = .ok (.iload_n 2, 1) := by decide +kernel
theorem dX11_key_18 : decode cX11_key 18 = .ok (.invokestatic 342, 3) := by decide +kernel
theorem dX11_key_21 : decode cX11_key 21 = .ok (.ifCond .ne 6, 3) := by decide +kernel
theorem dX11_key_24 : decode cX11_key 24 = .ok (.bipush (-7), 2) := by decide +kernel
theorem dX11_key_26 : decode cX11_key 26 = .ok (.ireturn, 1) := by decide +kernel
theorem dX11_key_27 : decode cX11_key 27 = .ok (.aload_n 0, 1) := by decide +kernel
theorem dX11_key_28 : decode cX11_key 28 = .ok (.iload_n 1, 1) := by decide +kernel
theorem dX11_key_29 : decode cX11_key 29 = .ok (.iload_n 2, 1) := by decide +kernel
theorem dX11_key_30 : decode cX11_key 30 = .ok (.iconst (-1), 1) := by decide +kernel
theorem dX11_key_31 : decode cX11_key 31 = .ok (.invokevirtual 370, 3) := by decide +kernel
theorem dX11_key_34 : decode cX11_key 34 = .ok (.aload_n 0, 1) := by decide +kernel
theorem dX11_key_35 : decode cX11_key 35 = .ok (.getfield 100, 3) := by decide +kernel
theorem dX11_key_38 : decode cX11_key 38 = .ok (.iload_n 3, 1) := by decide +kernel
theorem dX11_key_39 : decode cX11_key 39 = .ok (.iaload, 1) := by decide +kernel
theorem dX11_key_40 : decode cX11_key 40 = .ok (.istore 4, 2) := by decide +kernel
theorem dX11_key_42 : decode cX11_key 42 = .ok (.iload 4, 2) := by decide +kernel
theorem dX11_key_44 : decode cX11_key 44 = .ok (.ifCond .ge 5, 3) := by decide +kernel
theorem dX11_key_47 : decode cX11_key 47 = .ok (.iconst (-1), 1) := by decide +kernel
theorem dX11_key_48 : decode cX11_key 48 = .ok (.ireturn, 1) := by decide +kernel
theorem dX11_key_49 : decode cX11_key 49 = .ok (.iconst 0, 1) := by decide +kernel
theorem dX11_key_50 : decode cX11_key 50 = .ok (.istore 5, 2) := by decide +kernel
theorem dX11_key_52 : decode cX11_key 52 = .ok (.iload 5, 2) := by decide +kernel
theorem dX11_key_54 : decode cX11_key 54 = .ok (.aload_n 0, 1) := by decide +kernel
theorem dX11_key_55 : decode cX11_key 55 = .ok (.getfield 144, 3) := by decide +kernel
theorem dX11_key_58 : decode cX11_key 58 = .ok (.if_icmp .ge 40, 3) := by decide +kernel
theorem dX11_key_61 : decode cX11_key 61 = .ok (.aload_n 0, 1) := by decide +kernel
theorem dX11_key_62 : decode cX11_key 62 = .ok (.iload_n 1, 1) := by decide +kernel
theorem dX11_key_63 : decode cX11_key 63 = .ok (.iload_n 2, 1) := by decide +kernel
theorem dX11_key_64 : decode cX11_key 64 = .ok (.iload 5, 2) := by decide +kernel
theorem dX11_key_66 : decode cX11_key 66 = .ok (.invokevirtual 370, 3) := by decide +kernel
theorem dX11_key_69 : decode cX11_key 69 = .ok (.aload_n 0, 1) := by decide +kernel
theorem dX11_key_70 : decode cX11_key 70 = .ok (.getfield 100, 3) := by decide +kernel
theorem dX11_key_73 : decode cX11_key 73 = .ok (.iload_n 3, 1) := by decide +kernel
theorem dX11_key_74 : decode cX11_key 74 = .ok (.iaload, 1) := by decide +kernel
theorem dX11_key_75 : decode cX11_key 75 = .ok (.ifCond .lt 14, 3) := by decide +kernel
theorem dX11_key_78 : decode cX11_key 78 = .ok (.aload_n 0, 1) := by decide +kernel
theorem dX11_key_79 : decode cX11_key 79 = .ok (.getfield 100, 3) := by decide +kernel
theorem dX11_key_82 : decode cX11_key 82 = .ok (.iload_n 3, 1) := by decide +kernel
theorem dX11_key_83 : decode cX11_key 83 = .ok (.iaload, 1) := by decide +kernel
theorem dX11_key_84 : decode cX11_key 84 = .ok (.iload 4, 2) := by decide +kernel
theorem dX11_key_86 : decode cX11_key 86 = .ok (.if_icmp .le 6, 3) := by decide +kernel
theorem dX11_key_89 : decode cX11_key 89 = .ok (.iload 5, 2) := by decide +kernel
theorem dX11_key_91 : decode cX11_key 91 = .ok (.ireturn, 1) := by decide +kernel
theorem dX11_key_92 : decode cX11_key 92 = .ok (.iinc 5 1, 3) := by decide +kernel
theorem dX11_key_95 : decode cX11_key 95 = .ok (.goto (-43), 3) := by decide +kernel
theorem dX11_key_98 : decode cX11_key 98 = .ok (.iconst (-1), 1) := by decide +kernel
theorem dX11_key_99 : decode cX11_key 99 = .ok (.ireturn, 1) := by decide +kernel
theorem dX11_drawn_0 : decode cX11_drawn 0 = .ok (.iload_n 1, 1) := by decide +kernel
theorem dX11_drawn_1 : decode cX11_drawn 1 = .ok (.iconst 0, 1) := by decide +kernel
theorem dX11_drawn_2 : decode cX11_drawn 2 = .ok (.ldc_w 374, 3) := by decide +kernel
theorem dX11_drawn_5 : decode cX11_drawn 5 = .ok (.invokestatic 127, 3) := by decide +kernel
theorem dX11_drawn_8 : decode cX11_drawn 8 = .ok (.ifCond .eq 12, 3) := by decide +kernel
theorem dX11_drawn_11 : decode cX11_drawn 11 = .ok (.iload_n 2, 1) := by decide +kernel
theorem dX11_drawn_12 : decode cX11_drawn 12 = .ok (.iconst 0, 1) := by decide +kernel
theorem dX11_drawn_13 : decode cX11_drawn 13 = .ok (.iconst 2, 1) := by decide +kernel
theorem dX11_drawn_14 : decode cX11_drawn 14 = .ok (.invokestatic 127, 3) := by decide +kernel
theorem dX11_drawn_17 : decode cX11_drawn 17 = .ok (.ifCond .ne 6, 3) := by decide +kernel
theorem dX11_drawn_20 : decode cX11_drawn 20 = .ok (.bipush (-2), 2) := by decide +kernel
theorem dX11_drawn_22 : decode cX11_drawn 22 = .ok (.ireturn, 1) := by decide +kernel
theorem dX11_drawn_23 : decode cX11_drawn 23 = .ok (.aload_n 0, 1) := by decide +kernel
theorem dX11_drawn_24 : decode cX11_drawn 24 = .ok (.invokevirtual 281, 3) := by decide +kernel
theorem dX11_drawn_27 : decode cX11_drawn 27 = .ok (.pop2, 1) := by decide +kernel
theorem dX11_drawn_28 : decode cX11_drawn 28 = .ok (.iload_n 1, 1) := by decide +kernel
theorem dX11_drawn_29 : decode cX11_drawn 29 = .ok (.i2l, 1) := by decide +kernel
theorem dX11_drawn_30 : decode cX11_drawn 30 = .ok (.lconst 1, 1) := by decide +kernel
theorem dX11_drawn_31 : decode cX11_drawn 31 = .ok (.ladd, 1) := by decide +kernel
theorem dX11_drawn_32 : decode cX11_drawn 32 = .ok (.lstore_n 3, 1) := by decide +kernel
theorem dX11_drawn_33 : decode cX11_drawn 33 = .ok (.iconst 0, 1) := by decide +kernel
theorem dX11_drawn_34 : decode cX11_drawn 34 = .ok (.istore 5, 2) := by decide +kernel
theorem dX11_drawn_36 : decode cX11_drawn 36 = .ok (.iconst 0, 1) := by decide +kernel
theorem dX11_drawn_37 : decode cX11_drawn 37 = .ok (.istore 6, 2) := by decide +kernel
theorem dX11_drawn_39 : decode cX11_drawn 39 = .ok (.iconst 0, 1) := by decide +kernel
theorem dX11_drawn_40 : decode cX11_drawn 40 = .ok (.istore 7, 2) := by decide +kernel
theorem dX11_drawn_42 : decode cX11_drawn 42 = .ok (.iload 7, 2) := by decide +kernel
theorem dX11_drawn_44 : decode cX11_drawn 44 = .ok (.aload_n 0, 1) := by decide +kernel
theorem dX11_drawn_45 : decode cX11_drawn 45 = .ok (.getfield 267, 3) := by decide +kernel
theorem dX11_drawn_48 : decode cX11_drawn 48 = .ok (.if_icmp .ge 86, 3) := by decide +kernel
theorem dX11_drawn_51 : decode cX11_drawn 51 = .ok (.aload_n 0, 1) := by decide +kernel
theorem dX11_drawn_52 : decode cX11_drawn 52 = .ok (.getfield 60, 3) := by decide +kernel
theorem dX11_drawn_55 : decode cX11_drawn 55 = .ok (.iload 7, 2) := by decide +kernel
theorem dX11_drawn_57 : decode cX11_drawn 57 = .ok (.iaload, 1) := by decide +kernel
theorem dX11_drawn_58 : decode cX11_drawn 58 = .ok (.iconst 1, 1) := by decide +kernel
theorem dX11_drawn_59 : decode cX11_drawn 59 = .ok (.if_icmp .ge 6, 3) := by decide +kernel
theorem dX11_drawn_62 : decode cX11_drawn 62 = .ok (.goto 66, 3) := by decide +kernel
theorem dX11_drawn_65 : decode cX11_drawn 65 = .ok (.lload_n 3, 1) := by decide +kernel
theorem dX11_drawn_66 : decode cX11_drawn 66 = .ok (.ldc2_w 375, 3) := by decide +kernel
theorem dX11_drawn_69 : decode cX11_drawn 69 = .ok (.lmul, 1) := by decide +kernel
theorem dX11_drawn_70 : decode cX11_drawn 70 = .ok (.ldc2_w 377, 3) := by decide +kernel
theorem dX11_drawn_73 : decode cX11_drawn 73 = .ok (.lrem, 1) := by decide +kernel
theorem dX11_drawn_74 : decode cX11_drawn 74 = .ok (.lstore_n 3, 1) := by decide +kernel
theorem dX11_drawn_75 : decode cX11_drawn 75 = .ok (.lload_n 3, 1) := by decide +kernel
theorem dX11_drawn_76 : decode cX11_drawn 76 = .ok (.ldc2_w 270, 3) := by decide +kernel
theorem dX11_drawn_79 : decode cX11_drawn 79 = .ok (.lrem, 1) := by decide +kernel
theorem dX11_drawn_80 : decode cX11_drawn 80 = .ok (.aload_n 0, 1) := by decide +kernel
theorem dX11_drawn_81 : decode cX11_drawn 81 = .ok (.getfield 60, 3) := by decide +kernel
theorem dX11_drawn_84 : decode cX11_drawn 84 = .ok (.iload 7, 2) := by decide +kernel
theorem dX11_drawn_86 : decode cX11_drawn 86 = .ok (.iaload, 1) := by decide +kernel
theorem dX11_drawn_87 : decode cX11_drawn 87 = .ok (.i2l, 1) := by decide +kernel
theorem dX11_drawn_88 : decode cX11_drawn 88 = .ok (.lcmp, 1) := by decide +kernel
theorem dX11_drawn_89 : decode cX11_drawn 89 = .ok (.ifCond .lt 6, 3) := by decide +kernel
theorem dX11_drawn_92 : decode cX11_drawn 92 = .ok (.goto 36, 3) := by decide +kernel
theorem dX11_drawn_95 : decode cX11_drawn 95 = .ok (.iload 5, 2) := by decide +kernel
theorem dX11_drawn_97 : decode cX11_drawn 97 = .ok (.iconst 1, 1) := by decide +kernel
theorem dX11_drawn_98 : decode cX11_drawn 98 = .ok (.aload_n 0, 1) := by decide +kernel
theorem dX11_drawn_99 : decode cX11_drawn 99 = .ok (.getfield 48, 3) := by decide +kernel
theorem dX11_drawn_102 : decode cX11_drawn 102 = .ok (.aload_n 0, 1) := by decide +kernel
theorem dX11_drawn_103 : decode cX11_drawn 103 = .ok (.getfield 54, 3) := by decide +kernel
theorem dX11_drawn_106 : decode cX11_drawn 106 = .ok (.iload 7, 2) := by decide +kernel
theorem dX11_drawn_108 : decode cX11_drawn 108 = .ok (.iaload, 1) := by decide +kernel
theorem dX11_drawn_109 : decode cX11_drawn 109 = .ok (.iaload, 1) := by decide +kernel
theorem dX11_drawn_110 : decode cX11_drawn 110 = .ok (.ishl, 1) := by decide +kernel
theorem dX11_drawn_111 : decode cX11_drawn 111 = .ok (.ior, 1) := by decide +kernel
theorem dX11_drawn_112 : decode cX11_drawn 112 = .ok (.istore 5, 2) := by decide +kernel
theorem dX11_drawn_114 : decode cX11_drawn 114 = .ok (.iload 6, 2) := by decide +kernel
theorem dX11_drawn_116 : decode cX11_drawn 116 = .ok (.iconst 1, 1) := by decide +kernel
theorem dX11_drawn_117 : decode cX11_drawn 117 = .ok (.aload_n 0, 1) := by decide +kernel
theorem dX11_drawn_118 : decode cX11_drawn 118 = .ok (.getfield 54, 3) := by decide +kernel
theorem dX11_drawn_121 : decode cX11_drawn 121 = .ok (.iload 7, 2) := by decide +kernel
theorem dX11_drawn_123 : decode cX11_drawn 123 = .ok (.iaload, 1) := by decide +kernel
theorem dX11_drawn_124 : decode cX11_drawn 124 = .ok (.ishl, 1) := by decide +kernel
theorem dX11_drawn_125 : decode cX11_drawn 125 = .ok (.ior, 1) := by decide +kernel
theorem dX11_drawn_126 : decode cX11_drawn 126 = .ok (.istore 6, 2) := by decide +kernel
theorem dX11_drawn_128 : decode cX11_drawn 128 = .ok (.iinc 7 1, 3) := by decide +kernel
theorem dX11_drawn_131 : decode cX11_drawn 131 = .ok (.goto (-89), 3) := by decide +kernel
theorem dX11_drawn_134 : decode cX11_drawn 134 = .ok (.iload_n 2, 1) := by decide +kernel
theorem dX11_drawn_135 : decode cX11_drawn 135 = .ok (.iconst 2, 1) := by decide +kernel
theorem dX11_drawn_136 : decode cX11_drawn 136 = .ok (.if_icmp .ge 15, 3) := by decide +kernel
theorem dX11_drawn_139 : decode cX11_drawn 139 = .ok (.iload_n 2, 1) := by decide +kernel
theorem dX11_drawn_140 : decode cX11_drawn 140 = .ok (.ifCond .ne 8, 3) := by decide +kernel
theorem dX11_drawn_143 : decode cX11_drawn 143 = .ok (.iload 5, 2) := by decide +kernel
theorem dX11_drawn_145 : decode cX11_drawn 145 = .ok (.goto 5, 3) := by decide +kernel
theorem dX11_drawn_148 : decode cX11_drawn 148 = .ok (.iload 6, 2) := by decide +kernel
theorem dX11_drawn_150 : decode cX11_drawn 150 = .ok (.ireturn, 1) := by decide +kernel
theorem dX11_drawn_151 : decode cX11_drawn 151 = .ok (.iconst 0, 1) := by decide +kernel
theorem dX11_drawn_152 : decode cX11_drawn 152 = .ok (.istore 7, 2) := by decide +kernel
theorem dX11_drawn_154 : decode cX11_drawn 154 = .ok (.iconst 0, 1) := by decide +kernel
theorem dX11_drawn_155 : decode cX11_drawn 155 = .ok (.istore 8, 2) := by decide +kernel
theorem dX11_drawn_157 : decode cX11_drawn 157 = .ok (.iload 8, 2) := by decide +kernel
theorem dX11_drawn_159 : decode cX11_drawn 159 = .ok (.bipush 6, 2) := by decide +kernel
theorem dX11_drawn_161 : decode cX11_drawn 161 = .ok (.if_icmp .ge 29, 3) := by decide +kernel
theorem dX11_drawn_164 : decode cX11_drawn 164 = .ok (.iload 7, 2) := by decide +kernel
theorem dX11_drawn_166 : decode cX11_drawn 166 = .ok (.iload 5, 2) := by decide +kernel
theorem dX11_drawn_168 : decode cX11_drawn 168 = .ok (.iload 8, 2) := by decide +kernel
theorem dX11_drawn_170 : decode cX11_drawn 170 = .ok (.ishr, 1) := by decide +kernel
theorem dX11_drawn_171 : decode cX11_drawn 171 = .ok (.iconst 1, 1) := by decide +kernel
theorem dX11_drawn_172 : decode cX11_drawn 172 = .ok (.iand, 1) := by decide +kernel
theorem dX11_drawn_173 : decode cX11_drawn 173 = .ok (.aload_n 0, 1) := by decide +kernel
theorem dX11_drawn_174 : decode cX11_drawn 174 = .ok (.getfield 13, 3) := by decide +kernel
theorem dX11_drawn_177 : decode cX11_drawn 177 = .ok (.iload 8, 2) := by decide +kernel
theorem dX11_drawn_179 : decode cX11_drawn 179 = .ok (.iaload, 1) := by decide +kernel
theorem dX11_drawn_180 : decode cX11_drawn 180 = .ok (.imul, 1) := by decide +kernel
theorem dX11_drawn_181 : decode cX11_drawn 181 = .ok (.iadd, 1) := by decide +kernel
theorem dX11_drawn_182 : decode cX11_drawn 182 = .ok (.istore 7, 2) := by decide +kernel
theorem dX11_drawn_184 : decode cX11_drawn 184 = .ok (.iinc 8 1, 3) := by decide +kernel
theorem dX11_drawn_187 : decode cX11_drawn 187 = .ok (.goto (-30), 3) := by decide +kernel
theorem dX11_drawn_190 : decode cX11_drawn 190 = .ok (.iload 7, 2) := by decide +kernel
theorem dX11_drawn_192 : decode cX11_drawn 192 = .ok (.ireturn, 1) := by decide +kernel
theorem dX11_image_0 : decode cX11_image 0 = .ok (.aload_n 0, 1) := by decide +kernel
theorem dX11_image_1 : decode cX11_image 1 = .ok (.iconst 1, 1) := by decide +kernel
theorem dX11_image_2 : decode cX11_image 2 = .ok (.putfield 379, 3) := by decide +kernel
theorem dX11_image_5 : decode cX11_image 5 = .ok (.aload_n 0, 1) := by decide +kernel
theorem dX11_image_6 : decode cX11_image 6 = .ok (.aload_n 0, 1) := by decide +kernel
theorem dX11_image_7 : decode cX11_image 7 = .ok (.getfield 147, 3) := by decide +kernel
theorem dX11_image_10 : decode cX11_image 10 = .ok (.putfield 383, 3) := by decide +kernel
theorem dX11_image_13 : decode cX11_image 13 = .ok (.aload_n 0, 1) := by decide +kernel
theorem dX11_image_14 : decode cX11_image 14 = .ok (.aload_n 0, 1) := by decide +kernel
theorem dX11_image_15 : decode cX11_image 15 = .ok (.getfield 138, 3) := by decide +kernel
theorem dX11_image_18 : decode cX11_image 18 = .ok (.putfield 386, 3) := by decide +kernel
theorem dX11_image_21 : decode cX11_image 21 = .ok (.iconst 0, 1) := by decide +kernel
theorem dX11_image_22 : decode cX11_image 22 = .ok (.istore_n 1, 1) := by decide +kernel
theorem dX11_image_23 : decode cX11_image 23 = .ok (.iload_n 1, 1) := by decide +kernel
theorem dX11_image_24 : decode cX11_image 24 = .ok (.bipush 6, 2) := by decide +kernel
theorem dX11_image_26 : decode cX11_image 26 = .ok (.if_icmp .ge 33, 3) := by decide +kernel
theorem dX11_image_29 : decode cX11_image 29 = .ok (.aload_n 0, 1) := by decide +kernel
theorem dX11_image_30 : decode cX11_image 30 = .ok (.getfield 103, 3) := by decide +kernel
theorem dX11_image_33 : decode cX11_image 33 = .ok (.iload_n 1, 1) := by decide +kernel
theorem dX11_image_34 : decode cX11_image 34 = .ok (.aload_n 0, 1) := by decide +kernel
theorem dX11_image_35 : decode cX11_image 35 = .ok (.getfield 7, 3) := by decide +kernel
theorem dX11_image_38 : decode cX11_image 38 = .ok (.iload_n 1, 1) := by decide +kernel
theorem dX11_image_39 : decode cX11_image 39 = .ok (.iaload, 1) := by decide +kernel
theorem dX11_image_40 : decode cX11_image 40 = .ok (.iastore, 1) := by decide +kernel
theorem dX11_image_41 : decode cX11_image 41 = .ok (.aload_n 0, 1) := by decide +kernel
theorem dX11_image_42 : decode cX11_image 42 = .ok (.getfield 106, 3) := by decide +kernel
theorem dX11_image_45 : decode cX11_image 45 = .ok (.iload_n 1, 1) := by decide +kernel
theorem dX11_image_46 : decode cX11_image 46 = .ok (.aload_n 0, 1) := by decide +kernel
theorem dX11_image_47 : decode cX11_image 47 = .ok (.getfield 13, 3) := by decide +kernel
theorem dX11_image_50 : decode cX11_image 50 = .ok (.iload_n 1, 1) := by decide +kernel
theorem dX11_image_51 : decode cX11_image 51 = .ok (.iaload, 1) := by decide +kernel
theorem dX11_image_52 : decode cX11_image 52 = .ok (.iastore, 1) := by decide +kernel
theorem dX11_image_53 : decode cX11_image 53 = .ok (.iinc 1 1, 3) := by decide +kernel
theorem dX11_image_56 : decode cX11_image 56 = .ok (.goto (-33), 3) := by decide +kernel
theorem dX11_image_59 : decode cX11_image 59 = .ok (.iconst 0, 1) := by decide +kernel
theorem dX11_image_60 : decode cX11_image 60 = .ok (.istore_n 1, 1) := by decide +kernel
theorem dX11_image_61 : decode cX11_image 61 = .ok (.iload_n 1, 1) := by decide +kernel
theorem dX11_image_62 : decode cX11_image 62 = .ok (.bipush 36, 2) := by decide +kernel
theorem dX11_image_64 : decode cX11_image 64 = .ok (.if_icmp .ge 21, 3) := by decide +kernel
theorem dX11_image_67 : decode cX11_image 67 = .ok (.aload_n 0, 1) := by decide +kernel
theorem dX11_image_68 : decode cX11_image 68 = .ok (.getfield 109, 3) := by decide +kernel
theorem dX11_image_71 : decode cX11_image 71 = .ok (.iload_n 1, 1) := by decide +kernel
theorem dX11_image_72 : decode cX11_image 72 = .ok (.aload_n 0, 1) := by decide +kernel
theorem dX11_image_73 : decode cX11_image 73 = .ok (.getfield 76, 3) := by decide +kernel
theorem dX11_image_76 : decode cX11_image 76 = .ok (.iload_n 1, 1) := by decide +kernel
theorem dX11_image_77 : decode cX11_image 77 = .ok (.iaload, 1) := by decide +kernel
theorem dX11_image_78 : decode cX11_image 78 = .ok (.iastore, 1) := by decide +kernel
theorem dX11_image_79 : decode cX11_image 79 = .ok (.iinc 1 1, 3) := by decide +kernel
theorem dX11_image_82 : decode cX11_image 82 = .ok (.goto (-21), 3) := by decide +kernel
theorem dX11_image_85 : decode cX11_image 85 = .ok (.aload_n 0, 1) := by decide +kernel
theorem dX11_image_86 : decode cX11_image 86 = .ok (.getfield 135, 3) := by decide +kernel
theorem dX11_image_89 : decode cX11_image 89 = .ok (.ireturn, 1) := by decide +kernel
theorem dX11_back_0 : decode cX11_back 0 = .ok (.aload_n 0, 1) := by decide +kernel
theorem dX11_back_1 : decode cX11_back 1 = .ok (.getfield 379, 3) := by decide +kernel
theorem dX11_back_4 : decode cX11_back 4 = .ok (.ifCond .ne 6, 3) := by decide +kernel
theorem dX11_back_7 : decode cX11_back 7 = .ok (.bipush (-3), 2) := by decide +kernel
theorem dX11_back_9 : decode cX11_back 9 = .ok (.ireturn, 1) := by decide +kernel
theorem dX11_back_10 : decode cX11_back 10 = .ok (.aload_n 0, 1) := by decide +kernel
theorem dX11_back_11 : decode cX11_back 11 = .ok (.aload_n 0, 1) := by decide +kernel
theorem dX11_back_12 : decode cX11_back 12 = .ok (.getfield 383, 3) := by decide +kernel
theorem dX11_back_15 : decode cX11_back 15 = .ok (.putfield 147, 3) := by decide +kernel
theorem dX11_back_18 : decode cX11_back 18 = .ok (.iconst 0, 1) := by decide +kernel
theorem dX11_back_19 : decode cX11_back 19 = .ok (.istore_n 1, 1) := by decide +kernel
theorem dX11_back_20 : decode cX11_back 20 = .ok (.iload_n 1, 1) := by decide +kernel
theorem dX11_back_21 : decode cX11_back 21 = .ok (.bipush 6, 2) := by decide +kernel
theorem dX11_back_23 : decode cX11_back 23 = .ok (.if_icmp .ge 33, 3) := by decide +kernel
theorem dX11_back_26 : decode cX11_back 26 = .ok (.aload_n 0, 1) := by decide +kernel
theorem dX11_back_27 : decode cX11_back 27 = .ok (.getfield 7, 3) := by decide +kernel
theorem dX11_back_30 : decode cX11_back 30 = .ok (.iload_n 1, 1) := by decide +kernel
theorem dX11_back_31 : decode cX11_back 31 = .ok (.aload_n 0, 1) := by decide +kernel
theorem dX11_back_32 : decode cX11_back 32 = .ok (.getfield 103, 3) := by decide +kernel
theorem dX11_back_35 : decode cX11_back 35 = .ok (.iload_n 1, 1) := by decide +kernel
theorem dX11_back_36 : decode cX11_back 36 = .ok (.iaload, 1) := by decide +kernel
theorem dX11_back_37 : decode cX11_back 37 = .ok (.iastore, 1) := by decide +kernel
theorem dX11_back_38 : decode cX11_back 38 = .ok (.aload_n 0, 1) := by decide +kernel
theorem dX11_back_39 : decode cX11_back 39 = .ok (.getfield 13, 3) := by decide +kernel
theorem dX11_back_42 : decode cX11_back 42 = .ok (.iload_n 1, 1) := by decide +kernel
theorem dX11_back_43 : decode cX11_back 43 = .ok (.aload_n 0, 1) := by decide +kernel
theorem dX11_back_44 : decode cX11_back 44 = .ok (.getfield 106, 3) := by decide +kernel
theorem dX11_back_47 : decode cX11_back 47 = .ok (.iload_n 1, 1) := by decide +kernel
theorem dX11_back_48 : decode cX11_back 48 = .ok (.iaload, 1) := by decide +kernel
theorem dX11_back_49 : decode cX11_back 49 = .ok (.iastore, 1) := by decide +kernel
theorem dX11_back_50 : decode cX11_back 50 = .ok (.iinc 1 1, 3) := by decide +kernel
theorem dX11_back_53 : decode cX11_back 53 = .ok (.goto (-33), 3) := by decide +kernel
theorem dX11_back_56 : decode cX11_back 56 = .ok (.iconst 0, 1) := by decide +kernel
theorem dX11_back_57 : decode cX11_back 57 = .ok (.istore_n 1, 1) := by decide +kernel
theorem dX11_back_58 : decode cX11_back 58 = .ok (.iload_n 1, 1) := by decide +kernel
theorem dX11_back_59 : decode cX11_back 59 = .ok (.aload_n 0, 1) := by decide +kernel
theorem dX11_back_60 : decode cX11_back 60 = .ok (.getfield 386, 3) := by decide +kernel
theorem dX11_back_63 : decode cX11_back 63 = .ok (.if_icmp .ge 47, 3) := by decide +kernel
theorem dX11_back_66 : decode cX11_back 66 = .ok (.iconst 0, 1) := by decide +kernel
theorem dX11_back_67 : decode cX11_back 67 = .ok (.istore_n 2, 1) := by decide +kernel
theorem dX11_back_68 : decode cX11_back 68 = .ok (.iload_n 2, 1) := by decide +kernel
theorem dX11_back_69 : decode cX11_back 69 = .ok (.aload_n 0, 1) := by decide +kernel
theorem dX11_back_70 : decode cX11_back 70 = .ok (.getfield 386, 3) := by decide +kernel
theorem dX11_back_73 : decode cX11_back 73 = .ok (.if_icmp .ge 31, 3) := by decide +kernel
theorem dX11_back_76 : decode cX11_back 76 = .ok (.aload_n 0, 1) := by decide +kernel
theorem dX11_back_77 : decode cX11_back 77 = .ok (.getfield 76, 3) := by decide +kernel
theorem dX11_back_80 : decode cX11_back 80 = .ok (.bipush 6, 2) := by decide +kernel
theorem dX11_back_82 : decode cX11_back 82 = .ok (.iload_n 1, 1) := by decide +kernel
theorem dX11_back_83 : decode cX11_back 83 = .ok (.imul, 1) := by decide +kernel
theorem dX11_back_84 : decode cX11_back 84 = .ok (.iload_n 2, 1) := by decide +kernel
theorem dX11_back_85 : decode cX11_back 85 = .ok (.iadd, 1) := by decide +kernel
theorem dX11_back_86 : decode cX11_back 86 = .ok (.aload_n 0, 1) := by decide +kernel
theorem dX11_back_87 : decode cX11_back 87 = .ok (.getfield 109, 3) := by decide +kernel
theorem dX11_back_90 : decode cX11_back 90 = .ok (.bipush 6, 2) := by decide +kernel
theorem dX11_back_92 : decode cX11_back 92 = .ok (.iload_n 1, 1) := by decide +kernel
theorem dX11_back_93 : decode cX11_back 93 = .ok (.imul, 1) := by decide +kernel
theorem dX11_back_94 : decode cX11_back 94 = .ok (.iload_n 2, 1) := by decide +kernel
theorem dX11_back_95 : decode cX11_back 95 = .ok (.iadd, 1) := by decide +kernel
theorem dX11_back_96 : decode cX11_back 96 = .ok (.iaload, 1) := by decide +kernel
theorem dX11_back_97 : decode cX11_back 97 = .ok (.iastore, 1) := by decide +kernel
theorem dX11_back_98 : decode cX11_back 98 = .ok (.iinc 2 1, 3) := by decide +kernel
theorem dX11_back_101 : decode cX11_back 101 = .ok (.goto (-33), 3) := by decide +kernel
theorem dX11_back_104 : decode cX11_back 104 = .ok (.iinc 1 1, 3) := by decide +kernel
theorem dX11_back_107 : decode cX11_back 107 = .ok (.goto (-49), 3) := by decide +kernel
theorem dX11_back_110 : decode cX11_back 110 = .ok (.aload_n 0, 1) := by decide +kernel
theorem dX11_back_111 : decode cX11_back 111 = .ok (.getfield 135, 3) := by decide +kernel
theorem dX11_back_114 : decode cX11_back 114 = .ok (.ireturn, 1) := by decide +kernel
theorem dX11_isSheet_0 : decode cX11_isSheet 0 = .ok (.iload_n 0, 1) := by decide +kernel
theorem dX11_isSheet_1 : decode cX11_isSheet 1 = .ok (.iconst 0, 1) := by decide +kernel
theorem dX11_isSheet_2 : decode cX11_isSheet 2 = .ok (.iconst 3, 1) := by decide +kernel
theorem dX11_isSheet_3 : decode cX11_isSheet 3 = .ok (.invokestatic 127, 3) := by decide +kernel
theorem dX11_isSheet_6 : decode cX11_isSheet 6 = .ok (.ireturn, 1) := by decide +kernel
theorem dX11_sheet_0 : decode cX11_sheet 0 = .ok (.iload_n 1, 1) := by decide +kernel
theorem dX11_sheet_1 : decode cX11_sheet 1 = .ok (.invokestatic 284, 3) := by decide +kernel
theorem dX11_sheet_4 : decode cX11_sheet 4 = .ok (.ifCond .eq 12, 3) := by decide +kernel
theorem dX11_sheet_7 : decode cX11_sheet 7 = .ok (.iload_n 2, 1) := by decide +kernel
theorem dX11_sheet_8 : decode cX11_sheet 8 = .ok (.iconst (-1), 1) := by decide +kernel
theorem dX11_sheet_9 : decode cX11_sheet 9 = .ok (.iconst 2, 1) := by decide +kernel
theorem dX11_sheet_10 : decode cX11_sheet 10 = .ok (.invokestatic 127, 3) := by decide +kernel
theorem dX11_sheet_13 : decode cX11_sheet 13 = .ok (.ifCond .ne 6, 3) := by decide +kernel
theorem dX11_sheet_16 : decode cX11_sheet 16 = .ok (.bipush (-2), 2) := by decide +kernel
theorem dX11_sheet_18 : decode cX11_sheet 18 = .ok (.ireturn, 1) := by decide +kernel
theorem dX11_sheet_19 : decode cX11_sheet 19 = .ok (.iload_n 2, 1) := by decide +kernel
theorem dX11_sheet_20 : decode cX11_sheet 20 = .ok (.iconst (-1), 1) := by decide +kernel
theorem dX11_sheet_21 : decode cX11_sheet 21 = .ok (.if_icmp .ne 12, 3) := by decide +kernel
theorem dX11_sheet_24 : decode cX11_sheet 24 = .ok (.aload_n 0, 1) := by decide +kernel
theorem dX11_sheet_25 : decode cX11_sheet 25 = .ok (.getfield 112, 3) := by decide +kernel
theorem dX11_sheet_28 : decode cX11_sheet 28 = .ok (.iload_n 1, 1) := by decide +kernel
theorem dX11_sheet_29 : decode cX11_sheet 29 = .ok (.iconst (-1), 1) := by decide +kernel
theorem dX11_sheet_30 : decode cX11_sheet 30 = .ok (.iastore, 1) := by decide +kernel
theorem dX11_sheet_31 : decode cX11_sheet 31 = .ok (.iconst 1, 1) := by decide +kernel
theorem dX11_sheet_32 : decode cX11_sheet 32 = .ok (.ireturn, 1) := by decide +kernel
theorem dX11_sheet_33 : decode cX11_sheet 33 = .ok (.iload_n 3, 1) := by decide +kernel
theorem dX11_sheet_34 : decode cX11_sheet 34 = .ok (.bipush 40, 2) := by decide +kernel
theorem dX11_sheet_36 : decode cX11_sheet 36 = .ok (.if_icmp .le 6, 3) := by decide +kernel
theorem dX11_sheet_39 : decode cX11_sheet 39 = .ok (.bipush (-2), 2) := by decide +kernel
theorem dX11_sheet_41 : decode cX11_sheet 41 = .ok (.ireturn, 1) := by decide +kernel
theorem dX11_sheet_42 : decode cX11_sheet 42 = .ok (.iload_n 3, 1) := by decide +kernel
theorem dX11_sheet_43 : decode cX11_sheet 43 = .ok (.ifCond .ge 6, 3) := by decide +kernel
theorem dX11_sheet_46 : decode cX11_sheet 46 = .ok (.bipush (-14), 2) := by decide +kernel
theorem dX11_sheet_48 : decode cX11_sheet 48 = .ok (.ireturn, 1) := by decide +kernel
theorem dX11_sheet_49 : decode cX11_sheet 49 = .ok (.aload_n 0, 1) := by decide +kernel
theorem dX11_sheet_50 : decode cX11_sheet 50 = .ok (.getfield 112, 3) := by decide +kernel
theorem dX11_sheet_53 : decode cX11_sheet 53 = .ok (.iload_n 1, 1) := by decide +kernel
theorem dX11_sheet_54 : decode cX11_sheet 54 = .ok (.iload_n 2, 1) := by decide +kernel
theorem dX11_sheet_55 : decode cX11_sheet 55 = .ok (.iastore, 1) := by decide +kernel
theorem dX11_sheet_56 : decode cX11_sheet 56 = .ok (.aload_n 0, 1) := by decide +kernel
theorem dX11_sheet_57 : decode cX11_sheet 57 = .ok (.getfield 115, 3) := by decide +kernel
theorem dX11_sheet_60 : decode cX11_sheet 60 = .ok (.iload_n 1, 1) := by decide +kernel
theorem dX11_sheet_61 : decode cX11_sheet 61 = .ok (.iload_n 3, 1) := by decide +kernel
theorem dX11_sheet_62 : decode cX11_sheet 62 = .ok (.iastore, 1) := by decide +kernel
theorem dX11_sheet_63 : decode cX11_sheet 63 = .ok (.iconst 0, 1) := by decide +kernel
theorem dX11_sheet_64 : decode cX11_sheet 64 = .ok (.istore 4, 2) := by decide +kernel
theorem dX11_sheet_66 : decode cX11_sheet 66 = .ok (.iload 4, 2) := by decide +kernel
theorem dX11_sheet_68 : decode cX11_sheet 68 = .ok (.iload_n 3, 1) := by decide +kernel
theorem dX11_sheet_69 : decode cX11_sheet 69 = .ok (.if_icmp .ge 22, 3) := by decide +kernel
theorem dX11_sheet_72 : decode cX11_sheet 72 = .ok (.aload_n 0, 1) := by decide +kernel
theorem dX11_sheet_73 : decode cX11_sheet 73 = .ok (.getfield 118, 3) := by decide +kernel
theorem dX11_sheet_76 : decode cX11_sheet 76 = .ok (.bipush 40, 2) := by decide +kernel
theorem dX11_sheet_78 : decode cX11_sheet 78 = .ok (.iload_n 1, 1) := by decide +kernel
theorem dX11_sheet_79 : decode cX11_sheet 79 = .ok (.imul, 1) := by decide +kernel
theorem dX11_sheet_80 : decode cX11_sheet 80 = .ok (.iload 4, 2) := by decide +kernel
theorem dX11_sheet_82 : decode cX11_sheet 82 = .ok (.iadd, 1) := by decide +kernel
theorem dX11_sheet_83 : decode cX11_sheet 83 = .ok (.iconst 0, 1) := by decide +kernel
theorem dX11_sheet_84 : decode cX11_sheet 84 = .ok (.iastore, 1) := by decide +kernel
theorem dX11_sheet_85 : decode cX11_sheet 85 = .ok (.iinc 4 1, 3) := by decide +kernel
theorem dX11_sheet_88 : decode cX11_sheet 88 = .ok (.goto (-22), 3) := by decide +kernel
theorem dX11_sheet_91 : decode cX11_sheet 91 = .ok (.iconst 1, 1) := by decide +kernel
theorem dX11_sheet_92 : decode cX11_sheet 92 = .ok (.ireturn, 1) := by decide +kernel
theorem dX11_cell_0 : decode cX11_cell 0 = .ok (.iload_n 1, 1) := by decide +kernel
theorem dX11_cell_1 : decode cX11_cell 1 = .ok (.invokestatic 284, 3) := by decide +kernel
theorem dX11_cell_4 : decode cX11_cell 4 = .ok (.ifCond .ne 6, 3) := by decide +kernel
theorem dX11_cell_7 : decode cX11_cell 7 = .ok (.bipush (-2), 2) := by decide +kernel
theorem dX11_cell_9 : decode cX11_cell 9 = .ok (.ireturn, 1) := by decide +kernel
theorem dX11_cell_10 : decode cX11_cell 10 = .ok (.aload_n 0, 1) := by decide +kernel
theorem dX11_cell_11 : decode cX11_cell 11 = .ok (.getfield 112, 3) := by decide +kernel
theorem dX11_cell_14 : decode cX11_cell 14 = .ok (.iload_n 1, 1) := by decide +kernel
theorem dX11_cell_15 : decode cX11_cell 15 = .ok (.iaload, 1) := by decide +kernel
theorem dX11_cell_16 : decode cX11_cell 16 = .ok (.ifCond .ge 6, 3) := by decide +kernel
theorem dX11_cell_19 : decode cX11_cell 19 = .ok (.bipush (-11), 2) := by decide +kernel
theorem dX11_cell_21 : decode cX11_cell 21 = .ok (.ireturn, 1) := by decide +kernel
theorem dX11_cell_22 : decode cX11_cell 22 = .ok (.iload_n 2, 1) := by decide +kernel
theorem dX11_cell_23 : decode cX11_cell 23 = .ok (.iconst 0, 1) := by decide +kernel
theorem dX11_cell_24 : decode cX11_cell 24 = .ok (.aload_n 0, 1) := by decide +kernel
theorem dX11_cell_25 : decode cX11_cell 25 = .ok (.getfield 115, 3) := by decide +kernel
theorem dX11_cell_28 : decode cX11_cell 28 = .ok (.iload_n 1, 1) := by decide +kernel
theorem dX11_cell_29 : decode cX11_cell 29 = .ok (.iaload, 1) := by decide +kernel
theorem dX11_cell_30 : decode cX11_cell 30 = .ok (.iconst 1, 1) := by decide +kernel
theorem dX11_cell_31 : decode cX11_cell 31 = .ok (.isub, 1) := by decide +kernel
theorem dX11_cell_32 : decode cX11_cell 32 = .ok (.invokestatic 127, 3) := by decide +kernel
theorem dX11_cell_35 : decode cX11_cell 35 = .ok (.ifCond .ne 6, 3) := by decide +kernel
theorem dX11_cell_38 : decode cX11_cell 38 = .ok (.bipush (-12), 2) := by decide +kernel
theorem dX11_cell_40 : decode cX11_cell 40 = .ok (.ireturn, 1) := by decide +kernel
theorem dX11_cell_41 : decode cX11_cell 41 = .ok (.aload_n 0, 1) := by decide +kernel
theorem dX11_cell_42 : decode cX11_cell 42 = .ok (.getfield 118, 3) := by decide +kernel
theorem dX11_cell_45 : decode cX11_cell 45 = .ok (.bipush 40, 2) := by decide +kernel
theorem dX11_cell_47 : decode cX11_cell 47 = .ok (.iload_n 1, 1) := by decide +kernel
theorem dX11_cell_48 : decode cX11_cell 48 = .ok (.imul, 1) := by decide +kernel
theorem dX11_cell_49 : decode cX11_cell 49 = .ok (.iload_n 2, 1) := by decide +kernel
theorem dX11_cell_50 : decode cX11_cell 50 = .ok (.iadd, 1) := by decide +kernel
theorem dX11_cell_51 : decode cX11_cell 51 = .ok (.aload_n 0, 1) := by decide +kernel
theorem dX11_cell_52 : decode cX11_cell 52 = .ok (.getfield 112, 3) := by decide +kernel
theorem dX11_cell_55 : decode cX11_cell 55 = .ok (.iload_n 1, 1) := by decide +kernel
theorem dX11_cell_56 : decode cX11_cell 56 = .ok (.iaload, 1) := by decide +kernel
theorem dX11_cell_57 : decode cX11_cell 57 = .ok (.ifCond .ne 8, 3) := by decide +kernel
theorem dX11_cell_60 : decode cX11_cell 60 = .ok (.iload_n 3, 1) := by decide +kernel
theorem dX11_cell_61 : decode cX11_cell 61 = .ok (.i2b, 1) := by decide +kernel
theorem dX11_cell_62 : decode cX11_cell 62 = .ok (.goto 19, 3) := by decide +kernel
theorem dX11_cell_65 : decode cX11_cell 65 = .ok (.aload_n 0, 1) := by decide +kernel
theorem dX11_cell_66 : decode cX11_cell 66 = .ok (.getfield 112, 3) := by decide +kernel
theorem dX11_cell_69 : decode cX11_cell 69 = .ok (.iload_n 1, 1) := by decide +kernel
theorem dX11_cell_70 : decode cX11_cell 70 = .ok (.iaload, 1) := by decide +kernel
theorem dX11_cell_71 : decode cX11_cell 71 = .ok (.iconst 1, 1) := by decide +kernel
theorem dX11_cell_72 : decode cX11_cell 72 = .ok (.if_icmp .ne 8, 3) := by decide +kernel
theorem dX11_cell_75 : decode cX11_cell 75 = .ok (.iload_n 3, 1) := by decide +kernel
theorem dX11_cell_76 : decode cX11_cell 76 = .ok (.i2s, 1) := by decide +kernel
theorem dX11_cell_77 : decode cX11_cell 77 = .ok (.goto 4, 3) := by decide +kernel
theorem dX11_cell_80 : decode cX11_cell 80 = .ok (.iload_n 3, 1) := by decide +kernel
theorem dX11_cell_81 : decode cX11_cell 81 = .ok (.iastore, 1) := by decide +kernel
theorem dX11_cell_82 : decode cX11_cell 82 = .ok (.iconst 1, 1) := by decide +kernel
theorem dX11_cell_83 : decode cX11_cell 83 = .ok (.ireturn, 1) := by decide +kernel
theorem dX11_copy_0 : decode cX11_copy 0 = .ok (.iload_n 1, 1) := by decide +kernel
theorem dX11_copy_1 : decode cX11_copy 1 = .ok (.invokestatic 284, 3) := by decide +kernel
theorem dX11_copy_4 : decode cX11_copy 4 = .ok (.ifCond .eq 10, 3) := by decide +kernel
theorem dX11_copy_7 : decode cX11_copy 7 = .ok (.iload_n 3, 1) := by decide +kernel
theorem dX11_copy_8 : decode cX11_copy 8 = .ok (.invokestatic 284, 3) := by decide +kernel
theorem dX11_copy_11 : decode cX11_copy 11 = .ok (.ifCond .ne 6, 3) := by decide +kernel
theorem dX11_copy_14 : decode cX11_copy 14 = .ok (.bipush (-2), 2) := by decide +kernel
theorem dX11_copy_16 : decode cX11_copy 16 = .ok (.ireturn, 1) := by decide +kernel
theorem dX11_copy_17 : decode cX11_copy 17 = .ok (.aload_n 0, 1) := by decide +kernel
theorem dX11_copy_18 : decode cX11_copy 18 = .ok (.getfield 112, 3) := by decide +kernel
theorem dX11_copy_21 : decode cX11_copy 21 = .ok (.iload_n 1, 1) := by decide +kernel
theorem dX11_copy_22 : decode cX11_copy 22 = .ok (.iaload, 1) := by decide +kernel
theorem dX11_copy_23 : decode cX11_copy 23 = .ok (.ifCond .lt 12, 3) := by decide +kernel
theorem dX11_copy_26 : decode cX11_copy 26 = .ok (.aload_n 0, 1) := by decide +kernel
theorem dX11_copy_27 : decode cX11_copy 27 = .ok (.getfield 112, 3) := by decide +kernel
theorem dX11_copy_30 : decode cX11_copy 30 = .ok (.iload_n 3, 1) := by decide +kernel
theorem dX11_copy_31 : decode cX11_copy 31 = .ok (.iaload, 1) := by decide +kernel
theorem dX11_copy_32 : decode cX11_copy 32 = .ok (.ifCond .ge 6, 3) := by decide +kernel
theorem dX11_copy_35 : decode cX11_copy 35 = .ok (.bipush (-11), 2) := by decide +kernel
theorem dX11_copy_37 : decode cX11_copy 37 = .ok (.ireturn, 1) := by decide +kernel
theorem dX11_copy_38 : decode cX11_copy 38 = .ok (.aload_n 0, 1) := by decide +kernel
theorem dX11_copy_39 : decode cX11_copy 39 = .ok (.getfield 112, 3) := by decide +kernel
theorem dX11_copy_42 : decode cX11_copy 42 = .ok (.iload_n 1, 1) := by decide +kernel
theorem dX11_copy_43 : decode cX11_copy 43 = .ok (.iaload, 1) := by decide +kernel
theorem dX11_copy_44 : decode cX11_copy 44 = .ok (.aload_n 0, 1) := by decide +kernel
theorem dX11_copy_45 : decode cX11_copy 45 = .ok (.getfield 112, 3) := by decide +kernel
theorem dX11_copy_48 : decode cX11_copy 48 = .ok (.iload_n 3, 1) := by decide +kernel
theorem dX11_copy_49 : decode cX11_copy 49 = .ok (.iaload, 1) := by decide +kernel
theorem dX11_copy_50 : decode cX11_copy 50 = .ok (.if_icmp .eq 6, 3) := by decide +kernel
theorem dX11_copy_53 : decode cX11_copy 53 = .ok (.bipush (-13), 2) := by decide +kernel
theorem dX11_copy_55 : decode cX11_copy 55 = .ok (.ireturn, 1) := by decide +kernel
theorem dX11_copy_56 : decode cX11_copy 56 = .ok (.iload 5, 2) := by decide +kernel
theorem dX11_copy_58 : decode cX11_copy 58 = .ok (.ifCond .lt 47, 3) := by decide +kernel
theorem dX11_copy_61 : decode cX11_copy 61 = .ok (.iload_n 2, 1) := by decide +kernel
theorem dX11_copy_62 : decode cX11_copy 62 = .ok (.ifCond .lt 43, 3) := by decide +kernel
theorem dX11_copy_65 : decode cX11_copy 65 = .ok (.iload 4, 2) := by decide +kernel
theorem dX11_copy_67 : decode cX11_copy 67 = .ok (.ifCond .lt 38, 3) := by decide +kernel
theorem dX11_copy_70 : decode cX11_copy 70 = .ok (.iload_n 2, 1) := by decide +kernel
theorem dX11_copy_71 : decode cX11_copy 71 = .ok (.i2l, 1) := by decide +kernel
theorem dX11_copy_72 : decode cX11_copy 72 = .ok (.iload 5, 2) := by decide +kernel
theorem dX11_copy_74 : decode cX11_copy 74 = .ok (.i2l, 1) := by decide +kernel
theorem dX11_copy_75 : decode cX11_copy 75 = .ok (.ladd, 1) := by decide +kernel
theorem dX11_copy_76 : decode cX11_copy 76 = .ok (.aload_n 0, 1) := by decide +kernel
theorem dX11_copy_77 : decode cX11_copy 77 = .ok (.getfield 115, 3) := by decide +kernel
theorem dX11_copy_80 : decode cX11_copy 80 = .ok (.iload_n 1, 1) := by decide +kernel
theorem dX11_copy_81 : decode cX11_copy 81 = .ok (.iaload, 1) := by decide +kernel
theorem dX11_copy_82 : decode cX11_copy 82 = .ok (.i2l, 1) := by decide +kernel
theorem dX11_copy_83 : decode cX11_copy 83 = .ok (.lcmp, 1) := by decide +kernel
theorem dX11_copy_84 : decode cX11_copy 84 = .ok (.ifCond .gt 21, 3) := by decide +kernel
theorem dX11_copy_87 : decode cX11_copy 87 = .ok (.iload 4, 2) := by decide +kernel
theorem dX11_copy_89 : decode cX11_copy 89 = .ok (.i2l, 1) := by decide +kernel
theorem dX11_copy_90 : decode cX11_copy 90 = .ok (.iload 5, 2) := by decide +kernel
theorem dX11_copy_92 : decode cX11_copy 92 = .ok (.i2l, 1) := by decide +kernel
theorem dX11_copy_93 : decode cX11_copy 93 = .ok (.ladd, 1) := by decide +kernel
theorem dX11_copy_94 : decode cX11_copy 94 = .ok (.aload_n 0, 1) := by decide +kernel
theorem dX11_copy_95 : decode cX11_copy 95 = .ok (.getfield 115, 3) := by decide +kernel
theorem dX11_copy_98 : decode cX11_copy 98 = .ok (.iload_n 3, 1) := by decide +kernel
theorem dX11_copy_99 : decode cX11_copy 99 = .ok (.iaload, 1) := by decide +kernel
theorem dX11_copy_100 : decode cX11_copy 100 = .ok (.i2l, 1) := by decide +kernel
theorem dX11_copy_101 : decode cX11_copy 101 = .ok (.lcmp, 1) := by decide +kernel
theorem dX11_copy_102 : decode cX11_copy 102 = .ok (.ifCond .le 6, 3) := by decide +kernel
theorem dX11_copy_105 : decode cX11_copy 105 = .ok (.bipush (-12), 2) := by decide +kernel
theorem dX11_copy_107 : decode cX11_copy 107 = .ok (.ireturn, 1) := by decide +kernel
theorem dX11_copy_108 : decode cX11_copy 108 = .ok (.iconst 0, 1) := by decide +kernel
theorem dX11_copy_109 : decode cX11_copy 109 = .ok (.istore 6, 2) := by decide +kernel
theorem dX11_copy_111 : decode cX11_copy 111 = .ok (.iload 6, 2) := by decide +kernel
theorem dX11_copy_113 : decode cX11_copy 113 = .ok (.iload 5, 2) := by decide +kernel
theorem dX11_copy_115 : decode cX11_copy 115 = .ok (.if_icmp .ge 30, 3) := by decide +kernel
theorem dX11_copy_118 : decode cX11_copy 118 = .ok (.aload_n 0, 1) := by decide +kernel
theorem dX11_copy_119 : decode cX11_copy 119 = .ok (.getfield 121, 3) := by decide +kernel
theorem dX11_copy_122 : decode cX11_copy 122 = .ok (.iload 6, 2) := by decide +kernel
theorem dX11_copy_124 : decode cX11_copy 124 = .ok (.aload_n 0, 1) := by decide +kernel
theorem dX11_copy_125 : decode cX11_copy 125 = .ok (.getfield 118, 3) := by decide +kernel
theorem dX11_copy_128 : decode cX11_copy 128 = .ok (.bipush 40, 2) := by decide +kernel
theorem dX11_copy_130 : decode cX11_copy 130 = .ok (.iload_n 1, 1) := by decide +kernel
theorem dX11_copy_131 : decode cX11_copy 131 = .ok (.imul, 1) := by decide +kernel
theorem dX11_copy_132 : decode cX11_copy 132 = .ok (.iload_n 2, 1) := by decide +kernel
theorem dX11_copy_133 : decode cX11_copy 133 = .ok (.iadd, 1) := by decide +kernel
theorem dX11_copy_134 : decode cX11_copy 134 = .ok (.iload 6, 2) := by decide +kernel
theorem dX11_copy_136 : decode cX11_copy 136 = .ok (.iadd, 1) := by decide +kernel
theorem dX11_copy_137 : decode cX11_copy 137 = .ok (.iaload, 1) := by decide +kernel
theorem dX11_copy_138 : decode cX11_copy 138 = .ok (.iastore, 1) := by decide +kernel
theorem dX11_copy_139 : decode cX11_copy 139 = .ok (.iinc 6 1, 3) := by decide +kernel
theorem dX11_copy_142 : decode cX11_copy 142 = .ok (.goto (-31), 3) := by decide +kernel
theorem dX11_copy_145 : decode cX11_copy 145 = .ok (.iconst 0, 1) := by decide +kernel
theorem dX11_copy_146 : decode cX11_copy 146 = .ok (.istore 6, 2) := by decide +kernel
theorem dX11_copy_148 : decode cX11_copy 148 = .ok (.iload 6, 2) := by decide +kernel
theorem dX11_copy_150 : decode cX11_copy 150 = .ok (.iload 5, 2) := by decide +kernel
theorem dX11_copy_152 : decode cX11_copy 152 = .ok (.if_icmp .ge 31, 3) := by decide +kernel
theorem dX11_copy_155 : decode cX11_copy 155 = .ok (.aload_n 0, 1) := by decide +kernel
theorem dX11_copy_156 : decode cX11_copy 156 = .ok (.getfield 118, 3) := by decide +kernel
theorem dX11_copy_159 : decode cX11_copy 159 = .ok (.bipush 40, 2) := by decide +kernel
theorem dX11_copy_161 : decode cX11_copy 161 = .ok (.iload_n 3, 1) := by decide +kernel
theorem dX11_copy_162 : decode cX11_copy 162 = .ok (.imul, 1) := by decide +kernel
theorem dX11_copy_163 : decode cX11_copy 163 = .ok (.iload 4, 2) := by decide +kernel
theorem dX11_copy_165 : decode cX11_copy 165 = .ok (.iadd, 1) := by decide +kernel
theorem dX11_copy_166 : decode cX11_copy 166 = .ok (.iload 6, 2) := by decide +kernel
theorem dX11_copy_168 : decode cX11_copy 168 = .ok (.iadd, 1) := by decide +kernel
theorem dX11_copy_169 : decode cX11_copy 169 = .ok (.aload_n 0, 1) := by decide +kernel
theorem dX11_copy_170 : decode cX11_copy 170 = .ok (.getfield 121, 3) := by decide +kernel
theorem dX11_copy_173 : decode cX11_copy 173 = .ok (.iload 6, 2) := by decide +kernel
theorem dX11_copy_175 : decode cX11_copy 175 = .ok (.iaload, 1) := by decide +kernel
theorem dX11_copy_176 : decode cX11_copy 176 = .ok (.iastore, 1) := by decide +kernel
theorem dX11_copy_177 : decode cX11_copy 177 = .ok (.iinc 6 1, 3) := by decide +kernel
theorem dX11_copy_180 : decode cX11_copy 180 = .ok (.goto (-32), 3) := by decide +kernel
theorem dX11_copy_183 : decode cX11_copy 183 = .ok (.iload 5, 2) := by decide +kernel
theorem dX11_copy_185 : decode cX11_copy 185 = .ok (.ireturn, 1) := by decide +kernel
theorem dX11_sayingsBy_0 : decode cX11_sayingsBy 0 = .ok (.iload_n 1, 1) := by decide +kernel
theorem dX11_sayingsBy_1 : decode cX11_sayingsBy 1 = .ok (.invokestatic 284, 3) := by decide +kernel
theorem dX11_sayingsBy_4 : decode cX11_sayingsBy 4 = .ok (.ifCond .eq 23, 3) := by decide +kernel
theorem dX11_sayingsBy_7 : decode cX11_sayingsBy 7 = .ok (.iload_n 2, 1) := by decide +kernel
theorem dX11_sayingsBy_8 : decode cX11_sayingsBy 8 = .ok (.iconst 0, 1) := by decide +kernel
theorem dX11_sayingsBy_9 : decode cX11_sayingsBy 9 = .ok (.iconst 2, 1) := by decide +kernel
theorem dX11_sayingsBy_10 : decode cX11_sayingsBy 10 = .ok (.invokestatic 127, 3) := by decide +kernel
theorem dX11_sayingsBy_13 : decode cX11_sayingsBy 13 = .ok (.ifCond .eq 14, 3) := by decide +kernel
theorem dX11_sayingsBy_16 : decode cX11_sayingsBy 16 = .ok (.iload 4, 2) := by decide +kernel
theorem dX11_sayingsBy_18 : decode cX11_sayingsBy 18 = .ok (.iconst 0, 1) := by decide +kernel
theorem dX11_sayingsBy_19 : decode cX11_sayingsBy 19 = .ok (.bipush 8, 2) := by decide +kernel
theorem dX11_sayingsBy_21 : decode cX11_sayingsBy 21 = .ok (.invokestatic 127, 3) := by decide +kernel
theorem dX11_sayingsBy_24 : decode cX11_sayingsBy 24 = .ok (.ifCond .ne 6, 3) := by decide +kernel
theorem dX11_sayingsBy_27 : decode cX11_sayingsBy 27 = .ok (.bipush (-2), 2) := by decide +kernel
theorem dX11_sayingsBy_29 : decode cX11_sayingsBy 29 = .ok (.ireturn, 1) := by decide +kernel
theorem dX11_sayingsBy_30 : decode cX11_sayingsBy 30 = .ok (.aload_n 0, 1) := by decide +kernel
theorem dX11_sayingsBy_31 : decode cX11_sayingsBy 31 = .ok (.getfield 112, 3) := by decide +kernel
theorem dX11_sayingsBy_34 : decode cX11_sayingsBy 34 = .ok (.iload_n 1, 1) := by decide +kernel
theorem dX11_sayingsBy_35 : decode cX11_sayingsBy 35 = .ok (.iaload, 1) := by decide +kernel
theorem dX11_sayingsBy_36 : decode cX11_sayingsBy 36 = .ok (.ifCond .ge 6, 3) := by decide +kernel
theorem dX11_sayingsBy_39 : decode cX11_sayingsBy 39 = .ok (.bipush (-11), 2) := by decide +kernel
theorem dX11_sayingsBy_41 : decode cX11_sayingsBy 41 = .ok (.ireturn, 1) := by decide +kernel
theorem dX11_sayingsBy_42 : decode cX11_sayingsBy 42 = .ok (.aload_n 0, 1) := by decide +kernel
theorem dX11_sayingsBy_43 : decode cX11_sayingsBy 43 = .ok (.getfield 112, 3) := by decide +kernel
theorem dX11_sayingsBy_46 : decode cX11_sayingsBy 46 = .ok (.iload_n 1, 1) := by decide +kernel
theorem dX11_sayingsBy_47 : decode cX11_sayingsBy 47 = .ok (.iaload, 1) := by decide +kernel
theorem dX11_sayingsBy_48 : decode cX11_sayingsBy 48 = .ok (.iload_n 2, 1) := by decide +kernel
theorem dX11_sayingsBy_49 : decode cX11_sayingsBy 49 = .ok (.if_icmp .eq 6, 3) := by decide +kernel
theorem dX11_sayingsBy_52 : decode cX11_sayingsBy 52 = .ok (.bipush (-13), 2) := by decide +kernel
theorem dX11_sayingsBy_54 : decode cX11_sayingsBy 54 = .ok (.ireturn, 1) := by decide +kernel
theorem dX11_sayingsBy_55 : decode cX11_sayingsBy 55 = .ok (.iconst 0, 1) := by decide +kernel
theorem dX11_sayingsBy_56 : decode cX11_sayingsBy 56 = .ok (.istore 5, 2) := by decide +kernel
theorem dX11_sayingsBy_58 : decode cX11_sayingsBy 58 = .ok (.iconst 0, 1) := by decide +kernel
theorem dX11_sayingsBy_59 : decode cX11_sayingsBy 59 = .ok (.istore 6, 2) := by decide +kernel
theorem dX11_sayingsBy_61 : decode cX11_sayingsBy 61 = .ok (.iload 6, 2) := by decide +kernel
theorem dX11_sayingsBy_63 : decode cX11_sayingsBy 63 = .ok (.iload 4, 2) := by decide +kernel
theorem dX11_sayingsBy_65 : decode cX11_sayingsBy 65 = .ok (.if_icmp .ge 91, 3) := by decide +kernel
theorem dX11_sayingsBy_68 : decode cX11_sayingsBy 68 = .ok (.iload_n 3, 1) := by decide +kernel
theorem dX11_sayingsBy_69 : decode cX11_sayingsBy 69 = .ok (.i2l, 1) := by decide +kernel
theorem dX11_sayingsBy_70 : decode cX11_sayingsBy 70 = .ok (.iconst 3, 1) := by decide +kernel
theorem dX11_sayingsBy_71 : decode cX11_sayingsBy 71 = .ok (.iload 6, 2) := by decide +kernel
theorem dX11_sayingsBy_73 : decode cX11_sayingsBy 73 = .ok (.imul, 1) := by decide +kernel
theorem dX11_sayingsBy_74 : decode cX11_sayingsBy 74 = .ok (.i2l, 1) := by decide +kernel
theorem dX11_sayingsBy_75 : decode cX11_sayingsBy 75 = .ok (.ladd, 1) := by decide +kernel
theorem dX11_sayingsBy_76 : decode cX11_sayingsBy 76 = .ok (.lstore 7, 2) := by decide +kernel
theorem dX11_sayingsBy_78 : decode cX11_sayingsBy 78 = .ok (.lload 7, 2) := by decide +kernel
theorem dX11_sayingsBy_80 : decode cX11_sayingsBy 80 = .ok (.lconst 0, 1) := by decide +kernel
theorem dX11_sayingsBy_81 : decode cX11_sayingsBy 81 = .ok (.lcmp, 1) := by decide +kernel
theorem dX11_sayingsBy_82 : decode cX11_sayingsBy 82 = .ok (.ifCond .lt 20, 3) := by decide +kernel
theorem dX11_sayingsBy_85 : decode cX11_sayingsBy 85 = .ok (.lload 7, 2) := by decide +kernel
theorem dX11_sayingsBy_87 : decode cX11_sayingsBy 87 = .ok (.ldc2_w 389, 3) := by decide +kernel
theorem dX11_sayingsBy_90 : decode cX11_sayingsBy 90 = .ok (.ladd, 1) := by decide +kernel
theorem dX11_sayingsBy_91 : decode cX11_sayingsBy 91 = .ok (.aload_n 0, 1) := by decide +kernel
theorem dX11_sayingsBy_92 : decode cX11_sayingsBy 92 = .ok (.getfield 115, 3) := by decide +kernel
theorem dX11_sayingsBy_95 : decode cX11_sayingsBy 95 = .ok (.iload_n 1, 1) := by decide +kernel
theorem dX11_sayingsBy_96 : decode cX11_sayingsBy 96 = .ok (.iaload, 1) := by decide +kernel
theorem dX11_sayingsBy_97 : decode cX11_sayingsBy 97 = .ok (.i2l, 1) := by decide +kernel
theorem dX11_sayingsBy_98 : decode cX11_sayingsBy 98 = .ok (.lcmp, 1) := by decide +kernel
theorem dX11_sayingsBy_99 : decode cX11_sayingsBy 99 = .ok (.ifCond .lt 6, 3) := by decide +kernel
theorem dX11_sayingsBy_102 : decode cX11_sayingsBy 102 = .ok (.bipush (-12), 2) := by decide +kernel
theorem dX11_sayingsBy_104 : decode cX11_sayingsBy 104 = .ok (.ireturn, 1) := by decide +kernel
theorem dX11_sayingsBy_105 : decode cX11_sayingsBy 105 = .ok (.bipush 40, 2) := by decide +kernel
theorem dX11_sayingsBy_107 : decode cX11_sayingsBy 107 = .ok (.iload_n 1, 1) := by decide +kernel
theorem dX11_sayingsBy_108 : decode cX11_sayingsBy 108 = .ok (.imul, 1) := by decide +kernel
theorem dX11_sayingsBy_109 : decode cX11_sayingsBy 109 = .ok (.lload 7, 2) := by decide +kernel
theorem dX11_sayingsBy_111 : decode cX11_sayingsBy 111 = .ok (.l2i, 1) := by decide +kernel
theorem dX11_sayingsBy_112 : decode cX11_sayingsBy 112 = .ok (.iadd, 1) := by decide +kernel
theorem dX11_sayingsBy_113 : decode cX11_sayingsBy 113 = .ok (.istore 9, 2) := by decide +kernel
theorem dX11_sayingsBy_115 : decode cX11_sayingsBy 115 = .ok (.aload_n 0, 1) := by decide +kernel
theorem dX11_sayingsBy_116 : decode cX11_sayingsBy 116 = .ok (.aload_n 0, 1) := by decide +kernel
theorem dX11_sayingsBy_117 : decode cX11_sayingsBy 117 = .ok (.getfield 118, 3) := by decide +kernel
theorem dX11_sayingsBy_120 : decode cX11_sayingsBy 120 = .ok (.iload 9, 2) := by decide +kernel
theorem dX11_sayingsBy_122 : decode cX11_sayingsBy 122 = .ok (.iaload, 1) := by decide +kernel
theorem dX11_sayingsBy_123 : decode cX11_sayingsBy 123 = .ok (.aload_n 0, 1) := by decide +kernel
theorem dX11_sayingsBy_124 : decode cX11_sayingsBy 124 = .ok (.getfield 118, 3) := by decide +kernel
theorem dX11_sayingsBy_127 : decode cX11_sayingsBy 127 = .ok (.iload 9, 2) := by decide +kernel
theorem dX11_sayingsBy_129 : decode cX11_sayingsBy 129 = .ok (.iconst 1, 1) := by decide +kernel
theorem dX11_sayingsBy_130 : decode cX11_sayingsBy 130 = .ok (.iadd, 1) := by decide +kernel
theorem dX11_sayingsBy_131 : decode cX11_sayingsBy 131 = .ok (.iaload, 1) := by decide +kernel
theorem dX11_sayingsBy_132 : decode cX11_sayingsBy 132 = .ok (.aload_n 0, 1) := by decide +kernel
theorem dX11_sayingsBy_133 : decode cX11_sayingsBy 133 = .ok (.getfield 118, 3) := by decide +kernel
theorem dX11_sayingsBy_136 : decode cX11_sayingsBy 136 = .ok (.iload 9, 2) := by decide +kernel
theorem dX11_sayingsBy_138 : decode cX11_sayingsBy 138 = .ok (.iconst 2, 1) := by decide +kernel
theorem dX11_sayingsBy_139 : decode cX11_sayingsBy 139 = .ok (.iadd, 1) := by decide +kernel
theorem dX11_sayingsBy_140 : decode cX11_sayingsBy 140 = .ok (.iaload, 1) := by decide +kernel
theorem dX11_sayingsBy_141 : decode cX11_sayingsBy 141 = .ok (.invokevirtual 391, 3) := by decide +kernel
theorem dX11_sayingsBy_144 : decode cX11_sayingsBy 144 = .ok (.ifCond .lt 6, 3) := by decide +kernel
theorem dX11_sayingsBy_147 : decode cX11_sayingsBy 147 = .ok (.iinc 5 1, 3) := by decide +kernel
theorem dX11_sayingsBy_150 : decode cX11_sayingsBy 150 = .ok (.iinc 6 1, 3) := by decide +kernel
theorem dX11_sayingsBy_153 : decode cX11_sayingsBy 153 = .ok (.goto (-92), 3) := by decide +kernel
theorem dX11_sayingsBy_156 : decode cX11_sayingsBy 156 = .ok (.iload 5, 2) := by decide +kernel
theorem dX11_sayingsBy_158 : decode cX11_sayingsBy 158 = .ok (.ireturn, 1) := by decide +kernel
theorem dX11_isUnder_0 : decode cX11_isUnder 0 = .ok (.iload_n 1, 1) := by decide +kernel
theorem dX11_isUnder_1 : decode cX11_isUnder 1 = .ok (.ifCond .eq 28, 3) := by decide +kernel
theorem dX11_isUnder_4 : decode cX11_isUnder 4 = .ok (.iload_n 0, 1) := by decide +kernel
theorem dX11_isUnder_5 : decode cX11_isUnder 5 = .ok (.iload_n 1, 1) := by decide +kernel
theorem dX11_isUnder_6 : decode cX11_isUnder 6 = .ok (.if_icmp .eq 23, 3) := by decide +kernel
theorem dX11_isUnder_9 : decode cX11_isUnder 9 = .ok (.iload_n 1, 1) := by decide +kernel
theorem dX11_isUnder_10 : decode cX11_isUnder 10 = .ok (.iconst 1, 1) := by decide +kernel
theorem dX11_isUnder_11 : decode cX11_isUnder 11 = .ok (.if_icmp .ne 8, 3) := by decide +kernel
theorem dX11_isUnder_14 : decode cX11_isUnder 14 = .ok (.iload_n 0, 1) := by decide +kernel
theorem dX11_isUnder_15 : decode cX11_isUnder 15 = .ok (.iconst 3, 1) := by decide +kernel
theorem dX11_isUnder_16 : decode cX11_isUnder 16 = .ok (.if_icmp .eq 13, 3) := by decide +kernel
theorem dX11_isUnder_19 : decode cX11_isUnder 19 = .ok (.iload_n 1, 1) := by decide +kernel
theorem dX11_isUnder_20 : decode cX11_isUnder 20 = .ok (.iconst 4, 1) := by decide +kernel
theorem dX11_isUnder_21 : decode cX11_isUnder 21 = .ok (.if_icmp .ne 12, 3) := by decide +kernel
theorem dX11_isUnder_24 : decode cX11_isUnder 24 = .ok (.iload_n 0, 1) := by decide +kernel
theorem dX11_isUnder_25 : decode cX11_isUnder 25 = .ok (.iconst 5, 1) := by decide +kernel
theorem dX11_isUnder_26 : decode cX11_isUnder 26 = .ok (.if_icmp .ne 7, 3) := by decide +kernel
theorem dX11_isUnder_29 : decode cX11_isUnder 29 = .ok (.iconst 1, 1) := by decide +kernel
theorem dX11_isUnder_30 : decode cX11_isUnder 30 = .ok (.goto 4, 3) := by decide +kernel
theorem dX11_isUnder_33 : decode cX11_isUnder 33 = .ok (.iconst 0, 1) := by decide +kernel
theorem dX11_isUnder_34 : decode cX11_isUnder 34 = .ok (.ireturn, 1) := by decide +kernel
theorem dX11_taken_0 : decode cX11_taken 0 = .ok (.iload_n 2, 1) := by decide +kernel
theorem dX11_taken_1 : decode cX11_taken 1 = .ok (.iconst 0, 1) := by decide +kernel
theorem dX11_taken_2 : decode cX11_taken 2 = .ok (.bipush 6, 2) := by decide +kernel
theorem dX11_taken_4 : decode cX11_taken 4 = .ok (.invokestatic 127, 3) := by decide +kernel
theorem dX11_taken_7 : decode cX11_taken 7 = .ok (.ifCond .ne 6, 3) := by decide +kernel
theorem dX11_taken_10 : decode cX11_taken 10 = .ok (.bipush (-2), 2) := by decide +kernel
theorem dX11_taken_12 : decode cX11_taken 12 = .ok (.ireturn, 1) := by decide +kernel
theorem dX11_taken_13 : decode cX11_taken 13 = .ok (.iload_n 1, 1) := by decide +kernel
theorem dX11_taken_14 : decode cX11_taken 14 = .ok (.iconst 0, 1) := by decide +kernel
theorem dX11_taken_15 : decode cX11_taken 15 = .ok (.bipush 13, 2) := by decide +kernel
theorem dX11_taken_17 : decode cX11_taken 17 = .ok (.invokestatic 127, 3) := by decide +kernel
theorem dX11_taken_20 : decode cX11_taken 20 = .ok (.ifCond .ne 6, 3) := by decide +kernel
theorem dX11_taken_23 : decode cX11_taken 23 = .ok (.bipush (-12), 2) := by decide +kernel
theorem dX11_taken_25 : decode cX11_taken 25 = .ok (.ireturn, 1) := by decide +kernel
theorem dX11_taken_26 : decode cX11_taken 26 = .ok (.iload_n 1, 1) := by decide +kernel
theorem dX11_taken_27 : decode cX11_taken 27 = .ok (.bipush 6, 2) := by decide +kernel
theorem dX11_taken_29 : decode cX11_taken 29 = .ok (.if_icmp .ge 32, 3) := by decide +kernel
theorem dX11_taken_32 : decode cX11_taken 32 = .ok (.aload_n 0, 1) := by decide +kernel
theorem dX11_taken_33 : decode cX11_taken 33 = .ok (.iload_n 1, 1) := by decide +kernel
theorem dX11_taken_34 : decode cX11_taken 34 = .ok (.invokevirtual 308, 3) := by decide +kernel
theorem dX11_taken_37 : decode cX11_taken 37 = .ok (.ifCond .ne 6, 3) := by decide +kernel
theorem dX11_taken_40 : decode cX11_taken 40 = .ok (.bipush (-11), 2) := by decide +kernel
theorem dX11_taken_42 : decode cX11_taken 42 = .ok (.ireturn, 1) := by decide +kernel
theorem dX11_taken_43 : decode cX11_taken 43 = .ok (.iload_n 2, 1) := by decide +kernel
theorem dX11_taken_44 : decode cX11_taken 44 = .ok (.bipush 6, 2) := by decide +kernel
theorem dX11_taken_46 : decode cX11_taken 46 = .ok (.if_icmp .ne 12, 3) := by decide +kernel
theorem dX11_taken_49 : decode cX11_taken 49 = .ok (.aload_n 0, 1) := by decide +kernel
theorem dX11_taken_50 : decode cX11_taken 50 = .ok (.getfield 70, 3) := by decide +kernel
theorem dX11_taken_53 : decode cX11_taken 53 = .ok (.iload_n 1, 1) := by decide +kernel
theorem dX11_taken_54 : decode cX11_taken 54 = .ok (.iaload, 1) := by decide +kernel
theorem dX11_taken_55 : decode cX11_taken 55 = .ok (.goto 5, 3) := by decide +kernel
theorem dX11_taken_58 : decode cX11_taken 58 = .ok (.bipush (-13), 2) := by decide +kernel
theorem dX11_taken_60 : decode cX11_taken 60 = .ok (.ireturn, 1) := by decide +kernel
theorem dX11_taken_61 : decode cX11_taken 61 = .ok (.aload_n 0, 1) := by decide +kernel
theorem dX11_taken_62 : decode cX11_taken 62 = .ok (.iload_n 1, 1) := by decide +kernel
theorem dX11_taken_63 : decode cX11_taken 63 = .ok (.bipush 6, 2) := by decide +kernel
theorem dX11_taken_65 : decode cX11_taken 65 = .ok (.isub, 1) := by decide +kernel
theorem dX11_taken_66 : decode cX11_taken 66 = .ok (.invokevirtual 253, 3) := by decide +kernel
theorem dX11_taken_69 : decode cX11_taken 69 = .ok (.ifCond .ne 6, 3) := by decide +kernel
theorem dX11_taken_72 : decode cX11_taken 72 = .ok (.bipush (-11), 2) := by decide +kernel
theorem dX11_taken_74 : decode cX11_taken 74 = .ok (.ireturn, 1) := by decide +kernel
theorem dX11_taken_75 : decode cX11_taken 75 = .ok (.iload_n 2, 1) := by decide +kernel
theorem dX11_taken_76 : decode cX11_taken 76 = .ok (.bipush 6, 2) := by decide +kernel
theorem dX11_taken_78 : decode cX11_taken 78 = .ok (.if_icmp .ge 26, 3) := by decide +kernel
theorem dX11_taken_81 : decode cX11_taken 81 = .ok (.aload_n 0, 1) := by decide +kernel
theorem dX11_taken_82 : decode cX11_taken 82 = .ok (.getfield 45, 3) := by decide +kernel
theorem dX11_taken_85 : decode cX11_taken 85 = .ok (.iload_n 1, 1) := by decide +kernel
theorem dX11_taken_86 : decode cX11_taken 86 = .ok (.bipush 6, 2) := by decide +kernel
theorem dX11_taken_88 : decode cX11_taken 88 = .ok (.isub, 1) := by decide +kernel
theorem dX11_taken_89 : decode cX11_taken 89 = .ok (.iaload, 1) := by decide +kernel
theorem dX11_taken_90 : decode cX11_taken 90 = .ok (.iload_n 2, 1) := by decide +kernel
theorem dX11_taken_91 : decode cX11_taken 91 = .ok (.invokestatic 394, 3) := by decide +kernel
theorem dX11_taken_94 : decode cX11_taken 94 = .ok (.ifCond .eq 10, 3) := by decide +kernel
theorem dX11_taken_97 : decode cX11_taken 97 = .ok (.iload_n 1, 1) := by decide +kernel
theorem dX11_taken_98 : decode cX11_taken 98 = .ok (.bipush 6, 2) := by decide +kernel
theorem dX11_taken_100 : decode cX11_taken 100 = .ok (.isub, 1) := by decide +kernel
theorem dX11_taken_101 : decode cX11_taken 101 = .ok (.goto 5, 3) := by decide +kernel
theorem dX11_taken_104 : decode cX11_taken 104 = .ok (.bipush (-13), 2) := by decide +kernel
theorem dX11_taken_106 : decode cX11_taken 106 = .ok (.ireturn, 1) := by decide +kernel
theorem dJ0_length_8abf5_0 : decode cJ0_length_8abf5 0 = .ok (.aload_n 0, 1) := by decide +kernel
theorem dJ0_length_8abf5_1 : decode cJ0_length_8abf5 1 = .ok (.getfield 9, 3) := by decide +kernel
theorem dJ0_length_8abf5_4 : decode cJ0_length_8abf5 4 = .ok (.arraylength, 1) := by decide +kernel
theorem dJ0_length_8abf5_5 : decode cJ0_length_8abf5 5 = .ok (.aload_n 0, 1) := by decide +kernel
theorem dJ0_length_8abf5_6 : decode cJ0_length_8abf5 6 = .ok (.invokevirtual 335, 3) := by decide +kernel
theorem dJ0_length_8abf5_9 : decode cJ0_length_8abf5 9 = .ok (.ishr, 1) := by decide +kernel
theorem dJ0_length_8abf5_10 : decode cJ0_length_8abf5 10 = .ok (.ireturn, 1) := by decide +kernel
theorem dJ0_charAt_5068e_0 : decode cJ0_charAt_5068e 0 = .ok (.aload_n 0, 1) := by decide +kernel
theorem dJ0_charAt_5068e_1 : decode cJ0_charAt_5068e 1 = .ok (.invokevirtual 492, 3) := by decide +kernel
theorem dJ0_charAt_5068e_4 : decode cJ0_charAt_5068e 4 = .ok (.ifCond .eq 12, 3) := by decide +kernel
theorem dJ0_charAt_5068e_7 : decode cJ0_charAt_5068e 7 = .ok (.aload_n 0, 1) := by decide +kernel
theorem dJ0_charAt_5068e_8 : decode cJ0_charAt_5068e 8 = .ok (.getfield 9, 3) := by decide +kernel
theorem dJ0_charAt_5068e_11 : decode cJ0_charAt_5068e 11 = .ok (.iload_n 1, 1) := by decide +kernel
theorem dJ0_charAt_5068e_12 : decode cJ0_charAt_5068e 12 = .ok (.invokestatic 495, 3) := by decide +kernel
theorem dJ0_charAt_5068e_15 : decode cJ0_charAt_5068e 15 = .ok (.ireturn, 1) := by decide +kernel
theorem dJ0_charAt_5068e_16 : decode cJ0_charAt_5068e 16 = .ok (.aload_n 0, 1) := by decide +kernel
theorem dJ0_charAt_5068e_17 : decode cJ0_charAt_5068e 17 = .ok (.getfield 9, 3) := by decide +kernel
theorem dJ0_charAt_5068e_20 : decode cJ0_charAt_5068e 20 = .ok (.iload_n 1, 1) := by decide +kernel
theorem dJ0_charAt_5068e_21 : decode cJ0_charAt_5068e 21 = .ok (.invokestatic 498, 3) := by decide +kernel
theorem dJ0_charAt_5068e_24 : decode cJ0_charAt_5068e 24 = .ok (.ireturn, 1) := by decide +kernel
theorem dJ0_indexOf_0f7a4_0 : decode cJ0_indexOf_0f7a4 0 = .ok (.aload_n 0, 1) := by decide +kernel
theorem dJ0_indexOf_0f7a4_1 : decode cJ0_indexOf_0f7a4 1 = .ok (.iload_n 1, 1) := by decide +kernel
theorem dJ0_indexOf_0f7a4_2 : decode cJ0_indexOf_0f7a4 2 = .ok (.iconst 0, 1) := by decide +kernel
theorem dJ0_indexOf_0f7a4_3 : decode cJ0_indexOf_0f7a4 3 = .ok (.invokevirtual 633, 3) := by decide +kernel
theorem dJ0_indexOf_0f7a4_6 : decode cJ0_indexOf_0f7a4 6 = .ok (.ireturn, 1) := by decide +kernel
theorem dJ0_indexOf_7cf53_0 : decode cJ0_indexOf_7cf53 0 = .ok (.aload_n 0, 1) := by decide +kernel
theorem dJ0_indexOf_7cf53_1 : decode cJ0_indexOf_7cf53 1 = .ok (.invokevirtual 492, 3) := by decide +kernel
theorem dJ0_indexOf_7cf53_4 : decode cJ0_indexOf_7cf53 4 = .ok (.ifCond .eq 19, 3) := by decide +kernel
theorem dJ0_indexOf_7cf53_7 : decode cJ0_indexOf_7cf53 7 = .ok (.aload_n 0, 1) := by decide +kernel
theorem dJ0_indexOf_7cf53_8 : decode cJ0_indexOf_7cf53 8 = .ok (.getfield 9, 3) := by decide +kernel
theorem dJ0_indexOf_7cf53_11 : decode cJ0_indexOf_7cf53 11 = .ok (.iload_n 1, 1) := by decide +kernel
theorem dJ0_indexOf_7cf53_12 : decode cJ0_indexOf_7cf53 12 = .ok (.iload_n 2, 1) := by decide +kernel
theorem dJ0_indexOf_7cf53_13 : decode cJ0_indexOf_7cf53 13 = .ok (.aload_n 0, 1) := by decide +kernel
theorem dJ0_indexOf_7cf53_14 : decode cJ0_indexOf_7cf53 14 = .ok (.invokevirtual 505, 3) := by decide +kernel
theorem dJ0_indexOf_7cf53_17 : decode cJ0_indexOf_7cf53 17 = .ok (.invokestatic 637, 3) := by decide +kernel
theorem dJ0_indexOf_7cf53_20 : decode cJ0_indexOf_7cf53 20 = .ok (.goto 16, 3) := by decide +kernel
theorem dJ0_indexOf_7cf53_23 : decode cJ0_indexOf_7cf53 23 = .ok (.aload_n 0, 1) := by decide +kernel
theorem dJ0_indexOf_7cf53_24 : decode cJ0_indexOf_7cf53 24 = .ok (.getfield 9, 3) := by decide +kernel
theorem dJ0_indexOf_7cf53_27 : decode cJ0_indexOf_7cf53 27 = .ok (.iload_n 1, 1) := by decide +kernel
theorem dJ0_indexOf_7cf53_28 : decode cJ0_indexOf_7cf53 28 = .ok (.iload_n 2, 1) := by decide +kernel
theorem dJ0_indexOf_7cf53_29 : decode cJ0_indexOf_7cf53 29 = .ok (.aload_n 0, 1) := by decide +kernel
theorem dJ0_indexOf_7cf53_30 : decode cJ0_indexOf_7cf53 30 = .ok (.invokevirtual 505, 3) := by decide +kernel
theorem dJ0_indexOf_7cf53_33 : decode cJ0_indexOf_7cf53 33 = .ok (.invokestatic 640, 3) := by decide +kernel
theorem dJ0_indexOf_7cf53_36 : decode cJ0_indexOf_7cf53 36 = .ok (.ireturn, 1) := by decide +kernel
theorem dJ0_coder_7d493_0 : decode cJ0_coder_7d493 0 = .ok (.getstatic 38, 3) := by decide +kernel
theorem dJ0_coder_7d493_3 : decode cJ0_coder_7d493 3 = .ok (.ifCond .eq 10, 3) := by decide +kernel
theorem dJ0_coder_7d493_6 : decode cJ0_coder_7d493 6 = .ok (.aload_n 0, 1) := by decide +kernel
theorem dJ0_coder_7d493_7 : decode cJ0_coder_7d493 7 = .ok (.getfield 15, 3) := by decide +kernel
theorem dJ0_coder_7d493_10 : decode cJ0_coder_7d493 10 = .ok (.goto 4, 3) := by decide +kernel
theorem dJ0_coder_7d493_13 : decode cJ0_coder_7d493 13 = .ok (.iconst 1, 1) := by decide +kernel
theorem dJ0_coder_7d493_14 : decode cJ0_coder_7d493 14 = .ok (.ireturn, 1) := by decide +kernel
theorem dJ0_isLatin1_aae02_0 : decode cJ0_isLatin1_aae02 0 = .ok (.getstatic 38, 3) := by decide +kernel
theorem dJ0_isLatin1_aae02_3 : decode cJ0_isLatin1_aae02 3 = .ok (.ifCond .eq 14, 3) := by decide +kernel
theorem dJ0_isLatin1_aae02_6 : decode cJ0_isLatin1_aae02 6 = .ok (.aload_n 0, 1) := by decide +kernel
theorem dJ0_isLatin1_aae02_7 : decode cJ0_isLatin1_aae02 7 = .ok (.getfield 15, 3) := by decide +kernel
theorem dJ0_isLatin1_aae02_10 : decode cJ0_isLatin1_aae02 10 = .ok (.ifCond .ne 7, 3) := by decide +kernel
theorem dJ0_isLatin1_aae02_13 : decode cJ0_isLatin1_aae02 13 = .ok (.iconst 1, 1) := by decide +kernel
theorem dJ0_isLatin1_aae02_14 : decode cJ0_isLatin1_aae02 14 = .ok (.goto 4, 3) := by decide +kernel
theorem dJ0_isLatin1_aae02_17 : decode cJ0_isLatin1_aae02 17 = .ok (.iconst 0, 1) := by decide +kernel
theorem dJ0_isLatin1_aae02_18 : decode cJ0_isLatin1_aae02 18 = .ok (.ireturn, 1) := by decide +kernel
theorem dJ0_checkIndex_df160_0 : decode cJ0_checkIndex_df160 0 = .ok (.iload_n 0, 1) := by decide +kernel
theorem dJ0_checkIndex_df160_1 : decode cJ0_checkIndex_df160 1 = .ok (.iload_n 1, 1) := by decide +kernel
theorem dJ0_checkIndex_df160_2 : decode cJ0_checkIndex_df160 2 = .ok (.getstatic 1053, 3) := by decide +kernel
theorem dJ0_checkIndex_df160_5 : decode cJ0_checkIndex_df160 5 = .ok (.invokestatic 1059, 3) := by decide +kernel
theorem dJ0_checkIndex_df160_8 : decode cJ0_checkIndex_df160 8 = .ok (.pop, 1) := by decide +kernel
theorem dJ0_checkIndex_df160_9 : decode cJ0_checkIndex_df160 9 = .ok (.return_, 1) := by decide +kernel
theorem dJ1_charAt_3b067_0 : decode cJ1_charAt_3b067 0 = .ok (.iload_n 1, 1) := by decide +kernel
theorem dJ1_charAt_3b067_1 : decode cJ1_charAt_3b067 1 = .ok (.aload_n 0, 1) := by decide +kernel
theorem dJ1_charAt_3b067_2 : decode cJ1_charAt_3b067 2 = .ok (.arraylength, 1) := by decide +kernel
theorem dJ1_charAt_3b067_3 : decode cJ1_charAt_3b067 3 = .ok (.invokestatic 9, 3) := by decide +kernel
theorem dJ1_charAt_3b067_6 : decode cJ1_charAt_3b067 6 = .ok (.aload_n 0, 1) := by decide +kernel
theorem dJ1_charAt_3b067_7 : decode cJ1_charAt_3b067 7 = .ok (.iload_n 1, 1) := by decide +kernel
theorem dJ1_charAt_3b067_8 : decode cJ1_charAt_3b067 8 = .ok (.baload, 1) := by decide +kernel
theorem dJ1_charAt_3b067_9 : decode cJ1_charAt_3b067 9 = .ok (.sipush 255, 3) := by decide +kernel
theorem dJ1_charAt_3b067_12 : decode cJ1_charAt_3b067 12 = .ok (.iand, 1) := by decide +kernel
theorem dJ1_charAt_3b067_13 : decode cJ1_charAt_3b067 13 = .ok (.i2c, 1) := by decide +kernel
theorem dJ1_charAt_3b067_14 : decode cJ1_charAt_3b067 14 = .ok (.ireturn, 1) := by decide +kernel
theorem dJ1_canEncode_9a6ad_0 : decode cJ1_canEncode_9a6ad 0 = .ok (.iload_n 0, 1) := by decide +kernel
theorem dJ1_canEncode_9a6ad_1 : decode cJ1_canEncode_9a6ad 1 = .ok (.ifCond .lt 14, 3) := by decide +kernel
theorem dJ1_canEncode_9a6ad_4 : decode cJ1_canEncode_9a6ad 4 = .ok (.iload_n 0, 1) := by decide +kernel
theorem dJ1_canEncode_9a6ad_5 : decode cJ1_canEncode_9a6ad 5 = .ok (.sipush 255, 3) := by decide +kernel
theorem dJ1_canEncode_9a6ad_8 : decode cJ1_canEncode_9a6ad 8 = .ok (.if_icmp .gt 7, 3) := by decide +kernel
theorem dJ1_canEncode_9a6ad_11 : decode cJ1_canEncode_9a6ad 11 = .ok (.iconst 1, 1) := by decide +kernel
theorem dJ1_canEncode_9a6ad_12 : decode cJ1_canEncode_9a6ad 12 = .ok (.goto 4, 3) := by decide +kernel
theorem dJ1_canEncode_9a6ad_15 : decode cJ1_canEncode_9a6ad 15 = .ok (.iconst 0, 1) := by decide +kernel
theorem dJ1_canEncode_9a6ad_16 : decode cJ1_canEncode_9a6ad 16 = .ok (.ireturn, 1) := by decide +kernel
theorem dJ1_indexOf_4cfef_0 : decode cJ1_indexOf_4cfef 0 = .ok (.iload_n 1, 1) := by decide +kernel
theorem dJ1_indexOf_4cfef_1 : decode cJ1_indexOf_4cfef 1 = .ok (.invokestatic 88, 3) := by decide +kernel
theorem dJ1_indexOf_4cfef_4 : decode cJ1_indexOf_4cfef 4 = .ok (.ifCond .ne 5, 3) := by decide +kernel
theorem dJ1_indexOf_4cfef_7 : decode cJ1_indexOf_4cfef 7 = .ok (.iconst (-1), 1) := by decide +kernel
theorem dJ1_indexOf_4cfef_8 : decode cJ1_indexOf_4cfef 8 = .ok (.ireturn, 1) := by decide +kernel
theorem dJ1_indexOf_4cfef_9 : decode cJ1_indexOf_4cfef 9 = .ok (.iload_n 2, 1) := by decide +kernel
theorem dJ1_indexOf_4cfef_10 : decode cJ1_indexOf_4cfef 10 = .ok (.iconst 0, 1) := by decide +kernel
theorem dJ1_indexOf_4cfef_11 : decode cJ1_indexOf_4cfef 11 = .ok (.invokestatic 92, 3) := by decide +kernel
theorem dJ1_indexOf_4cfef_14 : decode cJ1_indexOf_4cfef 14 = .ok (.istore_n 2, 1) := by decide +kernel
theorem dJ1_indexOf_4cfef_15 : decode cJ1_indexOf_4cfef 15 = .ok (.iload_n 3, 1) := by decide +kernel
theorem dJ1_indexOf_4cfef_16 : decode cJ1_indexOf_4cfef 16 = .ok (.aload_n 0, 1) := by decide +kernel
theorem dJ1_indexOf_4cfef_17 : decode cJ1_indexOf_4cfef 17 = .ok (.arraylength, 1) := by decide +kernel
theorem dJ1_indexOf_4cfef_18 : decode cJ1_indexOf_4cfef 18 = .ok (.invokestatic 38, 3) := by decide +kernel
theorem dJ1_indexOf_4cfef_21 : decode cJ1_indexOf_4cfef 21 = .ok (.istore_n 3, 1) := by decide +kernel
theorem dJ1_indexOf_4cfef_22 : decode cJ1_indexOf_4cfef 22 = .ok (.iload_n 2, 1) := by decide +kernel
theorem dJ1_indexOf_4cfef_23 : decode cJ1_indexOf_4cfef 23 = .ok (.iload_n 3, 1) := by decide +kernel
theorem dJ1_indexOf_4cfef_24 : decode cJ1_indexOf_4cfef 24 = .ok (.if_icmp .lt 5, 3) := by decide +kernel
theorem dJ1_indexOf_4cfef_27 : decode cJ1_indexOf_4cfef 27 = .ok (.iconst (-1), 1) := by decide +kernel
theorem dJ1_indexOf_4cfef_28 : decode cJ1_indexOf_4cfef 28 = .ok (.ireturn, 1) := by decide +kernel
theorem dJ1_indexOf_4cfef_29 : decode cJ1_indexOf_4cfef 29 = .ok (.aload_n 0, 1) := by decide +kernel
theorem dJ1_indexOf_4cfef_30 : decode cJ1_indexOf_4cfef 30 = .ok (.iload_n 1, 1) := by decide +kernel
theorem dJ1_indexOf_4cfef_31 : decode cJ1_indexOf_4cfef 31 = .ok (.iload_n 2, 1) := by decide +kernel
theorem dJ1_indexOf_4cfef_32 : decode cJ1_indexOf_4cfef 32 = .ok (.iload_n 3, 1) := by decide +kernel
theorem dJ1_indexOf_4cfef_33 : decode cJ1_indexOf_4cfef 33 = .ok (.invokestatic 95, 3) := by decide +kernel
theorem dJ1_indexOf_4cfef_36 : decode cJ1_indexOf_4cfef 36 = .ok (.ireturn, 1) := by decide +kernel
theorem dJ1_indexOfChar_4cfef_0 : decode cJ1_indexOfChar_4cfef 0 = .ok (.iload_n 1, 1) := by decide +kernel
theorem dJ1_indexOfChar_4cfef_1 : decode cJ1_indexOfChar_4cfef 1 = .ok (.i2b, 1) := by decide +kernel
theorem dJ1_indexOfChar_4cfef_2 : decode cJ1_indexOfChar_4cfef 2 = .ok (.istore 4, 2) := by decide +kernel
theorem dJ1_indexOfChar_4cfef_4 : decode cJ1_indexOfChar_4cfef 4 = .ok (.iload_n 2, 1) := by decide +kernel
theorem dJ1_indexOfChar_4cfef_5 : decode cJ1_indexOfChar_4cfef 5 = .ok (.istore 5, 2) := by decide +kernel
theorem dJ1_indexOfChar_4cfef_7 : decode cJ1_indexOfChar_4cfef 7 = .ok (.iload 5, 2) := by decide +kernel
theorem dJ1_indexOfChar_4cfef_9 : decode cJ1_indexOfChar_4cfef 9 = .ok (.iload_n 3, 1) := by decide +kernel
theorem dJ1_indexOfChar_4cfef_10 : decode cJ1_indexOfChar_4cfef 10 = .ok (.if_icmp .ge 21, 3) := by decide +kernel
theorem dJ1_indexOfChar_4cfef_13 : decode cJ1_indexOfChar_4cfef 13 = .ok (.aload_n 0, 1) := by decide +kernel
theorem dJ1_indexOfChar_4cfef_14 : decode cJ1_indexOfChar_4cfef 14 = .ok (.iload 5, 2) := by decide +kernel
theorem dJ1_indexOfChar_4cfef_16 : decode cJ1_indexOfChar_4cfef 16 = .ok (.baload, 1) := by decide +kernel
theorem dJ1_indexOfChar_4cfef_17 : decode cJ1_indexOfChar_4cfef 17 = .ok (.iload 4, 2) := by decide +kernel
theorem dJ1_indexOfChar_4cfef_19 : decode cJ1_indexOfChar_4cfef 19 = .ok (.if_icmp .ne 6, 3) := by decide +kernel
theorem dJ1_indexOfChar_4cfef_22 : decode cJ1_indexOfChar_4cfef 22 = .ok (.iload 5, 2) := by decide +kernel
theorem dJ1_indexOfChar_4cfef_24 : decode cJ1_indexOfChar_4cfef 24 = .ok (.ireturn, 1) := by decide +kernel
theorem dJ1_indexOfChar_4cfef_25 : decode cJ1_indexOfChar_4cfef 25 = .ok (.iinc 5 1, 3) := by decide +kernel
theorem dJ1_indexOfChar_4cfef_28 : decode cJ1_indexOfChar_4cfef 28 = .ok (.goto (-21), 3) := by decide +kernel
theorem dJ1_indexOfChar_4cfef_31 : decode cJ1_indexOfChar_4cfef 31 = .ok (.iconst (-1), 1) := by decide +kernel
theorem dJ1_indexOfChar_4cfef_32 : decode cJ1_indexOfChar_4cfef 32 = .ok (.ireturn, 1) := by decide +kernel
theorem dJ3_checkIndex_8e157_0 : decode cJ3_checkIndex_8e157 0 = .ok (.iload_n 0, 1) := by decide +kernel
theorem dJ3_checkIndex_8e157_1 : decode cJ3_checkIndex_8e157 1 = .ok (.ifCond .lt 8, 3) := by decide +kernel
theorem dJ3_checkIndex_8e157_4 : decode cJ3_checkIndex_8e157 4 = .ok (.iload_n 0, 1) := by decide +kernel
theorem dJ3_checkIndex_8e157_5 : decode cJ3_checkIndex_8e157 5 = .ok (.iload_n 1, 1) := by decide +kernel
theorem dJ3_checkIndex_8e157_6 : decode cJ3_checkIndex_8e157 6 = .ok (.if_icmp .lt 10, 3) := by decide +kernel
theorem dJ3_checkIndex_8e157_9 : decode cJ3_checkIndex_8e157 9 = .ok (.aload_n 2, 1) := by decide +kernel
theorem dJ3_checkIndex_8e157_10 : decode cJ3_checkIndex_8e157 10 = .ok (.iload_n 0, 1) := by decide +kernel
theorem dJ3_checkIndex_8e157_11 : decode cJ3_checkIndex_8e157 11 = .ok (.iload_n 1, 1) := by decide +kernel
theorem dJ3_checkIndex_8e157_12 : decode cJ3_checkIndex_8e157 12 = .ok (.invokestatic 95, 3) := by decide +kernel
theorem dJ3_checkIndex_8e157_15 : decode cJ3_checkIndex_8e157 15 = .ok (.athrow, 1) := by decide +kernel
theorem dJ3_checkIndex_8e157_16 : decode cJ3_checkIndex_8e157 16 = .ok (.iload_n 0, 1) := by decide +kernel
theorem dJ3_checkIndex_8e157_17 : decode cJ3_checkIndex_8e157 17 = .ok (.ireturn, 1) := by decide +kernel
theorem dJ6_bitCount_0f7a4_0 : decode cJ6_bitCount_0f7a4 0 = .ok (.iload_n 0, 1) := by decide +kernel
theorem dJ6_bitCount_0f7a4_1 : decode cJ6_bitCount_0f7a4 1 = .ok (.iload_n 0, 1) := by decide +kernel
theorem dJ6_bitCount_0f7a4_2 : decode cJ6_bitCount_0f7a4 2 = .ok (.iconst 1, 1) := by decide +kernel
theorem dJ6_bitCount_0f7a4_3 : decode cJ6_bitCount_0f7a4 3 = .ok (.iushr, 1) := by decide +kernel
theorem dJ6_bitCount_0f7a4_4 : decode cJ6_bitCount_0f7a4 4 = .ok (.ldc_w 265, 3) := by decide +kernel
theorem dJ6_bitCount_0f7a4_7 : decode cJ6_bitCount_0f7a4 7 = .ok (.iand, 1) := by decide +kernel
theorem dJ6_bitCount_0f7a4_8 : decode cJ6_bitCount_0f7a4 8 = .ok (.isub, 1) := by decide +kernel
theorem dJ6_bitCount_0f7a4_9 : decode cJ6_bitCount_0f7a4 9 = .ok (.istore_n 0, 1) := by decide +kernel
theorem dJ6_bitCount_0f7a4_10 : decode cJ6_bitCount_0f7a4 10 = .ok (.iload_n 0, 1) := by decide +kernel
theorem dJ6_bitCount_0f7a4_11 : decode cJ6_bitCount_0f7a4 11 = .ok (.ldc_w 266, 3) := by decide +kernel
theorem dJ6_bitCount_0f7a4_14 : decode cJ6_bitCount_0f7a4 14 = .ok (.iand, 1) := by decide +kernel
theorem dJ6_bitCount_0f7a4_15 : decode cJ6_bitCount_0f7a4 15 = .ok (.iload_n 0, 1) := by decide +kernel
theorem dJ6_bitCount_0f7a4_16 : decode cJ6_bitCount_0f7a4 16 = .ok (.iconst 2, 1) := by decide +kernel
theorem dJ6_bitCount_0f7a4_17 : decode cJ6_bitCount_0f7a4 17 = .ok (.iushr, 1) := by decide +kernel
theorem dJ6_bitCount_0f7a4_18 : decode cJ6_bitCount_0f7a4 18 = .ok (.ldc_w 266, 3) := by decide +kernel
theorem dJ6_bitCount_0f7a4_21 : decode cJ6_bitCount_0f7a4 21 = .ok (.iand, 1) := by decide +kernel
theorem dJ6_bitCount_0f7a4_22 : decode cJ6_bitCount_0f7a4 22 = .ok (.iadd, 1) := by decide +kernel
theorem dJ6_bitCount_0f7a4_23 : decode cJ6_bitCount_0f7a4 23 = .ok (.istore_n 0, 1) := by decide +kernel
theorem dJ6_bitCount_0f7a4_24 : decode cJ6_bitCount_0f7a4 24 = .ok (.iload_n 0, 1) := by decide +kernel
theorem dJ6_bitCount_0f7a4_25 : decode cJ6_bitCount_0f7a4 25 = .ok (.iload_n 0, 1) := by decide +kernel
theorem dJ6_bitCount_0f7a4_26 : decode cJ6_bitCount_0f7a4 26 = .ok (.iconst 4, 1) := by decide +kernel
theorem dJ6_bitCount_0f7a4_27 : decode cJ6_bitCount_0f7a4 27 = .ok (.iushr, 1) := by decide +kernel
theorem dJ6_bitCount_0f7a4_28 : decode cJ6_bitCount_0f7a4 28 = .ok (.iadd, 1) := by decide +kernel
theorem dJ6_bitCount_0f7a4_29 : decode cJ6_bitCount_0f7a4 29 = .ok (.ldc_w 267, 3) := by decide +kernel
theorem dJ6_bitCount_0f7a4_32 : decode cJ6_bitCount_0f7a4 32 = .ok (.iand, 1) := by decide +kernel
theorem dJ6_bitCount_0f7a4_33 : decode cJ6_bitCount_0f7a4 33 = .ok (.istore_n 0, 1) := by decide +kernel
theorem dJ6_bitCount_0f7a4_34 : decode cJ6_bitCount_0f7a4 34 = .ok (.iload_n 0, 1) := by decide +kernel
theorem dJ6_bitCount_0f7a4_35 : decode cJ6_bitCount_0f7a4 35 = .ok (.iload_n 0, 1) := by decide +kernel
theorem dJ6_bitCount_0f7a4_36 : decode cJ6_bitCount_0f7a4 36 = .ok (.bipush 8, 2) := by decide +kernel
theorem dJ6_bitCount_0f7a4_38 : decode cJ6_bitCount_0f7a4 38 = .ok (.iushr, 1) := by decide +kernel
theorem dJ6_bitCount_0f7a4_39 : decode cJ6_bitCount_0f7a4 39 = .ok (.iadd, 1) := by decide +kernel
theorem dJ6_bitCount_0f7a4_40 : decode cJ6_bitCount_0f7a4 40 = .ok (.istore_n 0, 1) := by decide +kernel
theorem dJ6_bitCount_0f7a4_41 : decode cJ6_bitCount_0f7a4 41 = .ok (.iload_n 0, 1) := by decide +kernel
theorem dJ6_bitCount_0f7a4_42 : decode cJ6_bitCount_0f7a4 42 = .ok (.iload_n 0, 1) := by decide +kernel
theorem dJ6_bitCount_0f7a4_43 : decode cJ6_bitCount_0f7a4 43 = .ok (.bipush 16, 2) := by decide +kernel
theorem dJ6_bitCount_0f7a4_45 : decode cJ6_bitCount_0f7a4 45 = .ok (.iushr, 1) := by decide +kernel
theorem dJ6_bitCount_0f7a4_46 : decode cJ6_bitCount_0f7a4 46 = .ok (.iadd, 1) := by decide +kernel
theorem dJ6_bitCount_0f7a4_47 : decode cJ6_bitCount_0f7a4 47 = .ok (.istore_n 0, 1) := by decide +kernel
theorem dJ6_bitCount_0f7a4_48 : decode cJ6_bitCount_0f7a4 48 = .ok (.iload_n 0, 1) := by decide +kernel
theorem dJ6_bitCount_0f7a4_49 : decode cJ6_bitCount_0f7a4 49 = .ok (.bipush 63, 2) := by decide +kernel
theorem dJ6_bitCount_0f7a4_51 : decode cJ6_bitCount_0f7a4 51 = .ok (.iand, 1) := by decide +kernel
theorem dJ6_bitCount_0f7a4_52 : decode cJ6_bitCount_0f7a4 52 = .ok (.ireturn, 1) := by decide +kernel
theorem dJ13_bitCount_95d88_0 : decode cJ13_bitCount_95d88 0 = .ok (.lload_n 0, 1) := by decide +kernel
theorem dJ13_bitCount_95d88_1 : decode cJ13_bitCount_95d88 1 = .ok (.lload_n 0, 1) := by decide +kernel
theorem dJ13_bitCount_95d88_2 : decode cJ13_bitCount_95d88 2 = .ok (.iconst 1, 1) := by decide +kernel
theorem dJ13_bitCount_95d88_3 : decode cJ13_bitCount_95d88 3 = .ok (.lushr, 1) := by decide +kernel
theorem dJ13_bitCount_95d88_4 : decode cJ13_bitCount_95d88 4 = .ok (.ldc2_w 314, 3) := by decide +kernel
theorem dJ13_bitCount_95d88_7 : decode cJ13_bitCount_95d88 7 = .ok (.land, 1) := by decide +kernel
theorem dJ13_bitCount_95d88_8 : decode cJ13_bitCount_95d88 8 = .ok (.lsub, 1) := by decide +kernel
theorem dJ13_bitCount_95d88_9 : decode cJ13_bitCount_95d88 9 = .ok (.lstore_n 0, 1) := by decide +kernel
theorem dJ13_bitCount_95d88_10 : decode cJ13_bitCount_95d88 10 = .ok (.lload_n 0, 1) := by decide +kernel
theorem dJ13_bitCount_95d88_11 : decode cJ13_bitCount_95d88 11 = .ok (.ldc2_w 316, 3) := by decide +kernel
theorem dJ13_bitCount_95d88_14 : decode cJ13_bitCount_95d88 14 = .ok (.land, 1) := by decide +kernel
theorem dJ13_bitCount_95d88_15 : decode cJ13_bitCount_95d88 15 = .ok (.lload_n 0, 1) := by decide +kernel
theorem dJ13_bitCount_95d88_16 : decode cJ13_bitCount_95d88 16 = .ok (.iconst 2, 1) := by decide +kernel
theorem dJ13_bitCount_95d88_17 : decode cJ13_bitCount_95d88 17 = .ok (.lushr, 1) := by decide +kernel
theorem dJ13_bitCount_95d88_18 : decode cJ13_bitCount_95d88 18 = .ok (.ldc2_w 316, 3) := by decide +kernel
theorem dJ13_bitCount_95d88_21 : decode cJ13_bitCount_95d88 21 = .ok (.land, 1) := by decide +kernel
theorem dJ13_bitCount_95d88_22 : decode cJ13_bitCount_95d88 22 = .ok (.ladd, 1) := by decide +kernel
theorem dJ13_bitCount_95d88_23 : decode cJ13_bitCount_95d88 23 = .ok (.lstore_n 0, 1) := by decide +kernel
theorem dJ13_bitCount_95d88_24 : decode cJ13_bitCount_95d88 24 = .ok (.lload_n 0, 1) := by decide +kernel
theorem dJ13_bitCount_95d88_25 : decode cJ13_bitCount_95d88 25 = .ok (.lload_n 0, 1) := by decide +kernel
theorem dJ13_bitCount_95d88_26 : decode cJ13_bitCount_95d88 26 = .ok (.iconst 4, 1) := by decide +kernel
theorem dJ13_bitCount_95d88_27 : decode cJ13_bitCount_95d88 27 = .ok (.lushr, 1) := by decide +kernel
theorem dJ13_bitCount_95d88_28 : decode cJ13_bitCount_95d88 28 = .ok (.ladd, 1) := by decide +kernel
theorem dJ13_bitCount_95d88_29 : decode cJ13_bitCount_95d88 29 = .ok (.ldc2_w 318, 3) := by decide +kernel
theorem dJ13_bitCount_95d88_32 : decode cJ13_bitCount_95d88 32 = .ok (.land, 1) := by decide +kernel
theorem dJ13_bitCount_95d88_33 : decode cJ13_bitCount_95d88 33 = .ok (.lstore_n 0, 1) := by decide +kernel
theorem dJ13_bitCount_95d88_34 : decode cJ13_bitCount_95d88 34 = .ok (.lload_n 0, 1) := by decide +kernel
theorem dJ13_bitCount_95d88_35 : decode cJ13_bitCount_95d88 35 = .ok (.lload_n 0, 1) := by decide +kernel
theorem dJ13_bitCount_95d88_36 : decode cJ13_bitCount_95d88 36 = .ok (.bipush 8, 2) := by decide +kernel
theorem dJ13_bitCount_95d88_38 : decode cJ13_bitCount_95d88 38 = .ok (.lushr, 1) := by decide +kernel
theorem dJ13_bitCount_95d88_39 : decode cJ13_bitCount_95d88 39 = .ok (.ladd, 1) := by decide +kernel
theorem dJ13_bitCount_95d88_40 : decode cJ13_bitCount_95d88 40 = .ok (.lstore_n 0, 1) := by decide +kernel
theorem dJ13_bitCount_95d88_41 : decode cJ13_bitCount_95d88 41 = .ok (.lload_n 0, 1) := by decide +kernel
theorem dJ13_bitCount_95d88_42 : decode cJ13_bitCount_95d88 42 = .ok (.lload_n 0, 1) := by decide +kernel
theorem dJ13_bitCount_95d88_43 : decode cJ13_bitCount_95d88 43 = .ok (.bipush 16, 2) := by decide +kernel
theorem dJ13_bitCount_95d88_45 : decode cJ13_bitCount_95d88 45 = .ok (.lushr, 1) := by decide +kernel
theorem dJ13_bitCount_95d88_46 : decode cJ13_bitCount_95d88 46 = .ok (.ladd, 1) := by decide +kernel
theorem dJ13_bitCount_95d88_47 : decode cJ13_bitCount_95d88 47 = .ok (.lstore_n 0, 1) := by decide +kernel
theorem dJ13_bitCount_95d88_48 : decode cJ13_bitCount_95d88 48 = .ok (.lload_n 0, 1) := by decide +kernel
theorem dJ13_bitCount_95d88_49 : decode cJ13_bitCount_95d88 49 = .ok (.lload_n 0, 1) := by decide +kernel
theorem dJ13_bitCount_95d88_50 : decode cJ13_bitCount_95d88 50 = .ok (.bipush 32, 2) := by decide +kernel
theorem dJ13_bitCount_95d88_52 : decode cJ13_bitCount_95d88 52 = .ok (.lushr, 1) := by decide +kernel
theorem dJ13_bitCount_95d88_53 : decode cJ13_bitCount_95d88 53 = .ok (.ladd, 1) := by decide +kernel
theorem dJ13_bitCount_95d88_54 : decode cJ13_bitCount_95d88 54 = .ok (.lstore_n 0, 1) := by decide +kernel
theorem dJ13_bitCount_95d88_55 : decode cJ13_bitCount_95d88 55 = .ok (.lload_n 0, 1) := by decide +kernel
theorem dJ13_bitCount_95d88_56 : decode cJ13_bitCount_95d88 56 = .ok (.l2i, 1) := by decide +kernel
theorem dJ13_bitCount_95d88_57 : decode cJ13_bitCount_95d88 57 = .ok (.bipush 127, 2) := by decide +kernel
theorem dJ13_bitCount_95d88_59 : decode cJ13_bitCount_95d88 59 = .ok (.iand, 1) := by decide +kernel
theorem dJ13_bitCount_95d88_60 : decode cJ13_bitCount_95d88 60 = .ok (.ireturn, 1) := by decide +kernel
theorem dJ7_fill_53178_0 : decode cJ7_fill_53178 0 = .ok (.iconst 0, 1) := by decide +kernel
theorem dJ7_fill_53178_1 : decode cJ7_fill_53178 1 = .ok (.istore_n 2, 1) := by decide +kernel
theorem dJ7_fill_53178_2 : decode cJ7_fill_53178 2 = .ok (.aload_n 0, 1) := by decide +kernel
theorem dJ7_fill_53178_3 : decode cJ7_fill_53178 3 = .ok (.arraylength, 1) := by decide +kernel
theorem dJ7_fill_53178_4 : decode cJ7_fill_53178 4 = .ok (.istore_n 3, 1) := by decide +kernel
theorem dJ7_fill_53178_5 : decode cJ7_fill_53178 5 = .ok (.iload_n 2, 1) := by decide +kernel
theorem dJ7_fill_53178_6 : decode cJ7_fill_53178 6 = .ok (.iload_n 3, 1) := by decide +kernel
theorem dJ7_fill_53178_7 : decode cJ7_fill_53178 7 = .ok (.if_icmp .ge 13, 3) := by decide +kernel
theorem dJ7_fill_53178_10 : decode cJ7_fill_53178 10 = .ok (.aload_n 0, 1) := by decide +kernel
theorem dJ7_fill_53178_11 : decode cJ7_fill_53178 11 = .ok (.iload_n 2, 1) := by decide +kernel
theorem dJ7_fill_53178_12 : decode cJ7_fill_53178 12 = .ok (.iload_n 1, 1) := by decide +kernel
theorem dJ7_fill_53178_13 : decode cJ7_fill_53178 13 = .ok (.iastore, 1) := by decide +kernel
theorem dJ7_fill_53178_14 : decode cJ7_fill_53178 14 = .ok (.iinc 2 1, 3) := by decide +kernel
theorem dJ7_fill_53178_17 : decode cJ7_fill_53178 17 = .ok (.goto (-12), 3) := by decide +kernel
theorem dJ7_fill_53178_20 : decode cJ7_fill_53178 20 = .ok (.return_, 1) := by decide +kernel
theorem dL_law_0 : decode cL_law 0 = .ok (.new 7, 3) := by decide +kernel
theorem dL_law_3 : decode cL_law 3 = .ok (.dup, 1) := by decide +kernel
theorem dL_law_4 : decode cL_law 4 = .ok (.invokespecial 9, 3) := by decide +kernel
theorem dL_law_7 : decode cL_law 7 = .ok (.astore_n 1, 1) := by decide +kernel
theorem dL_law_8 : decode cL_law 8 = .ok (.new 10, 3) := by decide +kernel
theorem dL_law_11 : decode cL_law 11 = .ok (.dup, 1) := by decide +kernel
theorem dL_law_12 : decode cL_law 12 = .ok (.invokespecial 12, 3) := by decide +kernel
theorem dL_law_15 : decode cL_law 15 = .ok (.astore_n 2, 1) := by decide +kernel
theorem dL_law_16 : decode cL_law 16 = .ok (.iconst 0, 1) := by decide +kernel
theorem dL_law_17 : decode cL_law 17 = .ok (.istore_n 3, 1) := by decide +kernel
theorem dL_law_18 : decode cL_law 18 = .ok (.iload_n 3, 1) := by decide +kernel
theorem dL_law_19 : decode cL_law 19 = .ok (.aload_n 0, 1) := by decide +kernel
theorem dL_law_20 : decode cL_law 20 = .ok (.arraylength, 1) := by decide +kernel
theorem dL_law_21 : decode cL_law 21 = .ok (.bipush 7, 2) := by decide +kernel
theorem dL_law_23 : decode cL_law 23 = .ok (.isub, 1) := by decide +kernel
theorem dL_law_24 : decode cL_law 24 = .ok (.if_icmp .gt 1797, 3) := by decide +kernel
theorem dL_law_27 : decode cL_law 27 = .ok (.aload_n 0, 1) := by decide +kernel
theorem dL_law_28 : decode cL_law 28 = .ok (.iload_n 3, 1) := by decide +kernel
theorem dL_law_29 : decode cL_law 29 = .ok (.iaload, 1) := by decide +kernel
theorem dL_law_30 : decode cL_law 30 = .ok (.bipush 63, 2) := by decide +kernel
theorem dL_law_32 : decode cL_law 32 = .ok (.iand, 1) := by decide +kernel
theorem dL_law_33 : decode cL_law 33 = .ok (.tableswitch 1782 0 43 #[191, 224, 257, 280, 303, 366, 379, 402, 445, 488, 531, 555, 588, 612, 636, 649, 662, 695, 738, 782, 805, 838, 871, 914, 968, 1021, 1054, 1077, 1100, 1133, 1177, 1220, 1316, 1359, 1402, 1445, 1488, 1521, 1534, 1547, 1590, 1633, 1696, 1749], 191) := by decide +kernel
theorem dL_law_224 : decode cL_law 224 = .ok (.aload_n 1, 1) := by decide +kernel
theorem dL_law_225 : decode cL_law 225 = .ok (.aload_n 0, 1) := by decide +kernel
theorem dL_law_226 : decode cL_law 226 = .ok (.iload_n 3, 1) := by decide +kernel
theorem dL_law_227 : decode cL_law 227 = .ok (.iconst 1, 1) := by decide +kernel
theorem dL_law_228 : decode cL_law 228 = .ok (.iadd, 1) := by decide +kernel
theorem dL_law_229 : decode cL_law 229 = .ok (.iaload, 1) := by decide +kernel
theorem dL_law_230 : decode cL_law 230 = .ok (.aload_n 0, 1) := by decide +kernel
theorem dL_law_231 : decode cL_law 231 = .ok (.iload_n 3, 1) := by decide +kernel
theorem dL_law_232 : decode cL_law 232 = .ok (.iconst 2, 1) := by decide +kernel
theorem dL_law_233 : decode cL_law 233 = .ok (.iadd, 1) := by decide +kernel
theorem dL_law_234 : decode cL_law 234 = .ok (.iaload, 1) := by decide +kernel
theorem dL_law_235 : decode cL_law 235 = .ok (.invokevirtual 13, 3) := by decide +kernel
theorem dL_law_238 : decode cL_law 238 = .ok (.aload_n 2, 1) := by decide +kernel
theorem dL_law_239 : decode cL_law 239 = .ok (.aload_n 0, 1) := by decide +kernel
theorem dL_law_240 : decode cL_law 240 = .ok (.iload_n 3, 1) := by decide +kernel
theorem dL_law_241 : decode cL_law 241 = .ok (.iconst 1, 1) := by decide +kernel
theorem dL_law_242 : decode cL_law 242 = .ok (.iadd, 1) := by decide +kernel
theorem dL_law_243 : decode cL_law 243 = .ok (.iaload, 1) := by decide +kernel
theorem dL_law_244 : decode cL_law 244 = .ok (.aload_n 0, 1) := by decide +kernel
theorem dL_law_245 : decode cL_law 245 = .ok (.iload_n 3, 1) := by decide +kernel
theorem dL_law_246 : decode cL_law 246 = .ok (.iconst 2, 1) := by decide +kernel
theorem dL_law_247 : decode cL_law 247 = .ok (.iadd, 1) := by decide +kernel
theorem dL_law_248 : decode cL_law 248 = .ok (.iaload, 1) := by decide +kernel
theorem dL_law_249 : decode cL_law 249 = .ok (.invokevirtual 17, 3) := by decide +kernel
theorem dL_law_252 : decode cL_law 252 = .ok (.if_icmp .eq 1563, 3) := by decide +kernel
theorem dL_law_255 : decode cL_law 255 = .ok (.iconst 0, 1) := by decide +kernel
theorem dL_law_256 : decode cL_law 256 = .ok (.ireturn, 1) := by decide +kernel
theorem dL_law_257 : decode cL_law 257 = .ok (.aload_n 1, 1) := by decide +kernel
theorem dL_law_258 : decode cL_law 258 = .ok (.aload_n 0, 1) := by decide +kernel
theorem dL_law_259 : decode cL_law 259 = .ok (.iload_n 3, 1) := by decide +kernel
theorem dL_law_260 : decode cL_law 260 = .ok (.iconst 1, 1) := by decide +kernel
theorem dL_law_261 : decode cL_law 261 = .ok (.iadd, 1) := by decide +kernel
theorem dL_law_262 : decode cL_law 262 = .ok (.iaload, 1) := by decide +kernel
theorem dL_law_263 : decode cL_law 263 = .ok (.aload_n 0, 1) := by decide +kernel
theorem dL_law_264 : decode cL_law 264 = .ok (.iload_n 3, 1) := by decide +kernel
theorem dL_law_265 : decode cL_law 265 = .ok (.iconst 2, 1) := by decide +kernel
theorem dL_law_266 : decode cL_law 266 = .ok (.iadd, 1) := by decide +kernel
theorem dL_law_267 : decode cL_law 267 = .ok (.iaload, 1) := by decide +kernel
theorem dL_law_268 : decode cL_law 268 = .ok (.invokevirtual 18, 3) := by decide +kernel
theorem dL_law_271 : decode cL_law 271 = .ok (.aload_n 2, 1) := by decide +kernel
theorem dL_law_272 : decode cL_law 272 = .ok (.aload_n 0, 1) := by decide +kernel
theorem dL_law_273 : decode cL_law 273 = .ok (.iload_n 3, 1) := by decide +kernel
theorem dL_law_274 : decode cL_law 274 = .ok (.iconst 1, 1) := by decide +kernel
theorem dL_law_275 : decode cL_law 275 = .ok (.iadd, 1) := by decide +kernel
theorem dL_law_276 : decode cL_law 276 = .ok (.iaload, 1) := by decide +kernel
theorem dL_law_277 : decode cL_law 277 = .ok (.aload_n 0, 1) := by decide +kernel
theorem dL_law_278 : decode cL_law 278 = .ok (.iload_n 3, 1) := by decide +kernel
theorem dL_law_279 : decode cL_law 279 = .ok (.iconst 2, 1) := by decide +kernel
theorem dL_law_280 : decode cL_law 280 = .ok (.iadd, 1) := by decide +kernel
theorem dL_law_281 : decode cL_law 281 = .ok (.iaload, 1) := by decide +kernel
theorem dL_law_282 : decode cL_law 282 = .ok (.invokevirtual 21, 3) := by decide +kernel
theorem dL_law_285 : decode cL_law 285 = .ok (.if_icmp .eq 1530, 3) := by decide +kernel
theorem dL_law_288 : decode cL_law 288 = .ok (.iconst 0, 1) := by decide +kernel
theorem dL_law_289 : decode cL_law 289 = .ok (.ireturn, 1) := by decide +kernel
theorem dL_law_290 : decode cL_law 290 = .ok (.aload_n 1, 1) := by decide +kernel
theorem dL_law_291 : decode cL_law 291 = .ok (.aload_n 0, 1) := by decide +kernel
theorem dL_law_292 : decode cL_law 292 = .ok (.iload_n 3, 1) := by decide +kernel
theorem dL_law_293 : decode cL_law 293 = .ok (.iconst 1, 1) := by decide +kernel
theorem dL_law_294 : decode cL_law 294 = .ok (.iadd, 1) := by decide +kernel
theorem dL_law_295 : decode cL_law 295 = .ok (.iaload, 1) := by decide +kernel
theorem dL_law_296 : decode cL_law 296 = .ok (.invokevirtual 22, 3) := by decide +kernel
theorem dL_law_299 : decode cL_law 299 = .ok (.aload_n 2, 1) := by decide +kernel
theorem dL_law_300 : decode cL_law 300 = .ok (.aload_n 0, 1) := by decide +kernel
theorem dL_law_301 : decode cL_law 301 = .ok (.iload_n 3, 1) := by decide +kernel
theorem dL_law_302 : decode cL_law 302 = .ok (.iconst 1, 1) := by decide +kernel
theorem dL_law_303 : decode cL_law 303 = .ok (.iadd, 1) := by decide +kernel
theorem dL_law_304 : decode cL_law 304 = .ok (.iaload, 1) := by decide +kernel
theorem dL_law_305 : decode cL_law 305 = .ok (.invokevirtual 26, 3) := by decide +kernel
theorem dL_law_308 : decode cL_law 308 = .ok (.if_icmp .eq 1507, 3) := by decide +kernel
theorem dL_law_311 : decode cL_law 311 = .ok (.iconst 0, 1) := by decide +kernel
theorem dL_law_312 : decode cL_law 312 = .ok (.ireturn, 1) := by decide +kernel
theorem dL_law_313 : decode cL_law 313 = .ok (.aload_n 1, 1) := by decide +kernel
theorem dL_law_314 : decode cL_law 314 = .ok (.aload_n 0, 1) := by decide +kernel
theorem dL_law_315 : decode cL_law 315 = .ok (.iload_n 3, 1) := by decide +kernel
theorem dL_law_316 : decode cL_law 316 = .ok (.iconst 1, 1) := by decide +kernel
theorem dL_law_317 : decode cL_law 317 = .ok (.iadd, 1) := by decide +kernel
theorem dL_law_318 : decode cL_law 318 = .ok (.iaload, 1) := by decide +kernel
theorem dL_law_319 : decode cL_law 319 = .ok (.invokevirtual 27, 3) := by decide +kernel
theorem dL_law_322 : decode cL_law 322 = .ok (.aload_n 2, 1) := by decide +kernel
theorem dL_law_323 : decode cL_law 323 = .ok (.aload_n 0, 1) := by decide +kernel
theorem dL_law_324 : decode cL_law 324 = .ok (.iload_n 3, 1) := by decide +kernel
theorem dL_law_325 : decode cL_law 325 = .ok (.iconst 1, 1) := by decide +kernel
theorem dL_law_326 : decode cL_law 326 = .ok (.iadd, 1) := by decide +kernel
theorem dL_law_327 : decode cL_law 327 = .ok (.iaload, 1) := by decide +kernel
theorem dL_law_328 : decode cL_law 328 = .ok (.invokevirtual 30, 3) := by decide +kernel
theorem dL_law_331 : decode cL_law 331 = .ok (.if_icmp .eq 1484, 3) := by decide +kernel
theorem dL_law_334 : decode cL_law 334 = .ok (.iconst 0, 1) := by decide +kernel
theorem dL_law_335 : decode cL_law 335 = .ok (.ireturn, 1) := by decide +kernel
theorem dL_law_336 : decode cL_law 336 = .ok (.aload_n 1, 1) := by decide +kernel
theorem dL_law_337 : decode cL_law 337 = .ok (.aload_n 0, 1) := by decide +kernel
theorem dL_law_338 : decode cL_law 338 = .ok (.iload_n 3, 1) := by decide +kernel
theorem dL_law_339 : decode cL_law 339 = .ok (.iconst 1, 1) := by decide +kernel
theorem dL_law_340 : decode cL_law 340 = .ok (.iadd, 1) := by decide +kernel
theorem dL_law_341 : decode cL_law 341 = .ok (.iaload, 1) := by decide +kernel
theorem dL_law_342 : decode cL_law 342 = .ok (.i2l, 1) := by decide +kernel
theorem dL_law_343 : decode cL_law 343 = .ok (.bipush 32, 2) := by decide +kernel
theorem dL_law_345 : decode cL_law 345 = .ok (.lshl, 1) := by decide +kernel
theorem dL_law_346 : decode cL_law 346 = .ok (.aload_n 0, 1) := by decide +kernel
theorem dL_law_347 : decode cL_law 347 = .ok (.iload_n 3, 1) := by decide +kernel
theorem dL_law_348 : decode cL_law 348 = .ok (.iconst 2, 1) := by decide +kernel
theorem dL_law_349 : decode cL_law 349 = .ok (.iadd, 1) := by decide +kernel
theorem dL_law_350 : decode cL_law 350 = .ok (.iaload, 1) := by decide +kernel
theorem dL_law_351 : decode cL_law 351 = .ok (.i2l, 1) := by decide +kernel
theorem dL_law_352 : decode cL_law 352 = .ok (.ldc2_w 31, 3) := by decide +kernel
theorem dL_law_355 : decode cL_law 355 = .ok (.land, 1) := by decide +kernel
theorem dL_law_356 : decode cL_law 356 = .ok (.lor, 1) := by decide +kernel
theorem dL_law_357 : decode cL_law 357 = .ok (.aload_n 0, 1) := by decide +kernel
theorem dL_law_358 : decode cL_law 358 = .ok (.iload_n 3, 1) := by decide +kernel
theorem dL_law_359 : decode cL_law 359 = .ok (.iconst 3, 1) := by decide +kernel
theorem dL_law_360 : decode cL_law 360 = .ok (.iadd, 1) := by decide +kernel
theorem dL_law_361 : decode cL_law 361 = .ok (.iaload, 1) := by decide +kernel
theorem dL_law_362 : decode cL_law 362 = .ok (.invokevirtual 33, 3) := by decide +kernel
theorem dL_law_365 : decode cL_law 365 = .ok (.aload_n 2, 1) := by decide +kernel
theorem dL_law_366 : decode cL_law 366 = .ok (.aload_n 0, 1) := by decide +kernel
theorem dL_law_367 : decode cL_law 367 = .ok (.iload_n 3, 1) := by decide +kernel
theorem dL_law_368 : decode cL_law 368 = .ok (.iconst 1, 1) := by decide +kernel
theorem dL_law_369 : decode cL_law 369 = .ok (.iadd, 1) := by decide +kernel
