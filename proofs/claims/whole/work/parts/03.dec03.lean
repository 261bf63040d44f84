theorem dX11_one_37 : decode cX11_one 37 = .ok (.if_icmp .ne 28, 3) := by decide +kernel
theorem dX11_one_40 : decode cX11_one 40 = .ok (.aload_n 0, 1) := by decide +kernel
theorem dX11_one_41 : decode cX11_one 41 = .ok (.getfield 180, 3) := by decide +kernel
theorem dX11_one_44 : decode cX11_one 44 = .ok (.bipush 6, 2) := by decide +kernel
theorem dX11_one_46 : decode cX11_one 46 = .ok (.if_icmp .ge 19, 3) := by decide +kernel
theorem dX11_one_49 : decode cX11_one 49 = .ok (.aload_n 0, 1) := by decide +kernel
theorem dX11_one_50 : decode cX11_one 50 = .ok (.iconst 2, 1) := by decide +kernel
theorem dX11_one_51 : decode cX11_one 51 = .ok (.aload_n 0, 1) := by decide +kernel
theorem dX11_one_52 : decode cX11_one 52 = .ok (.getfield 180, 3) := by decide +kernel
theorem dX11_one_55 : decode cX11_one 55 = .ok (.invokevirtual 206, 3) := by decide +kernel
theorem dX11_one_58 : decode cX11_one 58 = .ok (.aload_n 0, 1) := by decide +kernel
theorem dX11_one_59 : decode cX11_one 59 = .ok (.invokevirtual 197, 3) := by decide +kernel
theorem dX11_one_62 : decode cX11_one 62 = .ok (.goto 99, 3) := by decide +kernel
theorem dX11_one_65 : decode cX11_one 65 = .ok (.aload_n 0, 1) := by decide +kernel
theorem dX11_one_66 : decode cX11_one 66 = .ok (.bipush 45, 2) := by decide +kernel
theorem dX11_one_68 : decode cX11_one 68 = .ok (.invokevirtual 220, 3) := by decide +kernel
theorem dX11_one_71 : decode cX11_one 71 = .ok (.ifCond .eq 34, 3) := by decide +kernel
theorem dX11_one_74 : decode cX11_one 74 = .ok (.aload_n 0, 1) := by decide +kernel
theorem dX11_one_75 : decode cX11_one 75 = .ok (.invokevirtual 213, 3) := by decide +kernel
theorem dX11_one_78 : decode cX11_one 78 = .ok (.ifCond .ne 4, 3) := by decide +kernel
theorem dX11_one_81 : decode cX11_one 81 = .ok (.return_, 1) := by decide +kernel
theorem dX11_one_82 : decode cX11_one 82 = .ok (.aload_n 0, 1) := by decide +kernel
theorem dX11_one_83 : decode cX11_one 83 = .ok (.invokevirtual 226, 3) := by decide +kernel
theorem dX11_one_86 : decode cX11_one 86 = .ok (.aload_n 0, 1) := by decide +kernel
theorem dX11_one_87 : decode cX11_one 87 = .ok (.dup, 1) := by decide +kernel
theorem dX11_one_88 : decode cX11_one 88 = .ok (.getfield 191, 3) := by decide +kernel
theorem dX11_one_91 : decode cX11_one 91 = .ok (.iconst 1, 1) := by decide +kernel
theorem dX11_one_92 : decode cX11_one 92 = .ok (.isub, 1) := by decide +kernel
theorem dX11_one_93 : decode cX11_one 93 = .ok (.putfield 191, 3) := by decide +kernel
theorem dX11_one_96 : decode cX11_one 96 = .ok (.aload_n 0, 1) := by decide +kernel
theorem dX11_one_97 : decode cX11_one 97 = .ok (.iconst 4, 1) := by decide +kernel
theorem dX11_one_98 : decode cX11_one 98 = .ok (.iconst 0, 1) := by decide +kernel
theorem dX11_one_99 : decode cX11_one 99 = .ok (.invokevirtual 206, 3) := by decide +kernel
theorem dX11_one_102 : decode cX11_one 102 = .ok (.goto 59, 3) := by decide +kernel
theorem dX11_one_105 : decode cX11_one 105 = .ok (.aload_n 0, 1) := by decide +kernel
theorem dX11_one_106 : decode cX11_one 106 = .ok (.bipush 40, 2) := by decide +kernel
theorem dX11_one_108 : decode cX11_one 108 = .ok (.invokevirtual 220, 3) := by decide +kernel
theorem dX11_one_111 : decode cX11_one 111 = .ok (.ifCond .eq 46, 3) := by decide +kernel
theorem dX11_one_114 : decode cX11_one 114 = .ok (.aload_n 0, 1) := by decide +kernel
theorem dX11_one_115 : decode cX11_one 115 = .ok (.invokevirtual 213, 3) := by decide +kernel
theorem dX11_one_118 : decode cX11_one 118 = .ok (.ifCond .ne 4, 3) := by decide +kernel
theorem dX11_one_121 : decode cX11_one 121 = .ok (.return_, 1) := by decide +kernel
theorem dX11_one_122 : decode cX11_one 122 = .ok (.aload_n 0, 1) := by decide +kernel
theorem dX11_one_123 : decode cX11_one 123 = .ok (.invokevirtual 229, 3) := by decide +kernel
theorem dX11_one_126 : decode cX11_one 126 = .ok (.aload_n 0, 1) := by decide +kernel
theorem dX11_one_127 : decode cX11_one 127 = .ok (.bipush 41, 2) := by decide +kernel
theorem dX11_one_129 : decode cX11_one 129 = .ok (.invokevirtual 220, 3) := by decide +kernel
theorem dX11_one_132 : decode cX11_one 132 = .ok (.ifCond .ne 8, 3) := by decide +kernel
theorem dX11_one_135 : decode cX11_one 135 = .ok (.aload_n 0, 1) := by decide +kernel
theorem dX11_one_136 : decode cX11_one 136 = .ok (.invokevirtual 194, 3) := by decide +kernel
theorem dX11_one_139 : decode cX11_one 139 = .ok (.return_, 1) := by decide +kernel
theorem dX11_one_140 : decode cX11_one 140 = .ok (.aload_n 0, 1) := by decide +kernel
theorem dX11_one_141 : decode cX11_one 141 = .ok (.dup, 1) := by decide +kernel
theorem dX11_one_142 : decode cX11_one 142 = .ok (.getfield 191, 3) := by decide +kernel
theorem dX11_one_145 : decode cX11_one 145 = .ok (.iconst 1, 1) := by decide +kernel
theorem dX11_one_146 : decode cX11_one 146 = .ok (.isub, 1) := by decide +kernel
theorem dX11_one_147 : decode cX11_one 147 = .ok (.putfield 191, 3) := by decide +kernel
theorem dX11_one_150 : decode cX11_one 150 = .ok (.aload_n 0, 1) := by decide +kernel
theorem dX11_one_151 : decode cX11_one 151 = .ok (.invokevirtual 197, 3) := by decide +kernel
theorem dX11_one_154 : decode cX11_one 154 = .ok (.goto 7, 3) := by decide +kernel
theorem dX11_one_157 : decode cX11_one 157 = .ok (.aload_n 0, 1) := by decide +kernel
theorem dX11_one_158 : decode cX11_one 158 = .ok (.invokevirtual 194, 3) := by decide +kernel
theorem dX11_one_161 : decode cX11_one 161 = .ok (.return_, 1) := by decide +kernel
theorem dX11_rule_0 : decode cX11_rule 0 = .ok (.aload_n 0, 1) := by decide +kernel
theorem dX11_rule_1 : decode cX11_rule 1 = .ok (.bipush 10, 2) := by decide +kernel
theorem dX11_rule_3 : decode cX11_rule 3 = .ok (.iload_n 1, 1) := by decide +kernel
theorem dX11_rule_4 : decode cX11_rule 4 = .ok (.iadd, 1) := by decide +kernel
theorem dX11_rule_5 : decode cX11_rule 5 = .ok (.invokevirtual 203, 3) := by decide +kernel
theorem dX11_rule_8 : decode cX11_rule 8 = .ok (.ifCond .ne 8, 3) := by decide +kernel
theorem dX11_rule_11 : decode cX11_rule 11 = .ok (.aload_n 0, 1) := by decide +kernel
theorem dX11_rule_12 : decode cX11_rule 12 = .ok (.invokevirtual 194, 3) := by decide +kernel
theorem dX11_rule_15 : decode cX11_rule 15 = .ok (.return_, 1) := by decide +kernel
theorem dX11_rule_16 : decode cX11_rule 16 = .ok (.aload_n 0, 1) := by decide +kernel
theorem dX11_rule_17 : decode cX11_rule 17 = .ok (.invokevirtual 197, 3) := by decide +kernel
theorem dX11_rule_20 : decode cX11_rule 20 = .ok (.aload_n 0, 1) := by decide +kernel
theorem dX11_rule_21 : decode cX11_rule 21 = .ok (.invokevirtual 229, 3) := by decide +kernel
theorem dX11_rule_24 : decode cX11_rule 24 = .ok (.aload_n 0, 1) := by decide +kernel
theorem dX11_rule_25 : decode cX11_rule 25 = .ok (.bipush 59, 2) := by decide +kernel
theorem dX11_rule_27 : decode cX11_rule 27 = .ok (.invokevirtual 220, 3) := by decide +kernel
theorem dX11_rule_30 : decode cX11_rule 30 = .ok (.ifCond .ne 8, 3) := by decide +kernel
theorem dX11_rule_33 : decode cX11_rule 33 = .ok (.aload_n 0, 1) := by decide +kernel
theorem dX11_rule_34 : decode cX11_rule 34 = .ok (.invokevirtual 194, 3) := by decide +kernel
theorem dX11_rule_37 : decode cX11_rule 37 = .ok (.return_, 1) := by decide +kernel
theorem dX11_rule_38 : decode cX11_rule 38 = .ok (.aload_n 0, 1) := by decide +kernel
theorem dX11_rule_39 : decode cX11_rule 39 = .ok (.invokevirtual 197, 3) := by decide +kernel
theorem dX11_rule_42 : decode cX11_rule 42 = .ok (.aload_n 0, 1) := by decide +kernel
theorem dX11_rule_43 : decode cX11_rule 43 = .ok (.getfield 30, 3) := by decide +kernel
theorem dX11_rule_46 : decode cX11_rule 46 = .ok (.bipush 18, 2) := by decide +kernel
theorem dX11_rule_48 : decode cX11_rule 48 = .ok (.iload_n 1, 1) := by decide +kernel
theorem dX11_rule_49 : decode cX11_rule 49 = .ok (.iadd, 1) := by decide +kernel
theorem dX11_rule_50 : decode cX11_rule 50 = .ok (.aload_n 0, 1) := by decide +kernel
theorem dX11_rule_51 : decode cX11_rule 51 = .ok (.getfield 188, 3) := by decide +kernel
theorem dX11_rule_54 : decode cX11_rule 54 = .ok (.iastore, 1) := by decide +kernel
theorem dX11_rule_55 : decode cX11_rule 55 = .ok (.return_, 1) := by decide +kernel
theorem dX11_text_0 : decode cX11_text 0 = .ok (.aload_n 0, 1) := by decide +kernel
theorem dX11_text_1 : decode cX11_text 1 = .ok (.getfield 20, 3) := by decide +kernel
theorem dX11_text_4 : decode cX11_text 4 = .ok (.bipush 6, 2) := by decide +kernel
theorem dX11_text_6 : decode cX11_text 6 = .ok (.if_icmp .ne 6, 3) := by decide +kernel
theorem dX11_text_9 : decode cX11_text 9 = .ok (.bipush (-4), 2) := by decide +kernel
theorem dX11_text_11 : decode cX11_text 11 = .ok (.ireturn, 1) := by decide +kernel
theorem dX11_text_12 : decode cX11_text 12 = .ok (.aload_n 0, 1) := by decide +kernel
theorem dX11_text_13 : decode cX11_text 13 = .ok (.iconst 0, 1) := by decide +kernel
theorem dX11_text_14 : decode cX11_text 14 = .ok (.putfield 167, 3) := by decide +kernel
theorem dX11_text_17 : decode cX11_text 17 = .ok (.aload_n 0, 1) := by decide +kernel
theorem dX11_text_18 : decode cX11_text 18 = .ok (.iconst (-1), 1) := by decide +kernel
theorem dX11_text_19 : decode cX11_text 19 = .ok (.putfield 185, 3) := by decide +kernel
theorem dX11_text_22 : decode cX11_text 22 = .ok (.aload_n 0, 1) := by decide +kernel
theorem dX11_text_23 : decode cX11_text 23 = .ok (.iconst 0, 1) := by decide +kernel
theorem dX11_text_24 : decode cX11_text 24 = .ok (.putfield 191, 3) := by decide +kernel
theorem dX11_text_27 : decode cX11_text 27 = .ok (.aload_n 0, 1) := by decide +kernel
theorem dX11_text_28 : decode cX11_text 28 = .ok (.iconst 0, 1) := by decide +kernel
theorem dX11_text_29 : decode cX11_text 29 = .ok (.putfield 188, 3) := by decide +kernel
theorem dX11_text_32 : decode cX11_text 32 = .ok (.aload_n 0, 1) := by decide +kernel
theorem dX11_text_33 : decode cX11_text 33 = .ok (.invokevirtual 197, 3) := by decide +kernel
theorem dX11_text_36 : decode cX11_text 36 = .ok (.iconst 0, 1) := by decide +kernel
theorem dX11_text_37 : decode cX11_text 37 = .ok (.istore_n 1, 1) := by decide +kernel
theorem dX11_text_38 : decode cX11_text 38 = .ok (.iload_n 1, 1) := by decide +kernel
theorem dX11_text_39 : decode cX11_text 39 = .ok (.iconst 2, 1) := by decide +kernel
theorem dX11_text_40 : decode cX11_text 40 = .ok (.if_icmp .gt 21, 3) := by decide +kernel
theorem dX11_text_43 : decode cX11_text 43 = .ok (.aload_n 0, 1) := by decide +kernel
theorem dX11_text_44 : decode cX11_text 44 = .ok (.getfield 185, 3) := by decide +kernel
theorem dX11_text_47 : decode cX11_text 47 = .ok (.ifCond .ge 14, 3) := by decide +kernel
theorem dX11_text_50 : decode cX11_text 50 = .ok (.aload_n 0, 1) := by decide +kernel
theorem dX11_text_51 : decode cX11_text 51 = .ok (.iload_n 1, 1) := by decide +kernel
theorem dX11_text_52 : decode cX11_text 52 = .ok (.invokevirtual 232, 3) := by decide +kernel
theorem dX11_text_55 : decode cX11_text 55 = .ok (.iinc 1 1, 3) := by decide +kernel
theorem dX11_text_58 : decode cX11_text 58 = .ok (.goto (-20), 3) := by decide +kernel
theorem dX11_text_61 : decode cX11_text 61 = .ok (.aload_n 0, 1) := by decide +kernel
theorem dX11_text_62 : decode cX11_text 62 = .ok (.getfield 185, 3) := by decide +kernel
theorem dX11_text_65 : decode cX11_text 65 = .ok (.ifCond .ge 15, 3) := by decide +kernel
theorem dX11_text_68 : decode cX11_text 68 = .ok (.aload_n 0, 1) := by decide +kernel
theorem dX11_text_69 : decode cX11_text 69 = .ok (.getfield 170, 3) := by decide +kernel
theorem dX11_text_72 : decode cX11_text 72 = .ok (.iconst 4, 1) := by decide +kernel
theorem dX11_text_73 : decode cX11_text 73 = .ok (.if_icmp .eq 7, 3) := by decide +kernel
theorem dX11_text_76 : decode cX11_text 76 = .ok (.aload_n 0, 1) := by decide +kernel
theorem dX11_text_77 : decode cX11_text 77 = .ok (.invokevirtual 194, 3) := by decide +kernel
theorem dX11_text_80 : decode cX11_text 80 = .ok (.aload_n 0, 1) := by decide +kernel
theorem dX11_text_81 : decode cX11_text 81 = .ok (.iconst 0, 1) := by decide +kernel
theorem dX11_text_82 : decode cX11_text 82 = .ok (.putfield 150, 3) := by decide +kernel
theorem dX11_text_85 : decode cX11_text 85 = .ok (.aload_n 0, 1) := by decide +kernel
theorem dX11_text_86 : decode cX11_text 86 = .ok (.getfield 185, 3) := by decide +kernel
theorem dX11_text_89 : decode cX11_text 89 = .ok (.ifCond .lt 11, 3) := by decide +kernel
theorem dX11_text_92 : decode cX11_text 92 = .ok (.bipush (-100), 2) := by decide +kernel
theorem dX11_text_94 : decode cX11_text 94 = .ok (.aload_n 0, 1) := by decide +kernel
theorem dX11_text_95 : decode cX11_text 95 = .ok (.getfield 185, 3) := by decide +kernel
theorem dX11_text_98 : decode cX11_text 98 = .ok (.isub, 1) := by decide +kernel
theorem dX11_text_99 : decode cX11_text 99 = .ok (.ireturn, 1) := by decide +kernel
theorem dX11_text_100 : decode cX11_text 100 = .ok (.iconst 0, 1) := by decide +kernel
theorem dX11_text_101 : decode cX11_text 101 = .ok (.istore_n 1, 1) := by decide +kernel
theorem dX11_text_102 : decode cX11_text 102 = .ok (.iload_n 1, 1) := by decide +kernel
theorem dX11_text_103 : decode cX11_text 103 = .ok (.aload_n 0, 1) := by decide +kernel
theorem dX11_text_104 : decode cX11_text 104 = .ok (.getfield 188, 3) := by decide +kernel
theorem dX11_text_107 : decode cX11_text 107 = .ok (.if_icmp .ge 59, 3) := by decide +kernel
theorem dX11_text_110 : decode cX11_text 110 = .ok (.aload_n 0, 1) := by decide +kernel
theorem dX11_text_111 : decode cX11_text 111 = .ok (.getfield 24, 3) := by decide +kernel
theorem dX11_text_114 : decode cX11_text 114 = .ok (.sipush 170, 3) := by decide +kernel
theorem dX11_text_117 : decode cX11_text 117 = .ok (.aload_n 0, 1) := by decide +kernel
theorem dX11_text_118 : decode cX11_text 118 = .ok (.getfield 20, 3) := by decide +kernel
theorem dX11_text_121 : decode cX11_text 121 = .ok (.imul, 1) := by decide +kernel
theorem dX11_text_122 : decode cX11_text 122 = .ok (.iload_n 1, 1) := by decide +kernel
theorem dX11_text_123 : decode cX11_text 123 = .ok (.iadd, 1) := by decide +kernel
theorem dX11_text_124 : decode cX11_text 124 = .ok (.aload_n 0, 1) := by decide +kernel
theorem dX11_text_125 : decode cX11_text 125 = .ok (.getfield 24, 3) := by decide +kernel
theorem dX11_text_128 : decode cX11_text 128 = .ok (.sipush 1020, 3) := by decide +kernel
theorem dX11_text_131 : decode cX11_text 131 = .ok (.iload_n 1, 1) := by decide +kernel
theorem dX11_text_132 : decode cX11_text 132 = .ok (.iadd, 1) := by decide +kernel
theorem dX11_text_133 : decode cX11_text 133 = .ok (.iaload, 1) := by decide +kernel
theorem dX11_text_134 : decode cX11_text 134 = .ok (.iastore, 1) := by decide +kernel
theorem dX11_text_135 : decode cX11_text 135 = .ok (.aload_n 0, 1) := by decide +kernel
theorem dX11_text_136 : decode cX11_text 136 = .ok (.getfield 27, 3) := by decide +kernel
theorem dX11_text_139 : decode cX11_text 139 = .ok (.sipush 170, 3) := by decide +kernel
theorem dX11_text_142 : decode cX11_text 142 = .ok (.aload_n 0, 1) := by decide +kernel
theorem dX11_text_143 : decode cX11_text 143 = .ok (.getfield 20, 3) := by decide +kernel
theorem dX11_text_146 : decode cX11_text 146 = .ok (.imul, 1) := by decide +kernel
theorem dX11_text_147 : decode cX11_text 147 = .ok (.iload_n 1, 1) := by decide +kernel
theorem dX11_text_148 : decode cX11_text 148 = .ok (.iadd, 1) := by decide +kernel
theorem dX11_text_149 : decode cX11_text 149 = .ok (.aload_n 0, 1) := by decide +kernel
theorem dX11_text_150 : decode cX11_text 150 = .ok (.getfield 27, 3) := by decide +kernel
theorem dX11_text_153 : decode cX11_text 153 = .ok (.sipush 1020, 3) := by decide +kernel
theorem dX11_text_156 : decode cX11_text 156 = .ok (.iload_n 1, 1) := by decide +kernel
theorem dX11_text_157 : decode cX11_text 157 = .ok (.iadd, 1) := by decide +kernel
theorem dX11_text_158 : decode cX11_text 158 = .ok (.iaload, 1) := by decide +kernel
theorem dX11_text_159 : decode cX11_text 159 = .ok (.iastore, 1) := by decide +kernel
theorem dX11_text_160 : decode cX11_text 160 = .ok (.iinc 1 1, 3) := by decide +kernel
theorem dX11_text_163 : decode cX11_text 163 = .ok (.goto (-61), 3) := by decide +kernel
theorem dX11_text_166 : decode cX11_text 166 = .ok (.iconst 0, 1) := by decide +kernel
theorem dX11_text_167 : decode cX11_text 167 = .ok (.istore_n 1, 1) := by decide +kernel
theorem dX11_text_168 : decode cX11_text 168 = .ok (.iload_n 1, 1) := by decide +kernel
theorem dX11_text_169 : decode cX11_text 169 = .ok (.iconst 3, 1) := by decide +kernel
theorem dX11_text_170 : decode cX11_text 170 = .ok (.if_icmp .ge 31, 3) := by decide +kernel
theorem dX11_text_173 : decode cX11_text 173 = .ok (.aload_n 0, 1) := by decide +kernel
theorem dX11_text_174 : decode cX11_text 174 = .ok (.getfield 30, 3) := by decide +kernel
theorem dX11_text_177 : decode cX11_text 177 = .ok (.iconst 3, 1) := by decide +kernel
theorem dX11_text_178 : decode cX11_text 178 = .ok (.aload_n 0, 1) := by decide +kernel
theorem dX11_text_179 : decode cX11_text 179 = .ok (.getfield 20, 3) := by decide +kernel
theorem dX11_text_182 : decode cX11_text 182 = .ok (.imul, 1) := by decide +kernel
theorem dX11_text_183 : decode cX11_text 183 = .ok (.iload_n 1, 1) := by decide +kernel
theorem dX11_text_184 : decode cX11_text 184 = .ok (.iadd, 1) := by decide +kernel
theorem dX11_text_185 : decode cX11_text 185 = .ok (.aload_n 0, 1) := by decide +kernel
theorem dX11_text_186 : decode cX11_text 186 = .ok (.getfield 30, 3) := by decide +kernel
theorem dX11_text_189 : decode cX11_text 189 = .ok (.bipush 18, 2) := by decide +kernel
theorem dX11_text_191 : decode cX11_text 191 = .ok (.iload_n 1, 1) := by decide +kernel
theorem dX11_text_192 : decode cX11_text 192 = .ok (.iadd, 1) := by decide +kernel
theorem dX11_text_193 : decode cX11_text 193 = .ok (.iaload, 1) := by decide +kernel
theorem dX11_text_194 : decode cX11_text 194 = .ok (.iastore, 1) := by decide +kernel
theorem dX11_text_195 : decode cX11_text 195 = .ok (.iinc 1 1, 3) := by decide +kernel
theorem dX11_text_198 : decode cX11_text 198 = .ok (.goto (-30), 3) := by decide +kernel
theorem dX11_text_201 : decode cX11_text 201 = .ok (.aload_n 0, 1) := by decide +kernel
theorem dX11_text_202 : decode cX11_text 202 = .ok (.dup, 1) := by decide +kernel
theorem dX11_text_203 : decode cX11_text 203 = .ok (.getfield 20, 3) := by decide +kernel
theorem dX11_text_206 : decode cX11_text 206 = .ok (.iconst 1, 1) := by decide +kernel
theorem dX11_text_207 : decode cX11_text 207 = .ok (.iadd, 1) := by decide +kernel
theorem dX11_text_208 : decode cX11_text 208 = .ok (.putfield 20, 3) := by decide +kernel
theorem dX11_text_211 : decode cX11_text 211 = .ok (.aload_n 0, 1) := by decide +kernel
theorem dX11_text_212 : decode cX11_text 212 = .ok (.getfield 20, 3) := by decide +kernel
theorem dX11_text_215 : decode cX11_text 215 = .ok (.iconst 1, 1) := by decide +kernel
theorem dX11_text_216 : decode cX11_text 216 = .ok (.isub, 1) := by decide +kernel
theorem dX11_text_217 : decode cX11_text 217 = .ok (.ireturn, 1) := by decide +kernel
theorem dX11_force_0 : decode cX11_force 0 = .ok (.iload_n 1, 1) := by decide +kernel
theorem dX11_force_1 : decode cX11_force 1 = .ok (.iconst 0, 1) := by decide +kernel
theorem dX11_force_2 : decode cX11_force 2 = .ok (.aload_n 0, 1) := by decide +kernel
theorem dX11_force_3 : decode cX11_force 3 = .ok (.getfield 20, 3) := by decide +kernel
theorem dX11_force_6 : decode cX11_force 6 = .ok (.iconst 1, 1) := by decide +kernel
theorem dX11_force_7 : decode cX11_force 7 = .ok (.isub, 1) := by decide +kernel
theorem dX11_force_8 : decode cX11_force 8 = .ok (.invokestatic 127, 3) := by decide +kernel
theorem dX11_force_11 : decode cX11_force 11 = .ok (.ifCond .ne 6, 3) := by decide +kernel
theorem dX11_force_14 : decode cX11_force 14 = .ok (.bipush (-2), 2) := by decide +kernel
theorem dX11_force_16 : decode cX11_force 16 = .ok (.ireturn, 1) := by decide +kernel
theorem dX11_force_17 : decode cX11_force 17 = .ok (.aload_n 0, 1) := by decide +kernel
theorem dX11_force_18 : decode cX11_force 18 = .ok (.getfield 147, 3) := by decide +kernel
theorem dX11_force_21 : decode cX11_force 21 = .ok (.istore_n 2, 1) := by decide +kernel
theorem dX11_force_22 : decode cX11_force 22 = .ok (.aload_n 0, 1) := by decide +kernel
theorem dX11_force_23 : decode cX11_force 23 = .ok (.iload_n 1, 1) := by decide +kernel
theorem dX11_force_24 : decode cX11_force 24 = .ok (.putfield 147, 3) := by decide +kernel
theorem dX11_force_27 : decode cX11_force 27 = .ok (.iload_n 2, 1) := by decide +kernel
theorem dX11_force_28 : decode cX11_force 28 = .ok (.ireturn, 1) := by decide +kernel
theorem dX11_twoOf_0 : decode cX11_twoOf 0 = .ok (.iload_n 0, 1) := by decide +kernel
theorem dX11_twoOf_1 : decode cX11_twoOf 1 = .ok (.lookupswitch 117 #[(5, 59), (6, 73), (43, 109), (45, 113), (60, 87), (61, 98)], 59) := by decide +kernel
theorem dX11_twoOf_60 : decode cX11_twoOf 60 = .ok (.iload_n 1, 1) := by decide +kernel
theorem dX11_twoOf_61 : decode cX11_twoOf 61 = .ok (.ifCond .ne 7, 3) := by decide +kernel
theorem dX11_twoOf_64 : decode cX11_twoOf 64 = .ok (.iload_n 2, 1) := by decide +kernel
theorem dX11_twoOf_65 : decode cX11_twoOf 65 = .ok (.ifCond .eq 7, 3) := by decide +kernel
theorem dX11_twoOf_68 : decode cX11_twoOf 68 = .ok (.iconst 1, 1) := by decide +kernel
theorem dX11_twoOf_69 : decode cX11_twoOf 69 = .ok (.goto 4, 3) := by decide +kernel
theorem dX11_twoOf_72 : decode cX11_twoOf 72 = .ok (.iconst 0, 1) := by decide +kernel
theorem dX11_twoOf_73 : decode cX11_twoOf 73 = .ok (.ireturn, 1) := by decide +kernel
theorem dX11_twoOf_74 : decode cX11_twoOf 74 = .ok (.iload_n 1, 1) := by decide +kernel
theorem dX11_twoOf_75 : decode cX11_twoOf 75 = .ok (.ifCond .eq 11, 3) := by decide +kernel
theorem dX11_twoOf_78 : decode cX11_twoOf 78 = .ok (.iload_n 2, 1) := by decide +kernel
theorem dX11_twoOf_79 : decode cX11_twoOf 79 = .ok (.ifCond .eq 7, 3) := by decide +kernel
theorem dX11_twoOf_82 : decode cX11_twoOf 82 = .ok (.iconst 1, 1) := by decide +kernel
theorem dX11_twoOf_83 : decode cX11_twoOf 83 = .ok (.goto 4, 3) := by decide +kernel
theorem dX11_twoOf_86 : decode cX11_twoOf 86 = .ok (.iconst 0, 1) := by decide +kernel
theorem dX11_twoOf_87 : decode cX11_twoOf 87 = .ok (.ireturn, 1) := by decide +kernel
theorem dX11_twoOf_88 : decode cX11_twoOf 88 = .ok (.iload_n 1, 1) := by decide +kernel
theorem dX11_twoOf_89 : decode cX11_twoOf 89 = .ok (.iload_n 2, 1) := by decide +kernel
theorem dX11_twoOf_90 : decode cX11_twoOf 90 = .ok (.if_icmp .ge 7, 3) := by decide +kernel
theorem dX11_twoOf_93 : decode cX11_twoOf 93 = .ok (.iconst 1, 1) := by decide +kernel
theorem dX11_twoOf_94 : decode cX11_twoOf 94 = .ok (.goto 4, 3) := by decide +kernel
theorem dX11_twoOf_97 : decode cX11_twoOf 97 = .ok (.iconst 0, 1) := by decide +kernel
theorem dX11_twoOf_98 : decode cX11_twoOf 98 = .ok (.ireturn, 1) := by decide +kernel
theorem dX11_twoOf_99 : decode cX11_twoOf 99 = .ok (.iload_n 1, 1) := by decide +kernel
theorem dX11_twoOf_100 : decode cX11_twoOf 100 = .ok (.iload_n 2, 1) := by decide +kernel
theorem dX11_twoOf_101 : decode cX11_twoOf 101 = .ok (.if_icmp .ne 7, 3) := by decide +kernel
theorem dX11_twoOf_104 : decode cX11_twoOf 104 = .ok (.iconst 1, 1) := by decide +kernel
theorem dX11_twoOf_105 : decode cX11_twoOf 105 = .ok (.goto 4, 3) := by decide +kernel
theorem dX11_twoOf_108 : decode cX11_twoOf 108 = .ok (.iconst 0, 1) := by decide +kernel
theorem dX11_twoOf_109 : decode cX11_twoOf 109 = .ok (.ireturn, 1) := by decide +kernel
theorem dX11_twoOf_110 : decode cX11_twoOf 110 = .ok (.iload_n 1, 1) := by decide +kernel
theorem dX11_twoOf_111 : decode cX11_twoOf 111 = .ok (.iload_n 2, 1) := by decide +kernel
theorem dX11_twoOf_112 : decode cX11_twoOf 112 = .ok (.iadd, 1) := by decide +kernel
theorem dX11_twoOf_113 : decode cX11_twoOf 113 = .ok (.ireturn, 1) := by decide +kernel
theorem dX11_twoOf_114 : decode cX11_twoOf 114 = .ok (.iload_n 1, 1) := by decide +kernel
theorem dX11_twoOf_115 : decode cX11_twoOf 115 = .ok (.iload_n 2, 1) := by decide +kernel
theorem dX11_twoOf_116 : decode cX11_twoOf 116 = .ok (.isub, 1) := by decide +kernel
theorem dX11_twoOf_117 : decode cX11_twoOf 117 = .ok (.ireturn, 1) := by decide +kernel
theorem dX11_twoOf_118 : decode cX11_twoOf 118 = .ok (.iload_n 1, 1) := by decide +kernel
theorem dX11_twoOf_119 : decode cX11_twoOf 119 = .ok (.iload_n 2, 1) := by decide +kernel
theorem dX11_twoOf_120 : decode cX11_twoOf 120 = .ok (.imul, 1) := by decide +kernel
theorem dX11_twoOf_121 : decode cX11_twoOf 121 = .ok (.ireturn, 1) := by decide +kernel
theorem dX11_gives_0 : decode cX11_gives 0 = .ok (.aload_n 0, 1) := by decide +kernel
theorem dX11_gives_1 : decode cX11_gives 1 = .ok (.getfield 147, 3) := by decide +kernel
theorem dX11_gives_4 : decode cX11_gives 4 = .ok (.ifCond .ne 70, 3) := by decide +kernel
theorem dX11_gives_7 : decode cX11_gives 7 = .ok (.iload_n 1, 1) := by decide +kernel
theorem dX11_gives_8 : decode cX11_gives 8 = .ok (.ifCond .ne 45, 3) := by decide +kernel
theorem dX11_gives_11 : decode cX11_gives 11 = .ok (.bipush 95, 2) := by decide +kernel
theorem dX11_gives_13 : decode cX11_gives 13 = .ok (.aload_n 0, 1) := by decide +kernel
theorem dX11_gives_14 : decode cX11_gives 14 = .ok (.getfield 36, 3) := by decide +kernel
theorem dX11_gives_17 : decode cX11_gives 17 = .ok (.iconst 0, 1) := by decide +kernel
theorem dX11_gives_18 : decode cX11_gives 18 = .ok (.iaload, 1) := by decide +kernel
theorem dX11_gives_19 : decode cX11_gives 19 = .ok (.iconst 4, 1) := by decide +kernel
theorem dX11_gives_20 : decode cX11_gives 20 = .ok (.imul, 1) := by decide +kernel
theorem dX11_gives_21 : decode cX11_gives 21 = .ok (.isub, 1) := by decide +kernel
theorem dX11_gives_22 : decode cX11_gives 22 = .ok (.aload_n 0, 1) := by decide +kernel
theorem dX11_gives_23 : decode cX11_gives 23 = .ok (.getfield 36, 3) := by decide +kernel
theorem dX11_gives_26 : decode cX11_gives 26 = .ok (.iconst 1, 1) := by decide +kernel
theorem dX11_gives_27 : decode cX11_gives 27 = .ok (.iaload, 1) := by decide +kernel
theorem dX11_gives_28 : decode cX11_gives 28 = .ok (.iconst 2, 1) := by decide +kernel
theorem dX11_gives_29 : decode cX11_gives 29 = .ok (.imul, 1) := by decide +kernel
theorem dX11_gives_30 : decode cX11_gives 30 = .ok (.iadd, 1) := by decide +kernel
theorem dX11_gives_31 : decode cX11_gives 31 = .ok (.aload_n 0, 1) := by decide +kernel
theorem dX11_gives_32 : decode cX11_gives 32 = .ok (.getfield 36, 3) := by decide +kernel
theorem dX11_gives_35 : decode cX11_gives 35 = .ok (.iconst 2, 1) := by decide +kernel
theorem dX11_gives_36 : decode cX11_gives 36 = .ok (.iaload, 1) := by decide +kernel
theorem dX11_gives_37 : decode cX11_gives 37 = .ok (.iconst 3, 1) := by decide +kernel
theorem dX11_gives_38 : decode cX11_gives 38 = .ok (.imul, 1) := by decide +kernel
theorem dX11_gives_39 : decode cX11_gives 39 = .ok (.isub, 1) := by decide +kernel
theorem dX11_gives_40 : decode cX11_gives 40 = .ok (.aload_n 0, 1) := by decide +kernel
theorem dX11_gives_41 : decode cX11_gives 41 = .ok (.getfield 36, 3) := by decide +kernel
theorem dX11_gives_44 : decode cX11_gives 44 = .ok (.iconst 4, 1) := by decide +kernel
theorem dX11_gives_45 : decode cX11_gives 45 = .ok (.iaload, 1) := by decide +kernel
theorem dX11_gives_46 : decode cX11_gives 46 = .ok (.bipush 40, 2) := by decide +kernel
theorem dX11_gives_48 : decode cX11_gives 48 = .ok (.imul, 1) := by decide +kernel
theorem dX11_gives_49 : decode cX11_gives 49 = .ok (.isub, 1) := by decide +kernel
theorem dX11_gives_50 : decode cX11_gives 50 = .ok (.goto 23, 3) := by decide +kernel
theorem dX11_gives_53 : decode cX11_gives 53 = .ok (.iload_n 1, 1) := by decide +kernel
theorem dX11_gives_54 : decode cX11_gives 54 = .ok (.iconst 1, 1) := by decide +kernel
theorem dX11_gives_55 : decode cX11_gives 55 = .ok (.if_icmp .ne 17, 3) := by decide +kernel
theorem dX11_gives_58 : decode cX11_gives 58 = .ok (.bipush 90, 2) := by decide +kernel
theorem dX11_gives_60 : decode cX11_gives 60 = .ok (.aload_n 0, 1) := by decide +kernel
theorem dX11_gives_61 : decode cX11_gives 61 = .ok (.getfield 36, 3) := by decide +kernel
theorem dX11_gives_64 : decode cX11_gives 64 = .ok (.iconst 0, 1) := by decide +kernel
theorem dX11_gives_65 : decode cX11_gives 65 = .ok (.iaload, 1) := by decide +kernel
theorem dX11_gives_66 : decode cX11_gives 66 = .ok (.iconst 5, 1) := by decide +kernel
theorem dX11_gives_67 : decode cX11_gives 67 = .ok (.imul, 1) := by decide +kernel
theorem dX11_gives_68 : decode cX11_gives 68 = .ok (.isub, 1) := by decide +kernel
theorem dX11_gives_69 : decode cX11_gives 69 = .ok (.goto 4, 3) := by decide +kernel
theorem dX11_gives_72 : decode cX11_gives 72 = .ok (.iconst 1, 1) := by decide +kernel
theorem dX11_gives_73 : decode cX11_gives 73 = .ok (.ireturn, 1) := by decide +kernel
theorem dX11_gives_74 : decode cX11_gives 74 = .ok (.iconst 0, 1) := by decide +kernel
theorem dX11_gives_75 : decode cX11_gives 75 = .ok (.istore_n 2, 1) := by decide +kernel
theorem dX11_gives_76 : decode cX11_gives 76 = .ok (.iload_n 1, 1) := by decide +kernel
theorem dX11_gives_77 : decode cX11_gives 77 = .ok (.ifCond .ne 7, 3) := by decide +kernel
theorem dX11_gives_80 : decode cX11_gives 80 = .ok (.iconst 0, 1) := by decide +kernel
theorem dX11_gives_81 : decode cX11_gives 81 = .ok (.goto 18, 3) := by decide +kernel
theorem dX11_gives_84 : decode cX11_gives 84 = .ok (.aload_n 0, 1) := by decide +kernel
theorem dX11_gives_85 : decode cX11_gives 85 = .ok (.getfield 30, 3) := by decide +kernel
theorem dX11_gives_88 : decode cX11_gives 88 = .ok (.iconst 3, 1) := by decide +kernel
theorem dX11_gives_89 : decode cX11_gives 89 = .ok (.aload_n 0, 1) := by decide +kernel
theorem dX11_gives_90 : decode cX11_gives 90 = .ok (.getfield 147, 3) := by decide +kernel
theorem dX11_gives_93 : decode cX11_gives 93 = .ok (.imul, 1) := by decide +kernel
theorem dX11_gives_94 : decode cX11_gives 94 = .ok (.iload_n 1, 1) := by decide +kernel
theorem dX11_gives_95 : decode cX11_gives 95 = .ok (.iadd, 1) := by decide +kernel
theorem dX11_gives_96 : decode cX11_gives 96 = .ok (.iconst 1, 1) := by decide +kernel
theorem dX11_gives_97 : decode cX11_gives 97 = .ok (.isub, 1) := by decide +kernel
theorem dX11_gives_98 : decode cX11_gives 98 = .ok (.iaload, 1) := by decide +kernel
theorem dX11_gives_99 : decode cX11_gives 99 = .ok (.istore_n 3, 1) := by decide +kernel
theorem dX11_gives_100 : decode cX11_gives 100 = .ok (.sipush 170, 3) := by decide +kernel
theorem dX11_gives_103 : decode cX11_gives 103 = .ok (.aload_n 0, 1) := by decide +kernel
theorem dX11_gives_104 : decode cX11_gives 104 = .ok (.getfield 147, 3) := by decide +kernel
theorem dX11_gives_107 : decode cX11_gives 107 = .ok (.imul, 1) := by decide +kernel
theorem dX11_gives_108 : decode cX11_gives 108 = .ok (.iload_n 3, 1) := by decide +kernel
theorem dX11_gives_109 : decode cX11_gives 109 = .ok (.iadd, 1) := by decide +kernel
theorem dX11_gives_110 : decode cX11_gives 110 = .ok (.istore 4, 2) := by decide +kernel
theorem dX11_gives_112 : decode cX11_gives 112 = .ok (.iload 4, 2) := by decide +kernel
theorem dX11_gives_114 : decode cX11_gives 114 = .ok (.sipush 170, 3) := by decide +kernel
theorem dX11_gives_117 : decode cX11_gives 117 = .ok (.aload_n 0, 1) := by decide +kernel
theorem dX11_gives_118 : decode cX11_gives 118 = .ok (.getfield 147, 3) := by decide +kernel
theorem dX11_gives_121 : decode cX11_gives 121 = .ok (.imul, 1) := by decide +kernel
theorem dX11_gives_122 : decode cX11_gives 122 = .ok (.aload_n 0, 1) := by decide +kernel
theorem dX11_gives_123 : decode cX11_gives 123 = .ok (.getfield 30, 3) := by decide +kernel
theorem dX11_gives_126 : decode cX11_gives 126 = .ok (.iconst 3, 1) := by decide +kernel
theorem dX11_gives_127 : decode cX11_gives 127 = .ok (.aload_n 0, 1) := by decide +kernel
theorem dX11_gives_128 : decode cX11_gives 128 = .ok (.getfield 147, 3) := by decide +kernel
theorem dX11_gives_131 : decode cX11_gives 131 = .ok (.imul, 1) := by decide +kernel
theorem dX11_gives_132 : decode cX11_gives 132 = .ok (.iload_n 1, 1) := by decide +kernel
theorem dX11_gives_133 : decode cX11_gives 133 = .ok (.iadd, 1) := by decide +kernel
theorem dX11_gives_134 : decode cX11_gives 134 = .ok (.iaload, 1) := by decide +kernel
theorem dX11_gives_135 : decode cX11_gives 135 = .ok (.iadd, 1) := by decide +kernel
theorem dX11_gives_136 : decode cX11_gives 136 = .ok (.if_icmp .ge 173, 3) := by decide +kernel
theorem dX11_gives_139 : decode cX11_gives 139 = .ok (.aload_n 0, 1) := by decide +kernel
theorem dX11_gives_140 : decode cX11_gives 140 = .ok (.getfield 24, 3) := by decide +kernel
theorem dX11_gives_143 : decode cX11_gives 143 = .ok (.iload 4, 2) := by decide +kernel
theorem dX11_gives_145 : decode cX11_gives 145 = .ok (.iaload, 1) := by decide +kernel
theorem dX11_gives_146 : decode cX11_gives 146 = .ok (.tableswitch 120 1 4 #[30, 49, 73, 100], 30) := by decide +kernel
theorem dX11_gives_176 : decode cX11_gives 176 = .ok (.aload_n 0, 1) := by decide +kernel
theorem dX11_gives_177 : decode cX11_gives 177 = .ok (.getfield 33, 3) := by decide +kernel
theorem dX11_gives_180 : decode cX11_gives 180 = .ok (.iload_n 2, 1) := by decide +kernel
theorem dX11_gives_181 : decode cX11_gives 181 = .ok (.aload_n 0, 1) := by decide +kernel
theorem dX11_gives_182 : decode cX11_gives 182 = .ok (.getfield 27, 3) := by decide +kernel
theorem dX11_gives_185 : decode cX11_gives 185 = .ok (.iload 4, 2) := by decide +kernel
theorem dX11_gives_187 : decode cX11_gives 187 = .ok (.iaload, 1) := by decide +kernel
theorem dX11_gives_188 : decode cX11_gives 188 = .ok (.iastore, 1) := by decide +kernel
theorem dX11_gives_189 : decode cX11_gives 189 = .ok (.iinc 2 1, 3) := by decide +kernel
theorem dX11_gives_192 : decode cX11_gives 192 = .ok (.goto 111, 3) := by decide +kernel
theorem dX11_gives_195 : decode cX11_gives 195 = .ok (.aload_n 0, 1) := by decide +kernel
theorem dX11_gives_196 : decode cX11_gives 196 = .ok (.getfield 33, 3) := by decide +kernel
theorem dX11_gives_199 : decode cX11_gives 199 = .ok (.iload_n 2, 1) := by decide +kernel
theorem dX11_gives_200 : decode cX11_gives 200 = .ok (.aload_n 0, 1) := by decide +kernel
theorem dX11_gives_201 : decode cX11_gives 201 = .ok (.getfield 36, 3) := by decide +kernel
theorem dX11_gives_204 : decode cX11_gives 204 = .ok (.aload_n 0, 1) := by decide +kernel
theorem dX11_gives_205 : decode cX11_gives 205 = .ok (.getfield 27, 3) := by decide +kernel
theorem dX11_gives_208 : decode cX11_gives 208 = .ok (.iload 4, 2) := by decide +kernel
theorem dX11_gives_210 : decode cX11_gives 210 = .ok (.iaload, 1) := by decide +kernel
theorem dX11_gives_211 : decode cX11_gives 211 = .ok (.iaload, 1) := by decide +kernel
theorem dX11_gives_212 : decode cX11_gives 212 = .ok (.iastore, 1) := by decide +kernel
theorem dX11_gives_213 : decode cX11_gives 213 = .ok (.iinc 2 1, 3) := by decide +kernel
theorem dX11_gives_216 : decode cX11_gives 216 = .ok (.goto 87, 3) := by decide +kernel
theorem dX11_gives_219 : decode cX11_gives 219 = .ok (.aload_n 0, 1) := by decide +kernel
theorem dX11_gives_220 : decode cX11_gives 220 = .ok (.getfield 33, 3) := by decide +kernel
theorem dX11_gives_223 : decode cX11_gives 223 = .ok (.iload_n 2, 1) := by decide +kernel
theorem dX11_gives_224 : decode cX11_gives 224 = .ok (.iconst 1, 1) := by decide +kernel
theorem dX11_gives_225 : decode cX11_gives 225 = .ok (.isub, 1) := by decide +kernel
theorem dX11_gives_226 : decode cX11_gives 226 = .ok (.aload_n 0, 1) := by decide +kernel
theorem dX11_gives_227 : decode cX11_gives 227 = .ok (.getfield 33, 3) := by decide +kernel
theorem dX11_gives_230 : decode cX11_gives 230 = .ok (.iload_n 2, 1) := by decide +kernel
theorem dX11_gives_231 : decode cX11_gives 231 = .ok (.iconst 1, 1) := by decide +kernel
theorem dX11_gives_232 : decode cX11_gives 232 = .ok (.isub, 1) := by decide +kernel
theorem dX11_gives_233 : decode cX11_gives 233 = .ok (.iaload, 1) := by decide +kernel
theorem dX11_gives_234 : decode cX11_gives 234 = .ok (.ifCond .ne 7, 3) := by decide +kernel
theorem dX11_gives_237 : decode cX11_gives 237 = .ok (.iconst 1, 1) := by decide +kernel
theorem dX11_gives_238 : decode cX11_gives 238 = .ok (.goto 4, 3) := by decide +kernel
theorem dX11_gives_241 : decode cX11_gives 241 = .ok (.iconst 0, 1) := by decide +kernel
theorem dX11_gives_242 : decode cX11_gives 242 = .ok (.iastore, 1) := by decide +kernel
theorem dX11_gives_243 : decode cX11_gives 243 = .ok (.goto 60, 3) := by decide +kernel
theorem dX11_gives_246 : decode cX11_gives 246 = .ok (.aload_n 0, 1) := by decide +kernel
theorem dX11_gives_247 : decode cX11_gives 247 = .ok (.getfield 33, 3) := by decide +kernel
theorem dX11_gives_250 : decode cX11_gives 250 = .ok (.iload_n 2, 1) := by decide +kernel
theorem dX11_gives_251 : decode cX11_gives 251 = .ok (.iconst 1, 1) := by decide +kernel
theorem dX11_gives_252 : decode cX11_gives 252 = .ok (.isub, 1) := by decide +kernel
theorem dX11_gives_253 : decode cX11_gives 253 = .ok (.aload_n 0, 1) := by decide +kernel
theorem dX11_gives_254 : decode cX11_gives 254 = .ok (.getfield 33, 3) := by decide +kernel
theorem dX11_gives_257 : decode cX11_gives 257 = .ok (.iload_n 2, 1) := by decide +kernel
theorem dX11_gives_258 : decode cX11_gives 258 = .ok (.iconst 1, 1) := by decide +kernel
theorem dX11_gives_259 : decode cX11_gives 259 = .ok (.isub, 1) := by decide +kernel
theorem dX11_gives_260 : decode cX11_gives 260 = .ok (.iaload, 1) := by decide +kernel
theorem dX11_gives_261 : decode cX11_gives 261 = .ok (.ineg, 1) := by decide +kernel
theorem dX11_gives_262 : decode cX11_gives 262 = .ok (.iastore, 1) := by decide +kernel
theorem dX11_gives_263 : decode cX11_gives 263 = .ok (.goto 40, 3) := by decide +kernel
theorem dX11_gives_266 : decode cX11_gives 266 = .ok (.aload_n 0, 1) := by decide +kernel
theorem dX11_gives_267 : decode cX11_gives 267 = .ok (.getfield 33, 3) := by decide +kernel
theorem dX11_gives_270 : decode cX11_gives 270 = .ok (.iload_n 2, 1) := by decide +kernel
theorem dX11_gives_271 : decode cX11_gives 271 = .ok (.iconst 2, 1) := by decide +kernel
theorem dX11_gives_272 : decode cX11_gives 272 = .ok (.isub, 1) := by decide +kernel
theorem dX11_gives_273 : decode cX11_gives 273 = .ok (.aload_n 0, 1) := by decide +kernel
theorem dX11_gives_274 : decode cX11_gives 274 = .ok (.getfield 24, 3) := by decide +kernel
theorem dX11_gives_277 : decode cX11_gives 277 = .ok (.iload 4, 2) := by decide +kernel
theorem dX11_gives_279 : decode cX11_gives 279 = .ok (.iaload, 1) := by decide +kernel
theorem dX11_gives_280 : decode cX11_gives 280 = .ok (.aload_n 0, 1) := by decide +kernel
theorem dX11_gives_281 : decode cX11_gives 281 = .ok (.getfield 33, 3) := by decide +kernel
theorem dX11_gives_284 : decode cX11_gives 284 = .ok (.iload_n 2, 1) := by decide +kernel
theorem dX11_gives_285 : decode cX11_gives 285 = .ok (.iconst 2, 1) := by decide +kernel
theorem dX11_gives_286 : decode cX11_gives 286 = .ok (.isub, 1) := by decide +kernel
theorem dX11_gives_287 : decode cX11_gives 287 = .ok (.iaload, 1) := by decide +kernel
theorem dX11_gives_288 : decode cX11_gives 288 = .ok (.aload_n 0, 1) := by decide +kernel
theorem dX11_gives_289 : decode cX11_gives 289 = .ok (.getfield 33, 3) := by decide +kernel
theorem dX11_gives_292 : decode cX11_gives 292 = .ok (.iload_n 2, 1) := by decide +kernel
theorem dX11_gives_293 : decode cX11_gives 293 = .ok (.iconst 1, 1) := by decide +kernel
theorem dX11_gives_294 : decode cX11_gives 294 = .ok (.isub, 1) := by decide +kernel
theorem dX11_gives_295 : decode cX11_gives 295 = .ok (.iaload, 1) := by decide +kernel
theorem dX11_gives_296 : decode cX11_gives 296 = .ok (.invokestatic 236, 3) := by decide +kernel
theorem dX11_gives_299 : decode cX11_gives 299 = .ok (.iastore, 1) := by decide +kernel
theorem dX11_gives_300 : decode cX11_gives 300 = .ok (.iinc 2 (-1), 3) := by decide +kernel
theorem dX11_gives_303 : decode cX11_gives 303 = .ok (.iinc 4 1, 3) := by decide +kernel
theorem dX11_gives_306 : decode cX11_gives 306 = .ok (.goto (-194), 3) := by decide +kernel
theorem dX11_gives_309 : decode cX11_gives 309 = .ok (.aload_n 0, 1) := by decide +kernel
theorem dX11_gives_310 : decode cX11_gives 310 = .ok (.getfield 33, 3) := by decide +kernel
theorem dX11_gives_313 : decode cX11_gives 313 = .ok (.iconst 0, 1) := by decide +kernel
theorem dX11_gives_314 : decode cX11_gives 314 = .ok (.iaload, 1) := by decide +kernel
theorem dX11_gives_315 : decode cX11_gives 315 = .ok (.ireturn, 1) := by decide +kernel
theorem dX11_says_0 : decode cX11_says 0 = .ok (.aload_n 0, 1) := by decide +kernel
theorem dX11_says_1 : decode cX11_says 1 = .ok (.getfield 36, 3) := by decide +kernel
theorem dX11_says_4 : decode cX11_says 4 = .ok (.iconst 0, 1) := by decide +kernel
theorem dX11_says_5 : decode cX11_says 5 = .ok (.aload_n 0, 1) := by decide +kernel
theorem dX11_says_6 : decode cX11_says 6 = .ok (.iload_n 2, 1) := by decide +kernel
theorem dX11_says_7 : decode cX11_says 7 = .ok (.invokevirtual 161, 3) := by decide +kernel
theorem dX11_says_10 : decode cX11_says 10 = .ok (.iastore, 1) := by decide +kernel
theorem dX11_says_11 : decode cX11_says 11 = .ok (.aload_n 0, 1) := by decide +kernel
theorem dX11_says_12 : decode cX11_says 12 = .ok (.getfield 36, 3) := by decide +kernel
theorem dX11_says_15 : decode cX11_says 15 = .ok (.iconst 1, 1) := by decide +kernel
theorem dX11_says_16 : decode cX11_says 16 = .ok (.aload_n 0, 1) := by decide +kernel
theorem dX11_says_17 : decode cX11_says 17 = .ok (.getfield 7, 3) := by decide +kernel
theorem dX11_says_20 : decode cX11_says 20 = .ok (.iconst 2, 1) := by decide +kernel
theorem dX11_says_21 : decode cX11_says 21 = .ok (.iaload, 1) := by decide +kernel
theorem dX11_says_22 : decode cX11_says 22 = .ok (.iastore, 1) := by decide +kernel
theorem dX11_says_23 : decode cX11_says 23 = .ok (.aload_n 0, 1) := by decide +kernel
theorem dX11_says_24 : decode cX11_says 24 = .ok (.getfield 36, 3) := by decide +kernel
theorem dX11_says_27 : decode cX11_says 27 = .ok (.iconst 2, 1) := by decide +kernel
theorem dX11_says_28 : decode cX11_says 28 = .ok (.aload_n 0, 1) := by decide +kernel
theorem dX11_says_29 : decode cX11_says 29 = .ok (.getfield 7, 3) := by decide +kernel
theorem dX11_says_32 : decode cX11_says 32 = .ok (.iconst 3, 1) := by decide +kernel
theorem dX11_says_33 : decode cX11_says 33 = .ok (.iaload, 1) := by decide +kernel
theorem dX11_says_34 : decode cX11_says 34 = .ok (.iastore, 1) := by decide +kernel
theorem dX11_says_35 : decode cX11_says 35 = .ok (.aload_n 0, 1) := by decide +kernel
theorem dX11_says_36 : decode cX11_says 36 = .ok (.getfield 36, 3) := by decide +kernel
theorem dX11_says_39 : decode cX11_says 39 = .ok (.iconst 3, 1) := by decide +kernel
theorem dX11_says_40 : decode cX11_says 40 = .ok (.iload_n 3, 1) := by decide +kernel
theorem dX11_says_41 : decode cX11_says 41 = .ok (.iastore, 1) := by decide +kernel
theorem dX11_says_42 : decode cX11_says 42 = .ok (.aload_n 0, 1) := by decide +kernel
theorem dX11_says_43 : decode cX11_says 43 = .ok (.getfield 36, 3) := by decide +kernel
theorem dX11_says_46 : decode cX11_says 46 = .ok (.iconst 4, 1) := by decide +kernel
theorem dX11_says_47 : decode cX11_says 47 = .ok (.aload_n 0, 1) := by decide +kernel
theorem dX11_says_48 : decode cX11_says 48 = .ok (.getfield 7, 3) := by decide +kernel
theorem dX11_says_51 : decode cX11_says 51 = .ok (.iconst 4, 1) := by decide +kernel
theorem dX11_says_52 : decode cX11_says 52 = .ok (.iaload, 1) := by decide +kernel
theorem dX11_says_53 : decode cX11_says 53 = .ok (.iload_n 2, 1) := by decide +kernel
theorem dX11_says_54 : decode cX11_says 54 = .ok (.ishr, 1) := by decide +kernel
theorem dX11_says_55 : decode cX11_says 55 = .ok (.iconst 1, 1) := by decide +kernel
theorem dX11_says_56 : decode cX11_says 56 = .ok (.iand, 1) := by decide +kernel
theorem dX11_says_57 : decode cX11_says 57 = .ok (.iastore, 1) := by decide +kernel
theorem dX11_says_58 : decode cX11_says 58 = .ok (.aload_n 0, 1) := by decide +kernel
theorem dX11_says_59 : decode cX11_says 59 = .ok (.getfield 36, 3) := by decide +kernel
theorem dX11_says_62 : decode cX11_says 62 = .ok (.iconst 5, 1) := by decide +kernel
theorem dX11_says_63 : decode cX11_says 63 = .ok (.iload_n 2, 1) := by decide +kernel
theorem dX11_says_64 : decode cX11_says 64 = .ok (.iastore, 1) := by decide +kernel
theorem dX11_says_65 : decode cX11_says 65 = .ok (.iload_n 1, 1) := by decide +kernel
theorem dX11_says_66 : decode cX11_says 66 = .ok (.iconst 2, 1) := by decide +kernel
theorem dX11_says_67 : decode cX11_says 67 = .ok (.if_icmp .ne 17, 3) := by decide +kernel
theorem dX11_says_70 : decode cX11_says 70 = .ok (.aload_n 0, 1) := by decide +kernel
theorem dX11_says_71 : decode cX11_says 71 = .ok (.iload_n 1, 1) := by decide +kernel
theorem dX11_says_72 : decode cX11_says 72 = .ok (.invokevirtual 240, 3) := by decide +kernel
theorem dX11_says_75 : decode cX11_says 75 = .ok (.iconst 1, 1) := by decide +kernel
theorem dX11_says_76 : decode cX11_says 76 = .ok (.bipush 6, 2) := by decide +kernel
theorem dX11_says_78 : decode cX11_says 78 = .ok (.invokestatic 243, 3) := by decide +kernel
theorem dX11_says_81 : decode cX11_says 81 = .ok (.goto 14, 3) := by decide +kernel
theorem dX11_says_84 : decode cX11_says 84 = .ok (.aload_n 0, 1) := by decide +kernel
theorem dX11_says_85 : decode cX11_says 85 = .ok (.iload_n 1, 1) := by decide +kernel
theorem dX11_says_86 : decode cX11_says 86 = .ok (.invokevirtual 240, 3) := by decide +kernel
theorem dX11_says_89 : decode cX11_says 89 = .ok (.iconst 0, 1) := by decide +kernel
theorem dX11_says_90 : decode cX11_says 90 = .ok (.bipush 100, 2) := by decide +kernel
theorem dX11_says_92 : decode cX11_says 92 = .ok (.invokestatic 243, 3) := by decide +kernel
theorem dX11_says_95 : decode cX11_says 95 = .ok (.ireturn, 1) := by decide +kernel
theorem dX11_asks_0 : decode cX11_asks 0 = .ok (.iload_n 1, 1) := by decide +kernel
theorem dX11_asks_1 : decode cX11_asks 1 = .ok (.iconst 0, 1) := by decide +kernel
theorem dX11_asks_2 : decode cX11_asks 2 = .ok (.iconst 2, 1) := by decide +kernel
theorem dX11_asks_3 : decode cX11_asks 3 = .ok (.invokestatic 127, 3) := by decide +kernel
theorem dX11_asks_6 : decode cX11_asks 6 = .ok (.ifCond .eq 30, 3) := by decide +kernel
theorem dX11_asks_9 : decode cX11_asks 9 = .ok (.aload_n 0, 1) := by decide +kernel
theorem dX11_asks_10 : decode cX11_asks 10 = .ok (.iload_n 2, 1) := by decide +kernel
theorem dX11_asks_11 : decode cX11_asks 11 = .ok (.invokevirtual 157, 3) := by decide +kernel
theorem dX11_asks_14 : decode cX11_asks 14 = .ok (.ifCond .eq 22, 3) := by decide +kernel
theorem dX11_asks_17 : decode cX11_asks 17 = .ok (.iload_n 3, 1) := by decide +kernel
theorem dX11_asks_18 : decode cX11_asks 18 = .ok (.iconst 0, 1) := by decide +kernel
theorem dX11_asks_19 : decode cX11_asks 19 = .ok (.iconst 5, 1) := by decide +kernel
theorem dX11_asks_20 : decode cX11_asks 20 = .ok (.invokestatic 127, 3) := by decide +kernel
theorem dX11_asks_23 : decode cX11_asks 23 = .ok (.ifCond .eq 13, 3) := by decide +kernel
theorem dX11_asks_26 : decode cX11_asks 26 = .ok (.aload_n 0, 1) := by decide +kernel
theorem dX11_asks_27 : decode cX11_asks 27 = .ok (.iload_n 1, 1) := by decide +kernel
theorem dX11_asks_28 : decode cX11_asks 28 = .ok (.iload_n 2, 1) := by decide +kernel
theorem dX11_asks_29 : decode cX11_asks 29 = .ok (.iload_n 3, 1) := by decide +kernel
theorem dX11_asks_30 : decode cX11_asks 30 = .ok (.invokevirtual 246, 3) := by decide +kernel
theorem dX11_asks_33 : decode cX11_asks 33 = .ok (.goto 5, 3) := by decide +kernel
theorem dX11_asks_36 : decode cX11_asks 36 = .ok (.bipush (-2), 2) := by decide +kernel
theorem dX11_asks_38 : decode cX11_asks 38 = .ok (.ireturn, 1) := by decide +kernel
theorem dX11_isSaying_0 : decode cX11_isSaying 0 = .ok (.iload_n 1, 1) := by decide +kernel
theorem dX11_isSaying_1 : decode cX11_isSaying 1 = .ok (.iconst 0, 1) := by decide +kernel
theorem dX11_isSaying_2 : decode cX11_isSaying 2 = .ok (.aload_n 0, 1) := by decide +kernel
theorem dX11_isSaying_3 : decode cX11_isSaying 3 = .ok (.getfield 135, 3) := by decide +kernel
theorem dX11_isSaying_6 : decode cX11_isSaying 6 = .ok (.iconst 1, 1) := by decide +kernel
theorem dX11_isSaying_7 : decode cX11_isSaying 7 = .ok (.isub, 1) := by decide +kernel
theorem dX11_isSaying_8 : decode cX11_isSaying 8 = .ok (.invokestatic 127, 3) := by decide +kernel
theorem dX11_isSaying_11 : decode cX11_isSaying 11 = .ok (.ireturn, 1) := by decide +kernel
theorem dX11_say_0 : decode cX11_say 0 = .ok (.iload_n 1, 1) := by decide +kernel
theorem dX11_say_1 : decode cX11_say 1 = .ok (.iconst 0, 1) := by decide +kernel
theorem dX11_say_2 : decode cX11_say 2 = .ok (.iconst 5, 1) := by decide +kernel
theorem dX11_say_3 : decode cX11_say 3 = .ok (.invokestatic 127, 3) := by decide +kernel
theorem dX11_say_6 : decode cX11_say 6 = .ok (.ifCond .eq 22, 3) := by decide +kernel
theorem dX11_say_9 : decode cX11_say 9 = .ok (.iload_n 2, 1) := by decide +kernel
theorem dX11_say_10 : decode cX11_say 10 = .ok (.iconst 0, 1) := by decide +kernel
theorem dX11_say_11 : decode cX11_say 11 = .ok (.iconst 5, 1) := by decide +kernel
theorem dX11_say_12 : decode cX11_say 12 = .ok (.invokestatic 127, 3) := by decide +kernel
theorem dX11_say_15 : decode cX11_say 15 = .ok (.ifCond .eq 13, 3) := by decide +kernel
theorem dX11_say_18 : decode cX11_say 18 = .ok (.iload_n 3, 1) := by decide +kernel
theorem dX11_say_19 : decode cX11_say 19 = .ok (.iconst 0, 1) := by decide +kernel
theorem dX11_say_20 : decode cX11_say 20 = .ok (.bipush 9, 2) := by decide +kernel
theorem dX11_say_22 : decode cX11_say 22 = .ok (.invokestatic 127, 3) := by decide +kernel
theorem dX11_say_25 : decode cX11_say 25 = .ok (.ifCond .ne 6, 3) := by decide +kernel
theorem dX11_say_28 : decode cX11_say 28 = .ok (.bipush (-2), 2) := by decide +kernel
theorem dX11_say_30 : decode cX11_say 30 = .ok (.ireturn, 1) := by decide +kernel
theorem dX11_say_31 : decode cX11_say 31 = .ok (.aload_n 0, 1) := by decide +kernel
theorem dX11_say_32 : decode cX11_say 32 = .ok (.getfield 135, 3) := by decide +kernel
theorem dX11_say_35 : decode cX11_say 35 = .ok (.bipush 8, 2) := by decide +kernel
theorem dX11_say_37 : decode cX11_say 37 = .ok (.if_icmp .ne 6, 3) := by decide +kernel
theorem dX11_say_40 : decode cX11_say 40 = .ok (.bipush (-4), 2) := by decide +kernel
theorem dX11_say_42 : decode cX11_say 42 = .ok (.ireturn, 1) := by decide +kernel
theorem dX11_say_43 : decode cX11_say 43 = .ok (.aload_n 0, 1) := by decide +kernel
theorem dX11_say_44 : decode cX11_say 44 = .ok (.getfield 45, 3) := by decide +kernel
theorem dX11_say_47 : decode cX11_say 47 = .ok (.aload_n 0, 1) := by decide +kernel
theorem dX11_say_48 : decode cX11_say 48 = .ok (.getfield 135, 3) := by decide +kernel
theorem dX11_say_51 : decode cX11_say 51 = .ok (.iload_n 1, 1) := by decide +kernel
theorem dX11_say_52 : decode cX11_say 52 = .ok (.iastore, 1) := by decide +kernel
theorem dX11_say_53 : decode cX11_say 53 = .ok (.aload_n 0, 1) := by decide +kernel
theorem dX11_say_54 : decode cX11_say 54 = .ok (.getfield 48, 3) := by decide +kernel
theorem dX11_say_57 : decode cX11_say 57 = .ok (.aload_n 0, 1) := by decide +kernel
theorem dX11_say_58 : decode cX11_say 58 = .ok (.getfield 135, 3) := by decide +kernel
theorem dX11_say_61 : decode cX11_say 61 = .ok (.iload_n 2, 1) := by decide +kernel
theorem dX11_say_62 : decode cX11_say 62 = .ok (.iastore, 1) := by decide +kernel
theorem dX11_say_63 : decode cX11_say 63 = .ok (.aload_n 0, 1) := by decide +kernel
theorem dX11_say_64 : decode cX11_say 64 = .ok (.getfield 51, 3) := by decide +kernel
theorem dX11_say_67 : decode cX11_say 67 = .ok (.aload_n 0, 1) := by decide +kernel
theorem dX11_say_68 : decode cX11_say 68 = .ok (.getfield 135, 3) := by decide +kernel
theorem dX11_say_71 : decode cX11_say 71 = .ok (.iload_n 3, 1) := by decide +kernel
theorem dX11_say_72 : decode cX11_say 72 = .ok (.iastore, 1) := by decide +kernel
theorem dX11_say_73 : decode cX11_say 73 = .ok (.aload_n 0, 1) := by decide +kernel
theorem dX11_say_74 : decode cX11_say 74 = .ok (.dup, 1) := by decide +kernel
theorem dX11_say_75 : decode cX11_say 75 = .ok (.getfield 135, 3) := by decide +kernel
theorem dX11_say_78 : decode cX11_say 78 = .ok (.iconst 1, 1) := by decide +kernel
theorem dX11_say_79 : decode cX11_say 79 = .ok (.iadd, 1) := by decide +kernel
theorem dX11_say_80 : decode cX11_say 80 = .ok (.putfield 135, 3) := by decide +kernel
theorem dX11_say_83 : decode cX11_say 83 = .ok (.aload_n 0, 1) := by decide +kernel
theorem dX11_say_84 : decode cX11_say 84 = .ok (.getfield 135, 3) := by decide +kernel
theorem dX11_say_87 : decode cX11_say 87 = .ok (.iconst 1, 1) := by decide +kernel
theorem dX11_say_88 : decode cX11_say 88 = .ok (.isub, 1) := by decide +kernel
theorem dX11_say_89 : decode cX11_say 89 = .ok (.ireturn, 1) := by decide +kernel
theorem dX11_figured_0 : decode cX11_figured 0 = .ok (.bipush 100, 2) := by decide +kernel
theorem dX11_figured_2 : decode cX11_figured 2 = .ok (.istore_n 2, 1) := by decide +kernel
theorem dX11_figured_3 : decode cX11_figured 3 = .ok (.iconst 0, 1) := by decide +kernel
theorem dX11_figured_4 : decode cX11_figured 4 = .ok (.istore_n 3, 1) := by decide +kernel
theorem dX11_figured_5 : decode cX11_figured 5 = .ok (.iload_n 3, 1) := by decide +kernel
theorem dX11_figured_6 : decode cX11_figured 6 = .ok (.iload_n 1, 1) := by decide +kernel
theorem dX11_figured_7 : decode cX11_figured 7 = .ok (.if_icmp .gt 25, 3) := by decide +kernel
theorem dX11_figured_10 : decode cX11_figured 10 = .ok (.iload_n 2, 1) := by decide +kernel
theorem dX11_figured_11 : decode cX11_figured 11 = .ok (.iload_n 0, 1) := by decide +kernel
theorem dX11_figured_12 : decode cX11_figured 12 = .ok (.bipush 10, 2) := by decide +kernel
theorem dX11_figured_14 : decode cX11_figured 14 = .ok (.iadd, 1) := by decide +kernel
theorem dX11_figured_15 : decode cX11_figured 15 = .ok (.iconst 0, 1) := by decide +kernel
theorem dX11_figured_16 : decode cX11_figured 16 = .ok (.bipush 100, 2) := by decide +kernel
theorem dX11_figured_18 : decode cX11_figured 18 = .ok (.invokestatic 243, 3) := by decide +kernel
theorem dX11_figured_21 : decode cX11_figured 21 = .ok (.imul, 1) := by decide +kernel
theorem dX11_figured_22 : decode cX11_figured 22 = .ok (.bipush 100, 2) := by decide +kernel
theorem dX11_figured_24 : decode cX11_figured 24 = .ok (.idiv, 1) := by decide +kernel
theorem dX11_figured_25 : decode cX11_figured 25 = .ok (.istore_n 2, 1) := by decide +kernel
theorem dX11_figured_26 : decode cX11_figured 26 = .ok (.iinc 3 1, 3) := by decide +kernel
theorem dX11_figured_29 : decode cX11_figured 29 = .ok (.goto (-24), 3) := by decide +kernel
theorem dX11_figured_32 : decode cX11_figured 32 = .ok (.iload_n 2, 1) := by decide +kernel
theorem dX11_figured_33 : decode cX11_figured 33 = .ok (.ireturn, 1) := by decide +kernel
theorem dX11_likely_0 : decode cX11_likely 0 = .ok (.aload_n 0, 1) := by decide +kernel
theorem dX11_likely_1 : decode cX11_likely 1 = .ok (.iconst 0, 1) := by decide +kernel
theorem dX11_likely_2 : decode cX11_likely 2 = .ok (.iload_n 2, 1) := by decide +kernel
theorem dX11_likely_3 : decode cX11_likely 3 = .ok (.aload_n 0, 1) := by decide +kernel
theorem dX11_likely_4 : decode cX11_likely 4 = .ok (.getfield 48, 3) := by decide +kernel
theorem dX11_likely_7 : decode cX11_likely 7 = .ok (.iload_n 1, 1) := by decide +kernel
theorem dX11_likely_8 : decode cX11_likely 8 = .ok (.iaload, 1) := by decide +kernel
theorem dX11_likely_9 : decode cX11_likely 9 = .ok (.invokevirtual 246, 3) := by decide +kernel
theorem dX11_likely_12 : decode cX11_likely 12 = .ok (.istore_n 3, 1) := by decide +kernel
theorem dX11_likely_13 : decode cX11_likely 13 = .ok (.iload_n 3, 1) := by decide +kernel
theorem dX11_likely_14 : decode cX11_likely 14 = .ok (.iconst 3, 1) := by decide +kernel
theorem dX11_likely_15 : decode cX11_likely 15 = .ok (.aload_n 0, 1) := by decide +kernel
theorem dX11_likely_16 : decode cX11_likely 16 = .ok (.getfield 51, 3) := by decide +kernel
theorem dX11_likely_19 : decode cX11_likely 19 = .ok (.iload_n 1, 1) := by decide +kernel
theorem dX11_likely_20 : decode cX11_likely 20 = .ok (.iaload, 1) := by decide +kernel
theorem dX11_likely_21 : decode cX11_likely 21 = .ok (.imul, 1) := by decide +kernel
theorem dX11_likely_22 : decode cX11_likely 22 = .ok (.iadd, 1) := by decide +kernel
theorem dX11_likely_23 : decode cX11_likely 23 = .ok (.iconst 0, 1) := by decide +kernel
theorem dX11_likely_24 : decode cX11_likely 24 = .ok (.bipush 100, 2) := by decide +kernel
theorem dX11_likely_26 : decode cX11_likely 26 = .ok (.invokestatic 243, 3) := by decide +kernel
theorem dX11_likely_29 : decode cX11_likely 29 = .ok (.istore 4, 2) := by decide +kernel
theorem dX11_likely_31 : decode cX11_likely 31 = .ok (.aload_n 0, 1) := by decide +kernel
theorem dX11_likely_32 : decode cX11_likely 32 = .ok (.getfield 45, 3) := by decide +kernel
theorem dX11_likely_35 : decode cX11_likely 35 = .ok (.iload_n 1, 1) := by decide +kernel
theorem dX11_likely_36 : decode cX11_likely 36 = .ok (.iaload, 1) := by decide +kernel
theorem dX11_likely_37 : decode cX11_likely 37 = .ok (.tableswitch 113 1 5 #[35, 38, 49, 64, 77], 35) := by decide +kernel
theorem dX11_likely_72 : decode cX11_likely 72 = .ok (.iload 4, 2) := by decide +kernel
theorem dX11_likely_74 : decode cX11_likely 74 = .ok (.ireturn, 1) := by decide +kernel
theorem dX11_likely_75 : decode cX11_likely 75 = .ok (.iload_n 3, 1) := by decide +kernel
theorem dX11_likely_76 : decode cX11_likely 76 = .ok (.aload_n 0, 1) := by decide +kernel
theorem dX11_likely_77 : decode cX11_likely 77 = .ok (.getfield 51, 3) := by decide +kernel
theorem dX11_likely_80 : decode cX11_likely 80 = .ok (.iload_n 1, 1) := by decide +kernel
theorem dX11_likely_81 : decode cX11_likely 81 = .ok (.iaload, 1) := by decide +kernel
theorem dX11_likely_82 : decode cX11_likely 82 = .ok (.invokestatic 249, 3) := by decide +kernel
theorem dX11_likely_85 : decode cX11_likely 85 = .ok (.ireturn, 1) := by decide +kernel
theorem dX11_likely_86 : decode cX11_likely 86 = .ok (.iload 4, 2) := by decide +kernel
theorem dX11_likely_88 : decode cX11_likely 88 = .ok (.bipush 100, 2) := by decide +kernel
theorem dX11_likely_90 : decode cX11_likely 90 = .ok (.iload 4, 2) := by decide +kernel
theorem dX11_likely_92 : decode cX11_likely 92 = .ok (.isub, 1) := by decide +kernel
theorem dX11_likely_93 : decode cX11_likely 93 = .ok (.iload 4, 2) := by decide +kernel
theorem dX11_likely_95 : decode cX11_likely 95 = .ok (.imul, 1) := by decide +kernel
theorem dX11_likely_96 : decode cX11_likely 96 = .ok (.bipush 100, 2) := by decide +kernel
theorem dX11_likely_98 : decode cX11_likely 98 = .ok (.idiv, 1) := by decide +kernel
theorem dX11_likely_99 : decode cX11_likely 99 = .ok (.iadd, 1) := by decide +kernel
theorem dX11_likely_100 : decode cX11_likely 100 = .ok (.ireturn, 1) := by decide +kernel
theorem dX11_likely_101 : decode cX11_likely 101 = .ok (.aload_n 0, 1) := by decide +kernel
theorem dX11_likely_102 : decode cX11_likely 102 = .ok (.iconst 1, 1) := by decide +kernel
theorem dX11_likely_103 : decode cX11_likely 103 = .ok (.iload_n 2, 1) := by decide +kernel
theorem dX11_likely_104 : decode cX11_likely 104 = .ok (.aload_n 0, 1) := by decide +kernel
theorem dX11_likely_105 : decode cX11_likely 105 = .ok (.getfield 48, 3) := by decide +kernel
theorem dX11_likely_108 : decode cX11_likely 108 = .ok (.iload_n 1, 1) := by decide +kernel
theorem dX11_likely_109 : decode cX11_likely 109 = .ok (.iaload, 1) := by decide +kernel
theorem dX11_likely_110 : decode cX11_likely 110 = .ok (.invokevirtual 246, 3) := by decide +kernel
theorem dX11_likely_113 : decode cX11_likely 113 = .ok (.ireturn, 1) := by decide +kernel
theorem dX11_likely_114 : decode cX11_likely 114 = .ok (.aload_n 0, 1) := by decide +kernel
theorem dX11_likely_115 : decode cX11_likely 115 = .ok (.iload_n 2, 1) := by decide +kernel
theorem dX11_likely_116 : decode cX11_likely 116 = .ok (.invokevirtual 161, 3) := by decide +kernel
theorem dX11_likely_119 : decode cX11_likely 119 = .ok (.iconst 2, 1) := by decide +kernel
theorem dX11_likely_120 : decode cX11_likely 120 = .ok (.aload_n 0, 1) := by decide +kernel
theorem dX11_likely_121 : decode cX11_likely 121 = .ok (.getfield 51, 3) := by decide +kernel
theorem dX11_likely_124 : decode cX11_likely 124 = .ok (.iload_n 1, 1) := by decide +kernel
theorem dX11_likely_125 : decode cX11_likely 125 = .ok (.iaload, 1) := by decide +kernel
theorem dX11_likely_126 : decode cX11_likely 126 = .ok (.imul, 1) := by decide +kernel
theorem dX11_likely_127 : decode cX11_likely 127 = .ok (.if_icmp .gt 8, 3) := by decide +kernel
theorem dX11_likely_130 : decode cX11_likely 130 = .ok (.bipush 100, 2) := by decide +kernel
theorem dX11_likely_132 : decode cX11_likely 132 = .ok (.goto 17, 3) := by decide +kernel
theorem dX11_likely_135 : decode cX11_likely 135 = .ok (.aload_n 0, 1) := by decide +kernel
theorem dX11_likely_136 : decode cX11_likely 136 = .ok (.iconst 1, 1) := by decide +kernel
theorem dX11_likely_137 : decode cX11_likely 137 = .ok (.iload_n 2, 1) := by decide +kernel
theorem dX11_likely_138 : decode cX11_likely 138 = .ok (.aload_n 0, 1) := by decide +kernel
theorem dX11_likely_139 : decode cX11_likely 139 = .ok (.getfield 48, 3) := by decide +kernel
theorem dX11_likely_142 : decode cX11_likely 142 = .ok (.iload_n 1, 1) := by decide +kernel
theorem dX11_likely_143 : decode cX11_likely 143 = .ok (.iaload, 1) := by decide +kernel
theorem dX11_likely_144 : decode cX11_likely 144 = .ok (.invokevirtual 246, 3) := by decide +kernel
theorem dX11_likely_147 : decode cX11_likely 147 = .ok (.iconst 2, 1) := by decide +kernel
theorem dX11_likely_148 : decode cX11_likely 148 = .ok (.idiv, 1) := by decide +kernel
theorem dX11_likely_149 : decode cX11_likely 149 = .ok (.ireturn, 1) := by decide +kernel
theorem dX11_likely_150 : decode cX11_likely 150 = .ok (.iload_n 3, 1) := by decide +kernel
theorem dX11_likely_151 : decode cX11_likely 151 = .ok (.ireturn, 1) := by decide +kernel
theorem dX11_takesIn_0 : decode cX11_takesIn 0 = .ok (.aload_n 0, 1) := by decide +kernel
theorem dX11_takesIn_1 : decode cX11_takesIn 1 = .ok (.iconst 2, 1) := by decide +kernel
theorem dX11_takesIn_2 : decode cX11_takesIn 2 = .ok (.iload_n 2, 1) := by decide +kernel
theorem dX11_takesIn_3 : decode cX11_takesIn 3 = .ok (.aload_n 0, 1) := by decide +kernel
theorem dX11_takesIn_4 : decode cX11_takesIn 4 = .ok (.getfield 48, 3) := by decide +kernel
theorem dX11_takesIn_7 : decode cX11_takesIn 7 = .ok (.iload_n 1, 1) := by decide +kernel
theorem dX11_takesIn_8 : decode cX11_takesIn 8 = .ok (.iaload, 1) := by decide +kernel
theorem dX11_takesIn_9 : decode cX11_takesIn 9 = .ok (.invokevirtual 246, 3) := by decide +kernel
theorem dX11_takesIn_12 : decode cX11_takesIn 12 = .ok (.istore_n 3, 1) := by decide +kernel
theorem dX11_takesIn_13 : decode cX11_takesIn 13 = .ok (.aload_n 0, 1) := by decide +kernel
theorem dX11_takesIn_14 : decode cX11_takesIn 14 = .ok (.getfield 45, 3) := by decide +kernel
theorem dX11_takesIn_17 : decode cX11_takesIn 17 = .ok (.iload_n 1, 1) := by decide +kernel
theorem dX11_takesIn_18 : decode cX11_takesIn 18 = .ok (.iaload, 1) := by decide +kernel
theorem dX11_takesIn_19 : decode cX11_takesIn 19 = .ok (.tableswitch 48 2 5 #[29, 40, 48, 44], 29) := by decide +kernel
theorem dX11_takesIn_48 : decode cX11_takesIn 48 = .ok (.iload_n 3, 1) := by decide +kernel
theorem dX11_takesIn_49 : decode cX11_takesIn 49 = .ok (.aload_n 0, 1) := by decide +kernel
theorem dX11_takesIn_50 : decode cX11_takesIn 50 = .ok (.getfield 51, 3) := by decide +kernel
theorem dX11_takesIn_53 : decode cX11_takesIn 53 = .ok (.iload_n 1, 1) := by decide +kernel
theorem dX11_takesIn_54 : decode cX11_takesIn 54 = .ok (.iaload, 1) := by decide +kernel
theorem dX11_takesIn_55 : decode cX11_takesIn 55 = .ok (.iconst 3, 1) := by decide +kernel
theorem dX11_takesIn_56 : decode cX11_takesIn 56 = .ok (.idiv, 1) := by decide +kernel
theorem dX11_takesIn_57 : decode cX11_takesIn 57 = .ok (.iadd, 1) := by decide +kernel
theorem dX11_takesIn_58 : decode cX11_takesIn 58 = .ok (.ireturn, 1) := by decide +kernel
theorem dX11_takesIn_59 : decode cX11_takesIn 59 = .ok (.iconst 2, 1) := by decide +kernel
theorem dX11_takesIn_60 : decode cX11_takesIn 60 = .ok (.iload_n 3, 1) := by decide +kernel
theorem dX11_takesIn_61 : decode cX11_takesIn 61 = .ok (.imul, 1) := by decide +kernel
theorem dX11_takesIn_62 : decode cX11_takesIn 62 = .ok (.ireturn, 1) := by decide +kernel
theorem dX11_takesIn_63 : decode cX11_takesIn 63 = .ok (.iload_n 3, 1) := by decide +kernel
theorem dX11_takesIn_64 : decode cX11_takesIn 64 = .ok (.iconst 1, 1) := by decide +kernel
theorem dX11_takesIn_65 : decode cX11_takesIn 65 = .ok (.iadd, 1) := by decide +kernel
theorem dX11_takesIn_66 : decode cX11_takesIn 66 = .ok (.ireturn, 1) := by decide +kernel
theorem dX11_takesIn_67 : decode cX11_takesIn 67 = .ok (.iload_n 3, 1) := by decide +kernel
theorem dX11_takesIn_68 : decode cX11_takesIn 68 = .ok (.ireturn, 1) := by decide +kernel
theorem dX11_told_0 : decode cX11_told 0 = .ok (.aload_n 0, 1) := by decide +kernel
theorem dX11_told_1 : decode cX11_told 1 = .ok (.iload_n 1, 1) := by decide +kernel
theorem dX11_told_2 : decode cX11_told 2 = .ok (.invokevirtual 253, 3) := by decide +kernel
theorem dX11_told_5 : decode cX11_told 5 = .ok (.ifCond .ne 6, 3) := by decide +kernel
theorem dX11_told_8 : decode cX11_told 8 = .ok (.bipush (-5), 2) := by decide +kernel
theorem dX11_told_10 : decode cX11_told 10 = .ok (.ireturn, 1) := by decide +kernel
theorem dX11_told_11 : decode cX11_told 11 = .ok (.aload_n 0, 1) := by decide +kernel
theorem dX11_told_12 : decode cX11_told 12 = .ok (.iload_n 2, 1) := by decide +kernel
theorem dX11_told_13 : decode cX11_told 13 = .ok (.invokevirtual 157, 3) := by decide +kernel
theorem dX11_told_16 : decode cX11_told 16 = .ok (.ifCond .ne 6, 3) := by decide +kernel
theorem dX11_told_19 : decode cX11_told 19 = .ok (.bipush (-7), 2) := by decide +kernel
theorem dX11_told_21 : decode cX11_told 21 = .ok (.ireturn, 1) := by decide +kernel
theorem dX11_told_22 : decode cX11_told 22 = .ok (.iload_n 3, 1) := by decide +kernel
theorem dX11_told_23 : decode cX11_told 23 = .ok (.tableswitch 98 0 5 #[37, 44, 51, 58, 65, 72], 37) := by decide +kernel
theorem dX11_told_60 : decode cX11_told 60 = .ok (.aload_n 0, 1) := by decide +kernel
theorem dX11_told_61 : decode cX11_told 61 = .ok (.getfield 45, 3) := by decide +kernel
theorem dX11_told_64 : decode cX11_told 64 = .ok (.iload_n 1, 1) := by decide +kernel
theorem dX11_told_65 : decode cX11_told 65 = .ok (.iaload, 1) := by decide +kernel
theorem dX11_told_66 : decode cX11_told 66 = .ok (.ireturn, 1) := by decide +kernel
theorem dX11_told_67 : decode cX11_told 67 = .ok (.aload_n 0, 1) := by decide +kernel
theorem dX11_told_68 : decode cX11_told 68 = .ok (.getfield 48, 3) := by decide +kernel
theorem dX11_told_71 : decode cX11_told 71 = .ok (.iload_n 1, 1) := by decide +kernel
theorem dX11_told_72 : decode cX11_told 72 = .ok (.iaload, 1) := by decide +kernel
theorem dX11_told_73 : decode cX11_told 73 = .ok (.ireturn, 1) := by decide +kernel
theorem dX11_told_74 : decode cX11_told 74 = .ok (.aload_n 0, 1) := by decide +kernel
theorem dX11_told_75 : decode cX11_told 75 = .ok (.getfield 51, 3) := by decide +kernel
theorem dX11_told_78 : decode cX11_told 78 = .ok (.iload_n 1, 1) := by decide +kernel
theorem dX11_told_79 : decode cX11_told 79 = .ok (.iaload, 1) := by decide +kernel
theorem dX11_told_80 : decode cX11_told 80 = .ok (.ireturn, 1) := by decide +kernel
theorem dX11_told_81 : decode cX11_told 81 = .ok (.aload_n 0, 1) := by decide +kernel
theorem dX11_told_82 : decode cX11_told 82 = .ok (.iload_n 1, 1) := by decide +kernel
theorem dX11_told_83 : decode cX11_told 83 = .ok (.iload_n 2, 1) := by decide +kernel
theorem dX11_told_84 : decode cX11_told 84 = .ok (.invokevirtual 256, 3) := by decide +kernel
theorem dX11_told_87 : decode cX11_told 87 = .ok (.ireturn, 1) := by decide +kernel
theorem dX11_told_88 : decode cX11_told 88 = .ok (.aload_n 0, 1) := by decide +kernel
theorem dX11_told_89 : decode cX11_told 89 = .ok (.iload_n 1, 1) := by decide +kernel
theorem dX11_told_90 : decode cX11_told 90 = .ok (.iload_n 2, 1) := by decide +kernel
theorem dX11_told_91 : decode cX11_told 91 = .ok (.invokevirtual 259, 3) := by decide +kernel
theorem dX11_told_94 : decode cX11_told 94 = .ok (.ireturn, 1) := by decide +kernel
theorem dX11_told_95 : decode cX11_told 95 = .ok (.aload_n 0, 1) := by decide +kernel
theorem dX11_told_96 : decode cX11_told 96 = .ok (.getfield 45, 3) := by decide +kernel
theorem dX11_told_99 : decode cX11_told 99 = .ok (.iload_n 1, 1) := by decide +kernel
theorem dX11_told_100 : decode cX11_told 100 = .ok (.iaload, 1) := by decide +kernel
theorem dX11_told_101 : decode cX11_told 101 = .ok (.iconst 4, 1) := by decide +kernel
theorem dX11_told_102 : decode cX11_told 102 = .ok (.if_icmp .eq 13, 3) := by decide +kernel
theorem dX11_told_105 : decode cX11_told 105 = .ok (.aload_n 0, 1) := by decide +kernel
theorem dX11_told_106 : decode cX11_told 106 = .ok (.getfield 45, 3) := by decide +kernel
theorem dX11_told_109 : decode cX11_told 109 = .ok (.iload_n 1, 1) := by decide +kernel
theorem dX11_told_110 : decode cX11_told 110 = .ok (.iaload, 1) := by decide +kernel
theorem dX11_told_111 : decode cX11_told 111 = .ok (.iconst 5, 1) := by decide +kernel
theorem dX11_told_112 : decode cX11_told 112 = .ok (.if_icmp .ne 7, 3) := by decide +kernel
theorem dX11_told_115 : decode cX11_told 115 = .ok (.iconst 0, 1) := by decide +kernel
theorem dX11_told_116 : decode cX11_told 116 = .ok (.goto 4, 3) := by decide +kernel
theorem dX11_told_119 : decode cX11_told 119 = .ok (.iconst 1, 1) := by decide +kernel
theorem dX11_told_120 : decode cX11_told 120 = .ok (.ireturn, 1) := by decide +kernel
theorem dX11_told_121 : decode cX11_told 121 = .ok (.bipush (-7), 2) := by decide +kernel
theorem dX11_told_123 : decode cX11_told 123 = .ok (.ireturn, 1) := by decide +kernel
theorem dX11_worthOf_0 : decode cX11_worthOf 0 = .ok (.iconst 0, 1) := by decide +kernel
theorem dX11_worthOf_1 : decode cX11_worthOf 1 = .ok (.istore_n 1, 1) := by decide +kernel
theorem dX11_worthOf_2 : decode cX11_worthOf 2 = .ok (.aload_n 0, 1) := by decide +kernel
theorem dX11_worthOf_3 : decode cX11_worthOf 3 = .ok (.iconst 0, 1) := by decide +kernel
theorem dX11_worthOf_4 : decode cX11_worthOf 4 = .ok (.putfield 262, 3) := by decide +kernel
theorem dX11_worthOf_7 : decode cX11_worthOf 7 = .ok (.iconst 0, 1) := by decide +kernel
theorem dX11_worthOf_8 : decode cX11_worthOf 8 = .ok (.istore_n 2, 1) := by decide +kernel
theorem dX11_worthOf_9 : decode cX11_worthOf 9 = .ok (.iload_n 2, 1) := by decide +kernel
theorem dX11_worthOf_10 : decode cX11_worthOf 10 = .ok (.bipush 6, 2) := by decide +kernel
theorem dX11_worthOf_12 : decode cX11_worthOf 12 = .ok (.if_icmp .ge 18, 3) := by decide +kernel
theorem dX11_worthOf_15 : decode cX11_worthOf 15 = .ok (.aload_n 0, 1) := by decide +kernel
theorem dX11_worthOf_16 : decode cX11_worthOf 16 = .ok (.getfield 63, 3) := by decide +kernel
theorem dX11_worthOf_19 : decode cX11_worthOf 19 = .ok (.iload_n 2, 1) := by decide +kernel
theorem dX11_worthOf_20 : decode cX11_worthOf 20 = .ok (.ldc2_w 265, 3) := by decide +kernel
theorem dX11_worthOf_23 : decode cX11_worthOf 23 = .ok (.lastore, 1) := by decide +kernel
theorem dX11_worthOf_24 : decode cX11_worthOf 24 = .ok (.iinc 2 1, 3) := by decide +kernel
theorem dX11_worthOf_27 : decode cX11_worthOf 27 = .ok (.goto (-18), 3) := by decide +kernel
theorem dX11_worthOf_30 : decode cX11_worthOf 30 = .ok (.iconst 0, 1) := by decide +kernel
theorem dX11_worthOf_31 : decode cX11_worthOf 31 = .ok (.istore_n 2, 1) := by decide +kernel
theorem dX11_worthOf_32 : decode cX11_worthOf 32 = .ok (.iload_n 2, 1) := by decide +kernel
theorem dX11_worthOf_33 : decode cX11_worthOf 33 = .ok (.aload_n 0, 1) := by decide +kernel
theorem dX11_worthOf_34 : decode cX11_worthOf 34 = .ok (.getfield 267, 3) := by decide +kernel
theorem dX11_worthOf_37 : decode cX11_worthOf 37 = .ok (.if_icmp .ge 131, 3) := by decide +kernel
theorem dX11_worthOf_40 : decode cX11_worthOf 40 = .ok (.aload_n 0, 1) := by decide +kernel
theorem dX11_worthOf_41 : decode cX11_worthOf 41 = .ok (.getfield 57, 3) := by decide +kernel
theorem dX11_worthOf_44 : decode cX11_worthOf 44 = .ok (.iload_n 2, 1) := by decide +kernel
theorem dX11_worthOf_45 : decode cX11_worthOf 45 = .ok (.iconst (-1), 1) := by decide +kernel
theorem dX11_worthOf_46 : decode cX11_worthOf 46 = .ok (.iastore, 1) := by decide +kernel
theorem dX11_worthOf_47 : decode cX11_worthOf 47 = .ok (.aload_n 0, 1) := by decide +kernel
theorem dX11_worthOf_48 : decode cX11_worthOf 48 = .ok (.getfield 60, 3) := by decide +kernel
theorem dX11_worthOf_51 : decode cX11_worthOf 51 = .ok (.iload_n 2, 1) := by decide +kernel
theorem dX11_worthOf_52 : decode cX11_worthOf 52 = .ok (.iconst 0, 1) := by decide +kernel
theorem dX11_worthOf_53 : decode cX11_worthOf 53 = .ok (.iastore, 1) := by decide +kernel
theorem dX11_worthOf_54 : decode cX11_worthOf 54 = .ok (.iload_n 1, 1) := by decide +kernel
theorem dX11_worthOf_55 : decode cX11_worthOf 55 = .ok (.aload_n 0, 1) := by decide +kernel
theorem dX11_worthOf_56 : decode cX11_worthOf 56 = .ok (.getfield 7, 3) := by decide +kernel
theorem dX11_worthOf_59 : decode cX11_worthOf 59 = .ok (.iconst 5, 1) := by decide +kernel
theorem dX11_worthOf_60 : decode cX11_worthOf 60 = .ok (.iaload, 1) := by decide +kernel
theorem dX11_worthOf_61 : decode cX11_worthOf 61 = .ok (.if_icmp .lt 6, 3) := by decide +kernel
theorem dX11_worthOf_64 : decode cX11_worthOf 64 = .ok (.goto 98, 3) := by decide +kernel
theorem dX11_worthOf_67 : decode cX11_worthOf 67 = .ok (.aload_n 0, 1) := by decide +kernel
theorem dX11_worthOf_68 : decode cX11_worthOf 68 = .ok (.getfield 54, 3) := by decide +kernel
theorem dX11_worthOf_71 : decode cX11_worthOf 71 = .ok (.iload_n 2, 1) := by decide +kernel
theorem dX11_worthOf_72 : decode cX11_worthOf 72 = .ok (.iaload, 1) := by decide +kernel
theorem dX11_worthOf_73 : decode cX11_worthOf 73 = .ok (.istore_n 3, 1) := by decide +kernel
theorem dX11_worthOf_74 : decode cX11_worthOf 74 = .ok (.aload_n 0, 1) := by decide +kernel
theorem dX11_worthOf_75 : decode cX11_worthOf 75 = .ok (.getfield 57, 3) := by decide +kernel
theorem dX11_worthOf_78 : decode cX11_worthOf 78 = .ok (.iload_n 2, 1) := by decide +kernel
theorem dX11_worthOf_79 : decode cX11_worthOf 79 = .ok (.iload_n 1, 1) := by decide +kernel
theorem dX11_worthOf_80 : decode cX11_worthOf 80 = .ok (.iastore, 1) := by decide +kernel
theorem dX11_worthOf_81 : decode cX11_worthOf 81 = .ok (.aload_n 0, 1) := by decide +kernel
theorem dX11_worthOf_82 : decode cX11_worthOf 82 = .ok (.iload_n 3, 1) := by decide +kernel
theorem dX11_worthOf_83 : decode cX11_worthOf 83 = .ok (.iload_n 1, 1) := by decide +kernel
theorem dX11_worthOf_84 : decode cX11_worthOf 84 = .ok (.invokevirtual 256, 3) := by decide +kernel
theorem dX11_worthOf_87 : decode cX11_worthOf 87 = .ok (.istore 4, 2) := by decide +kernel
theorem dX11_worthOf_89 : decode cX11_worthOf 89 = .ok (.iload_n 1, 1) := by decide +kernel
theorem dX11_worthOf_90 : decode cX11_worthOf 90 = .ok (.aload_n 0, 1) := by decide +kernel
theorem dX11_worthOf_91 : decode cX11_worthOf 91 = .ok (.iload_n 3, 1) := by decide +kernel
theorem dX11_worthOf_92 : decode cX11_worthOf 92 = .ok (.iload_n 1, 1) := by decide +kernel
theorem dX11_worthOf_93 : decode cX11_worthOf 93 = .ok (.invokevirtual 259, 3) := by decide +kernel
theorem dX11_worthOf_96 : decode cX11_worthOf 96 = .ok (.iadd, 1) := by decide +kernel
theorem dX11_worthOf_97 : decode cX11_worthOf 97 = .ok (.istore_n 1, 1) := by decide +kernel
theorem dX11_worthOf_98 : decode cX11_worthOf 98 = .ok (.iload_n 1, 1) := by decide +kernel
theorem dX11_worthOf_99 : decode cX11_worthOf 99 = .ok (.aload_n 0, 1) := by decide +kernel
theorem dX11_worthOf_100 : decode cX11_worthOf 100 = .ok (.getfield 7, 3) := by decide +kernel
theorem dX11_worthOf_103 : decode cX11_worthOf 103 = .ok (.iconst 5, 1) := by decide +kernel
theorem dX11_worthOf_104 : decode cX11_worthOf 104 = .ok (.iaload, 1) := by decide +kernel
theorem dX11_worthOf_105 : decode cX11_worthOf 105 = .ok (.if_icmp .le 6, 3) := by decide +kernel
theorem dX11_worthOf_108 : decode cX11_worthOf 108 = .ok (.goto 54, 3) := by decide +kernel
theorem dX11_worthOf_111 : decode cX11_worthOf 111 = .ok (.aload_n 0, 1) := by decide +kernel
theorem dX11_worthOf_112 : decode cX11_worthOf 112 = .ok (.dup, 1) := by decide +kernel
theorem dX11_worthOf_113 : decode cX11_worthOf 113 = .ok (.getfield 262, 3) := by decide +kernel
theorem dX11_worthOf_116 : decode cX11_worthOf 116 = .ok (.iconst 1, 1) := by decide +kernel
theorem dX11_worthOf_117 : decode cX11_worthOf 117 = .ok (.iadd, 1) := by decide +kernel
theorem dX11_worthOf_118 : decode cX11_worthOf 118 = .ok (.putfield 262, 3) := by decide +kernel
theorem dX11_worthOf_121 : decode cX11_worthOf 121 = .ok (.aload_n 0, 1) := by decide +kernel
theorem dX11_worthOf_122 : decode cX11_worthOf 122 = .ok (.getfield 60, 3) := by decide +kernel
theorem dX11_worthOf_125 : decode cX11_worthOf 125 = .ok (.iload_n 2, 1) := by decide +kernel
theorem dX11_worthOf_126 : decode cX11_worthOf 126 = .ok (.iload 4, 2) := by decide +kernel
theorem dX11_worthOf_128 : decode cX11_worthOf 128 = .ok (.iastore, 1) := by decide +kernel
theorem dX11_worthOf_129 : decode cX11_worthOf 129 = .ok (.aload_n 0, 1) := by decide +kernel
theorem dX11_worthOf_130 : decode cX11_worthOf 130 = .ok (.getfield 63, 3) := by decide +kernel
theorem dX11_worthOf_133 : decode cX11_worthOf 133 = .ok (.aload_n 0, 1) := by decide +kernel
theorem dX11_worthOf_134 : decode cX11_worthOf 134 = .ok (.getfield 48, 3) := by decide +kernel
theorem dX11_worthOf_137 : decode cX11_worthOf 137 = .ok (.iload_n 3, 1) := by decide +kernel
theorem dX11_worthOf_138 : decode cX11_worthOf 138 = .ok (.iaload, 1) := by decide +kernel
theorem dX11_worthOf_139 : decode cX11_worthOf 139 = .ok (.aload_n 0, 1) := by decide +kernel
theorem dX11_worthOf_140 : decode cX11_worthOf 140 = .ok (.getfield 63, 3) := by decide +kernel
theorem dX11_worthOf_143 : decode cX11_worthOf 143 = .ok (.aload_n 0, 1) := by decide +kernel
theorem dX11_worthOf_144 : decode cX11_worthOf 144 = .ok (.getfield 48, 3) := by decide +kernel
theorem dX11_worthOf_147 : decode cX11_worthOf 147 = .ok (.iload_n 3, 1) := by decide +kernel
theorem dX11_worthOf_148 : decode cX11_worthOf 148 = .ok (.iaload, 1) := by decide +kernel
theorem dX11_worthOf_149 : decode cX11_worthOf 149 = .ok (.laload, 1) := by decide +kernel
theorem dX11_worthOf_150 : decode cX11_worthOf 150 = .ok (.bipush 100, 2) := by decide +kernel
theorem dX11_worthOf_152 : decode cX11_worthOf 152 = .ok (.iload 4, 2) := by decide +kernel
theorem dX11_worthOf_154 : decode cX11_worthOf 154 = .ok (.isub, 1) := by decide +kernel
theorem dX11_worthOf_155 : decode cX11_worthOf 155 = .ok (.i2l, 1) := by decide +kernel
theorem dX11_worthOf_156 : decode cX11_worthOf 156 = .ok (.lmul, 1) := by decide +kernel
theorem dX11_worthOf_157 : decode cX11_worthOf 157 = .ok (.ldc2_w 270, 3) := by decide +kernel
theorem dX11_worthOf_160 : decode cX11_worthOf 160 = .ok (.ldiv, 1) := by decide +kernel
theorem dX11_worthOf_161 : decode cX11_worthOf 161 = .ok (.lastore, 1) := by decide +kernel
theorem dX11_worthOf_162 : decode cX11_worthOf 162 = .ok (.iinc 2 1, 3) := by decide +kernel
theorem dX11_worthOf_165 : decode cX11_worthOf 165 = .ok (.goto (-133), 3) := by decide +kernel
theorem dX11_worthOf_168 : decode cX11_worthOf 168 = .ok (.lconst 0, 1) := by decide +kernel
theorem dX11_worthOf_169 : decode cX11_worthOf 169 = .ok (.lstore_n 2, 1) := by decide +kernel
theorem dX11_worthOf_170 : decode cX11_worthOf 170 = .ok (.iconst 0, 1) := by decide +kernel
theorem dX11_worthOf_171 : decode cX11_worthOf 171 = .ok (.istore 4, 2) := by decide +kernel
theorem dX11_worthOf_173 : decode cX11_worthOf 173 = .ok (.iload 4, 2) := by decide +kernel
theorem dX11_worthOf_175 : decode cX11_worthOf 175 = .ok (.bipush 6, 2) := by decide +kernel
theorem dX11_worthOf_177 : decode cX11_worthOf 177 = .ok (.if_icmp .ge 32, 3) := by decide +kernel
theorem dX11_worthOf_180 : decode cX11_worthOf 180 = .ok (.lload_n 2, 1) := by decide +kernel
theorem dX11_worthOf_181 : decode cX11_worthOf 181 = .ok (.ldc2_w 265, 3) := by decide +kernel
theorem dX11_worthOf_184 : decode cX11_worthOf 184 = .ok (.aload_n 0, 1) := by decide +kernel
theorem dX11_worthOf_185 : decode cX11_worthOf 185 = .ok (.getfield 63, 3) := by decide +kernel
theorem dX11_worthOf_188 : decode cX11_worthOf 188 = .ok (.iload 4, 2) := by decide +kernel
theorem dX11_worthOf_190 : decode cX11_worthOf 190 = .ok (.laload, 1) := by decide +kernel
theorem dX11_worthOf_191 : decode cX11_worthOf 191 = .ok (.lsub, 1) := by decide +kernel
theorem dX11_worthOf_192 : decode cX11_worthOf 192 = .ok (.aload_n 0, 1) := by decide +kernel
theorem dX11_worthOf_193 : decode cX11_worthOf 193 = .ok (.getfield 13, 3) := by decide +kernel
theorem dX11_worthOf_196 : decode cX11_worthOf 196 = .ok (.iload 4, 2) := by decide +kernel
theorem dX11_worthOf_198 : decode cX11_worthOf 198 = .ok (.iaload, 1) := by decide +kernel
theorem dX11_worthOf_199 : decode cX11_worthOf 199 = .ok (.i2l, 1) := by decide +kernel
theorem dX11_worthOf_200 : decode cX11_worthOf 200 = .ok (.lmul, 1) := by decide +kernel
theorem dX11_worthOf_201 : decode cX11_worthOf 201 = .ok (.ladd, 1) := by decide +kernel
theorem dX11_worthOf_202 : decode cX11_worthOf 202 = .ok (.lstore_n 2, 1) := by decide +kernel
theorem dX11_worthOf_203 : decode cX11_worthOf 203 = .ok (.iinc 4 1, 3) := by decide +kernel
theorem dX11_worthOf_206 : decode cX11_worthOf 206 = .ok (.goto (-33), 3) := by decide +kernel
theorem dX11_worthOf_209 : decode cX11_worthOf 209 = .ok (.lload_n 2, 1) := by decide +kernel
theorem dX11_worthOf_210 : decode cX11_worthOf 210 = .ok (.lreturn, 1) := by decide +kernel
theorem dX11_theRow_0 : decode cX11_theRow 0 = .ok (.aload_n 0, 1) := by decide +kernel
theorem dX11_theRow_1 : decode cX11_theRow 1 = .ok (.aload_n 0, 1) := by decide +kernel
theorem dX11_theRow_2 : decode cX11_theRow 2 = .ok (.getfield 135, 3) := by decide +kernel
theorem dX11_theRow_5 : decode cX11_theRow 5 = .ok (.putfield 267, 3) := by decide +kernel
theorem dX11_theRow_8 : decode cX11_theRow 8 = .ok (.iconst 0, 1) := by decide +kernel
theorem dX11_theRow_9 : decode cX11_theRow 9 = .ok (.istore_n 1, 1) := by decide +kernel
theorem dX11_theRow_10 : decode cX11_theRow 10 = .ok (.iload_n 1, 1) := by decide +kernel
theorem dX11_theRow_11 : decode cX11_theRow 11 = .ok (.aload_n 0, 1) := by decide +kernel
theorem dX11_theRow_12 : decode cX11_theRow 12 = .ok (.getfield 135, 3) := by decide +kernel
theorem dX11_theRow_15 : decode cX11_theRow 15 = .ok (.if_icmp .ge 16, 3) := by decide +kernel
theorem dX11_theRow_18 : decode cX11_theRow 18 = .ok (.aload_n 0, 1) := by decide +kernel
theorem dX11_theRow_19 : decode cX11_theRow 19 = .ok (.getfield 54, 3) := by decide +kernel
theorem dX11_theRow_22 : decode cX11_theRow 22 = .ok (.iload_n 1, 1) := by decide +kernel
theorem dX11_theRow_23 : decode cX11_theRow 23 = .ok (.iload_n 1, 1) := by decide +kernel
theorem dX11_theRow_24 : decode cX11_theRow 24 = .ok (.iastore, 1) := by decide +kernel
theorem dX11_theRow_25 : decode cX11_theRow 25 = .ok (.iinc 1 1, 3) := by decide +kernel
theorem dX11_theRow_28 : decode cX11_theRow 28 = .ok (.goto (-18), 3) := by decide +kernel
theorem dX11_theRow_31 : decode cX11_theRow 31 = .ok (.return_, 1) := by decide +kernel
theorem dX11_worthOfAll_0 : decode cX11_worthOfAll 0 = .ok (.aload_n 0, 1) := by decide +kernel
theorem dX11_worthOfAll_1 : decode cX11_worthOfAll 1 = .ok (.invokevirtual 272, 3) := by decide +kernel
theorem dX11_worthOfAll_4 : decode cX11_worthOfAll 4 = .ok (.aload_n 0, 1) := by decide +kernel
theorem dX11_worthOfAll_5 : decode cX11_worthOfAll 5 = .ok (.invokevirtual 275, 3) := by decide +kernel
theorem dX11_worthOfAll_8 : decode cX11_worthOfAll 8 = .ok (.lreturn, 1) := by decide +kernel
theorem dX11_run_0 : decode cX11_run 0 = .ok (.iload_n 1, 1) := by decide +kernel
theorem dX11_run_1 : decode cX11_run 1 = .ok (.iconst 0, 1) := by decide +kernel
theorem dX11_run_2 : decode cX11_run 2 = .ok (.bipush 7, 2) := by decide +kernel
theorem dX11_run_4 : decode cX11_run 4 = .ok (.invokestatic 127, 3) := by decide +kernel
theorem dX11_run_7 : decode cX11_run 7 = .ok (.ifCond .ne 7, 3) := by decide +kernel
theorem dX11_run_10 : decode cX11_run 10 = .ok (.ldc2_w 279, 3) := by decide +kernel
theorem dX11_run_13 : decode cX11_run 13 = .ok (.lreturn, 1) := by decide +kernel
theorem dX11_run_14 : decode cX11_run 14 = .ok (.aload_n 0, 1) := by decide +kernel
theorem dX11_run_15 : decode cX11_run 15 = .ok (.invokevirtual 281, 3) := by decide +kernel
theorem dX11_run_18 : decode cX11_run 18 = .ok (.lstore_n 2, 1) := by decide +kernel
theorem dX11_run_19 : decode cX11_run 19 = .ok (.iload_n 1, 1) := by decide +kernel
theorem dX11_run_20 : decode cX11_run 20 = .ok (.ifCond .ne 7, 3) := by decide +kernel
theorem dX11_run_23 : decode cX11_run 23 = .ok (.lload_n 2, 1) := by decide +kernel
theorem dX11_run_24 : decode cX11_run 24 = .ok (.goto 28, 3) := by decide +kernel
theorem dX11_run_27 : decode cX11_run 27 = .ok (.iload_n 1, 1) := by decide +kernel
theorem dX11_run_28 : decode cX11_run 28 = .ok (.iconst 1, 1) := by decide +kernel
theorem dX11_run_29 : decode cX11_run 29 = .ok (.if_icmp .ne 11, 3) := by decide +kernel
theorem dX11_run_32 : decode cX11_run 32 = .ok (.aload_n 0, 1) := by decide +kernel
theorem dX11_run_33 : decode cX11_run 33 = .ok (.getfield 262, 3) := by decide +kernel
theorem dX11_run_36 : decode cX11_run 36 = .ok (.i2l, 1) := by decide +kernel
theorem dX11_run_37 : decode cX11_run 37 = .ok (.goto 15, 3) := by decide +kernel
theorem dX11_run_40 : decode cX11_run 40 = .ok (.ldc2_w 265, 3) := by decide +kernel
theorem dX11_run_43 : decode cX11_run 43 = .ok (.aload_n 0, 1) := by decide +kernel
theorem dX11_run_44 : decode cX11_run 44 = .ok (.getfield 63, 3) := by decide +kernel
theorem dX11_run_47 : decode cX11_run 47 = .ok (.iload_n 1, 1) := by decide +kernel
theorem dX11_run_48 : decode cX11_run 48 = .ok (.iconst 2, 1) := by decide +kernel
theorem dX11_run_49 : decode cX11_run 49 = .ok (.isub, 1) := by decide +kernel
theorem dX11_run_50 : decode cX11_run 50 = .ok (.laload, 1) := by decide +kernel
theorem dX11_run_51 : decode cX11_run 51 = .ok (.lsub, 1) := by decide +kernel
theorem dX11_run_52 : decode cX11_run 52 = .ok (.lreturn, 1) := by decide +kernel
theorem dX11_minute_0 : decode cX11_minute 0 = .ok (.aload_n 0, 1) := by decide +kernel
theorem dX11_minute_1 : decode cX11_minute 1 = .ok (.iload_n 1, 1) := by decide +kernel
theorem dX11_minute_2 : decode cX11_minute 2 = .ok (.invokevirtual 253, 3) := by decide +kernel
theorem dX11_minute_5 : decode cX11_minute 5 = .ok (.ifCond .ne 6, 3) := by decide +kernel
theorem dX11_minute_8 : decode cX11_minute 8 = .ok (.bipush (-5), 2) := by decide +kernel
theorem dX11_minute_10 : decode cX11_minute 10 = .ok (.ireturn, 1) := by decide +kernel
theorem dX11_minute_11 : decode cX11_minute 11 = .ok (.iload_n 2, 1) := by decide +kernel
theorem dX11_minute_12 : decode cX11_minute 12 = .ok (.iconst 0, 1) := by decide +kernel
theorem dX11_minute_13 : decode cX11_minute 13 = .ok (.iconst 1, 1) := by decide +kernel
theorem dX11_minute_14 : decode cX11_minute 14 = .ok (.invokestatic 127, 3) := by decide +kernel
theorem dX11_minute_17 : decode cX11_minute 17 = .ok (.ifCond .ne 6, 3) := by decide +kernel
theorem dX11_minute_20 : decode cX11_minute 20 = .ok (.bipush (-7), 2) := by decide +kernel
theorem dX11_minute_22 : decode cX11_minute 22 = .ok (.ireturn, 1) := by decide +kernel
theorem dX11_minute_23 : decode cX11_minute 23 = .ok (.aload_n 0, 1) := by decide +kernel
theorem dX11_minute_24 : decode cX11_minute 24 = .ok (.invokevirtual 281, 3) := by decide +kernel
theorem dX11_minute_27 : decode cX11_minute 27 = .ok (.pop2, 1) := by decide +kernel
theorem dX11_minute_28 : decode cX11_minute 28 = .ok (.iload_n 2, 1) := by decide +kernel
theorem dX11_minute_29 : decode cX11_minute 29 = .ok (.ifCond .ne 12, 3) := by decide +kernel
theorem dX11_minute_32 : decode cX11_minute 32 = .ok (.aload_n 0, 1) := by decide +kernel
theorem dX11_minute_33 : decode cX11_minute 33 = .ok (.getfield 57, 3) := by decide +kernel
theorem dX11_minute_36 : decode cX11_minute 36 = .ok (.iload_n 1, 1) := by decide +kernel
theorem dX11_minute_37 : decode cX11_minute 37 = .ok (.iaload, 1) := by decide +kernel
theorem dX11_minute_38 : decode cX11_minute 38 = .ok (.goto 9, 3) := by decide +kernel
theorem dX11_minute_41 : decode cX11_minute 41 = .ok (.aload_n 0, 1) := by decide +kernel
theorem dX11_minute_42 : decode cX11_minute 42 = .ok (.getfield 60, 3) := by decide +kernel
theorem dX11_minute_45 : decode cX11_minute 45 = .ok (.iload_n 1, 1) := by decide +kernel
theorem dX11_minute_46 : decode cX11_minute 46 = .ok (.iaload, 1) := by decide +kernel
theorem dX11_minute_47 : decode cX11_minute 47 = .ok (.ireturn, 1) := by decide +kernel
theorem dX11_judge_0 : decode cX11_judge 0 = .ok (.iload_n 1, 1) := by decide +kernel
theorem dX11_judge_1 : decode cX11_judge 1 = .ok (.invokestatic 284, 3) := by decide +kernel
theorem dX11_judge_4 : decode cX11_judge 4 = .ok (.ifCond .eq 25, 3) := by decide +kernel
theorem dX11_judge_7 : decode cX11_judge 7 = .ok (.aload_n 0, 1) := by decide +kernel
theorem dX11_judge_8 : decode cX11_judge 8 = .ok (.getfield 112, 3) := by decide +kernel
theorem dX11_judge_11 : decode cX11_judge 11 = .ok (.iload_n 1, 1) := by decide +kernel
theorem dX11_judge_12 : decode cX11_judge 12 = .ok (.iaload, 1) := by decide +kernel
theorem dX11_judge_13 : decode cX11_judge 13 = .ok (.ifCond .lt 16, 3) := by decide +kernel
theorem dX11_judge_16 : decode cX11_judge 16 = .ok (.aload_n 0, 1) := by decide +kernel
theorem dX11_judge_17 : decode cX11_judge 17 = .ok (.getfield 115, 3) := by decide +kernel
theorem dX11_judge_20 : decode cX11_judge 20 = .ok (.iload_n 1, 1) := by decide +kernel
theorem dX11_judge_21 : decode cX11_judge 21 = .ok (.iaload, 1) := by decide +kernel
theorem dX11_judge_22 : decode cX11_judge 22 = .ok (.aload_n 0, 1) := by decide +kernel
theorem dX11_judge_23 : decode cX11_judge 23 = .ok (.getfield 135, 3) := by decide +kernel
theorem dX11_judge_26 : decode cX11_judge 26 = .ok (.if_icmp .le 7, 3) := by decide +kernel
theorem dX11_judge_29 : decode cX11_judge 29 = .ok (.ldc2_w 279, 3) := by decide +kernel
theorem dX11_judge_32 : decode cX11_judge 32 = .ok (.lreturn, 1) := by decide +kernel
theorem dX11_judge_33 : decode cX11_judge 33 = .ok (.aload_n 0, 1) := by decide +kernel
theorem dX11_judge_34 : decode cX11_judge 34 = .ok (.aload_n 0, 1) := by decide +kernel
theorem dX11_judge_35 : decode cX11_judge 35 = .ok (.getfield 115, 3) := by decide +kernel
theorem dX11_judge_38 : decode cX11_judge 38 = .ok (.iload_n 1, 1) := by decide +kernel
theorem dX11_judge_39 : decode cX11_judge 39 = .ok (.iaload, 1) := by decide +kernel
theorem dX11_judge_40 : decode cX11_judge 40 = .ok (.putfield 267, 3) := by decide +kernel
theorem dX11_judge_43 : decode cX11_judge 43 = .ok (.iconst 0, 1) := by decide +kernel
theorem dX11_judge_44 : decode cX11_judge 44 = .ok (.istore_n 2, 1) := by decide +kernel
theorem dX11_judge_45 : decode cX11_judge 45 = .ok (.iconst 0, 1) := by decide +kernel
theorem dX11_judge_46 : decode cX11_judge 46 = .ok (.istore_n 3, 1) := by decide +kernel
theorem dX11_judge_47 : decode cX11_judge 47 = .ok (.iload_n 3, 1) := by decide +kernel
theorem dX11_judge_48 : decode cX11_judge 48 = .ok (.aload_n 0, 1) := by decide +kernel
theorem dX11_judge_49 : decode cX11_judge 49 = .ok (.getfield 267, 3) := by decide +kernel
theorem dX11_judge_52 : decode cX11_judge 52 = .ok (.if_icmp .ge 60, 3) := by decide +kernel
theorem dX11_judge_55 : decode cX11_judge 55 = .ok (.aload_n 0, 1) := by decide +kernel
theorem dX11_judge_56 : decode cX11_judge 56 = .ok (.getfield 118, 3) := by decide +kernel
theorem dX11_judge_59 : decode cX11_judge 59 = .ok (.bipush 40, 2) := by decide +kernel
theorem dX11_judge_61 : decode cX11_judge 61 = .ok (.iload_n 1, 1) := by decide +kernel
theorem dX11_judge_62 : decode cX11_judge 62 = .ok (.imul, 1) := by decide +kernel
theorem dX11_judge_63 : decode cX11_judge 63 = .ok (.iload_n 3, 1) := by decide +kernel
theorem dX11_judge_64 : decode cX11_judge 64 = .ok (.iadd, 1) := by decide +kernel
theorem dX11_judge_65 : decode cX11_judge 65 = .ok (.iaload, 1) := by decide +kernel
theorem dX11_judge_66 : decode cX11_judge 66 = .ok (.istore 4, 2) := by decide +kernel
theorem dX11_judge_68 : decode cX11_judge 68 = .ok (.aload_n 0, 1) := by decide +kernel
theorem dX11_judge_69 : decode cX11_judge 69 = .ok (.iload 4, 2) := by decide +kernel
theorem dX11_judge_71 : decode cX11_judge 71 = .ok (.invokevirtual 253, 3) := by decide +kernel
theorem dX11_judge_74 : decode cX11_judge 74 = .ok (.ifCond .eq 13, 3) := by decide +kernel
theorem dX11_judge_77 : decode cX11_judge 77 = .ok (.iload_n 2, 1) := by decide +kernel
theorem dX11_judge_78 : decode cX11_judge 78 = .ok (.iload 4, 2) := by decide +kernel
theorem dX11_judge_80 : decode cX11_judge 80 = .ok (.ishr, 1) := by decide +kernel
theorem dX11_judge_81 : decode cX11_judge 81 = .ok (.iconst 1, 1) := by decide +kernel
theorem dX11_judge_82 : decode cX11_judge 82 = .ok (.iand, 1) := by decide +kernel
theorem dX11_judge_83 : decode cX11_judge 83 = .ok (.iconst 1, 1) := by decide +kernel
theorem dX11_judge_84 : decode cX11_judge 84 = .ok (.if_icmp .ne 7, 3) := by decide +kernel
theorem dX11_judge_87 : decode cX11_judge 87 = .ok (.ldc2_w 279, 3) := by decide +kernel
theorem dX11_judge_90 : decode cX11_judge 90 = .ok (.lreturn, 1) := by decide +kernel
theorem dX11_judge_91 : decode cX11_judge 91 = .ok (.iload_n 2, 1) := by decide +kernel
theorem dX11_judge_92 : decode cX11_judge 92 = .ok (.iconst 1, 1) := by decide +kernel
theorem dX11_judge_93 : decode cX11_judge 93 = .ok (.iload 4, 2) := by decide +kernel
theorem dX11_judge_95 : decode cX11_judge 95 = .ok (.ishl, 1) := by decide +kernel
theorem dX11_judge_96 : decode cX11_judge 96 = .ok (.ior, 1) := by decide +kernel
theorem dX11_judge_97 : decode cX11_judge 97 = .ok (.istore_n 2, 1) := by decide +kernel
theorem dX11_judge_98 : decode cX11_judge 98 = .ok (.aload_n 0, 1) := by decide +kernel
theorem dX11_judge_99 : decode cX11_judge 99 = .ok (.getfield 54, 3) := by decide +kernel
theorem dX11_judge_102 : decode cX11_judge 102 = .ok (.iload_n 3, 1) := by decide +kernel
theorem dX11_judge_103 : decode cX11_judge 103 = .ok (.iload 4, 2) := by decide +kernel
theorem dX11_judge_105 : decode cX11_judge 105 = .ok (.iastore, 1) := by decide +kernel
theorem dX11_judge_106 : decode cX11_judge 106 = .ok (.iinc 3 1, 3) := by decide +kernel
theorem dX11_judge_109 : decode cX11_judge 109 = .ok (.goto (-62), 3) := by decide +kernel
theorem dX11_judge_112 : decode cX11_judge 112 = .ok (.aload_n 0, 1) := by decide +kernel
theorem dX11_judge_113 : decode cX11_judge 113 = .ok (.invokevirtual 275, 3) := by decide +kernel
theorem dX11_judge_116 : decode cX11_judge 116 = .ok (.lreturn, 1) := by decide +kernel
theorem dX11_keepRow_0 : decode cX11_keepRow 0 = .ok (.aload_n 0, 1) := by decide +kernel
theorem dX11_keepRow_1 : decode cX11_keepRow 1 = .ok (.lload_n 1, 1) := by decide +kernel
theorem dX11_keepRow_2 : decode cX11_keepRow 2 = .ok (.putfield 287, 3) := by decide +kernel
theorem dX11_keepRow_5 : decode cX11_keepRow 5 = .ok (.iconst 0, 1) := by decide +kernel
theorem dX11_keepRow_6 : decode cX11_keepRow 6 = .ok (.istore_n 3, 1) := by decide +kernel
theorem dX11_keepRow_7 : decode cX11_keepRow 7 = .ok (.iload_n 3, 1) := by decide +kernel
theorem dX11_keepRow_8 : decode cX11_keepRow 8 = .ok (.aload_n 0, 1) := by decide +kernel
theorem dX11_keepRow_9 : decode cX11_keepRow 9 = .ok (.getfield 267, 3) := by decide +kernel
theorem dX11_keepRow_12 : decode cX11_keepRow 12 = .ok (.if_icmp .ge 21, 3) := by decide +kernel
theorem dX11_keepRow_15 : decode cX11_keepRow 15 = .ok (.aload_n 0, 1) := by decide +kernel
theorem dX11_keepRow_16 : decode cX11_keepRow 16 = .ok (.getfield 67, 3) := by decide +kernel
theorem dX11_keepRow_19 : decode cX11_keepRow 19 = .ok (.iload_n 3, 1) := by decide +kernel
theorem dX11_keepRow_20 : decode cX11_keepRow 20 = .ok (.aload_n 0, 1) := by decide +kernel
theorem dX11_keepRow_21 : decode cX11_keepRow 21 = .ok (.getfield 54, 3) := by decide +kernel
theorem dX11_keepRow_24 : decode cX11_keepRow 24 = .ok (.iload_n 3, 1) := by decide +kernel
theorem dX11_keepRow_25 : decode cX11_keepRow 25 = .ok (.iaload, 1) := by decide +kernel
theorem dX11_keepRow_26 : decode cX11_keepRow 26 = .ok (.iastore, 1) := by decide +kernel
theorem dX11_keepRow_27 : decode cX11_keepRow 27 = .ok (.iinc 3 1, 3) := by decide +kernel
theorem dX11_keepRow_30 : decode cX11_keepRow 30 = .ok (.goto (-23), 3) := by decide +kernel
theorem dX11_keepRow_33 : decode cX11_keepRow 33 = .ok (.return_, 1) := by decide +kernel
theorem dX11_rowBy_0 : decode cX11_rowBy 0 = .ok (.iload_n 1, 1) := by decide +kernel
theorem dX11_rowBy_1 : decode cX11_rowBy 1 = .ok (.istore_n 3, 1) := by decide +kernel
theorem dX11_rowBy_2 : decode cX11_rowBy 2 = .ok (.iconst 0, 1) := by decide +kernel
theorem dX11_rowBy_3 : decode cX11_rowBy 3 = .ok (.istore 4, 2) := by decide +kernel
theorem dX11_rowBy_5 : decode cX11_rowBy 5 = .ok (.iload_n 2, 1) := by decide +kernel
theorem dX11_rowBy_6 : decode cX11_rowBy 6 = .ok (.iconst 1, 1) := by decide +kernel
theorem dX11_rowBy_7 : decode cX11_rowBy 7 = .ok (.isub, 1) := by decide +kernel
theorem dX11_rowBy_8 : decode cX11_rowBy 8 = .ok (.istore 5, 2) := by decide +kernel
theorem dX11_rowBy_10 : decode cX11_rowBy 10 = .ok (.iload 5, 2) := by decide +kernel
theorem dX11_rowBy_12 : decode cX11_rowBy 12 = .ok (.ifCond .lt 55, 3) := by decide +kernel
theorem dX11_rowBy_15 : decode cX11_rowBy 15 = .ok (.aload_n 0, 1) := by decide +kernel
theorem dX11_rowBy_16 : decode cX11_rowBy 16 = .ok (.getfield 54, 3) := by decide +kernel
theorem dX11_rowBy_19 : decode cX11_rowBy 19 = .ok (.iload 5, 2) := by decide +kernel
theorem dX11_rowBy_21 : decode cX11_rowBy 21 = .ok (.iload_n 3, 1) := by decide +kernel
theorem dX11_rowBy_22 : decode cX11_rowBy 22 = .ok (.iload_n 2, 1) := by decide +kernel
theorem dX11_rowBy_23 : decode cX11_rowBy 23 = .ok (.irem, 1) := by decide +kernel
theorem dX11_rowBy_24 : decode cX11_rowBy 24 = .ok (.iastore, 1) := by decide +kernel
theorem dX11_rowBy_25 : decode cX11_rowBy 25 = .ok (.iload_n 3, 1) := by decide +kernel
theorem dX11_rowBy_26 : decode cX11_rowBy 26 = .ok (.iload_n 2, 1) := by decide +kernel
theorem dX11_rowBy_27 : decode cX11_rowBy 27 = .ok (.idiv, 1) := by decide +kernel
theorem dX11_rowBy_28 : decode cX11_rowBy 28 = .ok (.istore_n 3, 1) := by decide +kernel
theorem dX11_rowBy_29 : decode cX11_rowBy 29 = .ok (.iload 4, 2) := by decide +kernel
theorem dX11_rowBy_31 : decode cX11_rowBy 31 = .ok (.aload_n 0, 1) := by decide +kernel
theorem dX11_rowBy_32 : decode cX11_rowBy 32 = .ok (.getfield 54, 3) := by decide +kernel
theorem dX11_rowBy_35 : decode cX11_rowBy 35 = .ok (.iload 5, 2) := by decide +kernel
theorem dX11_rowBy_37 : decode cX11_rowBy 37 = .ok (.iaload, 1) := by decide +kernel
theorem dX11_rowBy_38 : decode cX11_rowBy 38 = .ok (.ishr, 1) := by decide +kernel
theorem dX11_rowBy_39 : decode cX11_rowBy 39 = .ok (.iconst 1, 1) := by decide +kernel
theorem dX11_rowBy_40 : decode cX11_rowBy 40 = .ok (.iand, 1) := by decide +kernel
theorem dX11_rowBy_41 : decode cX11_rowBy 41 = .ok (.iconst 1, 1) := by decide +kernel
theorem dX11_rowBy_42 : decode cX11_rowBy 42 = .ok (.if_icmp .ne 5, 3) := by decide +kernel
theorem dX11_rowBy_45 : decode cX11_rowBy 45 = .ok (.iconst 0, 1) := by decide +kernel
theorem dX11_rowBy_46 : decode cX11_rowBy 46 = .ok (.ireturn, 1) := by decide +kernel
theorem dX11_rowBy_47 : decode cX11_rowBy 47 = .ok (.iload 4, 2) := by decide +kernel
theorem dX11_rowBy_49 : decode cX11_rowBy 49 = .ok (.iconst 1, 1) := by decide +kernel
theorem dX11_rowBy_50 : decode cX11_rowBy 50 = .ok (.aload_n 0, 1) := by decide +kernel
theorem dX11_rowBy_51 : decode cX11_rowBy 51 = .ok (.getfield 54, 3) := by decide +kernel
theorem dX11_rowBy_54 : decode cX11_rowBy 54 = .ok (.iload 5, 2) := by decide +kernel
theorem dX11_rowBy_56 : decode cX11_rowBy 56 = .ok (.iaload, 1) := by decide +kernel
theorem dX11_rowBy_57 : decode cX11_rowBy 57 = .ok (.ishl, 1) := by decide +kernel
theorem dX11_rowBy_58 : decode cX11_rowBy 58 = .ok (.ior, 1) := by decide +kernel
theorem dX11_rowBy_59 : decode cX11_rowBy 59 = .ok (.istore 4, 2) := by decide +kernel
theorem dX11_rowBy_61 : decode cX11_rowBy 61 = .ok (.iinc 5 (-1), 3) := by decide +kernel
theorem dX11_rowBy_64 : decode cX11_rowBy 64 = .ok (.goto (-54), 3) := by decide +kernel
theorem dX11_rowBy_67 : decode cX11_rowBy 67 = .ok (.iconst 1, 1) := by decide +kernel
theorem dX11_rowBy_68 : decode cX11_rowBy 68 = .ok (.ireturn, 1) := by decide +kernel
theorem dX11_exchange_0 : decode cX11_exchange 0 = .ok (.aload_n 0, 1) := by decide +kernel
theorem dX11_exchange_1 : decode cX11_exchange 1 = .ok (.getfield 54, 3) := by decide +kernel
theorem dX11_exchange_4 : decode cX11_exchange 4 = .ok (.iload_n 1, 1) := by decide +kernel
theorem dX11_exchange_5 : decode cX11_exchange 5 = .ok (.iaload, 1) := by decide +kernel
theorem dX11_exchange_6 : decode cX11_exchange 6 = .ok (.istore_n 3, 1) := by decide +kernel
theorem dX11_exchange_7 : decode cX11_exchange 7 = .ok (.aload_n 0, 1) := by decide +kernel
theorem dX11_exchange_8 : decode cX11_exchange 8 = .ok (.getfield 54, 3) := by decide +kernel
theorem dX11_exchange_11 : decode cX11_exchange 11 = .ok (.iload_n 1, 1) := by decide +kernel
theorem dX11_exchange_12 : decode cX11_exchange 12 = .ok (.aload_n 0, 1) := by decide +kernel
theorem dX11_exchange_13 : decode cX11_exchange 13 = .ok (.getfield 54, 3) := by decide +kernel
theorem dX11_exchange_16 : decode cX11_exchange 16 = .ok (.iload_n 2, 1) := by decide +kernel
theorem dX11_exchange_17 : decode cX11_exchange 17 = .ok (.iaload, 1) := by decide +kernel
theorem dX11_exchange_18 : decode cX11_exchange 18 = .ok (.iastore, 1) := by decide +kernel
theorem dX11_exchange_19 : decode cX11_exchange 19 = .ok (.aload_n 0, 1) := by decide +kernel
theorem dX11_exchange_20 : decode cX11_exchange 20 = .ok (.getfield 54, 3) := by decide +kernel
theorem dX11_exchange_23 : decode cX11_exchange 23 = .ok (.iload_n 2, 1) := by decide +kernel
theorem dX11_exchange_24 : decode cX11_exchange 24 = .ok (.iload_n 3, 1) := by decide +kernel
theorem dX11_exchange_25 : decode cX11_exchange 25 = .ok (.iastore, 1) := by decide +kernel
theorem dX11_exchange_26 : decode cX11_exchange 26 = .ok (.return_, 1) := by decide +kernel
theorem dX11_findBest_0 : decode cX11_findBest 0 = .ok (.aload_n 0, 1) := by decide +kernel
theorem dX11_findBest_1 : decode cX11_findBest 1 = .ok (.aload_n 0, 1) := by decide +kernel
theorem dX11_findBest_2 : decode cX11_findBest 2 = .ok (.invokevirtual 281, 3) := by decide +kernel
theorem dX11_findBest_5 : decode cX11_findBest 5 = .ok (.invokevirtual 291, 3) := by decide +kernel
theorem dX11_findBest_8 : decode cX11_findBest 8 = .ok (.aload_n 0, 1) := by decide +kernel
theorem dX11_findBest_9 : decode cX11_findBest 9 = .ok (.getfield 135, 3) := by decide +kernel
theorem dX11_findBest_12 : decode cX11_findBest 12 = .ok (.iconst 5, 1) := by decide +kernel
theorem dX11_findBest_13 : decode cX11_findBest 13 = .ok (.if_icmp .gt 90, 3) := by decide +kernel
theorem dX11_findBest_16 : decode cX11_findBest 16 = .ok (.iconst 1, 1) := by decide +kernel
theorem dX11_findBest_17 : decode cX11_findBest 17 = .ok (.istore_n 1, 1) := by decide +kernel
theorem dX11_findBest_18 : decode cX11_findBest 18 = .ok (.iconst 0, 1) := by decide +kernel
theorem dX11_findBest_19 : decode cX11_findBest 19 = .ok (.istore_n 2, 1) := by decide +kernel
theorem dX11_findBest_20 : decode cX11_findBest 20 = .ok (.iload_n 2, 1) := by decide +kernel
theorem dX11_findBest_21 : decode cX11_findBest 21 = .ok (.aload_n 0, 1) := by decide +kernel
theorem dX11_findBest_22 : decode cX11_findBest 22 = .ok (.getfield 135, 3) := by decide +kernel
theorem dX11_findBest_25 : decode cX11_findBest 25 = .ok (.if_icmp .ge 16, 3) := by decide +kernel
theorem dX11_findBest_28 : decode cX11_findBest 28 = .ok (.iload_n 1, 1) := by decide +kernel
theorem dX11_findBest_29 : decode cX11_findBest 29 = .ok (.aload_n 0, 1) := by decide +kernel
theorem dX11_findBest_30 : decode cX11_findBest 30 = .ok (.getfield 135, 3) := by decide +kernel
theorem dX11_findBest_33 : decode cX11_findBest 33 = .ok (.imul, 1) := by decide +kernel
theorem dX11_findBest_34 : decode cX11_findBest 34 = .ok (.istore_n 1, 1) := by decide +kernel
theorem dX11_findBest_35 : decode cX11_findBest 35 = .ok (.iinc 2 1, 3) := by decide +kernel
theorem dX11_findBest_38 : decode cX11_findBest 38 = .ok (.goto (-18), 3) := by decide +kernel
theorem dX11_findBest_41 : decode cX11_findBest 41 = .ok (.iconst 0, 1) := by decide +kernel
theorem dX11_findBest_42 : decode cX11_findBest 42 = .ok (.istore_n 2, 1) := by decide +kernel
theorem dX11_findBest_43 : decode cX11_findBest 43 = .ok (.iconst 0, 1) := by decide +kernel
theorem dX11_findBest_44 : decode cX11_findBest 44 = .ok (.istore_n 3, 1) := by decide +kernel
theorem dX11_findBest_45 : decode cX11_findBest 45 = .ok (.iload_n 3, 1) := by decide +kernel
theorem dX11_findBest_46 : decode cX11_findBest 46 = .ok (.iload_n 1, 1) := by decide +kernel
theorem dX11_findBest_47 : decode cX11_findBest 47 = .ok (.if_icmp .ge 55, 3) := by decide +kernel
theorem dX11_findBest_50 : decode cX11_findBest 50 = .ok (.aload_n 0, 1) := by decide +kernel
theorem dX11_findBest_51 : decode cX11_findBest 51 = .ok (.iload_n 3, 1) := by decide +kernel
theorem dX11_findBest_52 : decode cX11_findBest 52 = .ok (.aload_n 0, 1) := by decide +kernel
theorem dX11_findBest_53 : decode cX11_findBest 53 = .ok (.getfield 135, 3) := by decide +kernel
theorem dX11_findBest_56 : decode cX11_findBest 56 = .ok (.invokevirtual 295, 3) := by decide +kernel
theorem dX11_findBest_59 : decode cX11_findBest 59 = .ok (.ifCond .ne 6, 3) := by decide +kernel
theorem dX11_findBest_62 : decode cX11_findBest 62 = .ok (.goto 34, 3) := by decide +kernel
theorem dX11_findBest_65 : decode cX11_findBest 65 = .ok (.aload_n 0, 1) := by decide +kernel
theorem dX11_findBest_66 : decode cX11_findBest 66 = .ok (.invokevirtual 275, 3) := by decide +kernel
theorem dX11_findBest_69 : decode cX11_findBest 69 = .ok (.lstore 4, 2) := by decide +kernel
theorem dX11_findBest_71 : decode cX11_findBest 71 = .ok (.iload_n 2, 1) := by decide +kernel
theorem dX11_findBest_72 : decode cX11_findBest 72 = .ok (.ifCond .eq 16, 3) := by decide +kernel
theorem dX11_findBest_75 : decode cX11_findBest 75 = .ok (.lload 4, 2) := by decide +kernel
theorem dX11_findBest_77 : decode cX11_findBest 77 = .ok (.aload_n 0, 1) := by decide +kernel
theorem dX11_findBest_78 : decode cX11_findBest 78 = .ok (.getfield 287, 3) := by decide +kernel
theorem dX11_findBest_81 : decode cX11_findBest 81 = .ok (.lcmp, 1) := by decide +kernel
theorem dX11_findBest_82 : decode cX11_findBest 82 = .ok (.ifCond .gt 6, 3) := by decide +kernel
theorem dX11_findBest_85 : decode cX11_findBest 85 = .ok (.goto 11, 3) := by decide +kernel
theorem dX11_findBest_88 : decode cX11_findBest 88 = .ok (.iconst 1, 1) := by decide +kernel
theorem dX11_findBest_89 : decode cX11_findBest 89 = .ok (.istore_n 2, 1) := by decide +kernel
theorem dX11_findBest_90 : decode cX11_findBest 90 = .ok (.aload_n 0, 1) := by decide +kernel
theorem dX11_findBest_91 : decode cX11_findBest 91 = .ok (.lload 4, 2) := by decide +kernel
theorem dX11_findBest_93 : decode cX11_findBest 93 = .ok (.invokevirtual 291, 3) := by decide +kernel
theorem dX11_findBest_96 : decode cX11_findBest 96 = .ok (.iinc 3 1, 3) := by decide +kernel
theorem dX11_findBest_99 : decode cX11_findBest 99 = .ok (.goto (-54), 3) := by decide +kernel
theorem dX11_findBest_102 : decode cX11_findBest 102 = .ok (.return_, 1) := by decide +kernel
theorem dX11_findBest_103 : decode cX11_findBest 103 = .ok (.iconst 1, 1) := by decide +kernel
theorem dX11_findBest_104 : decode cX11_findBest 104 = .ok (.istore_n 1, 1) := by decide +kernel
theorem dX11_findBest_105 : decode cX11_findBest 105 = .ok (.iload_n 1, 1) := by decide +kernel
theorem dX11_findBest_106 : decode cX11_findBest 106 = .ok (.ifCond .eq 121, 3) := by decide +kernel
theorem dX11_findBest_109 : decode cX11_findBest 109 = .ok (.iconst 0, 1) := by decide +kernel
theorem dX11_findBest_110 : decode cX11_findBest 110 = .ok (.istore_n 1, 1) := by decide +kernel
theorem dX11_findBest_111 : decode cX11_findBest 111 = .ok (.iconst 0, 1) := by decide +kernel
theorem dX11_findBest_112 : decode cX11_findBest 112 = .ok (.istore_n 2, 1) := by decide +kernel
theorem dX11_findBest_113 : decode cX11_findBest 113 = .ok (.iconst 0, 1) := by decide +kernel
theorem dX11_findBest_114 : decode cX11_findBest 114 = .ok (.istore_n 3, 1) := by decide +kernel
theorem dX11_findBest_115 : decode cX11_findBest 115 = .ok (.aload_n 0, 1) := by decide +kernel
theorem dX11_findBest_116 : decode cX11_findBest 116 = .ok (.getfield 287, 3) := by decide +kernel
theorem dX11_findBest_119 : decode cX11_findBest 119 = .ok (.lstore 4, 2) := by decide +kernel
theorem dX11_findBest_121 : decode cX11_findBest 121 = .ok (.iconst 0, 1) := by decide +kernel
theorem dX11_findBest_122 : decode cX11_findBest 122 = .ok (.istore 6, 2) := by decide +kernel
theorem dX11_findBest_124 : decode cX11_findBest 124 = .ok (.iload 6, 2) := by decide +kernel
theorem dX11_findBest_126 : decode cX11_findBest 126 = .ok (.aload_n 0, 1) := by decide +kernel
theorem dX11_findBest_127 : decode cX11_findBest 127 = .ok (.getfield 267, 3) := by decide +kernel
theorem dX11_findBest_130 : decode cX11_findBest 130 = .ok (.if_icmp .ge 75, 3) := by decide +kernel
theorem dX11_findBest_133 : decode cX11_findBest 133 = .ok (.iload 6, 2) := by decide +kernel
theorem dX11_findBest_135 : decode cX11_findBest 135 = .ok (.iconst 1, 1) := by decide +kernel
theorem dX11_findBest_136 : decode cX11_findBest 136 = .ok (.iadd, 1) := by decide +kernel
theorem dX11_findBest_137 : decode cX11_findBest 137 = .ok (.istore 7, 2) := by decide +kernel
theorem dX11_findBest_139 : decode cX11_findBest 139 = .ok (.iload 7, 2) := by decide +kernel
theorem dX11_findBest_141 : decode cX11_findBest 141 = .ok (.aload_n 0, 1) := by decide +kernel
theorem dX11_findBest_142 : decode cX11_findBest 142 = .ok (.getfield 267, 3) := by decide +kernel
theorem dX11_findBest_145 : decode cX11_findBest 145 = .ok (.if_icmp .ge 54, 3) := by decide +kernel
theorem dX11_findBest_148 : decode cX11_findBest 148 = .ok (.aload_n 0, 1) := by decide +kernel
theorem dX11_findBest_149 : decode cX11_findBest 149 = .ok (.iload 6, 2) := by decide +kernel
theorem dX11_findBest_151 : decode cX11_findBest 151 = .ok (.iload 7, 2) := by decide +kernel
theorem dX11_findBest_153 : decode cX11_findBest 153 = .ok (.invokevirtual 298, 3) := by decide +kernel
theorem dX11_findBest_156 : decode cX11_findBest 156 = .ok (.aload_n 0, 1) := by decide +kernel
theorem dX11_findBest_157 : decode cX11_findBest 157 = .ok (.invokevirtual 275, 3) := by decide +kernel
theorem dX11_findBest_160 : decode cX11_findBest 160 = .ok (.lstore 8, 2) := by decide +kernel
theorem dX11_findBest_162 : decode cX11_findBest 162 = .ok (.aload_n 0, 1) := by decide +kernel
theorem dX11_findBest_163 : decode cX11_findBest 163 = .ok (.iload 6, 2) := by decide +kernel
theorem dX11_findBest_165 : decode cX11_findBest 165 = .ok (.iload 7, 2) := by decide +kernel
theorem dX11_findBest_167 : decode cX11_findBest 167 = .ok (.invokevirtual 298, 3) := by decide +kernel
theorem dX11_findBest_170 : decode cX11_findBest 170 = .ok (.lload 8, 2) := by decide +kernel
theorem dX11_findBest_172 : decode cX11_findBest 172 = .ok (.lload 4, 2) := by decide +kernel
theorem dX11_findBest_174 : decode cX11_findBest 174 = .ok (.lcmp, 1) := by decide +kernel
theorem dX11_findBest_175 : decode cX11_findBest 175 = .ok (.ifCond .gt 6, 3) := by decide +kernel
theorem dX11_findBest_178 : decode cX11_findBest 178 = .ok (.goto 15, 3) := by decide +kernel
theorem dX11_findBest_181 : decode cX11_findBest 181 = .ok (.lload 8, 2) := by decide +kernel
theorem dX11_findBest_183 : decode cX11_findBest 183 = .ok (.lstore 4, 2) := by decide +kernel
theorem dX11_findBest_185 : decode cX11_findBest 185 = .ok (.iload 6, 2) := by decide +kernel
theorem dX11_findBest_187 : decode cX11_findBest 187 = .ok (.istore_n 2, 1) := by decide +kernel
theorem dX11_findBest_188 : decode cX11_findBest 188 = .ok (.iload 7, 2) := by decide +kernel
theorem dX11_findBest_190 : decode cX11_findBest 190 = .ok (.istore_n 3, 1) := by decide +kernel
theorem dX11_findBest_191 : decode cX11_findBest 191 = .ok (.iconst 1, 1) := by decide +kernel
theorem dX11_findBest_192 : decode cX11_findBest 192 = .ok (.istore_n 1, 1) := by decide +kernel
theorem dX11_findBest_193 : decode cX11_findBest 193 = .ok (.iinc 7 1, 3) := by decide +kernel
theorem dX11_findBest_196 : decode cX11_findBest 196 = .ok (.goto (-57), 3) := by decide +kernel
theorem dX11_findBest_199 : decode cX11_findBest 199 = .ok (.iinc 6 1, 3) := by decide +kernel
theorem dX11_findBest_202 : decode cX11_findBest 202 = .ok (.goto (-78), 3) := by decide +kernel
theorem dX11_findBest_205 : decode cX11_findBest 205 = .ok (.iload_n 1, 1) := by decide +kernel
theorem dX11_findBest_206 : decode cX11_findBest 206 = .ok (.ifCond .ne 6, 3) := by decide +kernel
theorem dX11_findBest_209 : decode cX11_findBest 209 = .ok (.goto (-104), 3) := by decide +kernel
theorem dX11_findBest_212 : decode cX11_findBest 212 = .ok (.aload_n 0, 1) := by decide +kernel
theorem dX11_findBest_213 : decode cX11_findBest 213 = .ok (.iload_n 2, 1) := by decide +kernel
theorem dX11_findBest_214 : decode cX11_findBest 214 = .ok (.iload_n 3, 1) := by decide +kernel
theorem dX11_findBest_215 : decode cX11_findBest 215 = .ok (.invokevirtual 298, 3) := by decide +kernel
theorem dX11_findBest_218 : decode cX11_findBest 218 = .ok (.aload_n 0, 1) := by decide +kernel
theorem dX11_findBest_219 : decode cX11_findBest 219 = .ok (.lload 4, 2) := by decide +kernel
theorem dX11_findBest_221 : decode cX11_findBest 221 = .ok (.invokevirtual 291, 3) := by decide +kernel
theorem dX11_findBest_224 : decode cX11_findBest 224 = .ok (.goto (-119), 3) := by decide +kernel
theorem dX11_findBest_227 : decode cX11_findBest 227 = .ok (.return_, 1) := by decide +kernel
theorem dX11_best_0 : decode cX11_best 0 = .ok (.iload_n 1, 1) := by decide +kernel
theorem dX11_best_1 : decode cX11_best 1 = .ok (.iconst 0, 1) := by decide +kernel
theorem dX11_best_2 : decode cX11_best 2 = .ok (.iconst 2, 1) := by decide +kernel
theorem dX11_best_3 : decode cX11_best 3 = .ok (.invokestatic 127, 3) := by decide +kernel
theorem dX11_best_6 : decode cX11_best 6 = .ok (.ifCond .ne 7, 3) := by decide +kernel
theorem dX11_best_9 : decode cX11_best 9 = .ok (.ldc2_w 279, 3) := by decide +kernel
theorem dX11_best_12 : decode cX11_best 12 = .ok (.lreturn, 1) := by decide +kernel
theorem dX11_best_13 : decode cX11_best 13 = .ok (.aload_n 0, 1) := by decide +kernel
theorem dX11_best_14 : decode cX11_best 14 = .ok (.invokevirtual 281, 3) := by decide +kernel
theorem dX11_best_17 : decode cX11_best 17 = .ok (.lstore_n 2, 1) := by decide +kernel
theorem dX11_best_18 : decode cX11_best 18 = .ok (.aload_n 0, 1) := by decide +kernel
theorem dX11_best_19 : decode cX11_best 19 = .ok (.invokevirtual 301, 3) := by decide +kernel
theorem dX11_best_22 : decode cX11_best 22 = .ok (.iload_n 1, 1) := by decide +kernel
theorem dX11_best_23 : decode cX11_best 23 = .ok (.ifCond .le 22, 3) := by decide +kernel
theorem dX11_best_26 : decode cX11_best 26 = .ok (.iload_n 1, 1) := by decide +kernel
theorem dX11_best_27 : decode cX11_best 27 = .ok (.iconst 1, 1) := by decide +kernel
theorem dX11_best_28 : decode cX11_best 28 = .ok (.if_icmp .ne 10, 3) := by decide +kernel
theorem dX11_best_31 : decode cX11_best 31 = .ok (.aload_n 0, 1) := by decide +kernel
theorem dX11_best_32 : decode cX11_best 32 = .ok (.getfield 287, 3) := by decide +kernel
theorem dX11_best_35 : decode cX11_best 35 = .ok (.goto 9, 3) := by decide +kernel
theorem dX11_best_38 : decode cX11_best 38 = .ok (.aload_n 0, 1) := by decide +kernel
theorem dX11_best_39 : decode cX11_best 39 = .ok (.getfield 287, 3) := by decide +kernel
theorem dX11_best_42 : decode cX11_best 42 = .ok (.lload_n 2, 1) := by decide +kernel
theorem dX11_best_43 : decode cX11_best 43 = .ok (.lsub, 1) := by decide +kernel
theorem dX11_best_44 : decode cX11_best 44 = .ok (.lreturn, 1) := by decide +kernel
theorem dX11_best_45 : decode cX11_best 45 = .ok (.lconst 0, 1) := by decide +kernel
theorem dX11_best_46 : decode cX11_best 46 = .ok (.lstore 4, 2) := by decide +kernel
theorem dX11_best_48 : decode cX11_best 48 = .ok (.iconst 0, 1) := by decide +kernel
theorem dX11_best_49 : decode cX11_best 49 = .ok (.istore 6, 2) := by decide +kernel
theorem dX11_best_51 : decode cX11_best 51 = .ok (.iload 6, 2) := by decide +kernel
theorem dX11_best_53 : decode cX11_best 53 = .ok (.aload_n 0, 1) := by decide +kernel
theorem dX11_best_54 : decode cX11_best 54 = .ok (.getfield 135, 3) := by decide +kernel
theorem dX11_best_57 : decode cX11_best 57 = .ok (.if_icmp .ge 28, 3) := by decide +kernel
theorem dX11_best_60 : decode cX11_best 60 = .ok (.ldc2_w 304, 3) := by decide +kernel
theorem dX11_best_63 : decode cX11_best 63 = .ok (.lload 4, 2) := by decide +kernel
theorem dX11_best_65 : decode cX11_best 65 = .ok (.lmul, 1) := by decide +kernel
theorem dX11_best_66 : decode cX11_best 66 = .ok (.aload_n 0, 1) := by decide +kernel
theorem dX11_best_67 : decode cX11_best 67 = .ok (.getfield 67, 3) := by decide +kernel
theorem dX11_best_70 : decode cX11_best 70 = .ok (.iload 6, 2) := by decide +kernel
theorem dX11_best_72 : decode cX11_best 72 = .ok (.iaload, 1) := by decide +kernel
theorem dX11_best_73 : decode cX11_best 73 = .ok (.i2l, 1) := by decide +kernel
theorem dX11_best_74 : decode cX11_best 74 = .ok (.ladd, 1) := by decide +kernel
theorem dX11_best_75 : decode cX11_best 75 = .ok (.lconst 1, 1) := by decide +kernel
theorem dX11_best_76 : decode cX11_best 76 = .ok (.ladd, 1) := by decide +kernel
theorem dX11_best_77 : decode cX11_best 77 = .ok (.lstore 4, 2) := by decide +kernel
theorem dX11_best_79 : decode cX11_best 79 = .ok (.iinc 6 1, 3) := by decide +kernel
theorem dX11_best_82 : decode cX11_best 82 = .ok (.goto (-31), 3) := by decide +kernel
theorem dX11_best_85 : decode cX11_best 85 = .ok (.lload 4, 2) := by decide +kernel
theorem dX11_best_87 : decode cX11_best 87 = .ok (.lreturn, 1) := by decide +kernel
theorem dX11_side_0 : decode cX11_side 0 = .ok (.aload_n 0, 1) := by decide +kernel
theorem dX11_side_1 : decode cX11_side 1 = .ok (.getfield 7, 3) := by decide +kernel
theorem dX11_side_4 : decode cX11_side 4 = .ok (.iconst 0, 1) := by decide +kernel
theorem dX11_side_5 : decode cX11_side 5 = .ok (.iaload, 1) := by decide +kernel
theorem dX11_side_6 : decode cX11_side 6 = .ok (.istore_n 1, 1) := by decide +kernel
theorem dX11_side_7 : decode cX11_side 7 = .ok (.iconst 0, 1) := by decide +kernel
theorem dX11_side_8 : decode cX11_side 8 = .ok (.istore_n 2, 1) := by decide +kernel
theorem dX11_side_9 : decode cX11_side 9 = .ok (.ldc2_w 306, 3) := by decide +kernel
theorem dX11_side_12 : decode cX11_side 12 = .ok (.lstore_n 3, 1) := by decide +kernel
theorem dX11_side_13 : decode cX11_side 13 = .ok (.iconst 0, 1) := by decide +kernel
theorem dX11_side_14 : decode cX11_side 14 = .ok (.istore 5, 2) := by decide +kernel
theorem dX11_side_16 : decode cX11_side 16 = .ok (.iload 5, 2) := by decide +kernel
theorem dX11_side_18 : decode cX11_side 18 = .ok (.bipush 20, 2) := by decide +kernel
theorem dX11_side_20 : decode cX11_side 20 = .ok (.if_icmp .gt 39, 3) := by decide +kernel
theorem dX11_side_23 : decode cX11_side 23 = .ok (.aload_n 0, 1) := by decide +kernel
theorem dX11_side_24 : decode cX11_side 24 = .ok (.getfield 7, 3) := by decide +kernel
theorem dX11_side_27 : decode cX11_side 27 = .ok (.iconst 0, 1) := by decide +kernel
theorem dX11_side_28 : decode cX11_side 28 = .ok (.iload 5, 2) := by decide +kernel
theorem dX11_side_30 : decode cX11_side 30 = .ok (.iastore, 1) := by decide +kernel
theorem dX11_side_31 : decode cX11_side 31 = .ok (.aload_n 0, 1) := by decide +kernel
theorem dX11_side_32 : decode cX11_side 32 = .ok (.invokevirtual 281, 3) := by decide +kernel
theorem dX11_side_35 : decode cX11_side 35 = .ok (.lstore 6, 2) := by decide +kernel
theorem dX11_side_37 : decode cX11_side 37 = .ok (.lload 6, 2) := by decide +kernel
theorem dX11_side_39 : decode cX11_side 39 = .ok (.lload_n 3, 1) := by decide +kernel
theorem dX11_side_40 : decode cX11_side 40 = .ok (.lcmp, 1) := by decide +kernel
theorem dX11_side_41 : decode cX11_side 41 = .ok (.ifCond .gt 6, 3) := by decide +kernel
theorem dX11_side_44 : decode cX11_side 44 = .ok (.goto 9, 3) := by decide +kernel
theorem dX11_side_47 : decode cX11_side 47 = .ok (.iload 5, 2) := by decide +kernel
theorem dX11_side_49 : decode cX11_side 49 = .ok (.istore_n 2, 1) := by decide +kernel
theorem dX11_side_50 : decode cX11_side 50 = .ok (.lload 6, 2) := by decide +kernel
theorem dX11_side_52 : decode cX11_side 52 = .ok (.lstore_n 3, 1) := by decide +kernel
theorem dX11_side_53 : decode cX11_side 53 = .ok (.iinc 5 1, 3) := by decide +kernel
theorem dX11_side_56 : decode cX11_side 56 = .ok (.goto (-40), 3) := by decide +kernel
theorem dX11_side_59 : decode cX11_side 59 = .ok (.aload_n 0, 1) := by decide +kernel
theorem dX11_side_60 : decode cX11_side 60 = .ok (.getfield 7, 3) := by decide +kernel
theorem dX11_side_63 : decode cX11_side 63 = .ok (.iconst 0, 1) := by decide +kernel
theorem dX11_side_64 : decode cX11_side 64 = .ok (.iload_n 1, 1) := by decide +kernel
theorem dX11_side_65 : decode cX11_side 65 = .ok (.iastore, 1) := by decide +kernel
theorem dX11_side_66 : decode cX11_side 66 = .ok (.iload_n 2, 1) := by decide +kernel
theorem dX11_side_67 : decode cX11_side 67 = .ok (.ireturn, 1) := by decide +kernel
theorem dX11_leave_0 : decode cX11_leave 0 = .ok (.aload_n 0, 1) := by decide +kernel
theorem dX11_leave_1 : decode cX11_leave 1 = .ok (.invokevirtual 281, 3) := by decide +kernel
theorem dX11_leave_4 : decode cX11_leave 4 = .ok (.lstore_n 1, 1) := by decide +kernel
theorem dX11_leave_5 : decode cX11_leave 5 = .ok (.iconst (-1), 1) := by decide +kernel
theorem dX11_leave_6 : decode cX11_leave 6 = .ok (.istore_n 3, 1) := by decide +kernel
theorem dX11_leave_7 : decode cX11_leave 7 = .ok (.iconst 0, 1) := by decide +kernel
theorem dX11_leave_8 : decode cX11_leave 8 = .ok (.istore 4, 2) := by decide +kernel
theorem dX11_leave_10 : decode cX11_leave 10 = .ok (.iload 4, 2) := by decide +kernel
theorem dX11_leave_12 : decode cX11_leave 12 = .ok (.aload_n 0, 1) := by decide +kernel
theorem dX11_leave_13 : decode cX11_leave 13 = .ok (.getfield 135, 3) := by decide +kernel
theorem dX11_leave_16 : decode cX11_leave 16 = .ok (.if_icmp .ge 99, 3) := by decide +kernel
theorem dX11_leave_19 : decode cX11_leave 19 = .ok (.aload_n 0, 1) := by decide +kernel
theorem dX11_leave_20 : decode cX11_leave 20 = .ok (.iconst 0, 1) := by decide +kernel
theorem dX11_leave_21 : decode cX11_leave 21 = .ok (.putfield 267, 3) := by decide +kernel
theorem dX11_leave_24 : decode cX11_leave 24 = .ok (.iconst 0, 1) := by decide +kernel
theorem dX11_leave_25 : decode cX11_leave 25 = .ok (.istore 5, 2) := by decide +kernel
theorem dX11_leave_27 : decode cX11_leave 27 = .ok (.iload 5, 2) := by decide +kernel
theorem dX11_leave_29 : decode cX11_leave 29 = .ok (.aload_n 0, 1) := by decide +kernel
theorem dX11_leave_30 : decode cX11_leave 30 = .ok (.getfield 135, 3) := by decide +kernel
theorem dX11_leave_33 : decode cX11_leave 33 = .ok (.if_icmp .ge 40, 3) := by decide +kernel
theorem dX11_leave_36 : decode cX11_leave 36 = .ok (.iload 5, 2) := by decide +kernel
theorem dX11_leave_38 : decode cX11_leave 38 = .ok (.iload 4, 2) := by decide +kernel
theorem dX11_leave_40 : decode cX11_leave 40 = .ok (.if_icmp .ne 6, 3) := by decide +kernel
theorem dX11_leave_43 : decode cX11_leave 43 = .ok (.goto 24, 3) := by decide +kernel
theorem dX11_leave_46 : decode cX11_leave 46 = .ok (.aload_n 0, 1) := by decide +kernel
theorem dX11_leave_47 : decode cX11_leave 47 = .ok (.getfield 54, 3) := by decide +kernel
theorem dX11_leave_50 : decode cX11_leave 50 = .ok (.aload_n 0, 1) := by decide +kernel
theorem dX11_leave_51 : decode cX11_leave 51 = .ok (.getfield 267, 3) := by decide +kernel
theorem dX11_leave_54 : decode cX11_leave 54 = .ok (.iload 5, 2) := by decide +kernel
theorem dX11_leave_56 : decode cX11_leave 56 = .ok (.iastore, 1) := by decide +kernel
theorem dX11_leave_57 : decode cX11_leave 57 = .ok (.aload_n 0, 1) := by decide +kernel
theorem dX11_leave_58 : decode cX11_leave 58 = .ok (.dup, 1) := by decide +kernel
theorem dX11_leave_59 : decode cX11_leave 59 = .ok (.getfield 267, 3) := by decide +kernel
theorem dX11_leave_62 : decode cX11_leave 62 = .ok (.iconst 1, 1) := by decide +kernel
theorem dX11_leave_63 : decode cX11_leave 63 = .ok (.iadd, 1) := by decide +kernel
theorem dX11_leave_64 : decode cX11_leave 64 = .ok (.putfield 267, 3) := by decide +kernel
theorem dX11_leave_67 : decode cX11_leave 67 = .ok (.iinc 5 1, 3) := by decide +kernel
theorem dX11_leave_70 : decode cX11_leave 70 = .ok (.goto (-43), 3) := by decide +kernel
theorem dX11_leave_73 : decode cX11_leave 73 = .ok (.aload_n 0, 1) := by decide +kernel
theorem dX11_leave_74 : decode cX11_leave 74 = .ok (.invokevirtual 275, 3) := by decide +kernel
theorem dX11_leave_77 : decode cX11_leave 77 = .ok (.lstore 5, 2) := by decide +kernel
theorem dX11_leave_79 : decode cX11_leave 79 = .ok (.iload_n 3, 1) := by decide +kernel
theorem dX11_leave_80 : decode cX11_leave 80 = .ok (.ifCond .ge 13, 3) := by decide +kernel
theorem dX11_leave_83 : decode cX11_leave 83 = .ok (.lload 5, 2) := by decide +kernel
theorem dX11_leave_85 : decode cX11_leave 85 = .ok (.lload_n 1, 1) := by decide +kernel
theorem dX11_leave_86 : decode cX11_leave 86 = .ok (.lcmp, 1) := by decide +kernel
theorem dX11_leave_87 : decode cX11_leave 87 = .ok (.ifCond .ge 16, 3) := by decide +kernel
theorem dX11_leave_90 : decode cX11_leave 90 = .ok (.goto 19, 3) := by decide +kernel
theorem dX11_leave_93 : decode cX11_leave 93 = .ok (.lload 5, 2) := by decide +kernel
theorem dX11_leave_95 : decode cX11_leave 95 = .ok (.lload_n 1, 1) := by decide +kernel
theorem dX11_leave_96 : decode cX11_leave 96 = .ok (.lcmp, 1) := by decide +kernel
theorem dX11_leave_97 : decode cX11_leave 97 = .ok (.ifCond .gt 6, 3) := by decide +kernel
theorem dX11_leave_100 : decode cX11_leave 100 = .ok (.goto 9, 3) := by decide +kernel
theorem dX11_leave_103 : decode cX11_leave 103 = .ok (.iload 4, 2) := by decide +kernel
theorem dX11_leave_105 : decode cX11_leave 105 = .ok (.istore_n 3, 1) := by decide +kernel
theorem dX11_leave_106 : decode cX11_leave 106 = .ok (.lload 5, 2) := by decide +kernel
theorem dX11_leave_108 : decode cX11_leave 108 = .ok (.lstore_n 1, 1) := by decide +kernel
theorem dX11_leave_109 : decode cX11_leave 109 = .ok (.iinc 4 1, 3) := by decide +kernel
theorem dX11_leave_112 : decode cX11_leave 112 = .ok (.goto (-102), 3) := by decide +kernel
theorem dX11_leave_115 : decode cX11_leave 115 = .ok (.iload_n 3, 1) := by decide +kernel
theorem dX11_leave_116 : decode cX11_leave 116 = .ok (.ireturn, 1) := by decide +kernel
theorem dX11_isWord_0 : decode cX11_isWord 0 = .ok (.iload_n 1, 1) := by decide +kernel
theorem dX11_isWord_1 : decode cX11_isWord 1 = .ok (.iconst 0, 1) := by decide +kernel
theorem dX11_isWord_2 : decode cX11_isWord 2 = .ok (.aload_n 0, 1) := by decide +kernel
theorem dX11_isWord_3 : decode cX11_isWord 3 = .ok (.getfield 138, 3) := by decide +kernel
theorem dX11_isWord_6 : decode cX11_isWord 6 = .ok (.iconst 1, 1) := by decide +kernel
theorem dX11_isWord_7 : decode cX11_isWord 7 = .ok (.isub, 1) := by decide +kernel
theorem dX11_isWord_8 : decode cX11_isWord 8 = .ok (.invokestatic 127, 3) := by decide +kernel
theorem dX11_isWord_11 : decode cX11_isWord 11 = .ok (.ireturn, 1) := by decide +kernel
theorem dX11_word_0 : decode cX11_word 0 = .ok (.iload_n 1, 1) := by decide +kernel
theorem dX11_word_1 : decode cX11_word 1 = .ok (.iconst 0, 1) := by decide +kernel
theorem dX11_word_2 : decode cX11_word 2 = .ok (.sipush 9999, 3) := by decide +kernel
theorem dX11_word_5 : decode cX11_word 5 = .ok (.invokestatic 127, 3) := by decide +kernel
theorem dX11_word_8 : decode cX11_word 8 = .ok (.ifCond .eq 13, 3) := by decide +kernel
theorem dX11_word_11 : decode cX11_word 11 = .ok (.iload_n 2, 1) := by decide +kernel
theorem dX11_word_12 : decode cX11_word 12 = .ok (.iconst 0, 1) := by decide +kernel
theorem dX11_word_13 : decode cX11_word 13 = .ok (.bipush 99, 2) := by decide +kernel
theorem dX11_word_15 : decode cX11_word 15 = .ok (.invokestatic 127, 3) := by decide +kernel
theorem dX11_word_18 : decode cX11_word 18 = .ok (.ifCond .ne 6, 3) := by decide +kernel
theorem dX11_word_21 : decode cX11_word 21 = .ok (.bipush (-2), 2) := by decide +kernel
theorem dX11_word_23 : decode cX11_word 23 = .ok (.ireturn, 1) := by decide +kernel
theorem dX11_word_24 : decode cX11_word 24 = .ok (.aload_n 0, 1) := by decide +kernel
theorem dX11_word_25 : decode cX11_word 25 = .ok (.getfield 138, 3) := by decide +kernel
theorem dX11_word_28 : decode cX11_word 28 = .ok (.bipush 6, 2) := by decide +kernel
theorem dX11_word_30 : decode cX11_word 30 = .ok (.if_icmp .ne 6, 3) := by decide +kernel
theorem dX11_word_33 : decode cX11_word 33 = .ok (.bipush (-4), 2) := by decide +kernel
theorem dX11_word_35 : decode cX11_word 35 = .ok (.ireturn, 1) := by decide +kernel
theorem dX11_word_36 : decode cX11_word 36 = .ok (.aload_n 0, 1) := by decide +kernel
theorem dX11_word_37 : decode cX11_word 37 = .ok (.getfield 70, 3) := by decide +kernel
theorem dX11_word_40 : decode cX11_word 40 = .ok (.aload_n 0, 1) := by decide +kernel
theorem dX11_word_41 : decode cX11_word 41 = .ok (.getfield 138, 3) := by decide +kernel
theorem dX11_word_44 : decode cX11_word 44 = .ok (.iload_n 1, 1) := by decide +kernel
theorem dX11_word_45 : decode cX11_word 45 = .ok (.iastore, 1) := by decide +kernel
theorem dX11_word_46 : decode cX11_word 46 = .ok (.aload_n 0, 1) := by decide +kernel
theorem dX11_word_47 : decode cX11_word 47 = .ok (.getfield 73, 3) := by decide +kernel
theorem dX11_word_50 : decode cX11_word 50 = .ok (.aload_n 0, 1) := by decide +kernel
theorem dX11_word_51 : decode cX11_word 51 = .ok (.getfield 138, 3) := by decide +kernel
theorem dX11_word_54 : decode cX11_word 54 = .ok (.iload_n 2, 1) := by decide +kernel
theorem dX11_word_55 : decode cX11_word 55 = .ok (.iastore, 1) := by decide +kernel
theorem dX11_word_56 : decode cX11_word 56 = .ok (.aload_n 0, 1) := by decide +kernel
theorem dX11_word_57 : decode cX11_word 57 = .ok (.getfield 76, 3) := by decide +kernel
theorem dX11_word_60 : decode cX11_word 60 = .ok (.bipush 7, 2) := by decide +kernel
theorem dX11_word_62 : decode cX11_word 62 = .ok (.aload_n 0, 1) := by decide +kernel
theorem dX11_word_63 : decode cX11_word 63 = .ok (.getfield 138, 3) := by decide +kernel
theorem dX11_word_66 : decode cX11_word 66 = .ok (.imul, 1) := by decide +kernel
theorem dX11_word_67 : decode cX11_word 67 = .ok (.bipush 10, 2) := by decide +kernel
theorem dX11_word_69 : decode cX11_word 69 = .ok (.iastore, 1) := by decide +kernel
theorem dX11_word_70 : decode cX11_word 70 = .ok (.aload_n 0, 1) := by decide +kernel
theorem dX11_word_71 : decode cX11_word 71 = .ok (.dup, 1) := by decide +kernel
theorem dX11_word_72 : decode cX11_word 72 = .ok (.getfield 138, 3) := by decide +kernel
theorem dX11_word_75 : decode cX11_word 75 = .ok (.iconst 1, 1) := by decide +kernel
theorem dX11_word_76 : decode cX11_word 76 = .ok (.iadd, 1) := by decide +kernel
theorem dX11_word_77 : decode cX11_word 77 = .ok (.putfield 138, 3) := by decide +kernel
theorem dX11_word_80 : decode cX11_word 80 = .ok (.aload_n 0, 1) := by decide +kernel
theorem dX11_word_81 : decode cX11_word 81 = .ok (.getfield 138, 3) := by decide +kernel
theorem dX11_word_84 : decode cX11_word 84 = .ok (.iconst 1, 1) := by decide +kernel
theorem dX11_word_85 : decode cX11_word 85 = .ok (.isub, 1) := by decide +kernel
theorem dX11_word_86 : decode cX11_word 86 = .ok (.ireturn, 1) := by decide +kernel
theorem dX11_mistake_0 : decode cX11_mistake 0 = .ok (.aload_n 0, 1) := by decide +kernel
theorem dX11_mistake_1 : decode cX11_mistake 1 = .ok (.iload_n 1, 1) := by decide +kernel
theorem dX11_mistake_2 : decode cX11_mistake 2 = .ok (.invokevirtual 308, 3) := by decide +kernel
theorem dX11_mistake_5 : decode cX11_mistake 5 = .ok (.ifCond .eq 11, 3) := by decide +kernel
theorem dX11_mistake_8 : decode cX11_mistake 8 = .ok (.aload_n 0, 1) := by decide +kernel
theorem dX11_mistake_9 : decode cX11_mistake 9 = .ok (.iload_n 2, 1) := by decide +kernel
theorem dX11_mistake_10 : decode cX11_mistake 10 = .ok (.invokevirtual 308, 3) := by decide +kernel
theorem dX11_mistake_13 : decode cX11_mistake 13 = .ok (.ifCond .ne 5, 3) := by decide +kernel
theorem dX11_mistake_16 : decode cX11_mistake 16 = .ok (.iconst (-1), 1) := by decide +kernel
theorem dX11_mistake_17 : decode cX11_mistake 17 = .ok (.ireturn, 1) := by decide +kernel
theorem dX11_mistake_18 : decode cX11_mistake 18 = .ok (.iload_n 3, 1) := by decide +kernel
theorem dX11_mistake_19 : decode cX11_mistake 19 = .ok (.iconst 0, 1) := by decide +kernel
theorem dX11_mistake_20 : decode cX11_mistake 20 = .ok (.bipush 99, 2) := by decide +kernel
theorem dX11_mistake_22 : decode cX11_mistake 22 = .ok (.invokestatic 127, 3) := by decide +kernel
theorem dX11_mistake_25 : decode cX11_mistake 25 = .ok (.ifCond .ne 6, 3) := by decide +kernel
theorem dX11_mistake_28 : decode cX11_mistake 28 = .ok (.bipush (-2), 2) := by decide +kernel
theorem dX11_mistake_30 : decode cX11_mistake 30 = .ok (.ireturn, 1) := by decide +kernel
theorem dX11_mistake_31 : decode cX11_mistake 31 = .ok (.aload_n 0, 1) := by decide +kernel
theorem dX11_mistake_32 : decode cX11_mistake 32 = .ok (.getfield 76, 3) := by decide +kernel
theorem dX11_mistake_35 : decode cX11_mistake 35 = .ok (.bipush 6, 2) := by decide +kernel
theorem dX11_mistake_37 : decode cX11_mistake 37 = .ok (.iload_n 1, 1) := by decide +kernel
theorem dX11_mistake_38 : decode cX11_mistake 38 = .ok (.imul, 1) := by decide +kernel
theorem dX11_mistake_39 : decode cX11_mistake 39 = .ok (.iload_n 2, 1) := by decide +kernel
theorem dX11_mistake_40 : decode cX11_mistake 40 = .ok (.iadd, 1) := by decide +kernel
theorem dX11_mistake_41 : decode cX11_mistake 41 = .ok (.iaload, 1) := by decide +kernel
theorem dX11_mistake_42 : decode cX11_mistake 42 = .ok (.istore 4, 2) := by decide +kernel
theorem dX11_mistake_44 : decode cX11_mistake 44 = .ok (.aload_n 0, 1) := by decide +kernel
theorem dX11_mistake_45 : decode cX11_mistake 45 = .ok (.getfield 76, 3) := by decide +kernel
theorem dX11_mistake_48 : decode cX11_mistake 48 = .ok (.bipush 6, 2) := by decide +kernel
theorem dX11_mistake_50 : decode cX11_mistake 50 = .ok (.iload_n 1, 1) := by decide +kernel
theorem dX11_mistake_51 : decode cX11_mistake 51 = .ok (.imul, 1) := by decide +kernel
theorem dX11_mistake_52 : decode cX11_mistake 52 = .ok (.iload_n 2, 1) := by decide +kernel
theorem dX11_mistake_53 : decode cX11_mistake 53 = .ok (.iadd, 1) := by decide +kernel
theorem dX11_mistake_54 : decode cX11_mistake 54 = .ok (.iload_n 3, 1) := by decide +kernel
theorem dX11_mistake_55 : decode cX11_mistake 55 = .ok (.iastore, 1) := by decide +kernel
theorem dX11_mistake_56 : decode cX11_mistake 56 = .ok (.iload 4, 2) := by decide +kernel
theorem dX11_mistake_58 : decode cX11_mistake 58 = .ok (.ireturn, 1) := by decide +kernel
theorem dX11_allTaken_0 : decode cX11_allTaken 0 = .ok (.lconst 0, 1) := by decide +kernel
theorem dX11_allTaken_1 : decode cX11_allTaken 1 = .ok (.lstore_n 2, 1) := by decide +kernel
theorem dX11_allTaken_2 : decode cX11_allTaken 2 = .ok (.iconst 0, 1) := by decide +kernel
theorem dX11_allTaken_3 : decode cX11_allTaken 3 = .ok (.istore 4, 2) := by decide +kernel
theorem dX11_allTaken_5 : decode cX11_allTaken 5 = .ok (.iload 4, 2) := by decide +kernel
theorem dX11_allTaken_7 : decode cX11_allTaken 7 = .ok (.aload_n 0, 1) := by decide +kernel
theorem dX11_allTaken_8 : decode cX11_allTaken 8 = .ok (.getfield 138, 3) := by decide +kernel
theorem dX11_allTaken_11 : decode cX11_allTaken 11 = .ok (.if_icmp .ge 25, 3) := by decide +kernel
theorem dX11_allTaken_14 : decode cX11_allTaken 14 = .ok (.lload_n 2, 1) := by decide +kernel
theorem dX11_allTaken_15 : decode cX11_allTaken 15 = .ok (.aload_n 0, 1) := by decide +kernel
theorem dX11_allTaken_16 : decode cX11_allTaken 16 = .ok (.getfield 76, 3) := by decide +kernel
theorem dX11_allTaken_19 : decode cX11_allTaken 19 = .ok (.bipush 6, 2) := by decide +kernel
theorem dX11_allTaken_21 : decode cX11_allTaken 21 = .ok (.iload_n 1, 1) := by decide +kernel
theorem dX11_allTaken_22 : decode cX11_allTaken 22 = .ok (.imul, 1) := by decide +kernel
theorem dX11_allTaken_23 : decode cX11_allTaken 23 = .ok (.iload 4, 2) := by decide +kernel
theorem dX11_allTaken_25 : decode cX11_allTaken 25 = .ok (.iadd, 1) := by decide +kernel
theorem dX11_allTaken_26 : decode cX11_allTaken 26 = .ok (.iaload, 1) := by decide +kernel
theorem dX11_allTaken_27 : decode cX11_allTaken 27 = .ok (.i2l, 1) := by decide +kernel
theorem dX11_allTaken_28 : decode cX11_allTaken 28 = .ok (.ladd, 1) := by decide +kernel
theorem dX11_allTaken_29 : decode cX11_allTaken 29 = .ok (.lstore_n 2, 1) := by decide +kernel
theorem dX11_allTaken_30 : decode cX11_allTaken 30 = .ok (.iinc 4 1, 3) := by decide +kernel
theorem dX11_allTaken_33 : decode cX11_allTaken 33 = .ok (.goto (-28), 3) := by decide +kernel
theorem dX11_allTaken_36 : decode cX11_allTaken 36 = .ok (.lload_n 2, 1) := by decide +kernel
theorem dX11_allTaken_37 : decode cX11_allTaken 37 = .ok (.lconst 0, 1) := by decide +kernel
theorem dX11_allTaken_38 : decode cX11_allTaken 38 = .ok (.lcmp, 1) := by decide +kernel
theorem dX11_allTaken_39 : decode cX11_allTaken 39 = .ok (.ifCond .ne 7, 3) := by decide +kernel
theorem dX11_allTaken_42 : decode cX11_allTaken 42 = .ok (.lconst 1, 1) := by decide +kernel
theorem dX11_allTaken_43 : decode cX11_allTaken 43 = .ok (.goto 4, 3) := by decide +kernel
theorem dX11_allTaken_46 : decode cX11_allTaken 46 = .ok (.lload_n 2, 1) := by decide +kernel
theorem dX11_allTaken_47 : decode cX11_allTaken 47 = .ok (.lreturn, 1) := by decide +kernel
theorem dX11_counts_0 : decode cX11_counts 0 = .ok (.aload_n 0, 1) := by decide +kernel
theorem dX11_counts_1 : decode cX11_counts 1 = .ok (.getfield 73, 3) := by decide +kernel
theorem dX11_counts_4 : decode cX11_counts 4 = .ok (.iload_n 1, 1) := by decide +kernel
theorem dX11_counts_5 : decode cX11_counts 5 = .ok (.iaload, 1) := by decide +kernel
theorem dX11_counts_6 : decode cX11_counts 6 = .ok (.i2l, 1) := by decide +kernel
theorem dX11_counts_7 : decode cX11_counts 7 = .ok (.aload_n 0, 1) := by decide +kernel
theorem dX11_counts_8 : decode cX11_counts 8 = .ok (.getfield 76, 3) := by decide +kernel
theorem dX11_counts_11 : decode cX11_counts 11 = .ok (.bipush 6, 2) := by decide +kernel
theorem dX11_counts_13 : decode cX11_counts 13 = .ok (.iload_n 1, 1) := by decide +kernel
theorem dX11_counts_14 : decode cX11_counts 14 = .ok (.imul, 1) := by decide +kernel
theorem dX11_counts_15 : decode cX11_counts 15 = .ok (.iload_n 2, 1) := by decide +kernel
theorem dX11_counts_16 : decode cX11_counts 16 = .ok (.iadd, 1) := by decide +kernel
theorem dX11_counts_17 : decode cX11_counts 17 = .ok (.iaload, 1) := by decide +kernel
theorem dX11_counts_18 : decode cX11_counts 18 = .ok (.i2l, 1) := by decide +kernel
theorem dX11_counts_19 : decode cX11_counts 19 = .ok (.lmul, 1) := by decide +kernel
theorem dX11_counts_20 : decode cX11_counts 20 = .ok (.lstore_n 3, 1) := by decide +kernel
theorem dX11_counts_21 : decode cX11_counts 21 = .ok (.iconst 0, 1) := by decide +kernel
theorem dX11_counts_22 : decode cX11_counts 22 = .ok (.istore 5, 2) := by decide +kernel
theorem dX11_counts_24 : decode cX11_counts 24 = .ok (.iload 5, 2) := by decide +kernel
theorem dX11_counts_26 : decode cX11_counts 26 = .ok (.aload_n 0, 1) := by decide +kernel
theorem dX11_counts_27 : decode cX11_counts 27 = .ok (.getfield 138, 3) := by decide +kernel
theorem dX11_counts_30 : decode cX11_counts 30 = .ok (.if_icmp .ge 24, 3) := by decide +kernel
theorem dX11_counts_33 : decode cX11_counts 33 = .ok (.iload 5, 2) := by decide +kernel
theorem dX11_counts_35 : decode cX11_counts 35 = .ok (.iload_n 1, 1) := by decide +kernel
theorem dX11_counts_36 : decode cX11_counts 36 = .ok (.if_icmp .eq 12, 3) := by decide +kernel
theorem dX11_counts_39 : decode cX11_counts 39 = .ok (.lload_n 3, 1) := by decide +kernel
theorem dX11_counts_40 : decode cX11_counts 40 = .ok (.aload_n 0, 1) := by decide +kernel
theorem dX11_counts_41 : decode cX11_counts 41 = .ok (.iload 5, 2) := by decide +kernel
theorem dX11_counts_43 : decode cX11_counts 43 = .ok (.invokevirtual 311, 3) := by decide +kernel
theorem dX11_counts_46 : decode cX11_counts 46 = .ok (.lmul, 1) := by decide +kernel
theorem dX11_counts_47 : decode cX11_counts 47 = .ok (.lstore_n 3, 1) := by decide +kernel
theorem dX11_counts_48 : decode cX11_counts 48 = .ok (.iinc 5 1, 3) := by decide +kernel
theorem dX11_counts_51 : decode cX11_counts 51 = .ok (.goto (-27), 3) := by decide +kernel
theorem dX11_counts_54 : decode cX11_counts 54 = .ok (.lload_n 3, 1) := by decide +kernel
theorem dX11_counts_55 : decode cX11_counts 55 = .ok (.lreturn, 1) := by decide +kernel
theorem dX11_common_0 : decode cX11_common 0 = .ok (.lload_n 0, 1) := by decide +kernel
theorem dX11_common_1 : decode cX11_common 1 = .ok (.lconst 0, 1) := by decide +kernel
theorem dX11_common_2 : decode cX11_common 2 = .ok (.lcmp, 1) := by decide +kernel
theorem dX11_common_3 : decode cX11_common 3 = .ok (.ifCond .ge 8, 3) := by decide +kernel
theorem dX11_common_6 : decode cX11_common 6 = .ok (.lload_n 0, 1) := by decide +kernel
theorem dX11_common_7 : decode cX11_common 7 = .ok (.lneg, 1) := by decide +kernel
theorem dX11_common_8 : decode cX11_common 8 = .ok (.goto 4, 3) := by decide +kernel
theorem dX11_common_11 : decode cX11_common 11 = .ok (.lload_n 0, 1) := by decide +kernel
theorem dX11_common_12 : decode cX11_common 12 = .ok (.lstore 4, 2) := by decide +kernel
theorem dX11_common_14 : decode cX11_common 14 = .ok (.lload_n 2, 1) := by decide +kernel
theorem dX11_common_15 : decode cX11_common 15 = .ok (.lstore 6, 2) := by decide +kernel
theorem dX11_common_17 : decode cX11_common 17 = .ok (.lload 6, 2) := by decide +kernel
theorem dX11_common_19 : decode cX11_common 19 = .ok (.lconst 0, 1) := by decide +kernel
theorem dX11_common_20 : decode cX11_common 20 = .ok (.lcmp, 1) := by decide +kernel
theorem dX11_common_21 : decode cX11_common 21 = .ok (.ifCond .eq 21, 3) := by decide +kernel
theorem dX11_common_24 : decode cX11_common 24 = .ok (.lload 4, 2) := by decide +kernel
theorem dX11_common_26 : decode cX11_common 26 = .ok (.lload 6, 2) := by decide +kernel
theorem dX11_common_28 : decode cX11_common 28 = .ok (.lrem, 1) := by decide +kernel
theorem dX11_common_29 : decode cX11_common 29 = .ok (.lstore 8, 2) := by decide +kernel
theorem dX11_common_31 : decode cX11_common 31 = .ok (.lload 6, 2) := by decide +kernel
theorem dX11_common_33 : decode cX11_common 33 = .ok (.lstore 4, 2) := by decide +kernel
theorem dX11_common_35 : decode cX11_common 35 = .ok (.lload 8, 2) := by decide +kernel
theorem dX11_common_37 : decode cX11_common 37 = .ok (.lstore 6, 2) := by decide +kernel
theorem dX11_common_39 : decode cX11_common 39 = .ok (.goto (-22), 3) := by decide +kernel
theorem dX11_common_42 : decode cX11_common 42 = .ok (.lload 4, 2) := by decide +kernel
theorem dX11_common_44 : decode cX11_common 44 = .ok (.lreturn, 1) := by decide +kernel
theorem dX11_part_0 : decode cX11_part 0 = .ok (.lload_n 0, 1) := by decide +kernel
theorem dX11_part_1 : decode cX11_part 1 = .ok (.lconst 0, 1) := by decide +kernel
theorem dX11_part_2 : decode cX11_part 2 = .ok (.lcmp, 1) := by decide +kernel
theorem dX11_part_3 : decode cX11_part 3 = .ok (.ifCond .eq 9, 3) := by decide +kernel
theorem dX11_part_6 : decode cX11_part 6 = .ok (.lload_n 2, 1) := by decide +kernel
theorem dX11_part_7 : decode cX11_part 7 = .ok (.lconst 0, 1) := by decide +kernel
theorem dX11_part_8 : decode cX11_part 8 = .ok (.lcmp, 1) := by decide +kernel
theorem dX11_part_9 : decode cX11_part 9 = .ok (.ifCond .ne 14, 3) := by decide +kernel
theorem dX11_part_12 : decode cX11_part 12 = .ok (.iload 4, 2) := by decide +kernel
theorem dX11_part_14 : decode cX11_part 14 = .ok (.ifCond .eq 7, 3) := by decide +kernel
theorem dX11_part_17 : decode cX11_part 17 = .ok (.lconst 0, 1) := by decide +kernel
theorem dX11_part_18 : decode cX11_part 18 = .ok (.goto 4, 3) := by decide +kernel
theorem dX11_part_21 : decode cX11_part 21 = .ok (.lconst 1, 1) := by decide +kernel
theorem dX11_part_22 : decode cX11_part 22 = .ok (.lreturn, 1) := by decide +kernel
theorem dX11_part_23 : decode cX11_part 23 = .ok (.lload_n 0, 1) := by decide +kernel
theorem dX11_part_24 : decode cX11_part 24 = .ok (.lload_n 2, 1) := by decide +kernel
theorem dX11_part_25 : decode cX11_part 25 = .ok (.invokestatic 315, 3) := by decide +kernel
theorem dX11_part_28 : decode cX11_part 28 = .ok (.lstore 5, 2) := by decide +kernel
theorem dX11_part_30 : decode cX11_part 30 = .ok (.iload 4, 2) := by decide +kernel
theorem dX11_part_32 : decode cX11_part 32 = .ok (.ifCond .eq 10, 3) := by decide +kernel
theorem dX11_part_35 : decode cX11_part 35 = .ok (.lload_n 0, 1) := by decide +kernel
theorem dX11_part_36 : decode cX11_part 36 = .ok (.lload 5, 2) := by decide +kernel
theorem dX11_part_38 : decode cX11_part 38 = .ok (.ldiv, 1) := by decide +kernel
theorem dX11_part_39 : decode cX11_part 39 = .ok (.goto 7, 3) := by decide +kernel
theorem dX11_part_42 : decode cX11_part 42 = .ok (.lload_n 2, 1) := by decide +kernel
theorem dX11_part_43 : decode cX11_part 43 = .ok (.lload 5, 2) := by decide +kernel
theorem dX11_part_45 : decode cX11_part 45 = .ok (.ldiv, 1) := by decide +kernel
theorem dX11_part_46 : decode cX11_part 46 = .ok (.lreturn, 1) := by decide +kernel
theorem dX11_odds_0 : decode cX11_odds 0 = .ok (.aload_n 0, 1) := by decide +kernel
theorem dX11_odds_1 : decode cX11_odds 1 = .ok (.iload_n 1, 1) := by decide +kernel
theorem dX11_odds_2 : decode cX11_odds 2 = .ok (.invokevirtual 308, 3) := by decide +kernel
theorem dX11_odds_5 : decode cX11_odds 5 = .ok (.ifCond .eq 20, 3) := by decide +kernel
theorem dX11_odds_8 : decode cX11_odds 8 = .ok (.aload_n 0, 1) := by decide +kernel
theorem dX11_odds_9 : decode cX11_odds 9 = .ok (.iload_n 2, 1) := by decide +kernel
theorem dX11_odds_10 : decode cX11_odds 10 = .ok (.invokevirtual 308, 3) := by decide +kernel
theorem dX11_odds_13 : decode cX11_odds 13 = .ok (.ifCond .eq 12, 3) := by decide +kernel
theorem dX11_odds_16 : decode cX11_odds 16 = .ok (.iload_n 3, 1) := by decide +kernel
theorem dX11_odds_17 : decode cX11_odds 17 = .ok (.iconst 0, 1) := by decide +kernel
theorem dX11_odds_18 : decode cX11_odds 18 = .ok (.iconst 1, 1) := by decide +kernel
theorem dX11_odds_19 : decode cX11_odds 19 = .ok (.invokestatic 127, 3) := by decide +kernel
theorem dX11_odds_22 : decode cX11_odds 22 = .ok (.ifCond .ne 7, 3) := by decide +kernel
theorem dX11_odds_25 : decode cX11_odds 25 = .ok (.ldc2_w 279, 3) := by decide +kernel
theorem dX11_odds_28 : decode cX11_odds 28 = .ok (.lreturn, 1) := by decide +kernel
theorem dX11_odds_29 : decode cX11_odds 29 = .ok (.lconst 0, 1) := by decide +kernel
theorem dX11_odds_30 : decode cX11_odds 30 = .ok (.lstore 4, 2) := by decide +kernel
theorem dX11_odds_32 : decode cX11_odds 32 = .ok (.iconst 0, 1) := by decide +kernel
theorem dX11_odds_33 : decode cX11_odds 33 = .ok (.istore 6, 2) := by decide +kernel
theorem dX11_odds_35 : decode cX11_odds 35 = .ok (.iload 6, 2) := by decide +kernel
theorem dX11_odds_37 : decode cX11_odds 37 = .ok (.aload_n 0, 1) := by decide +kernel
theorem dX11_odds_38 : decode cX11_odds 38 = .ok (.getfield 138, 3) := by decide +kernel
theorem dX11_odds_41 : decode cX11_odds 41 = .ok (.if_icmp .ge 21, 3) := by decide +kernel
theorem dX11_odds_44 : decode cX11_odds 44 = .ok (.lload 4, 2) := by decide +kernel
theorem dX11_odds_46 : decode cX11_odds 46 = .ok (.aload_n 0, 1) := by decide +kernel
theorem dX11_odds_47 : decode cX11_odds 47 = .ok (.iload 6, 2) := by decide +kernel
theorem dX11_odds_49 : decode cX11_odds 49 = .ok (.iload_n 1, 1) := by decide +kernel
theorem dX11_odds_50 : decode cX11_odds 50 = .ok (.invokevirtual 319, 3) := by decide +kernel
theorem dX11_odds_53 : decode cX11_odds 53 = .ok (.ladd, 1) := by decide +kernel
theorem dX11_odds_54 : decode cX11_odds 54 = .ok (.lstore 4, 2) := by decide +kernel
theorem dX11_odds_56 : decode cX11_odds 56 = .ok (.iinc 6 1, 3) := by decide +kernel
theorem dX11_odds_59 : decode cX11_odds 59 = .ok (.goto (-24), 3) := by decide +kernel
theorem dX11_odds_62 : decode cX11_odds 62 = .ok (.aload_n 0, 1) := by decide +kernel
theorem dX11_odds_63 : decode cX11_odds 63 = .ok (.iload_n 2, 1) := by decide +kernel
theorem dX11_odds_64 : decode cX11_odds 64 = .ok (.iload_n 1, 1) := by decide +kernel
theorem dX11_odds_65 : decode cX11_odds 65 = .ok (.invokevirtual 319, 3) := by decide +kernel
theorem dX11_odds_68 : decode cX11_odds 68 = .ok (.lload 4, 2) := by decide +kernel
theorem dX11_odds_70 : decode cX11_odds 70 = .ok (.iload_n 3, 1) := by decide +kernel
theorem dX11_odds_71 : decode cX11_odds 71 = .ok (.ifCond .ne 7, 3) := by decide +kernel
theorem dX11_odds_74 : decode cX11_odds 74 = .ok (.iconst 1, 1) := by decide +kernel
theorem dX11_odds_75 : decode cX11_odds 75 = .ok (.goto 4, 3) := by decide +kernel
theorem dX11_odds_78 : decode cX11_odds 78 = .ok (.iconst 0, 1) := by decide +kernel
theorem dX11_odds_79 : decode cX11_odds 79 = .ok (.invokestatic 323, 3) := by decide +kernel
theorem dX11_odds_82 : decode cX11_odds 82 = .ok (.lreturn, 1) := by decide +kernel
theorem dX11_was_0 : decode cX11_was 0 = .ok (.aload_n 0, 1) := by decide +kernel
theorem dX11_was_1 : decode cX11_was 1 = .ok (.iload_n 1, 1) := by decide +kernel
theorem dX11_was_2 : decode cX11_was 2 = .ok (.invokevirtual 308, 3) := by decide +kernel
theorem dX11_was_5 : decode cX11_was 5 = .ok (.ifCond .ne 6, 3) := by decide +kernel
theorem dX11_was_8 : decode cX11_was 8 = .ok (.bipush (-5), 2) := by decide +kernel
theorem dX11_was_10 : decode cX11_was 10 = .ok (.ireturn, 1) := by decide +kernel
theorem dX11_was_11 : decode cX11_was 11 = .ok (.iconst (-1), 1) := by decide +kernel
theorem dX11_was_12 : decode cX11_was 12 = .ok (.istore_n 2, 1) := by decide +kernel
theorem dX11_was_13 : decode cX11_was 13 = .ok (.lconst 0, 1) := by decide +kernel
theorem dX11_was_14 : decode cX11_was 14 = .ok (.lstore_n 3, 1) := by decide +kernel
theorem dX11_was_15 : decode cX11_was 15 = .ok (.iconst 0, 1) := by decide +kernel
theorem dX11_was_16 : decode cX11_was 16 = .ok (.istore 5, 2) := by decide +kernel
theorem dX11_was_18 : decode cX11_was 18 = .ok (.iload 5, 2) := by decide +kernel
theorem dX11_was_20 : decode cX11_was 20 = .ok (.aload_n 0, 1) := by decide +kernel
theorem dX11_was_21 : decode cX11_was 21 = .ok (.getfield 138, 3) := by decide +kernel
theorem dX11_was_24 : decode cX11_was 24 = .ok (.if_icmp .ge 34, 3) := by decide +kernel
theorem dX11_was_27 : decode cX11_was 27 = .ok (.aload_n 0, 1) := by decide +kernel
theorem dX11_was_28 : decode cX11_was 28 = .ok (.iload 5, 2) := by decide +kernel
theorem dX11_was_30 : decode cX11_was 30 = .ok (.iload_n 1, 1) := by decide +kernel
theorem dX11_was_31 : decode cX11_was 31 = .ok (.invokevirtual 319, 3) := by decide +kernel
theorem dX11_was_34 : decode cX11_was 34 = .ok (.lstore 6, 2) := by decide +kernel
theorem dX11_was_36 : decode cX11_was 36 = .ok (.lload 6, 2) := by decide +kernel
theorem dX11_was_38 : decode cX11_was 38 = .ok (.lload_n 3, 1) := by decide +kernel
theorem dX11_was_39 : decode cX11_was 39 = .ok (.lcmp, 1) := by decide +kernel
theorem dX11_was_40 : decode cX11_was 40 = .ok (.ifCond .gt 6, 3) := by decide +kernel
theorem dX11_was_43 : decode cX11_was 43 = .ok (.goto 9, 3) := by decide +kernel
theorem dX11_was_46 : decode cX11_was 46 = .ok (.iload 5, 2) := by decide +kernel
theorem dX11_was_48 : decode cX11_was 48 = .ok (.istore_n 2, 1) := by decide +kernel
theorem dX11_was_49 : decode cX11_was 49 = .ok (.lload 6, 2) := by decide +kernel
theorem dX11_was_51 : decode cX11_was 51 = .ok (.lstore_n 3, 1) := by decide +kernel
theorem dX11_was_52 : decode cX11_was 52 = .ok (.iinc 5 1, 3) := by decide +kernel
theorem dX11_was_55 : decode cX11_was 55 = .ok (.goto (-37), 3) := by decide +kernel
theorem dX11_was_58 : decode cX11_was 58 = .ok (.iload_n 2, 1) := by decide +kernel
theorem dX11_was_59 : decode cX11_was 59 = .ok (.ireturn, 1) := by decide +kernel
theorem dX11_list_0 : decode cX11_list 0 = .ok (.iload_n 1, 1) := by decide +kernel
theorem dX11_list_1 : decode cX11_list 1 = .ok (.iconst 0, 1) := by decide +kernel
theorem dX11_list_2 : decode cX11_list 2 = .ok (.aload_n 0, 1) := by decide +kernel
theorem dX11_list_3 : decode cX11_list 3 = .ok (.getfield 138, 3) := by decide +kernel
theorem dX11_list_6 : decode cX11_list 6 = .ok (.invokestatic 127, 3) := by decide +kernel
theorem dX11_list_9 : decode cX11_list 9 = .ok (.ifCond .eq 12, 3) := by decide +kernel
theorem dX11_list_12 : decode cX11_list 12 = .ok (.iload_n 2, 1) := by decide +kernel
theorem dX11_list_13 : decode cX11_list 13 = .ok (.iconst 0, 1) := by decide +kernel
theorem dX11_list_14 : decode cX11_list 14 = .ok (.iconst 1, 1) := by decide +kernel
theorem dX11_list_15 : decode cX11_list 15 = .ok (.invokestatic 127, 3) := by decide +kernel
theorem dX11_list_18 : decode cX11_list 18 = .ok (.ifCond .ne 6, 3) := by decide +kernel
theorem dX11_list_21 : decode cX11_list 21 = .ok (.bipush (-2), 2) := by decide +kernel
theorem dX11_list_23 : decode cX11_list 23 = .ok (.ireturn, 1) := by decide +kernel
theorem dX11_list_24 : decode cX11_list 24 = .ok (.iconst 0, 1) := by decide +kernel
theorem dX11_list_25 : decode cX11_list 25 = .ok (.istore_n 3, 1) := by decide +kernel
theorem dX11_list_26 : decode cX11_list 26 = .ok (.iconst (-1), 1) := by decide +kernel
theorem dX11_list_27 : decode cX11_list 27 = .ok (.istore 4, 2) := by decide +kernel
theorem dX11_list_29 : decode cX11_list 29 = .ok (.iconst 0, 1) := by decide +kernel
theorem dX11_list_30 : decode cX11_list 30 = .ok (.istore 5, 2) := by decide +kernel
theorem dX11_list_32 : decode cX11_list 32 = .ok (.iload 5, 2) := by decide +kernel
theorem dX11_list_34 : decode cX11_list 34 = .ok (.iconst 1, 1) := by decide +kernel
theorem dX11_list_35 : decode cX11_list 35 = .ok (.aload_n 0, 1) := by decide +kernel
theorem dX11_list_36 : decode cX11_list 36 = .ok (.getfield 138, 3) := by decide +kernel
theorem dX11_list_39 : decode cX11_list 39 = .ok (.ishl, 1) := by decide +kernel
theorem dX11_list_40 : decode cX11_list 40 = .ok (.if_icmp .ge 129, 3) := by decide +kernel
theorem dX11_list_43 : decode cX11_list 43 = .ok (.iload 5, 2) := by decide +kernel
theorem dX11_list_45 : decode cX11_list 45 = .ok (.invokestatic 327, 3) := by decide +kernel
theorem dX11_list_48 : decode cX11_list 48 = .ok (.iload_n 1, 1) := by decide +kernel
theorem dX11_list_49 : decode cX11_list 49 = .ok (.if_icmp .eq 6, 3) := by decide +kernel
theorem dX11_list_52 : decode cX11_list 52 = .ok (.goto 111, 3) := by decide +kernel
theorem dX11_list_55 : decode cX11_list 55 = .ok (.iconst 0, 1) := by decide +kernel
theorem dX11_list_56 : decode cX11_list 56 = .ok (.istore 6, 2) := by decide +kernel
theorem dX11_list_58 : decode cX11_list 58 = .ok (.iconst 0, 1) := by decide +kernel
theorem dX11_list_59 : decode cX11_list 59 = .ok (.istore 7, 2) := by decide +kernel
theorem dX11_list_61 : decode cX11_list 61 = .ok (.iload 7, 2) := by decide +kernel
theorem dX11_list_63 : decode cX11_list 63 = .ok (.aload_n 0, 1) := by decide +kernel
theorem dX11_list_64 : decode cX11_list 64 = .ok (.getfield 138, 3) := by decide +kernel
theorem dX11_list_67 : decode cX11_list 67 = .ok (.if_icmp .ge 74, 3) := by decide +kernel
theorem dX11_list_70 : decode cX11_list 70 = .ok (.iconst 0, 1) := by decide +kernel
theorem dX11_list_71 : decode cX11_list 71 = .ok (.istore 8, 2) := by decide +kernel
theorem dX11_list_73 : decode cX11_list 73 = .ok (.iload 8, 2) := by decide +kernel
theorem dX11_list_75 : decode cX11_list 75 = .ok (.aload_n 0, 1) := by decide +kernel
theorem dX11_list_76 : decode cX11_list 76 = .ok (.getfield 138, 3) := by decide +kernel
theorem dX11_list_79 : decode cX11_list 79 = .ok (.if_icmp .ge 56, 3) := by decide +kernel
theorem dX11_list_82 : decode cX11_list 82 = .ok (.iload 7, 2) := by decide +kernel
theorem dX11_list_84 : decode cX11_list 84 = .ok (.iload 8, 2) := by decide +kernel
theorem dX11_list_86 : decode cX11_list 86 = .ok (.if_icmp .eq 43, 3) := by decide +kernel
theorem dX11_list_89 : decode cX11_list 89 = .ok (.iload 5, 2) := by decide +kernel
theorem dX11_list_91 : decode cX11_list 91 = .ok (.iload 7, 2) := by decide +kernel
theorem dX11_list_93 : decode cX11_list 93 = .ok (.ishr, 1) := by decide +kernel
theorem dX11_list_94 : decode cX11_list 94 = .ok (.iconst 1, 1) := by decide +kernel
theorem dX11_list_95 : decode cX11_list 95 = .ok (.iand, 1) := by decide +kernel
theorem dX11_list_96 : decode cX11_list 96 = .ok (.iconst 1, 1) := by decide +kernel
theorem dX11_list_97 : decode cX11_list 97 = .ok (.if_icmp .ne 32, 3) := by decide +kernel
theorem dX11_list_100 : decode cX11_list 100 = .ok (.iload 5, 2) := by decide +kernel
theorem dX11_list_102 : decode cX11_list 102 = .ok (.iload 8, 2) := by decide +kernel
theorem dX11_list_104 : decode cX11_list 104 = .ok (.ishr, 1) := by decide +kernel
theorem dX11_list_105 : decode cX11_list 105 = .ok (.iconst 1, 1) := by decide +kernel
theorem dX11_list_106 : decode cX11_list 106 = .ok (.iand, 1) := by decide +kernel
theorem dX11_list_107 : decode cX11_list 107 = .ok (.iconst 1, 1) := by decide +kernel
theorem dX11_list_108 : decode cX11_list 108 = .ok (.if_icmp .ne 21, 3) := by decide +kernel
theorem dX11_list_111 : decode cX11_list 111 = .ok (.iload 6, 2) := by decide +kernel
theorem dX11_list_113 : decode cX11_list 113 = .ok (.aload_n 0, 1) := by decide +kernel
theorem dX11_list_114 : decode cX11_list 114 = .ok (.getfield 76, 3) := by decide +kernel
theorem dX11_list_117 : decode cX11_list 117 = .ok (.bipush 6, 2) := by decide +kernel
theorem dX11_list_119 : decode cX11_list 119 = .ok (.iload 7, 2) := by decide +kernel
theorem dX11_list_121 : decode cX11_list 121 = .ok (.imul, 1) := by decide +kernel
theorem dX11_list_122 : decode cX11_list 122 = .ok (.iload 8, 2) := by decide +kernel
theorem dX11_list_124 : decode cX11_list 124 = .ok (.iadd, 1) := by decide +kernel
theorem dX11_list_125 : decode cX11_list 125 = .ok (.iaload, 1) := by decide +kernel
theorem dX11_list_126 : decode cX11_list 126 = .ok (.iadd, 1) := by decide +kernel
theorem dX11_list_127 : decode cX11_list 127 = .ok (.istore 6, 2) := by decide +kernel
theorem dX11_list_129 : decode cX11_list 129 = .ok (.iinc 8 1, 3) := by decide +kernel
theorem dX11_list_132 : decode cX11_list 132 = .ok (.goto (-59), 3) := by decide +kernel
theorem dX11_list_135 : decode cX11_list 135 = .ok (.iinc 7 1, 3) := by decide +kernel
theorem dX11_list_138 : decode cX11_list 138 = .ok (.goto (-77), 3) := by decide +kernel
theorem dX11_list_141 : decode cX11_list 141 = .ok (.iload 4, 2) := by decide +kernel
theorem dX11_list_143 : decode cX11_list 143 = .ok (.ifCond .lt 13, 3) := by decide +kernel
theorem dX11_list_146 : decode cX11_list 146 = .ok (.iload 6, 2) := by decide +kernel
theorem dX11_list_148 : decode cX11_list 148 = .ok (.iload 4, 2) := by decide +kernel
theorem dX11_list_150 : decode cX11_list 150 = .ok (.if_icmp .lt 6, 3) := by decide +kernel
theorem dX11_list_153 : decode cX11_list 153 = .ok (.goto 10, 3) := by decide +kernel
theorem dX11_list_156 : decode cX11_list 156 = .ok (.iload 5, 2) := by decide +kernel
theorem dX11_list_158 : decode cX11_list 158 = .ok (.istore_n 3, 1) := by decide +kernel
theorem dX11_list_159 : decode cX11_list 159 = .ok (.iload 6, 2) := by decide +kernel
theorem dX11_list_161 : decode cX11_list 161 = .ok (.istore 4, 2) := by decide +kernel
theorem dX11_list_163 : decode cX11_list 163 = .ok (.iinc 5 1, 3) := by decide +kernel
theorem dX11_list_166 : decode cX11_list 166 = .ok (.goto (-134), 3) := by decide +kernel
theorem dX11_list_169 : decode cX11_list 169 = .ok (.iload_n 2, 1) := by decide +kernel
theorem dX11_list_170 : decode cX11_list 170 = .ok (.ifCond .ne 7, 3) := by decide +kernel
theorem dX11_list_173 : decode cX11_list 173 = .ok (.iload_n 3, 1) := by decide +kernel
theorem dX11_list_174 : decode cX11_list 174 = .ok (.goto 5, 3) := by decide +kernel
theorem dX11_list_177 : decode cX11_list 177 = .ok (.iload 4, 2) := by decide +kernel
theorem dX11_list_179 : decode cX11_list 179 = .ok (.ireturn, 1) := by decide +kernel
theorem dX11_figure_0 : decode cX11_figure 0 = .ok (.iload_n 1, 1) := by decide +kernel
theorem dX11_figure_1 : decode cX11_figure 1 = .ok (.ifCond .ne 11, 3) := by decide +kernel
theorem dX11_figure_4 : decode cX11_figure 4 = .ok (.iload_n 0, 1) := by decide +kernel
theorem dX11_figure_5 : decode cX11_figure 5 = .ok (.sipush 1000, 3) := by decide +kernel
theorem dX11_figure_8 : decode cX11_figure 8 = .ok (.idiv, 1) := by decide +kernel
theorem dX11_figure_9 : decode cX11_figure 9 = .ok (.goto 37, 3) := by decide +kernel
theorem dX11_figure_12 : decode cX11_figure 12 = .ok (.iload_n 1, 1) := by decide +kernel
theorem dX11_figure_13 : decode cX11_figure 13 = .ok (.iconst 1, 1) := by decide +kernel
theorem dX11_figure_14 : decode cX11_figure 14 = .ok (.if_icmp .ne 13, 3) := by decide +kernel
theorem dX11_figure_17 : decode cX11_figure 17 = .ok (.iload_n 0, 1) := by decide +kernel
theorem dX11_figure_18 : decode cX11_figure 18 = .ok (.bipush 100, 2) := by decide +kernel
theorem dX11_figure_20 : decode cX11_figure 20 = .ok (.idiv, 1) := by decide +kernel
theorem dX11_figure_21 : decode cX11_figure 21 = .ok (.bipush 10, 2) := by decide +kernel
theorem dX11_figure_23 : decode cX11_figure 23 = .ok (.irem, 1) := by decide +kernel
theorem dX11_figure_24 : decode cX11_figure 24 = .ok (.goto 22, 3) := by decide +kernel
theorem dX11_figure_27 : decode cX11_figure 27 = .ok (.iload_n 1, 1) := by decide +kernel
theorem dX11_figure_28 : decode cX11_figure 28 = .ok (.iconst 2, 1) := by decide +kernel
theorem dX11_figure_29 : decode cX11_figure 29 = .ok (.if_icmp .ne 13, 3) := by decide +kernel
theorem dX11_figure_32 : decode cX11_figure 32 = .ok (.iload_n 0, 1) := by decide +kernel
theorem dX11_figure_33 : decode cX11_figure 33 = .ok (.bipush 10, 2) := by decide +kernel
theorem dX11_figure_35 : decode cX11_figure 35 = .ok (.idiv, 1) := by decide +kernel
theorem dX11_figure_36 : decode cX11_figure 36 = .ok (.bipush 10, 2) := by decide +kernel
theorem dX11_figure_38 : decode cX11_figure 38 = .ok (.irem, 1) := by decide +kernel
theorem dX11_figure_39 : decode cX11_figure 39 = .ok (.goto 7, 3) := by decide +kernel
theorem dX11_figure_42 : decode cX11_figure 42 = .ok (.iload_n 0, 1) := by decide +kernel
theorem dX11_figure_43 : decode cX11_figure 43 = .ok (.bipush 10, 2) := by decide +kernel
theorem dX11_figure_45 : decode cX11_figure 45 = .ok (.irem, 1) := by decide +kernel
theorem dX11_figure_46 : decode cX11_figure 46 = .ok (.ireturn, 1) := by decide +kernel
theorem dX11_fitting_0 : decode cX11_fitting 0 = .ok (.iconst 0, 1) := by decide +kernel
theorem dX11_fitting_1 : decode cX11_fitting 1 = .ok (.istore_n 3, 1) := by decide +kernel
theorem dX11_fitting_2 : decode cX11_fitting 2 = .ok (.iconst 0, 1) := by decide +kernel
theorem dX11_fitting_3 : decode cX11_fitting 3 = .ok (.istore 4, 2) := by decide +kernel
theorem dX11_fitting_5 : decode cX11_fitting 5 = .ok (.iload 4, 2) := by decide +kernel
theorem dX11_fitting_7 : decode cX11_fitting 7 = .ok (.aload_n 0, 1) := by decide +kernel
theorem dX11_fitting_8 : decode cX11_fitting 8 = .ok (.getfield 138, 3) := by decide +kernel
theorem dX11_fitting_11 : decode cX11_fitting 11 = .ok (.if_icmp .ge 73, 3) := by decide +kernel
theorem dX11_fitting_14 : decode cX11_fitting 14 = .ok (.iconst 1, 1) := by decide +kernel
theorem dX11_fitting_15 : decode cX11_fitting 15 = .ok (.istore 5, 2) := by decide +kernel
theorem dX11_fitting_17 : decode cX11_fitting 17 = .ok (.iconst 0, 1) := by decide +kernel
theorem dX11_fitting_18 : decode cX11_fitting 18 = .ok (.istore 6, 2) := by decide +kernel
theorem dX11_fitting_20 : decode cX11_fitting 20 = .ok (.iload 6, 2) := by decide +kernel
theorem dX11_fitting_22 : decode cX11_fitting 22 = .ok (.iconst 4, 1) := by decide +kernel
theorem dX11_fitting_23 : decode cX11_fitting 23 = .ok (.if_icmp .ge 43, 3) := by decide +kernel
theorem dX11_fitting_26 : decode cX11_fitting 26 = .ok (.iload_n 2, 1) := by decide +kernel
theorem dX11_fitting_27 : decode cX11_fitting 27 = .ok (.iload 6, 2) := by decide +kernel
theorem dX11_fitting_29 : decode cX11_fitting 29 = .ok (.ishr, 1) := by decide +kernel
theorem dX11_fitting_30 : decode cX11_fitting 30 = .ok (.iconst 1, 1) := by decide +kernel
theorem dX11_fitting_31 : decode cX11_fitting 31 = .ok (.iand, 1) := by decide +kernel
theorem dX11_fitting_32 : decode cX11_fitting 32 = .ok (.iconst 1, 1) := by decide +kernel
theorem dX11_fitting_33 : decode cX11_fitting 33 = .ok (.if_icmp .ne 27, 3) := by decide +kernel
theorem dX11_fitting_36 : decode cX11_fitting 36 = .ok (.aload_n 0, 1) := by decide +kernel
theorem dX11_fitting_37 : decode cX11_fitting 37 = .ok (.getfield 70, 3) := by decide +kernel
theorem dX11_fitting_40 : decode cX11_fitting 40 = .ok (.iload 4, 2) := by decide +kernel
theorem dX11_fitting_42 : decode cX11_fitting 42 = .ok (.iaload, 1) := by decide +kernel
theorem dX11_fitting_43 : decode cX11_fitting 43 = .ok (.iload 6, 2) := by decide +kernel
theorem dX11_fitting_45 : decode cX11_fitting 45 = .ok (.invokestatic 330, 3) := by decide +kernel
theorem dX11_fitting_48 : decode cX11_fitting 48 = .ok (.iload_n 1, 1) := by decide +kernel
theorem dX11_fitting_49 : decode cX11_fitting 49 = .ok (.iload 6, 2) := by decide +kernel
theorem dX11_fitting_51 : decode cX11_fitting 51 = .ok (.invokestatic 330, 3) := by decide +kernel
theorem dX11_fitting_54 : decode cX11_fitting 54 = .ok (.if_icmp .eq 6, 3) := by decide +kernel
theorem dX11_fitting_57 : decode cX11_fitting 57 = .ok (.iconst 0, 1) := by decide +kernel
theorem dX11_fitting_58 : decode cX11_fitting 58 = .ok (.istore 5, 2) := by decide +kernel
theorem dX11_fitting_60 : decode cX11_fitting 60 = .ok (.iinc 6 1, 3) := by decide +kernel
theorem dX11_fitting_63 : decode cX11_fitting 63 = .ok (.goto (-43), 3) := by decide +kernel
theorem dX11_fitting_66 : decode cX11_fitting 66 = .ok (.iload 5, 2) := by decide +kernel
theorem dX11_fitting_68 : decode cX11_fitting 68 = .ok (.ifCond .eq 10, 3) := by decide +kernel
theorem dX11_fitting_71 : decode cX11_fitting 71 = .ok (.iload_n 3, 1) := by decide +kernel
theorem dX11_fitting_72 : decode cX11_fitting 72 = .ok (.iconst 1, 1) := by decide +kernel
theorem dX11_fitting_73 : decode cX11_fitting 73 = .ok (.iload 4, 2) := by decide +kernel
theorem dX11_fitting_75 : decode cX11_fitting 75 = .ok (.ishl, 1) := by decide +kernel
theorem dX11_fitting_76 : decode cX11_fitting 76 = .ok (.ior, 1) := by decide +kernel
theorem dX11_fitting_77 : decode cX11_fitting 77 = .ok (.istore_n 3, 1) := by decide +kernel
theorem dX11_fitting_78 : decode cX11_fitting 78 = .ok (.iinc 4 1, 3) := by decide +kernel
theorem dX11_fitting_81 : decode cX11_fitting 81 = .ok (.goto (-76), 3) := by decide +kernel
theorem dX11_fitting_84 : decode cX11_fitting 84 = .ok (.iload_n 3, 1) := by decide +kernel
theorem dX11_fitting_85 : decode cX11_fitting 85 = .ok (.ireturn, 1) := by decide +kernel
theorem dX11_isHeard_0 : decode cX11_isHeard 0 = .ok (.iload_n 0, 1) := by decide +kernel
theorem dX11_isHeard_1 : decode cX11_isHeard 1 = .ok (.iconst 0, 1) := by decide +kernel
theorem dX11_isHeard_2 : decode cX11_isHeard 2 = .ok (.sipush 9999, 3) := by decide +kernel
theorem dX11_isHeard_5 : decode cX11_isHeard 5 = .ok (.invokestatic 127, 3) := by decide +kernel
theorem dX11_isHeard_8 : decode cX11_isHeard 8 = .ok (.ifCond .eq 17, 3) := by decide +kernel
theorem dX11_isHeard_11 : decode cX11_isHeard 11 = .ok (.iload_n 1, 1) := by decide +kernel
theorem dX11_isHeard_12 : decode cX11_isHeard 12 = .ok (.iconst 0, 1) := by decide +kernel
theorem dX11_isHeard_13 : decode cX11_isHeard 13 = .ok (.bipush 15, 2) := by decide +kernel
theorem dX11_isHeard_15 : decode cX11_isHeard 15 = .ok (.invokestatic 127, 3) := by decide +kernel
theorem dX11_isHeard_18 : decode cX11_isHeard 18 = .ok (.ifCond .eq 7, 3) := by decide +kernel
theorem dX11_isHeard_21 : decode cX11_isHeard 21 = .ok (.iconst 1, 1) := by decide +kernel
theorem dX11_isHeard_22 : decode cX11_isHeard 22 = .ok (.goto 4, 3) := by decide +kernel
theorem dX11_isHeard_25 : decode cX11_isHeard 25 = .ok (.iconst 0, 1) := by decide +kernel
theorem dX11_isHeard_26 : decode cX11_isHeard 26 = .ok (.ireturn, 1) := by decide +kernel
theorem dX11_bits_0 : decode cX11_bits 0 = .ok (.iload_n 1, 1) := by decide +kernel
theorem dX11_bits_1 : decode cX11_bits 1 = .ok (.iload_n 2, 1) := by decide +kernel
theorem dX11_bits_2 : decode cX11_bits 2 = .ok (.invokestatic 333, 3) := by decide +kernel
theorem dX11_bits_5 : decode cX11_bits 5 = .ok (.ifCond .eq 12, 3) := by decide +kernel
theorem dX11_bits_8 : decode cX11_bits 8 = .ok (.aload_n 0, 1) := by decide +kernel
theorem dX11_bits_9 : decode cX11_bits 9 = .ok (.iload_n 1, 1) := by decide +kernel
theorem dX11_bits_10 : decode cX11_bits 10 = .ok (.iload_n 2, 1) := by decide +kernel
theorem dX11_bits_11 : decode cX11_bits 11 = .ok (.invokevirtual 336, 3) := by decide +kernel
theorem dX11_bits_14 : decode cX11_bits 14 = .ok (.goto 5, 3) := by decide +kernel
theorem dX11_bits_17 : decode cX11_bits 17 = .ok (.bipush (-2), 2) := by decide +kernel
theorem dX11_bits_19 : decode cX11_bits 19 = .ok (.ireturn, 1) := by decide +kernel
theorem dX11_ask_0 : decode cX11_ask 0 = .ok (.iload_n 1, 1) := by decide +kernel
theorem dX11_ask_1 : decode cX11_ask 1 = .ok (.iload_n 2, 1) := by decide +kernel
theorem dX11_ask_2 : decode cX11_ask 2 = .ok (.invokestatic 333, 3) := by decide +kernel
theorem dX11_ask_5 : decode cX11_ask 5 = .ok (.ifCond .eq 12, 3) := by decide +kernel
theorem dX11_ask_8 : decode cX11_ask 8 = .ok (.iload_n 3, 1) := by decide +kernel
theorem dX11_ask_9 : decode cX11_ask 9 = .ok (.iconst 0, 1) := by decide +kernel
theorem dX11_ask_10 : decode cX11_ask 10 = .ok (.iconst 1, 1) := by decide +kernel
theorem dX11_ask_11 : decode cX11_ask 11 = .ok (.invokestatic 127, 3) := by decide +kernel
theorem dX11_ask_14 : decode cX11_ask 14 = .ok (.ifCond .ne 6, 3) := by decide +kernel
theorem dX11_ask_17 : decode cX11_ask 17 = .ok (.bipush (-2), 2) := by decide +kernel
theorem dX11_ask_19 : decode cX11_ask 19 = .ok (.ireturn, 1) := by decide +kernel
theorem dX11_ask_20 : decode cX11_ask 20 = .ok (.aload_n 0, 1) := by decide +kernel
theorem dX11_ask_21 : decode cX11_ask 21 = .ok (.iload_n 1, 1) := by decide +kernel
theorem dX11_ask_22 : decode cX11_ask 22 = .ok (.iload_n 2, 1) := by decide +kernel
theorem dX11_ask_23 : decode cX11_ask 23 = .ok (.invokevirtual 336, 3) := by decide +kernel
theorem dX11_ask_26 : decode cX11_ask 26 = .ok (.istore 4, 2) := by decide +kernel
theorem dX11_ask_28 : decode cX11_ask 28 = .ok (.iconst (-1), 1) := by decide +kernel
theorem dX11_ask_29 : decode cX11_ask 29 = .ok (.istore 5, 2) := by decide +kernel
theorem dX11_ask_31 : decode cX11_ask 31 = .ok (.iconst 0, 1) := by decide +kernel
theorem dX11_ask_32 : decode cX11_ask 32 = .ok (.istore 6, 2) := by decide +kernel
theorem dX11_ask_34 : decode cX11_ask 34 = .ok (.iconst 0, 1) := by decide +kernel
theorem dX11_ask_35 : decode cX11_ask 35 = .ok (.istore 7, 2) := by decide +kernel
theorem dX11_ask_37 : decode cX11_ask 37 = .ok (.iload 7, 2) := by decide +kernel
theorem dX11_ask_39 : decode cX11_ask 39 = .ok (.iconst 4, 1) := by decide +kernel
theorem dX11_ask_40 : decode cX11_ask 40 = .ok (.if_icmp .ge 134, 3) := by decide +kernel
theorem dX11_ask_43 : decode cX11_ask 43 = .ok (.iload_n 2, 1) := by decide +kernel
theorem dX11_ask_44 : decode cX11_ask 44 = .ok (.iload 7, 2) := by decide +kernel
theorem dX11_ask_46 : decode cX11_ask 46 = .ok (.ishr, 1) := by decide +kernel
theorem dX11_ask_47 : decode cX11_ask 47 = .ok (.iconst 1, 1) := by decide +kernel
theorem dX11_ask_48 : decode cX11_ask 48 = .ok (.iand, 1) := by decide +kernel
theorem dX11_ask_49 : decode cX11_ask 49 = .ok (.iconst 1, 1) := by decide +kernel
theorem dX11_ask_50 : decode cX11_ask 50 = .ok (.if_icmp .ne 6, 3) := by decide +kernel
theorem dX11_ask_53 : decode cX11_ask 53 = .ok (.goto 115, 3) := by decide +kernel
theorem dX11_ask_56 : decode cX11_ask 56 = .ok (.iconst 0, 1) := by decide +kernel
theorem dX11_ask_57 : decode cX11_ask 57 = .ok (.istore 8, 2) := by decide +kernel
theorem dX11_ask_59 : decode cX11_ask 59 = .ok (.iconst 0, 1) := by decide +kernel
theorem dX11_ask_60 : decode cX11_ask 60 = .ok (.istore 9, 2) := by decide +kernel
theorem dX11_ask_62 : decode cX11_ask 62 = .ok (.iload 9, 2) := by decide +kernel
theorem dX11_ask_64 : decode cX11_ask 64 = .ok (.bipush 10, 2) := by decide +kernel
theorem dX11_ask_66 : decode cX11_ask 66 = .ok (.if_icmp .ge 79, 3) := by decide +kernel
theorem dX11_ask_69 : decode cX11_ask 69 = .ok (.iconst 0, 1) := by decide +kernel
theorem dX11_ask_70 : decode cX11_ask 70 = .ok (.istore 10, 2) := by decide +kernel
theorem dX11_ask_72 : decode cX11_ask 72 = .ok (.iconst 0, 1) := by decide +kernel
theorem dX11_ask_73 : decode cX11_ask 73 = .ok (.istore 11, 2) := by decide +kernel
theorem dX11_ask_75 : decode cX11_ask 75 = .ok (.iload 11, 2) := by decide +kernel
theorem dX11_ask_77 : decode cX11_ask 77 = .ok (.aload_n 0, 1) := by decide +kernel
theorem dX11_ask_78 : decode cX11_ask 78 = .ok (.getfield 138, 3) := by decide +kernel
theorem dX11_ask_81 : decode cX11_ask 81 = .ok (.if_icmp .ge 47, 3) := by decide +kernel
theorem dX11_ask_84 : decode cX11_ask 84 = .ok (.iload 10, 2) := by decide +kernel
theorem dX11_ask_86 : decode cX11_ask 86 = .ok (.iload 4, 2) := by decide +kernel
theorem dX11_ask_88 : decode cX11_ask 88 = .ok (.iload 11, 2) := by decide +kernel
theorem dX11_ask_90 : decode cX11_ask 90 = .ok (.ishr, 1) := by decide +kernel
theorem dX11_ask_91 : decode cX11_ask 91 = .ok (.iconst 1, 1) := by decide +kernel
theorem dX11_ask_92 : decode cX11_ask 92 = .ok (.iand, 1) := by decide +kernel
theorem dX11_ask_93 : decode cX11_ask 93 = .ok (.iconst 1, 1) := by decide +kernel
theorem dX11_ask_94 : decode cX11_ask 94 = .ok (.if_icmp .ne 24, 3) := by decide +kernel
theorem dX11_ask_97 : decode cX11_ask 97 = .ok (.aload_n 0, 1) := by decide +kernel
theorem dX11_ask_98 : decode cX11_ask 98 = .ok (.getfield 70, 3) := by decide +kernel
theorem dX11_ask_101 : decode cX11_ask 101 = .ok (.iload 11, 2) := by decide +kernel
theorem dX11_ask_103 : decode cX11_ask 103 = .ok (.iaload, 1) := by decide +kernel
theorem dX11_ask_104 : decode cX11_ask 104 = .ok (.iload 7, 2) := by decide +kernel
theorem dX11_ask_106 : decode cX11_ask 106 = .ok (.invokestatic 330, 3) := by decide +kernel
theorem dX11_ask_109 : decode cX11_ask 109 = .ok (.iload 9, 2) := by decide +kernel
theorem dX11_ask_111 : decode cX11_ask 111 = .ok (.if_icmp .ne 7, 3) := by decide +kernel
theorem dX11_ask_114 : decode cX11_ask 114 = .ok (.iconst 1, 1) := by decide +kernel
theorem dX11_ask_115 : decode cX11_ask 115 = .ok (.goto 4, 3) := by decide +kernel
theorem dX11_ask_118 : decode cX11_ask 118 = .ok (.iconst 0, 1) := by decide +kernel
theorem dX11_ask_119 : decode cX11_ask 119 = .ok (.iadd, 1) := by decide +kernel
theorem dX11_ask_120 : decode cX11_ask 120 = .ok (.istore 10, 2) := by decide +kernel
theorem dX11_ask_122 : decode cX11_ask 122 = .ok (.iinc 11 1, 3) := by decide +kernel
theorem dX11_ask_125 : decode cX11_ask 125 = .ok (.goto (-50), 3) := by decide +kernel
theorem dX11_ask_128 : decode cX11_ask 128 = .ok (.iload 10, 2) := by decide +kernel
theorem dX11_ask_130 : decode cX11_ask 130 = .ok (.iload 8, 2) := by decide +kernel
theorem dX11_ask_132 : decode cX11_ask 132 = .ok (.if_icmp .le 7, 3) := by decide +kernel
theorem dX11_ask_135 : decode cX11_ask 135 = .ok (.iload 10, 2) := by decide +kernel
theorem dX11_ask_137 : decode cX11_ask 137 = .ok (.istore 8, 2) := by decide +kernel
theorem dX11_ask_139 : decode cX11_ask 139 = .ok (.iinc 9 1, 3) := by decide +kernel
theorem dX11_ask_142 : decode cX11_ask 142 = .ok (.goto (-80), 3) := by decide +kernel
theorem dX11_ask_145 : decode cX11_ask 145 = .ok (.iload 5, 2) := by decide +kernel
theorem dX11_ask_147 : decode cX11_ask 147 = .ok (.ifCond .lt 13, 3) := by decide +kernel
theorem dX11_ask_150 : decode cX11_ask 150 = .ok (.iload 8, 2) := by decide +kernel
theorem dX11_ask_152 : decode cX11_ask 152 = .ok (.iload 6, 2) := by decide +kernel
