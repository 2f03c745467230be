theorem dX8_find_90 : decode cX8_find 90 = .ok (.iconst 2, 1) := by decide +kernel
theorem dX8_find_91 : decode cX8_find 91 = .ok (.iadd, 1) := by decide +kernel
theorem dX8_find_92 : decode cX8_find 92 = .ok (.iaload, 1) := by decide +kernel
theorem dX8_find_93 : decode cX8_find 93 = .ok (.iload 6, 2) := by decide +kernel
theorem dX8_find_95 : decode cX8_find 95 = .ok (.invokevirtual 59, 3) := by decide +kernel
theorem dX8_find_98 : decode cX8_find 98 = .ok (.istore 5, 2) := by decide +kernel
theorem dX8_find_100 : decode cX8_find 100 = .ok (.aload_n 0, 1) := by decide +kernel
theorem dX8_find_101 : decode cX8_find 101 = .ok (.iload 4, 2) := by decide +kernel
theorem dX8_find_103 : decode cX8_find 103 = .ok (.iload 5, 2) := by decide +kernel
theorem dX8_find_105 : decode cX8_find 105 = .ok (.aload_n 0, 1) := by decide +kernel
theorem dX8_find_106 : decode cX8_find 106 = .ok (.aload_n 1, 1) := by decide +kernel
theorem dX8_find_107 : decode cX8_find 107 = .ok (.aload_n 2, 1) := by decide +kernel
theorem dX8_find_108 : decode cX8_find 108 = .ok (.getfield 43, 3) := by decide +kernel
theorem dX8_find_111 : decode cX8_find 111 = .ok (.iload_n 3, 1) := by decide +kernel
theorem dX8_find_112 : decode cX8_find 112 = .ok (.laload, 1) := by decide +kernel
theorem dX8_find_113 : decode cX8_find 113 = .ok (.aload_n 2, 1) := by decide +kernel
theorem dX8_find_114 : decode cX8_find 114 = .ok (.getfield 46, 3) := by decide +kernel
theorem dX8_find_117 : decode cX8_find 117 = .ok (.iload_n 3, 1) := by decide +kernel
theorem dX8_find_118 : decode cX8_find 118 = .ok (.laload, 1) := by decide +kernel
theorem dX8_find_119 : decode cX8_find 119 = .ok (.iload 6, 2) := by decide +kernel
theorem dX8_find_121 : decode cX8_find 121 = .ok (.invokevirtual 63, 3) := by decide +kernel
theorem dX8_find_124 : decode cX8_find 124 = .ok (.invokevirtual 67, 3) := by decide +kernel
theorem dX8_find_127 : decode cX8_find 127 = .ok (.iinc 6 1, 3) := by decide +kernel
theorem dX8_find_130 : decode cX8_find 130 = .ok (.goto (-77), 3) := by decide +kernel
theorem dX8_find_133 : decode cX8_find 133 = .ok (.iinc 3 1, 3) := by decide +kernel
theorem dX8_find_136 : decode cX8_find 136 = .ok (.goto (-129), 3) := by decide +kernel
theorem dX8_find_139 : decode cX8_find 139 = .ok (.return_, 1) := by decide +kernel
theorem dX8_findSteps_0 : decode cX8_findSteps 0 = .ok (.aload_n 0, 1) := by decide +kernel
theorem dX8_findSteps_1 : decode cX8_findSteps 1 = .ok (.iconst 0, 1) := by decide +kernel
theorem dX8_findSteps_2 : decode cX8_findSteps 2 = .ok (.putfield 56, 3) := by decide +kernel
theorem dX8_findSteps_5 : decode cX8_findSteps 5 = .ok (.iconst 0, 1) := by decide +kernel
theorem dX8_findSteps_6 : decode cX8_findSteps 6 = .ok (.istore 6, 2) := by decide +kernel
theorem dX8_findSteps_8 : decode cX8_findSteps 8 = .ok (.iload 6, 2) := by decide +kernel
theorem dX8_findSteps_10 : decode cX8_findSteps 10 = .ok (.aload_n 1, 1) := by decide +kernel
theorem dX8_findSteps_11 : decode cX8_findSteps 11 = .ok (.getfield 71, 3) := by decide +kernel
theorem dX8_findSteps_14 : decode cX8_findSteps 14 = .ok (.if_icmp .ge 84, 3) := by decide +kernel
theorem dX8_findSteps_17 : decode cX8_findSteps 17 = .ok (.aload_n 1, 1) := by decide +kernel
theorem dX8_findSteps_18 : decode cX8_findSteps 18 = .ok (.iload 6, 2) := by decide +kernel
theorem dX8_findSteps_20 : decode cX8_findSteps 20 = .ok (.lload_n 2, 1) := by decide +kernel
theorem dX8_findSteps_21 : decode cX8_findSteps 21 = .ok (.lload 4, 2) := by decide +kernel
theorem dX8_findSteps_23 : decode cX8_findSteps 23 = .ok (.invokevirtual 74, 3) := by decide +kernel
theorem dX8_findSteps_26 : decode cX8_findSteps 26 = .ok (.ifCond .ne 6, 3) := by decide +kernel
theorem dX8_findSteps_29 : decode cX8_findSteps 29 = .ok (.goto 63, 3) := by decide +kernel
theorem dX8_findSteps_32 : decode cX8_findSteps 32 = .ok (.aload_n 1, 1) := by decide +kernel
theorem dX8_findSteps_33 : decode cX8_findSteps 33 = .ok (.iload 6, 2) := by decide +kernel
theorem dX8_findSteps_35 : decode cX8_findSteps 35 = .ok (.invokevirtual 78, 3) := by decide +kernel
theorem dX8_findSteps_38 : decode cX8_findSteps 38 = .ok (.ifCond .eq 32, 3) := by decide +kernel
theorem dX8_findSteps_41 : decode cX8_findSteps 41 = .ok (.aload_n 0, 1) := by decide +kernel
theorem dX8_findSteps_42 : decode cX8_findSteps 42 = .ok (.aload_n 1, 1) := by decide +kernel
theorem dX8_findSteps_43 : decode cX8_findSteps 43 = .ok (.getfield 82, 3) := by decide +kernel
theorem dX8_findSteps_46 : decode cX8_findSteps 46 = .ok (.iload 6, 2) := by decide +kernel
theorem dX8_findSteps_48 : decode cX8_findSteps 48 = .ok (.iaload, 1) := by decide +kernel
theorem dX8_findSteps_49 : decode cX8_findSteps 49 = .ok (.i2l, 1) := by decide +kernel
theorem dX8_findSteps_50 : decode cX8_findSteps 50 = .ok (.lconst 1, 1) := by decide +kernel
theorem dX8_findSteps_51 : decode cX8_findSteps 51 = .ok (.invokevirtual 85, 3) := by decide +kernel
theorem dX8_findSteps_54 : decode cX8_findSteps 54 = .ok (.aload_n 0, 1) := by decide +kernel
theorem dX8_findSteps_55 : decode cX8_findSteps 55 = .ok (.aload_n 1, 1) := by decide +kernel
theorem dX8_findSteps_56 : decode cX8_findSteps 56 = .ok (.getfield 89, 3) := by decide +kernel
theorem dX8_findSteps_59 : decode cX8_findSteps 59 = .ok (.iload 6, 2) := by decide +kernel
theorem dX8_findSteps_61 : decode cX8_findSteps 61 = .ok (.iaload, 1) := by decide +kernel
theorem dX8_findSteps_62 : decode cX8_findSteps 62 = .ok (.i2l, 1) := by decide +kernel
theorem dX8_findSteps_63 : decode cX8_findSteps 63 = .ok (.lconst 1, 1) := by decide +kernel
theorem dX8_findSteps_64 : decode cX8_findSteps 64 = .ok (.invokevirtual 85, 3) := by decide +kernel
theorem dX8_findSteps_67 : decode cX8_findSteps 67 = .ok (.goto 25, 3) := by decide +kernel
theorem dX8_findSteps_70 : decode cX8_findSteps 70 = .ok (.aload_n 0, 1) := by decide +kernel
theorem dX8_findSteps_71 : decode cX8_findSteps 71 = .ok (.aload_n 1, 1) := by decide +kernel
theorem dX8_findSteps_72 : decode cX8_findSteps 72 = .ok (.iload 6, 2) := by decide +kernel
theorem dX8_findSteps_74 : decode cX8_findSteps 74 = .ok (.lload_n 2, 1) := by decide +kernel
theorem dX8_findSteps_75 : decode cX8_findSteps 75 = .ok (.lload 4, 2) := by decide +kernel
theorem dX8_findSteps_77 : decode cX8_findSteps 77 = .ok (.invokevirtual 92, 3) := by decide +kernel
theorem dX8_findSteps_80 : decode cX8_findSteps 80 = .ok (.aload_n 1, 1) := by decide +kernel
theorem dX8_findSteps_81 : decode cX8_findSteps 81 = .ok (.iload 6, 2) := by decide +kernel
theorem dX8_findSteps_83 : decode cX8_findSteps 83 = .ok (.invokevirtual 96, 3) := by decide +kernel
theorem dX8_findSteps_86 : decode cX8_findSteps 86 = .ok (.lload 4, 2) := by decide +kernel
theorem dX8_findSteps_88 : decode cX8_findSteps 88 = .ok (.lmul, 1) := by decide +kernel
theorem dX8_findSteps_89 : decode cX8_findSteps 89 = .ok (.invokevirtual 85, 3) := by decide +kernel
theorem dX8_findSteps_92 : decode cX8_findSteps 92 = .ok (.iinc 6 1, 3) := by decide +kernel
theorem dX8_findSteps_95 : decode cX8_findSteps 95 = .ok (.goto (-87), 3) := by decide +kernel
theorem dX8_findSteps_98 : decode cX8_findSteps 98 = .ok (.iconst 0, 1) := by decide +kernel
theorem dX8_findSteps_99 : decode cX8_findSteps 99 = .ok (.istore 6, 2) := by decide +kernel
theorem dX8_findSteps_101 : decode cX8_findSteps 101 = .ok (.iload 6, 2) := by decide +kernel
theorem dX8_findSteps_103 : decode cX8_findSteps 103 = .ok (.aload_n 1, 1) := by decide +kernel
theorem dX8_findSteps_104 : decode cX8_findSteps 104 = .ok (.getfield 71, 3) := by decide +kernel
theorem dX8_findSteps_107 : decode cX8_findSteps 107 = .ok (.if_icmp .ge 119, 3) := by decide +kernel
theorem dX8_findSteps_110 : decode cX8_findSteps 110 = .ok (.aload_n 1, 1) := by decide +kernel
theorem dX8_findSteps_111 : decode cX8_findSteps 111 = .ok (.iload 6, 2) := by decide +kernel
theorem dX8_findSteps_113 : decode cX8_findSteps 113 = .ok (.lload_n 2, 1) := by decide +kernel
theorem dX8_findSteps_114 : decode cX8_findSteps 114 = .ok (.lload 4, 2) := by decide +kernel
theorem dX8_findSteps_116 : decode cX8_findSteps 116 = .ok (.invokevirtual 74, 3) := by decide +kernel
theorem dX8_findSteps_119 : decode cX8_findSteps 119 = .ok (.ifCond .ne 6, 3) := by decide +kernel
theorem dX8_findSteps_122 : decode cX8_findSteps 122 = .ok (.goto 98, 3) := by decide +kernel
theorem dX8_findSteps_125 : decode cX8_findSteps 125 = .ok (.aload_n 1, 1) := by decide +kernel
theorem dX8_findSteps_126 : decode cX8_findSteps 126 = .ok (.iload 6, 2) := by decide +kernel
theorem dX8_findSteps_128 : decode cX8_findSteps 128 = .ok (.invokevirtual 78, 3) := by decide +kernel
theorem dX8_findSteps_131 : decode cX8_findSteps 131 = .ok (.ifCond .eq 46, 3) := by decide +kernel
theorem dX8_findSteps_134 : decode cX8_findSteps 134 = .ok (.aload_n 0, 1) := by decide +kernel
theorem dX8_findSteps_135 : decode cX8_findSteps 135 = .ok (.getfield 28, 3) := by decide +kernel
theorem dX8_findSteps_138 : decode cX8_findSteps 138 = .ok (.iload 6, 2) := by decide +kernel
theorem dX8_findSteps_140 : decode cX8_findSteps 140 = .ok (.aload_n 0, 1) := by decide +kernel
theorem dX8_findSteps_141 : decode cX8_findSteps 141 = .ok (.aload_n 1, 1) := by decide +kernel
theorem dX8_findSteps_142 : decode cX8_findSteps 142 = .ok (.getfield 82, 3) := by decide +kernel
theorem dX8_findSteps_145 : decode cX8_findSteps 145 = .ok (.iload 6, 2) := by decide +kernel
theorem dX8_findSteps_147 : decode cX8_findSteps 147 = .ok (.iaload, 1) := by decide +kernel
theorem dX8_findSteps_148 : decode cX8_findSteps 148 = .ok (.i2l, 1) := by decide +kernel
theorem dX8_findSteps_149 : decode cX8_findSteps 149 = .ok (.lconst 1, 1) := by decide +kernel
theorem dX8_findSteps_150 : decode cX8_findSteps 150 = .ok (.invokevirtual 100, 3) := by decide +kernel
theorem dX8_findSteps_153 : decode cX8_findSteps 153 = .ok (.iastore, 1) := by decide +kernel
theorem dX8_findSteps_154 : decode cX8_findSteps 154 = .ok (.aload_n 0, 1) := by decide +kernel
theorem dX8_findSteps_155 : decode cX8_findSteps 155 = .ok (.getfield 31, 3) := by decide +kernel
theorem dX8_findSteps_158 : decode cX8_findSteps 158 = .ok (.iload 6, 2) := by decide +kernel
theorem dX8_findSteps_160 : decode cX8_findSteps 160 = .ok (.aload_n 0, 1) := by decide +kernel
theorem dX8_findSteps_161 : decode cX8_findSteps 161 = .ok (.aload_n 1, 1) := by decide +kernel
theorem dX8_findSteps_162 : decode cX8_findSteps 162 = .ok (.getfield 89, 3) := by decide +kernel
theorem dX8_findSteps_165 : decode cX8_findSteps 165 = .ok (.iload 6, 2) := by decide +kernel
theorem dX8_findSteps_167 : decode cX8_findSteps 167 = .ok (.iaload, 1) := by decide +kernel
theorem dX8_findSteps_168 : decode cX8_findSteps 168 = .ok (.i2l, 1) := by decide +kernel
theorem dX8_findSteps_169 : decode cX8_findSteps 169 = .ok (.lconst 1, 1) := by decide +kernel
theorem dX8_findSteps_170 : decode cX8_findSteps 170 = .ok (.invokevirtual 100, 3) := by decide +kernel
theorem dX8_findSteps_173 : decode cX8_findSteps 173 = .ok (.iastore, 1) := by decide +kernel
theorem dX8_findSteps_174 : decode cX8_findSteps 174 = .ok (.goto 46, 3) := by decide +kernel
theorem dX8_findSteps_177 : decode cX8_findSteps 177 = .ok (.aload_n 0, 1) := by decide +kernel
theorem dX8_findSteps_178 : decode cX8_findSteps 178 = .ok (.getfield 28, 3) := by decide +kernel
theorem dX8_findSteps_181 : decode cX8_findSteps 181 = .ok (.iload 6, 2) := by decide +kernel
theorem dX8_findSteps_183 : decode cX8_findSteps 183 = .ok (.aload_n 0, 1) := by decide +kernel
theorem dX8_findSteps_184 : decode cX8_findSteps 184 = .ok (.aload_n 1, 1) := by decide +kernel
theorem dX8_findSteps_185 : decode cX8_findSteps 185 = .ok (.iload 6, 2) := by decide +kernel
theorem dX8_findSteps_187 : decode cX8_findSteps 187 = .ok (.lload_n 2, 1) := by decide +kernel
theorem dX8_findSteps_188 : decode cX8_findSteps 188 = .ok (.lload 4, 2) := by decide +kernel
theorem dX8_findSteps_190 : decode cX8_findSteps 190 = .ok (.invokevirtual 92, 3) := by decide +kernel
theorem dX8_findSteps_193 : decode cX8_findSteps 193 = .ok (.aload_n 1, 1) := by decide +kernel
theorem dX8_findSteps_194 : decode cX8_findSteps 194 = .ok (.iload 6, 2) := by decide +kernel
theorem dX8_findSteps_196 : decode cX8_findSteps 196 = .ok (.invokevirtual 96, 3) := by decide +kernel
theorem dX8_findSteps_199 : decode cX8_findSteps 199 = .ok (.lload 4, 2) := by decide +kernel
theorem dX8_findSteps_201 : decode cX8_findSteps 201 = .ok (.lmul, 1) := by decide +kernel
theorem dX8_findSteps_202 : decode cX8_findSteps 202 = .ok (.invokevirtual 100, 3) := by decide +kernel
theorem dX8_findSteps_205 : decode cX8_findSteps 205 = .ok (.iastore, 1) := by decide +kernel
theorem dX8_findSteps_206 : decode cX8_findSteps 206 = .ok (.aload_n 0, 1) := by decide +kernel
theorem dX8_findSteps_207 : decode cX8_findSteps 207 = .ok (.getfield 31, 3) := by decide +kernel
theorem dX8_findSteps_210 : decode cX8_findSteps 210 = .ok (.iload 6, 2) := by decide +kernel
theorem dX8_findSteps_212 : decode cX8_findSteps 212 = .ok (.aload_n 0, 1) := by decide +kernel
theorem dX8_findSteps_213 : decode cX8_findSteps 213 = .ok (.getfield 28, 3) := by decide +kernel
theorem dX8_findSteps_216 : decode cX8_findSteps 216 = .ok (.iload 6, 2) := by decide +kernel
theorem dX8_findSteps_218 : decode cX8_findSteps 218 = .ok (.iaload, 1) := by decide +kernel
theorem dX8_findSteps_219 : decode cX8_findSteps 219 = .ok (.iastore, 1) := by decide +kernel
theorem dX8_findSteps_220 : decode cX8_findSteps 220 = .ok (.iinc 6 1, 3) := by decide +kernel
theorem dX8_findSteps_223 : decode cX8_findSteps 223 = .ok (.goto (-122), 3) := by decide +kernel
theorem dX8_findSteps_226 : decode cX8_findSteps 226 = .ok (.return_, 1) := by decide +kernel
theorem dX8_addStep_0 : decode cX8_addStep 0 = .ok (.aload_n 0, 1) := by decide +kernel
theorem dX8_addStep_1 : decode cX8_addStep 1 = .ok (.lload_n 1, 1) := by decide +kernel
theorem dX8_addStep_2 : decode cX8_addStep 2 = .ok (.lload_n 3, 1) := by decide +kernel
theorem dX8_addStep_3 : decode cX8_addStep 3 = .ok (.invokevirtual 100, 3) := by decide +kernel
theorem dX8_addStep_6 : decode cX8_addStep 6 = .ok (.istore 5, 2) := by decide +kernel
theorem dX8_addStep_8 : decode cX8_addStep 8 = .ok (.iload 5, 2) := by decide +kernel
theorem dX8_addStep_10 : decode cX8_addStep 10 = .ok (.aload_n 0, 1) := by decide +kernel
theorem dX8_addStep_11 : decode cX8_addStep 11 = .ok (.getfield 56, 3) := by decide +kernel
theorem dX8_addStep_14 : decode cX8_addStep 14 = .ok (.if_icmp .ge 25, 3) := by decide +kernel
theorem dX8_addStep_17 : decode cX8_addStep 17 = .ok (.aload_n 0, 1) := by decide +kernel
theorem dX8_addStep_18 : decode cX8_addStep 18 = .ok (.getfield 21, 3) := by decide +kernel
theorem dX8_addStep_21 : decode cX8_addStep 21 = .ok (.iload 5, 2) := by decide +kernel
theorem dX8_addStep_23 : decode cX8_addStep 23 = .ok (.laload, 1) := by decide +kernel
theorem dX8_addStep_24 : decode cX8_addStep 24 = .ok (.aload_n 0, 1) := by decide +kernel
theorem dX8_addStep_25 : decode cX8_addStep 25 = .ok (.getfield 25, 3) := by decide +kernel
theorem dX8_addStep_28 : decode cX8_addStep 28 = .ok (.iload 5, 2) := by decide +kernel
theorem dX8_addStep_30 : decode cX8_addStep 30 = .ok (.laload, 1) := by decide +kernel
theorem dX8_addStep_31 : decode cX8_addStep 31 = .ok (.lload_n 1, 1) := by decide +kernel
theorem dX8_addStep_32 : decode cX8_addStep 32 = .ok (.lload_n 3, 1) := by decide +kernel
theorem dX8_addStep_33 : decode cX8_addStep 33 = .ok (.invokestatic 104, 3) := by decide +kernel
theorem dX8_addStep_36 : decode cX8_addStep 36 = .ok (.ifCond .eq 12, 3) := by decide +kernel
theorem dX8_addStep_39 : decode cX8_addStep 39 = .ok (.aload_n 0, 1) := by decide +kernel
theorem dX8_addStep_40 : decode cX8_addStep 40 = .ok (.getfield 56, 3) := by decide +kernel
theorem dX8_addStep_43 : decode cX8_addStep 43 = .ok (.bipush 20, 2) := by decide +kernel
theorem dX8_addStep_45 : decode cX8_addStep 45 = .ok (.if_icmp .lt 4, 3) := by decide +kernel
theorem dX8_addStep_48 : decode cX8_addStep 48 = .ok (.return_, 1) := by decide +kernel
theorem dX8_addStep_49 : decode cX8_addStep 49 = .ok (.aload_n 0, 1) := by decide +kernel
theorem dX8_addStep_50 : decode cX8_addStep 50 = .ok (.getfield 56, 3) := by decide +kernel
theorem dX8_addStep_53 : decode cX8_addStep 53 = .ok (.istore 6, 2) := by decide +kernel
theorem dX8_addStep_55 : decode cX8_addStep 55 = .ok (.iload 6, 2) := by decide +kernel
theorem dX8_addStep_57 : decode cX8_addStep 57 = .ok (.iload 5, 2) := by decide +kernel
theorem dX8_addStep_59 : decode cX8_addStep 59 = .ok (.if_icmp .le 41, 3) := by decide +kernel
theorem dX8_addStep_62 : decode cX8_addStep 62 = .ok (.aload_n 0, 1) := by decide +kernel
theorem dX8_addStep_63 : decode cX8_addStep 63 = .ok (.getfield 21, 3) := by decide +kernel
theorem dX8_addStep_66 : decode cX8_addStep 66 = .ok (.iload 6, 2) := by decide +kernel
theorem dX8_addStep_68 : decode cX8_addStep 68 = .ok (.aload_n 0, 1) := by decide +kernel
theorem dX8_addStep_69 : decode cX8_addStep 69 = .ok (.getfield 21, 3) := by decide +kernel
theorem dX8_addStep_72 : decode cX8_addStep 72 = .ok (.iload 6, 2) := by decide +kernel
theorem dX8_addStep_74 : decode cX8_addStep 74 = .ok (.iconst 1, 1) := by decide +kernel
theorem dX8_addStep_75 : decode cX8_addStep 75 = .ok (.isub, 1) := by decide +kernel
theorem dX8_addStep_76 : decode cX8_addStep 76 = .ok (.laload, 1) := by decide +kernel
theorem dX8_addStep_77 : decode cX8_addStep 77 = .ok (.lastore, 1) := by decide +kernel
theorem dX8_addStep_78 : decode cX8_addStep 78 = .ok (.aload_n 0, 1) := by decide +kernel
theorem dX8_addStep_79 : decode cX8_addStep 79 = .ok (.getfield 25, 3) := by decide +kernel
theorem dX8_addStep_82 : decode cX8_addStep 82 = .ok (.iload 6, 2) := by decide +kernel
theorem dX8_addStep_84 : decode cX8_addStep 84 = .ok (.aload_n 0, 1) := by decide +kernel
theorem dX8_addStep_85 : decode cX8_addStep 85 = .ok (.getfield 25, 3) := by decide +kernel
theorem dX8_addStep_88 : decode cX8_addStep 88 = .ok (.iload 6, 2) := by decide +kernel
theorem dX8_addStep_90 : decode cX8_addStep 90 = .ok (.iconst 1, 1) := by decide +kernel
theorem dX8_addStep_91 : decode cX8_addStep 91 = .ok (.isub, 1) := by decide +kernel
theorem dX8_addStep_92 : decode cX8_addStep 92 = .ok (.laload, 1) := by decide +kernel
theorem dX8_addStep_93 : decode cX8_addStep 93 = .ok (.lastore, 1) := by decide +kernel
theorem dX8_addStep_94 : decode cX8_addStep 94 = .ok (.iinc 6 (-1), 3) := by decide +kernel
theorem dX8_addStep_97 : decode cX8_addStep 97 = .ok (.goto (-42), 3) := by decide +kernel
theorem dX8_addStep_100 : decode cX8_addStep 100 = .ok (.aload_n 0, 1) := by decide +kernel
theorem dX8_addStep_101 : decode cX8_addStep 101 = .ok (.getfield 21, 3) := by decide +kernel
theorem dX8_addStep_104 : decode cX8_addStep 104 = .ok (.iload 5, 2) := by decide +kernel
theorem dX8_addStep_106 : decode cX8_addStep 106 = .ok (.lload_n 1, 1) := by decide +kernel
theorem dX8_addStep_107 : decode cX8_addStep 107 = .ok (.lastore, 1) := by decide +kernel
theorem dX8_addStep_108 : decode cX8_addStep 108 = .ok (.aload_n 0, 1) := by decide +kernel
theorem dX8_addStep_109 : decode cX8_addStep 109 = .ok (.getfield 25, 3) := by decide +kernel
theorem dX8_addStep_112 : decode cX8_addStep 112 = .ok (.iload 5, 2) := by decide +kernel
theorem dX8_addStep_114 : decode cX8_addStep 114 = .ok (.lload_n 3, 1) := by decide +kernel
theorem dX8_addStep_115 : decode cX8_addStep 115 = .ok (.lastore, 1) := by decide +kernel
theorem dX8_addStep_116 : decode cX8_addStep 116 = .ok (.aload_n 0, 1) := by decide +kernel
theorem dX8_addStep_117 : decode cX8_addStep 117 = .ok (.dup, 1) := by decide +kernel
theorem dX8_addStep_118 : decode cX8_addStep 118 = .ok (.getfield 56, 3) := by decide +kernel
theorem dX8_addStep_121 : decode cX8_addStep 121 = .ok (.iconst 1, 1) := by decide +kernel
theorem dX8_addStep_122 : decode cX8_addStep 122 = .ok (.iadd, 1) := by decide +kernel
theorem dX8_addStep_123 : decode cX8_addStep 123 = .ok (.putfield 56, 3) := by decide +kernel
theorem dX8_addStep_126 : decode cX8_addStep 126 = .ok (.return_, 1) := by decide +kernel
theorem dX8_stepsUnder_0 : decode cX8_stepsUnder 0 = .ok (.iconst 0, 1) := by decide +kernel
theorem dX8_stepsUnder_1 : decode cX8_stepsUnder 1 = .ok (.istore 5, 2) := by decide +kernel
theorem dX8_stepsUnder_3 : decode cX8_stepsUnder 3 = .ok (.iconst 0, 1) := by decide +kernel
theorem dX8_stepsUnder_4 : decode cX8_stepsUnder 4 = .ok (.istore 6, 2) := by decide +kernel
theorem dX8_stepsUnder_6 : decode cX8_stepsUnder 6 = .ok (.iload 6, 2) := by decide +kernel
theorem dX8_stepsUnder_8 : decode cX8_stepsUnder 8 = .ok (.aload_n 0, 1) := by decide +kernel
theorem dX8_stepsUnder_9 : decode cX8_stepsUnder 9 = .ok (.getfield 56, 3) := by decide +kernel
theorem dX8_stepsUnder_12 : decode cX8_stepsUnder 12 = .ok (.if_icmp .ge 34, 3) := by decide +kernel
theorem dX8_stepsUnder_15 : decode cX8_stepsUnder 15 = .ok (.aload_n 0, 1) := by decide +kernel
theorem dX8_stepsUnder_16 : decode cX8_stepsUnder 16 = .ok (.getfield 21, 3) := by decide +kernel
theorem dX8_stepsUnder_19 : decode cX8_stepsUnder 19 = .ok (.iload 6, 2) := by decide +kernel
theorem dX8_stepsUnder_21 : decode cX8_stepsUnder 21 = .ok (.laload, 1) := by decide +kernel
theorem dX8_stepsUnder_22 : decode cX8_stepsUnder 22 = .ok (.aload_n 0, 1) := by decide +kernel
theorem dX8_stepsUnder_23 : decode cX8_stepsUnder 23 = .ok (.getfield 25, 3) := by decide +kernel
theorem dX8_stepsUnder_26 : decode cX8_stepsUnder 26 = .ok (.iload 6, 2) := by decide +kernel
theorem dX8_stepsUnder_28 : decode cX8_stepsUnder 28 = .ok (.laload, 1) := by decide +kernel
theorem dX8_stepsUnder_29 : decode cX8_stepsUnder 29 = .ok (.lload_n 1, 1) := by decide +kernel
theorem dX8_stepsUnder_30 : decode cX8_stepsUnder 30 = .ok (.lload_n 3, 1) := by decide +kernel
theorem dX8_stepsUnder_31 : decode cX8_stepsUnder 31 = .ok (.invokestatic 104, 3) := by decide +kernel
theorem dX8_stepsUnder_34 : decode cX8_stepsUnder 34 = .ok (.ifCond .ge 12, 3) := by decide +kernel
theorem dX8_stepsUnder_37 : decode cX8_stepsUnder 37 = .ok (.iinc 5 1, 3) := by decide +kernel
theorem dX8_stepsUnder_40 : decode cX8_stepsUnder 40 = .ok (.iinc 6 1, 3) := by decide +kernel
theorem dX8_stepsUnder_43 : decode cX8_stepsUnder 43 = .ok (.goto (-37), 3) := by decide +kernel
theorem dX8_stepsUnder_46 : decode cX8_stepsUnder 46 = .ok (.iload 5, 2) := by decide +kernel
theorem dX8_stepsUnder_48 : decode cX8_stepsUnder 48 = .ok (.ireturn, 1) := by decide +kernel
theorem dX8_cellAt_0 : decode cX8_cellAt 0 = .ok (.iload_n 2, 1) := by decide +kernel
theorem dX8_cellAt_1 : decode cX8_cellAt 1 = .ok (.istore 5, 2) := by decide +kernel
theorem dX8_cellAt_3 : decode cX8_cellAt 3 = .ok (.iload_n 2, 1) := by decide +kernel
theorem dX8_cellAt_4 : decode cX8_cellAt 4 = .ok (.istore 6, 2) := by decide +kernel
theorem dX8_cellAt_6 : decode cX8_cellAt 6 = .ok (.iload 6, 2) := by decide +kernel
theorem dX8_cellAt_8 : decode cX8_cellAt 8 = .ok (.iconst 1, 1) := by decide +kernel
theorem dX8_cellAt_9 : decode cX8_cellAt 9 = .ok (.iadd, 1) := by decide +kernel
theorem dX8_cellAt_10 : decode cX8_cellAt 10 = .ok (.iload_n 3, 1) := by decide +kernel
theorem dX8_cellAt_11 : decode cX8_cellAt 11 = .ok (.if_icmp .ge 48, 3) := by decide +kernel
theorem dX8_cellAt_14 : decode cX8_cellAt 14 = .ok (.aload_n 1, 1) := by decide +kernel
theorem dX8_cellAt_15 : decode cX8_cellAt 15 = .ok (.getfield 108, 3) := by decide +kernel
theorem dX8_cellAt_18 : decode cX8_cellAt 18 = .ok (.iload 6, 2) := by decide +kernel
theorem dX8_cellAt_20 : decode cX8_cellAt 20 = .ok (.iaload, 1) := by decide +kernel
theorem dX8_cellAt_21 : decode cX8_cellAt 21 = .ok (.invokestatic 111, 3) := by decide +kernel
theorem dX8_cellAt_24 : decode cX8_cellAt 24 = .ok (.istore 7, 2) := by decide +kernel
theorem dX8_cellAt_26 : decode cX8_cellAt 26 = .ok (.iload 7, 2) := by decide +kernel
theorem dX8_cellAt_28 : decode cX8_cellAt 28 = .ok (.iconst (-1), 1) := by decide +kernel
theorem dX8_cellAt_29 : decode cX8_cellAt 29 = .ok (.if_icmp .eq 30, 3) := by decide +kernel
theorem dX8_cellAt_32 : decode cX8_cellAt 32 = .ok (.aload_n 0, 1) := by decide +kernel
theorem dX8_cellAt_33 : decode cX8_cellAt 33 = .ok (.getfield 31, 3) := by decide +kernel
theorem dX8_cellAt_36 : decode cX8_cellAt 36 = .ok (.iload 7, 2) := by decide +kernel
theorem dX8_cellAt_38 : decode cX8_cellAt 38 = .ok (.iaload, 1) := by decide +kernel
theorem dX8_cellAt_39 : decode cX8_cellAt 39 = .ok (.iload 4, 2) := by decide +kernel
theorem dX8_cellAt_41 : decode cX8_cellAt 41 = .ok (.if_icmp .lt 6, 3) := by decide +kernel
theorem dX8_cellAt_44 : decode cX8_cellAt 44 = .ok (.goto 15, 3) := by decide +kernel
theorem dX8_cellAt_47 : decode cX8_cellAt 47 = .ok (.iload 6, 2) := by decide +kernel
theorem dX8_cellAt_49 : decode cX8_cellAt 49 = .ok (.iconst 1, 1) := by decide +kernel
theorem dX8_cellAt_50 : decode cX8_cellAt 50 = .ok (.iadd, 1) := by decide +kernel
theorem dX8_cellAt_51 : decode cX8_cellAt 51 = .ok (.istore 5, 2) := by decide +kernel
theorem dX8_cellAt_53 : decode cX8_cellAt 53 = .ok (.iinc 6 1, 3) := by decide +kernel
theorem dX8_cellAt_56 : decode cX8_cellAt 56 = .ok (.goto (-50), 3) := by decide +kernel
theorem dX8_cellAt_59 : decode cX8_cellAt 59 = .ok (.iload 5, 2) := by decide +kernel
theorem dX8_cellAt_61 : decode cX8_cellAt 61 = .ok (.ireturn, 1) := by decide +kernel
theorem dX8_uprightsAt_0 : decode cX8_uprightsAt 0 = .ok (.iconst 0, 1) := by decide +kernel
theorem dX8_uprightsAt_1 : decode cX8_uprightsAt 1 = .ok (.istore 7, 2) := by decide +kernel
theorem dX8_uprightsAt_3 : decode cX8_uprightsAt 3 = .ok (.iconst 0, 1) := by decide +kernel
theorem dX8_uprightsAt_4 : decode cX8_uprightsAt 4 = .ok (.istore 8, 2) := by decide +kernel
theorem dX8_uprightsAt_6 : decode cX8_uprightsAt 6 = .ok (.iload 8, 2) := by decide +kernel
theorem dX8_uprightsAt_8 : decode cX8_uprightsAt 8 = .ok (.aload_n 1, 1) := by decide +kernel
theorem dX8_uprightsAt_9 : decode cX8_uprightsAt 9 = .ok (.getfield 71, 3) := by decide +kernel
theorem dX8_uprightsAt_12 : decode cX8_uprightsAt 12 = .ok (.if_icmp .ge 63, 3) := by decide +kernel
theorem dX8_uprightsAt_15 : decode cX8_uprightsAt 15 = .ok (.aload_n 1, 1) := by decide +kernel
theorem dX8_uprightsAt_16 : decode cX8_uprightsAt 16 = .ok (.iload 8, 2) := by decide +kernel
theorem dX8_uprightsAt_18 : decode cX8_uprightsAt 18 = .ok (.invokevirtual 78, 3) := by decide +kernel
theorem dX8_uprightsAt_21 : decode cX8_uprightsAt 21 = .ok (.ifCond .eq 48, 3) := by decide +kernel
theorem dX8_uprightsAt_24 : decode cX8_uprightsAt 24 = .ok (.aload_n 1, 1) := by decide +kernel
theorem dX8_uprightsAt_25 : decode cX8_uprightsAt 25 = .ok (.iload 8, 2) := by decide +kernel
theorem dX8_uprightsAt_27 : decode cX8_uprightsAt 27 = .ok (.lload_n 2, 1) := by decide +kernel
theorem dX8_uprightsAt_28 : decode cX8_uprightsAt 28 = .ok (.lload 4, 2) := by decide +kernel
theorem dX8_uprightsAt_30 : decode cX8_uprightsAt 30 = .ok (.invokevirtual 74, 3) := by decide +kernel
theorem dX8_uprightsAt_33 : decode cX8_uprightsAt 33 = .ok (.ifCond .eq 36, 3) := by decide +kernel
theorem dX8_uprightsAt_36 : decode cX8_uprightsAt 36 = .ok (.aload_n 0, 1) := by decide +kernel
theorem dX8_uprightsAt_37 : decode cX8_uprightsAt 37 = .ok (.getfield 28, 3) := by decide +kernel
theorem dX8_uprightsAt_40 : decode cX8_uprightsAt 40 = .ok (.iload 8, 2) := by decide +kernel
theorem dX8_uprightsAt_42 : decode cX8_uprightsAt 42 = .ok (.iaload, 1) := by decide +kernel
theorem dX8_uprightsAt_43 : decode cX8_uprightsAt 43 = .ok (.iload 6, 2) := by decide +kernel
theorem dX8_uprightsAt_45 : decode cX8_uprightsAt 45 = .ok (.if_icmp .ge 24, 3) := by decide +kernel
theorem dX8_uprightsAt_48 : decode cX8_uprightsAt 48 = .ok (.iload 6, 2) := by decide +kernel
theorem dX8_uprightsAt_50 : decode cX8_uprightsAt 50 = .ok (.aload_n 0, 1) := by decide +kernel
theorem dX8_uprightsAt_51 : decode cX8_uprightsAt 51 = .ok (.getfield 31, 3) := by decide +kernel
theorem dX8_uprightsAt_54 : decode cX8_uprightsAt 54 = .ok (.iload 8, 2) := by decide +kernel
theorem dX8_uprightsAt_56 : decode cX8_uprightsAt 56 = .ok (.iaload, 1) := by decide +kernel
theorem dX8_uprightsAt_57 : decode cX8_uprightsAt 57 = .ok (.if_icmp .gt 12, 3) := by decide +kernel
theorem dX8_uprightsAt_60 : decode cX8_uprightsAt 60 = .ok (.iload 7, 2) := by decide +kernel
theorem dX8_uprightsAt_62 : decode cX8_uprightsAt 62 = .ok (.iconst 1, 1) := by decide +kernel
theorem dX8_uprightsAt_63 : decode cX8_uprightsAt 63 = .ok (.iload 8, 2) := by decide +kernel
theorem dX8_uprightsAt_65 : decode cX8_uprightsAt 65 = .ok (.ishl, 1) := by decide +kernel
theorem dX8_uprightsAt_66 : decode cX8_uprightsAt 66 = .ok (.ior, 1) := by decide +kernel
theorem dX8_uprightsAt_67 : decode cX8_uprightsAt 67 = .ok (.istore 7, 2) := by decide +kernel
theorem dX8_uprightsAt_69 : decode cX8_uprightsAt 69 = .ok (.iinc 8 1, 3) := by decide +kernel
theorem dX8_uprightsAt_72 : decode cX8_uprightsAt 72 = .ok (.goto (-66), 3) := by decide +kernel
theorem dX8_uprightsAt_75 : decode cX8_uprightsAt 75 = .ok (.iload 7, 2) := by decide +kernel
theorem dX8_uprightsAt_77 : decode cX8_uprightsAt 77 = .ok (.ireturn, 1) := by decide +kernel
theorem dX8_add_0 : decode cX8_add 0 = .ok (.aload_n 0, 1) := by decide +kernel
theorem dX8_add_1 : decode cX8_add 1 = .ok (.getfield 34, 3) := by decide +kernel
theorem dX8_add_4 : decode cX8_add 4 = .ok (.sipush 725, 3) := by decide +kernel
theorem dX8_add_7 : decode cX8_add 7 = .ok (.if_icmp .ge 43, 3) := by decide +kernel
theorem dX8_add_10 : decode cX8_add 10 = .ok (.aload_n 0, 1) := by decide +kernel
theorem dX8_add_11 : decode cX8_add 11 = .ok (.getfield 9, 3) := by decide +kernel
theorem dX8_add_14 : decode cX8_add 14 = .ok (.aload_n 0, 1) := by decide +kernel
theorem dX8_add_15 : decode cX8_add 15 = .ok (.getfield 34, 3) := by decide +kernel
theorem dX8_add_18 : decode cX8_add 18 = .ok (.iload_n 1, 1) := by decide +kernel
theorem dX8_add_19 : decode cX8_add 19 = .ok (.iastore, 1) := by decide +kernel
theorem dX8_add_20 : decode cX8_add 20 = .ok (.aload_n 0, 1) := by decide +kernel
theorem dX8_add_21 : decode cX8_add 21 = .ok (.getfield 15, 3) := by decide +kernel
theorem dX8_add_24 : decode cX8_add 24 = .ok (.aload_n 0, 1) := by decide +kernel
theorem dX8_add_25 : decode cX8_add 25 = .ok (.getfield 34, 3) := by decide +kernel
theorem dX8_add_28 : decode cX8_add 28 = .ok (.iload_n 2, 1) := by decide +kernel
theorem dX8_add_29 : decode cX8_add 29 = .ok (.iastore, 1) := by decide +kernel
theorem dX8_add_30 : decode cX8_add 30 = .ok (.aload_n 0, 1) := by decide +kernel
theorem dX8_add_31 : decode cX8_add 31 = .ok (.getfield 18, 3) := by decide +kernel
theorem dX8_add_34 : decode cX8_add 34 = .ok (.aload_n 0, 1) := by decide +kernel
theorem dX8_add_35 : decode cX8_add 35 = .ok (.getfield 34, 3) := by decide +kernel
theorem dX8_add_38 : decode cX8_add 38 = .ok (.iload_n 3, 1) := by decide +kernel
theorem dX8_add_39 : decode cX8_add 39 = .ok (.iastore, 1) := by decide +kernel
theorem dX8_add_40 : decode cX8_add 40 = .ok (.aload_n 0, 1) := by decide +kernel
theorem dX8_add_41 : decode cX8_add 41 = .ok (.dup, 1) := by decide +kernel
theorem dX8_add_42 : decode cX8_add 42 = .ok (.getfield 34, 3) := by decide +kernel
theorem dX8_add_45 : decode cX8_add 45 = .ok (.iconst 1, 1) := by decide +kernel
theorem dX8_add_46 : decode cX8_add 46 = .ok (.iadd, 1) := by decide +kernel
theorem dX8_add_47 : decode cX8_add 47 = .ok (.putfield 34, 3) := by decide +kernel
theorem dX8_add_50 : decode cX8_add 50 = .ok (.return_, 1) := by decide +kernel
theorem dX9_line_0 : decode cX9_line 0 = .ok (.iload_n 1, 1) := by decide +kernel
theorem dX9_line_1 : decode cX9_line 1 = .ok (.iload_n 2, 1) := by decide +kernel
theorem dX9_line_2 : decode cX9_line 2 = .ok (.iload_n 3, 1) := by decide +kernel
theorem dX9_line_3 : decode cX9_line 3 = .ok (.iload 4, 2) := by decide +kernel
theorem dX9_line_5 : decode cX9_line 5 = .ok (.invokestatic 81, 3) := by decide +kernel
theorem dX9_line_8 : decode cX9_line 8 = .ok (.ifCond .ne 6, 3) := by decide +kernel
theorem dX9_line_11 : decode cX9_line 11 = .ok (.bipush (-2), 2) := by decide +kernel
theorem dX9_line_13 : decode cX9_line 13 = .ok (.ireturn, 1) := by decide +kernel
theorem dX9_line_14 : decode cX9_line 14 = .ok (.aload_n 0, 1) := by decide +kernel
theorem dX9_line_15 : decode cX9_line 15 = .ok (.getfield 12, 3) := by decide +kernel
theorem dX9_line_18 : decode cX9_line 18 = .ok (.invokevirtual 85, 3) := by decide +kernel
theorem dX9_line_21 : decode cX9_line 21 = .ok (.ifCond .eq 6, 3) := by decide +kernel
theorem dX9_line_24 : decode cX9_line 24 = .ok (.bipush (-4), 2) := by decide +kernel
theorem dX9_line_26 : decode cX9_line 26 = .ok (.ireturn, 1) := by decide +kernel
theorem dX9_line_27 : decode cX9_line 27 = .ok (.aload_n 0, 1) := by decide +kernel
theorem dX9_line_28 : decode cX9_line 28 = .ok (.invokevirtual 89, 3) := by decide +kernel
theorem dX9_line_31 : decode cX9_line 31 = .ok (.aload_n 0, 1) := by decide +kernel
theorem dX9_line_32 : decode cX9_line 32 = .ok (.getfield 12, 3) := by decide +kernel
theorem dX9_line_35 : decode cX9_line 35 = .ok (.iload_n 1, 1) := by decide +kernel
theorem dX9_line_36 : decode cX9_line 36 = .ok (.iload_n 2, 1) := by decide +kernel
theorem dX9_line_37 : decode cX9_line 37 = .ok (.iload_n 3, 1) := by decide +kernel
theorem dX9_line_38 : decode cX9_line 38 = .ok (.iload 4, 2) := by decide +kernel
theorem dX9_line_40 : decode cX9_line 40 = .ok (.invokevirtual 92, 3) := by decide +kernel
theorem dX9_line_43 : decode cX9_line 43 = .ok (.ireturn, 1) := by decide +kernel
theorem dX9_drop_0 : decode cX9_drop 0 = .ok (.aload_n 0, 1) := by decide +kernel
theorem dX9_drop_1 : decode cX9_drop 1 = .ok (.getfield 12, 3) := by decide +kernel
theorem dX9_drop_4 : decode cX9_drop 4 = .ok (.iload_n 1, 1) := by decide +kernel
theorem dX9_drop_5 : decode cX9_drop 5 = .ok (.invokevirtual 96, 3) := by decide +kernel
theorem dX9_drop_8 : decode cX9_drop 8 = .ok (.ifCond .ne 6, 3) := by decide +kernel
theorem dX9_drop_11 : decode cX9_drop 11 = .ok (.bipush (-2), 2) := by decide +kernel
theorem dX9_drop_13 : decode cX9_drop 13 = .ok (.ireturn, 1) := by decide +kernel
theorem dX9_drop_14 : decode cX9_drop 14 = .ok (.aload_n 0, 1) := by decide +kernel
theorem dX9_drop_15 : decode cX9_drop 15 = .ok (.invokevirtual 89, 3) := by decide +kernel
theorem dX9_drop_18 : decode cX9_drop 18 = .ok (.aload_n 0, 1) := by decide +kernel
theorem dX9_drop_19 : decode cX9_drop 19 = .ok (.getfield 12, 3) := by decide +kernel
theorem dX9_drop_22 : decode cX9_drop 22 = .ok (.iload_n 1, 1) := by decide +kernel
theorem dX9_drop_23 : decode cX9_drop 23 = .ok (.invokevirtual 100, 3) := by decide +kernel
theorem dX9_drop_26 : decode cX9_drop 26 = .ok (.aload_n 0, 1) := by decide +kernel
theorem dX9_drop_27 : decode cX9_drop 27 = .ok (.getfield 12, 3) := by decide +kernel
theorem dX9_drop_30 : decode cX9_drop 30 = .ok (.getfield 104, 3) := by decide +kernel
theorem dX9_drop_33 : decode cX9_drop 33 = .ok (.ireturn, 1) := by decide +kernel
theorem dX9_move_0 : decode cX9_move 0 = .ok (.aload_n 0, 1) := by decide +kernel
theorem dX9_move_1 : decode cX9_move 1 = .ok (.getfield 12, 3) := by decide +kernel
theorem dX9_move_4 : decode cX9_move 4 = .ok (.iload_n 1, 1) := by decide +kernel
theorem dX9_move_5 : decode cX9_move 5 = .ok (.invokevirtual 96, 3) := by decide +kernel
theorem dX9_move_8 : decode cX9_move 8 = .ok (.ifCond .eq 12, 3) := by decide +kernel
theorem dX9_move_11 : decode cX9_move 11 = .ok (.iload_n 2, 1) := by decide +kernel
theorem dX9_move_12 : decode cX9_move 12 = .ok (.ifCond .lt 8, 3) := by decide +kernel
theorem dX9_move_15 : decode cX9_move 15 = .ok (.iload_n 2, 1) := by decide +kernel
theorem dX9_move_16 : decode cX9_move 16 = .ok (.iconst 1, 1) := by decide +kernel
theorem dX9_move_17 : decode cX9_move 17 = .ok (.if_icmp .le 6, 3) := by decide +kernel
theorem dX9_move_20 : decode cX9_move 20 = .ok (.bipush (-2), 2) := by decide +kernel
theorem dX9_move_22 : decode cX9_move 22 = .ok (.ireturn, 1) := by decide +kernel
theorem dX9_move_23 : decode cX9_move 23 = .ok (.iload_n 2, 1) := by decide +kernel
theorem dX9_move_24 : decode cX9_move 24 = .ok (.ifCond .ne 15, 3) := by decide +kernel
theorem dX9_move_27 : decode cX9_move 27 = .ok (.aload_n 0, 1) := by decide +kernel
theorem dX9_move_28 : decode cX9_move 28 = .ok (.getfield 12, 3) := by decide +kernel
theorem dX9_move_31 : decode cX9_move 31 = .ok (.getfield 108, 3) := by decide +kernel
theorem dX9_move_34 : decode cX9_move 34 = .ok (.iload_n 1, 1) := by decide +kernel
theorem dX9_move_35 : decode cX9_move 35 = .ok (.iaload, 1) := by decide +kernel
theorem dX9_move_36 : decode cX9_move 36 = .ok (.goto 12, 3) := by decide +kernel
theorem dX9_move_39 : decode cX9_move 39 = .ok (.aload_n 0, 1) := by decide +kernel
theorem dX9_move_40 : decode cX9_move 40 = .ok (.getfield 12, 3) := by decide +kernel
theorem dX9_move_43 : decode cX9_move 43 = .ok (.getfield 112, 3) := by decide +kernel
theorem dX9_move_46 : decode cX9_move 46 = .ok (.iload_n 1, 1) := by decide +kernel
theorem dX9_move_47 : decode cX9_move 47 = .ok (.iaload, 1) := by decide +kernel
theorem dX9_move_48 : decode cX9_move 48 = .ok (.istore 5, 2) := by decide +kernel
theorem dX9_move_50 : decode cX9_move 50 = .ok (.iload_n 2, 1) := by decide +kernel
theorem dX9_move_51 : decode cX9_move 51 = .ok (.ifCond .ne 15, 3) := by decide +kernel
theorem dX9_move_54 : decode cX9_move 54 = .ok (.aload_n 0, 1) := by decide +kernel
theorem dX9_move_55 : decode cX9_move 55 = .ok (.getfield 12, 3) := by decide +kernel
theorem dX9_move_58 : decode cX9_move 58 = .ok (.getfield 115, 3) := by decide +kernel
theorem dX9_move_61 : decode cX9_move 61 = .ok (.iload_n 1, 1) := by decide +kernel
theorem dX9_move_62 : decode cX9_move 62 = .ok (.iaload, 1) := by decide +kernel
theorem dX9_move_63 : decode cX9_move 63 = .ok (.goto 12, 3) := by decide +kernel
theorem dX9_move_66 : decode cX9_move 66 = .ok (.aload_n 0, 1) := by decide +kernel
theorem dX9_move_67 : decode cX9_move 67 = .ok (.getfield 12, 3) := by decide +kernel
theorem dX9_move_70 : decode cX9_move 70 = .ok (.getfield 118, 3) := by decide +kernel
theorem dX9_move_73 : decode cX9_move 73 = .ok (.iload_n 1, 1) := by decide +kernel
theorem dX9_move_74 : decode cX9_move 74 = .ok (.iaload, 1) := by decide +kernel
theorem dX9_move_75 : decode cX9_move 75 = .ok (.istore 6, 2) := by decide +kernel
theorem dX9_move_77 : decode cX9_move 77 = .ok (.iload_n 3, 1) := by decide +kernel
theorem dX9_move_78 : decode cX9_move 78 = .ok (.iload 4, 2) := by decide +kernel
theorem dX9_move_80 : decode cX9_move 80 = .ok (.iload 5, 2) := by decide +kernel
theorem dX9_move_82 : decode cX9_move 82 = .ok (.iload 6, 2) := by decide +kernel
theorem dX9_move_84 : decode cX9_move 84 = .ok (.invokestatic 81, 3) := by decide +kernel
theorem dX9_move_87 : decode cX9_move 87 = .ok (.ifCond .ne 6, 3) := by decide +kernel
theorem dX9_move_90 : decode cX9_move 90 = .ok (.bipush (-2), 2) := by decide +kernel
theorem dX9_move_92 : decode cX9_move 92 = .ok (.ireturn, 1) := by decide +kernel
theorem dX9_move_93 : decode cX9_move 93 = .ok (.aload_n 0, 1) := by decide +kernel
theorem dX9_move_94 : decode cX9_move 94 = .ok (.invokevirtual 89, 3) := by decide +kernel
theorem dX9_move_97 : decode cX9_move 97 = .ok (.aload_n 0, 1) := by decide +kernel
theorem dX9_move_98 : decode cX9_move 98 = .ok (.getfield 12, 3) := by decide +kernel
theorem dX9_move_101 : decode cX9_move 101 = .ok (.iload_n 1, 1) := by decide +kernel
theorem dX9_move_102 : decode cX9_move 102 = .ok (.iload_n 3, 1) := by decide +kernel
theorem dX9_move_103 : decode cX9_move 103 = .ok (.iload 4, 2) := by decide +kernel
theorem dX9_move_105 : decode cX9_move 105 = .ok (.iload 5, 2) := by decide +kernel
theorem dX9_move_107 : decode cX9_move 107 = .ok (.iload 6, 2) := by decide +kernel
theorem dX9_move_109 : decode cX9_move 109 = .ok (.invokevirtual 121, 3) := by decide +kernel
theorem dX9_move_112 : decode cX9_move 112 = .ok (.iconst 1, 1) := by decide +kernel
theorem dX9_move_113 : decode cX9_move 113 = .ok (.ireturn, 1) := by decide +kernel
theorem dX9_told_0 : decode cX9_told 0 = .ok (.aload_n 0, 1) := by decide +kernel
theorem dX9_told_1 : decode cX9_told 1 = .ok (.getfield 12, 3) := by decide +kernel
theorem dX9_told_4 : decode cX9_told 4 = .ok (.iload_n 1, 1) := by decide +kernel
theorem dX9_told_5 : decode cX9_told 5 = .ok (.invokevirtual 96, 3) := by decide +kernel
theorem dX9_told_8 : decode cX9_told 8 = .ok (.ifCond .ne 6, 3) := by decide +kernel
theorem dX9_told_11 : decode cX9_told 11 = .ok (.bipush (-2), 2) := by decide +kernel
theorem dX9_told_13 : decode cX9_told 13 = .ok (.ireturn, 1) := by decide +kernel
theorem dX9_told_14 : decode cX9_told 14 = .ok (.iload_n 2, 1) := by decide +kernel
theorem dX9_told_15 : decode cX9_told 15 = .ok (.tableswitch 175 0 7 #[45, 55, 65, 75, 85, 102, 115, 145], 45) := by decide +kernel
theorem dX9_told_60 : decode cX9_told 60 = .ok (.aload_n 0, 1) := by decide +kernel
theorem dX9_told_61 : decode cX9_told 61 = .ok (.getfield 12, 3) := by decide +kernel
theorem dX9_told_64 : decode cX9_told 64 = .ok (.getfield 112, 3) := by decide +kernel
theorem dX9_told_67 : decode cX9_told 67 = .ok (.iload_n 1, 1) := by decide +kernel
theorem dX9_told_68 : decode cX9_told 68 = .ok (.iaload, 1) := by decide +kernel
theorem dX9_told_69 : decode cX9_told 69 = .ok (.ireturn, 1) := by decide +kernel
theorem dX9_told_70 : decode cX9_told 70 = .ok (.aload_n 0, 1) := by decide +kernel
theorem dX9_told_71 : decode cX9_told 71 = .ok (.getfield 12, 3) := by decide +kernel
theorem dX9_told_74 : decode cX9_told 74 = .ok (.getfield 118, 3) := by decide +kernel
theorem dX9_told_77 : decode cX9_told 77 = .ok (.iload_n 1, 1) := by decide +kernel
theorem dX9_told_78 : decode cX9_told 78 = .ok (.iaload, 1) := by decide +kernel
theorem dX9_told_79 : decode cX9_told 79 = .ok (.ireturn, 1) := by decide +kernel
theorem dX9_told_80 : decode cX9_told 80 = .ok (.aload_n 0, 1) := by decide +kernel
theorem dX9_told_81 : decode cX9_told 81 = .ok (.getfield 12, 3) := by decide +kernel
theorem dX9_told_84 : decode cX9_told 84 = .ok (.getfield 108, 3) := by decide +kernel
theorem dX9_told_87 : decode cX9_told 87 = .ok (.iload_n 1, 1) := by decide +kernel
theorem dX9_told_88 : decode cX9_told 88 = .ok (.iaload, 1) := by decide +kernel
theorem dX9_told_89 : decode cX9_told 89 = .ok (.ireturn, 1) := by decide +kernel
theorem dX9_told_90 : decode cX9_told 90 = .ok (.aload_n 0, 1) := by decide +kernel
theorem dX9_told_91 : decode cX9_told 91 = .ok (.getfield 12, 3) := by decide +kernel
theorem dX9_told_94 : decode cX9_told 94 = .ok (.getfield 115, 3) := by decide +kernel
theorem dX9_told_97 : decode cX9_told 97 = .ok (.iload_n 1, 1) := by decide +kernel
theorem dX9_told_98 : decode cX9_told 98 = .ok (.iaload, 1) := by decide +kernel
theorem dX9_told_99 : decode cX9_told 99 = .ok (.ireturn, 1) := by decide +kernel
theorem dX9_told_100 : decode cX9_told 100 = .ok (.aload_n 0, 1) := by decide +kernel
theorem dX9_told_101 : decode cX9_told 101 = .ok (.getfield 12, 3) := by decide +kernel
theorem dX9_told_104 : decode cX9_told 104 = .ok (.iload_n 1, 1) := by decide +kernel
theorem dX9_told_105 : decode cX9_told 105 = .ok (.invokevirtual 125, 3) := by decide +kernel
theorem dX9_told_108 : decode cX9_told 108 = .ok (.ifCond .eq 7, 3) := by decide +kernel
theorem dX9_told_111 : decode cX9_told 111 = .ok (.iconst 1, 1) := by decide +kernel
theorem dX9_told_112 : decode cX9_told 112 = .ok (.goto 4, 3) := by decide +kernel
theorem dX9_told_115 : decode cX9_told 115 = .ok (.iconst 0, 1) := by decide +kernel
theorem dX9_told_116 : decode cX9_told 116 = .ok (.ireturn, 1) := by decide +kernel
theorem dX9_told_117 : decode cX9_told 117 = .ok (.aload_n 0, 1) := by decide +kernel
theorem dX9_told_118 : decode cX9_told 118 = .ok (.invokevirtual 128, 3) := by decide +kernel
theorem dX9_told_121 : decode cX9_told 121 = .ok (.aload_n 0, 1) := by decide +kernel
theorem dX9_told_122 : decode cX9_told 122 = .ok (.getfield 25, 3) := by decide +kernel
theorem dX9_told_125 : decode cX9_told 125 = .ok (.iload_n 1, 1) := by decide +kernel
theorem dX9_told_126 : decode cX9_told 126 = .ok (.invokevirtual 131, 3) := by decide +kernel
theorem dX9_told_129 : decode cX9_told 129 = .ok (.ireturn, 1) := by decide +kernel
theorem dX9_told_130 : decode cX9_told 130 = .ok (.aload_n 0, 1) := by decide +kernel
theorem dX9_told_131 : decode cX9_told 131 = .ok (.invokevirtual 135, 3) := by decide +kernel
theorem dX9_told_134 : decode cX9_told 134 = .ok (.aload_n 0, 1) := by decide +kernel
theorem dX9_told_135 : decode cX9_told 135 = .ok (.getfield 70, 3) := by decide +kernel
theorem dX9_told_138 : decode cX9_told 138 = .ok (.aload_n 0, 1) := by decide +kernel
theorem dX9_told_139 : decode cX9_told 139 = .ok (.getfield 12, 3) := by decide +kernel
theorem dX9_told_142 : decode cX9_told 142 = .ok (.getfield 112, 3) := by decide +kernel
theorem dX9_told_145 : decode cX9_told 145 = .ok (.iload_n 1, 1) := by decide +kernel
theorem dX9_told_146 : decode cX9_told 146 = .ok (.iaload, 1) := by decide +kernel
theorem dX9_told_147 : decode cX9_told 147 = .ok (.aload_n 0, 1) := by decide +kernel
theorem dX9_told_148 : decode cX9_told 148 = .ok (.getfield 12, 3) := by decide +kernel
theorem dX9_told_151 : decode cX9_told 151 = .ok (.getfield 118, 3) := by decide +kernel
theorem dX9_told_154 : decode cX9_told 154 = .ok (.iload_n 1, 1) := by decide +kernel
theorem dX9_told_155 : decode cX9_told 155 = .ok (.iaload, 1) := by decide +kernel
theorem dX9_told_156 : decode cX9_told 156 = .ok (.invokevirtual 138, 3) := by decide +kernel
theorem dX9_told_159 : decode cX9_told 159 = .ok (.ireturn, 1) := by decide +kernel
theorem dX9_told_160 : decode cX9_told 160 = .ok (.aload_n 0, 1) := by decide +kernel
theorem dX9_told_161 : decode cX9_told 161 = .ok (.invokevirtual 135, 3) := by decide +kernel
theorem dX9_told_164 : decode cX9_told 164 = .ok (.aload_n 0, 1) := by decide +kernel
theorem dX9_told_165 : decode cX9_told 165 = .ok (.getfield 70, 3) := by decide +kernel
theorem dX9_told_168 : decode cX9_told 168 = .ok (.aload_n 0, 1) := by decide +kernel
theorem dX9_told_169 : decode cX9_told 169 = .ok (.getfield 12, 3) := by decide +kernel
theorem dX9_told_172 : decode cX9_told 172 = .ok (.getfield 108, 3) := by decide +kernel
theorem dX9_told_175 : decode cX9_told 175 = .ok (.iload_n 1, 1) := by decide +kernel
theorem dX9_told_176 : decode cX9_told 176 = .ok (.iaload, 1) := by decide +kernel
theorem dX9_told_177 : decode cX9_told 177 = .ok (.aload_n 0, 1) := by decide +kernel
theorem dX9_told_178 : decode cX9_told 178 = .ok (.getfield 12, 3) := by decide +kernel
theorem dX9_told_181 : decode cX9_told 181 = .ok (.getfield 115, 3) := by decide +kernel
theorem dX9_told_184 : decode cX9_told 184 = .ok (.iload_n 1, 1) := by decide +kernel
theorem dX9_told_185 : decode cX9_told 185 = .ok (.iaload, 1) := by decide +kernel
theorem dX9_told_186 : decode cX9_told 186 = .ok (.invokevirtual 138, 3) := by decide +kernel
theorem dX9_told_189 : decode cX9_told 189 = .ok (.ireturn, 1) := by decide +kernel
theorem dX9_told_190 : decode cX9_told 190 = .ok (.bipush (-2), 2) := by decide +kernel
theorem dX9_told_192 : decode cX9_told 192 = .ok (.ireturn, 1) := by decide +kernel
theorem dX9_taken_0 : decode cX9_taken 0 = .ok (.aload_n 0, 1) := by decide +kernel
theorem dX9_taken_1 : decode cX9_taken 1 = .ok (.getfield 12, 3) := by decide +kernel
theorem dX9_taken_4 : decode cX9_taken 4 = .ok (.iload_n 1, 1) := by decide +kernel
theorem dX9_taken_5 : decode cX9_taken 5 = .ok (.invokevirtual 96, 3) := by decide +kernel
theorem dX9_taken_8 : decode cX9_taken 8 = .ok (.ifCond .eq 12, 3) := by decide +kernel
theorem dX9_taken_11 : decode cX9_taken 11 = .ok (.iload_n 2, 1) := by decide +kernel
theorem dX9_taken_12 : decode cX9_taken 12 = .ok (.ifCond .lt 8, 3) := by decide +kernel
theorem dX9_taken_15 : decode cX9_taken 15 = .ok (.iload_n 2, 1) := by decide +kernel
theorem dX9_taken_16 : decode cX9_taken 16 = .ok (.iconst 2, 1) := by decide +kernel
theorem dX9_taken_17 : decode cX9_taken 17 = .ok (.if_icmp .le 6, 3) := by decide +kernel
theorem dX9_taken_20 : decode cX9_taken 20 = .ok (.bipush (-2), 2) := by decide +kernel
theorem dX9_taken_22 : decode cX9_taken 22 = .ok (.ireturn, 1) := by decide +kernel
theorem dX9_taken_23 : decode cX9_taken 23 = .ok (.aload_n 0, 1) := by decide +kernel
theorem dX9_taken_24 : decode cX9_taken 24 = .ok (.getfield 12, 3) := by decide +kernel
theorem dX9_taken_27 : decode cX9_taken 27 = .ok (.iload_n 1, 1) := by decide +kernel
theorem dX9_taken_28 : decode cX9_taken 28 = .ok (.invokevirtual 125, 3) := by decide +kernel
theorem dX9_taken_31 : decode cX9_taken 31 = .ok (.istore_n 3, 1) := by decide +kernel
theorem dX9_taken_32 : decode cX9_taken 32 = .ok (.iload_n 2, 1) := by decide +kernel
theorem dX9_taken_33 : decode cX9_taken 33 = .ok (.ifCond .ne 7, 3) := by decide +kernel
theorem dX9_taken_36 : decode cX9_taken 36 = .ok (.iload_n 3, 1) := by decide +kernel
theorem dX9_taken_37 : decode cX9_taken 37 = .ok (.goto 30, 3) := by decide +kernel
theorem dX9_taken_40 : decode cX9_taken 40 = .ok (.iload_n 3, 1) := by decide +kernel
theorem dX9_taken_41 : decode cX9_taken 41 = .ok (.ifCond .ne 25, 3) := by decide +kernel
theorem dX9_taken_44 : decode cX9_taken 44 = .ok (.iload_n 2, 1) := by decide +kernel
theorem dX9_taken_45 : decode cX9_taken 45 = .ok (.iconst 1, 1) := by decide +kernel
theorem dX9_taken_46 : decode cX9_taken 46 = .ok (.if_icmp .eq 16, 3) := by decide +kernel
theorem dX9_taken_49 : decode cX9_taken 49 = .ok (.aload_n 0, 1) := by decide +kernel
theorem dX9_taken_50 : decode cX9_taken 50 = .ok (.getfield 12, 3) := by decide +kernel
theorem dX9_taken_53 : decode cX9_taken 53 = .ok (.iload_n 1, 1) := by decide +kernel
theorem dX9_taken_54 : decode cX9_taken 54 = .ok (.invokevirtual 142, 3) := by decide +kernel
theorem dX9_taken_57 : decode cX9_taken 57 = .ok (.lconst 0, 1) := by decide +kernel
theorem dX9_taken_58 : decode cX9_taken 58 = .ok (.lcmp, 1) := by decide +kernel
theorem dX9_taken_59 : decode cX9_taken 59 = .ok (.ifCond .ne 7, 3) := by decide +kernel
theorem dX9_taken_62 : decode cX9_taken 62 = .ok (.iconst 1, 1) := by decide +kernel
theorem dX9_taken_63 : decode cX9_taken 63 = .ok (.goto 4, 3) := by decide +kernel
theorem dX9_taken_66 : decode cX9_taken 66 = .ok (.iconst 0, 1) := by decide +kernel
theorem dX9_taken_67 : decode cX9_taken 67 = .ok (.istore 4, 2) := by decide +kernel
theorem dX9_taken_69 : decode cX9_taken 69 = .ok (.iload 4, 2) := by decide +kernel
theorem dX9_taken_71 : decode cX9_taken 71 = .ok (.ifCond .eq 7, 3) := by decide +kernel
theorem dX9_taken_74 : decode cX9_taken 74 = .ok (.iload_n 1, 1) := by decide +kernel
theorem dX9_taken_75 : decode cX9_taken 75 = .ok (.goto 5, 3) := by decide +kernel
theorem dX9_taken_78 : decode cX9_taken 78 = .ok (.bipush (-13), 2) := by decide +kernel
theorem dX9_taken_80 : decode cX9_taken 80 = .ok (.ireturn, 1) := by decide +kernel
theorem dX9_cross_0 : decode cX9_cross 0 = .ok (.aload_n 0, 1) := by decide +kernel
theorem dX9_cross_1 : decode cX9_cross 1 = .ok (.getfield 12, 3) := by decide +kernel
theorem dX9_cross_4 : decode cX9_cross 4 = .ok (.iload_n 1, 1) := by decide +kernel
theorem dX9_cross_5 : decode cX9_cross 5 = .ok (.invokevirtual 96, 3) := by decide +kernel
theorem dX9_cross_8 : decode cX9_cross 8 = .ok (.ifCond .eq 28, 3) := by decide +kernel
theorem dX9_cross_11 : decode cX9_cross 11 = .ok (.aload_n 0, 1) := by decide +kernel
theorem dX9_cross_12 : decode cX9_cross 12 = .ok (.getfield 12, 3) := by decide +kernel
theorem dX9_cross_15 : decode cX9_cross 15 = .ok (.iload_n 2, 1) := by decide +kernel
theorem dX9_cross_16 : decode cX9_cross 16 = .ok (.invokevirtual 96, 3) := by decide +kernel
theorem dX9_cross_19 : decode cX9_cross 19 = .ok (.ifCond .eq 17, 3) := by decide +kernel
theorem dX9_cross_22 : decode cX9_cross 22 = .ok (.iload_n 1, 1) := by decide +kernel
theorem dX9_cross_23 : decode cX9_cross 23 = .ok (.iload_n 2, 1) := by decide +kernel
theorem dX9_cross_24 : decode cX9_cross 24 = .ok (.if_icmp .eq 12, 3) := by decide +kernel
theorem dX9_cross_27 : decode cX9_cross 27 = .ok (.iload_n 3, 1) := by decide +kernel
theorem dX9_cross_28 : decode cX9_cross 28 = .ok (.ifCond .lt 8, 3) := by decide +kernel
theorem dX9_cross_31 : decode cX9_cross 31 = .ok (.iload_n 3, 1) := by decide +kernel
theorem dX9_cross_32 : decode cX9_cross 32 = .ok (.iconst 4, 1) := by decide +kernel
theorem dX9_cross_33 : decode cX9_cross 33 = .ok (.if_icmp .le 6, 3) := by decide +kernel
theorem dX9_cross_36 : decode cX9_cross 36 = .ok (.bipush (-2), 2) := by decide +kernel
theorem dX9_cross_38 : decode cX9_cross 38 = .ok (.ireturn, 1) := by decide +kernel
theorem dX9_cross_39 : decode cX9_cross 39 = .ok (.aload_n 0, 1) := by decide +kernel
theorem dX9_cross_40 : decode cX9_cross 40 = .ok (.getfield 35, 3) := by decide +kernel
theorem dX9_cross_43 : decode cX9_cross 43 = .ok (.aload_n 0, 1) := by decide +kernel
theorem dX9_cross_44 : decode cX9_cross 44 = .ok (.getfield 12, 3) := by decide +kernel
theorem dX9_cross_47 : decode cX9_cross 47 = .ok (.iload_n 1, 1) := by decide +kernel
theorem dX9_cross_48 : decode cX9_cross 48 = .ok (.iload_n 2, 1) := by decide +kernel
theorem dX9_cross_49 : decode cX9_cross 49 = .ok (.invokevirtual 146, 3) := by decide +kernel
theorem dX9_cross_52 : decode cX9_cross 52 = .ok (.iload_n 3, 1) := by decide +kernel
theorem dX9_cross_53 : decode cX9_cross 53 = .ok (.ifCond .ne 11, 3) := by decide +kernel
theorem dX9_cross_56 : decode cX9_cross 56 = .ok (.aload_n 0, 1) := by decide +kernel
theorem dX9_cross_57 : decode cX9_cross 57 = .ok (.getfield 35, 3) := by decide +kernel
theorem dX9_cross_60 : decode cX9_cross 60 = .ok (.getfield 150, 3) := by decide +kernel
theorem dX9_cross_63 : decode cX9_cross 63 = .ok (.ireturn, 1) := by decide +kernel
theorem dX9_cross_64 : decode cX9_cross 64 = .ok (.aload_n 0, 1) := by decide +kernel
theorem dX9_cross_65 : decode cX9_cross 65 = .ok (.getfield 35, 3) := by decide +kernel
theorem dX9_cross_68 : decode cX9_cross 68 = .ok (.invokevirtual 153, 3) := by decide +kernel
theorem dX9_cross_71 : decode cX9_cross 71 = .ok (.ifCond .ne 6, 3) := by decide +kernel
theorem dX9_cross_74 : decode cX9_cross 74 = .ok (.bipush (-3), 2) := by decide +kernel
theorem dX9_cross_76 : decode cX9_cross 76 = .ok (.ireturn, 1) := by decide +kernel
theorem dX9_cross_77 : decode cX9_cross 77 = .ok (.iload_n 3, 1) := by decide +kernel
theorem dX9_cross_78 : decode cX9_cross 78 = .ok (.tableswitch 53 1 3 #[26, 35, 44], 26) := by decide +kernel
theorem dX9_cross_104 : decode cX9_cross 104 = .ok (.aload_n 0, 1) := by decide +kernel
theorem dX9_cross_105 : decode cX9_cross 105 = .ok (.getfield 35, 3) := by decide +kernel
theorem dX9_cross_108 : decode cX9_cross 108 = .ok (.getfield 156, 3) := by decide +kernel
theorem dX9_cross_111 : decode cX9_cross 111 = .ok (.l2i, 1) := by decide +kernel
theorem dX9_cross_112 : decode cX9_cross 112 = .ok (.ireturn, 1) := by decide +kernel
theorem dX9_cross_113 : decode cX9_cross 113 = .ok (.aload_n 0, 1) := by decide +kernel
theorem dX9_cross_114 : decode cX9_cross 114 = .ok (.getfield 35, 3) := by decide +kernel
theorem dX9_cross_117 : decode cX9_cross 117 = .ok (.getfield 160, 3) := by decide +kernel
theorem dX9_cross_120 : decode cX9_cross 120 = .ok (.l2i, 1) := by decide +kernel
theorem dX9_cross_121 : decode cX9_cross 121 = .ok (.ireturn, 1) := by decide +kernel
theorem dX9_cross_122 : decode cX9_cross 122 = .ok (.aload_n 0, 1) := by decide +kernel
theorem dX9_cross_123 : decode cX9_cross 123 = .ok (.getfield 35, 3) := by decide +kernel
theorem dX9_cross_126 : decode cX9_cross 126 = .ok (.getfield 163, 3) := by decide +kernel
theorem dX9_cross_129 : decode cX9_cross 129 = .ok (.l2i, 1) := by decide +kernel
theorem dX9_cross_130 : decode cX9_cross 130 = .ok (.ireturn, 1) := by decide +kernel
theorem dX9_cross_131 : decode cX9_cross 131 = .ok (.aload_n 0, 1) := by decide +kernel
theorem dX9_cross_132 : decode cX9_cross 132 = .ok (.getfield 35, 3) := by decide +kernel
theorem dX9_cross_135 : decode cX9_cross 135 = .ok (.getfield 166, 3) := by decide +kernel
theorem dX9_cross_138 : decode cX9_cross 138 = .ok (.l2i, 1) := by decide +kernel
theorem dX9_cross_139 : decode cX9_cross 139 = .ok (.ireturn, 1) := by decide +kernel
theorem dX9_point_0 : decode cX9_point 0 = .ok (.iload_n 2, 1) := by decide +kernel
theorem dX9_point_1 : decode cX9_point 1 = .ok (.ifCond .lt 9, 3) := by decide +kernel
theorem dX9_point_4 : decode cX9_point 4 = .ok (.iload_n 2, 1) := by decide +kernel
theorem dX9_point_5 : decode cX9_point 5 = .ok (.bipush 6, 2) := by decide +kernel
theorem dX9_point_7 : decode cX9_point 7 = .ok (.if_icmp .le 6, 3) := by decide +kernel
theorem dX9_point_10 : decode cX9_point 10 = .ok (.bipush (-2), 2) := by decide +kernel
theorem dX9_point_12 : decode cX9_point 12 = .ok (.ireturn, 1) := by decide +kernel
theorem dX9_point_13 : decode cX9_point 13 = .ok (.aload_n 0, 1) := by decide +kernel
theorem dX9_point_14 : decode cX9_point 14 = .ok (.invokevirtual 128, 3) := by decide +kernel
theorem dX9_point_17 : decode cX9_point 17 = .ok (.iload_n 1, 1) := by decide +kernel
theorem dX9_point_18 : decode cX9_point 18 = .ok (.ifCond .lt 14, 3) := by decide +kernel
theorem dX9_point_21 : decode cX9_point 21 = .ok (.iload_n 1, 1) := by decide +kernel
theorem dX9_point_22 : decode cX9_point 22 = .ok (.aload_n 0, 1) := by decide +kernel
theorem dX9_point_23 : decode cX9_point 23 = .ok (.getfield 25, 3) := by decide +kernel
theorem dX9_point_26 : decode cX9_point 26 = .ok (.getfield 169, 3) := by decide +kernel
theorem dX9_point_29 : decode cX9_point 29 = .ok (.if_icmp .lt 6, 3) := by decide +kernel
theorem dX9_point_32 : decode cX9_point 32 = .ok (.bipush (-12), 2) := by decide +kernel
theorem dX9_point_34 : decode cX9_point 34 = .ok (.ireturn, 1) := by decide +kernel
theorem dX9_point_35 : decode cX9_point 35 = .ok (.iload_n 2, 1) := by decide +kernel
theorem dX9_point_36 : decode cX9_point 36 = .ok (.tableswitch 107 0 5 #[40, 51, 62, 73, 84, 94], 40) := by decide +kernel
theorem dX9_point_76 : decode cX9_point 76 = .ok (.aload_n 0, 1) := by decide +kernel
theorem dX9_point_77 : decode cX9_point 77 = .ok (.getfield 25, 3) := by decide +kernel
theorem dX9_point_80 : decode cX9_point 80 = .ok (.getfield 170, 3) := by decide +kernel
theorem dX9_point_83 : decode cX9_point 83 = .ok (.iload_n 1, 1) := by decide +kernel
theorem dX9_point_84 : decode cX9_point 84 = .ok (.laload, 1) := by decide +kernel
theorem dX9_point_85 : decode cX9_point 85 = .ok (.l2i, 1) := by decide +kernel
theorem dX9_point_86 : decode cX9_point 86 = .ok (.ireturn, 1) := by decide +kernel
theorem dX9_point_87 : decode cX9_point 87 = .ok (.aload_n 0, 1) := by decide +kernel
theorem dX9_point_88 : decode cX9_point 88 = .ok (.getfield 25, 3) := by decide +kernel
theorem dX9_point_91 : decode cX9_point 91 = .ok (.getfield 173, 3) := by decide +kernel
theorem dX9_point_94 : decode cX9_point 94 = .ok (.iload_n 1, 1) := by decide +kernel
theorem dX9_point_95 : decode cX9_point 95 = .ok (.laload, 1) := by decide +kernel
theorem dX9_point_96 : decode cX9_point 96 = .ok (.l2i, 1) := by decide +kernel
theorem dX9_point_97 : decode cX9_point 97 = .ok (.ireturn, 1) := by decide +kernel
theorem dX9_point_98 : decode cX9_point 98 = .ok (.aload_n 0, 1) := by decide +kernel
theorem dX9_point_99 : decode cX9_point 99 = .ok (.getfield 25, 3) := by decide +kernel
theorem dX9_point_102 : decode cX9_point 102 = .ok (.getfield 175, 3) := by decide +kernel
theorem dX9_point_105 : decode cX9_point 105 = .ok (.iload_n 1, 1) := by decide +kernel
theorem dX9_point_106 : decode cX9_point 106 = .ok (.laload, 1) := by decide +kernel
theorem dX9_point_107 : decode cX9_point 107 = .ok (.l2i, 1) := by decide +kernel
theorem dX9_point_108 : decode cX9_point 108 = .ok (.ireturn, 1) := by decide +kernel
theorem dX9_point_109 : decode cX9_point 109 = .ok (.aload_n 0, 1) := by decide +kernel
theorem dX9_point_110 : decode cX9_point 110 = .ok (.getfield 25, 3) := by decide +kernel
theorem dX9_point_113 : decode cX9_point 113 = .ok (.getfield 177, 3) := by decide +kernel
theorem dX9_point_116 : decode cX9_point 116 = .ok (.iload_n 1, 1) := by decide +kernel
theorem dX9_point_117 : decode cX9_point 117 = .ok (.laload, 1) := by decide +kernel
theorem dX9_point_118 : decode cX9_point 118 = .ok (.l2i, 1) := by decide +kernel
theorem dX9_point_119 : decode cX9_point 119 = .ok (.ireturn, 1) := by decide +kernel
theorem dX9_point_120 : decode cX9_point 120 = .ok (.aload_n 0, 1) := by decide +kernel
theorem dX9_point_121 : decode cX9_point 121 = .ok (.getfield 25, 3) := by decide +kernel
theorem dX9_point_124 : decode cX9_point 124 = .ok (.getfield 179, 3) := by decide +kernel
theorem dX9_point_127 : decode cX9_point 127 = .ok (.iload_n 1, 1) := by decide +kernel
theorem dX9_point_128 : decode cX9_point 128 = .ok (.iaload, 1) := by decide +kernel
theorem dX9_point_129 : decode cX9_point 129 = .ok (.ireturn, 1) := by decide +kernel
theorem dX9_point_130 : decode cX9_point 130 = .ok (.aload_n 0, 1) := by decide +kernel
theorem dX9_point_131 : decode cX9_point 131 = .ok (.getfield 25, 3) := by decide +kernel
theorem dX9_point_134 : decode cX9_point 134 = .ok (.aload_n 0, 1) := by decide +kernel
theorem dX9_point_135 : decode cX9_point 135 = .ok (.getfield 12, 3) := by decide +kernel
theorem dX9_point_138 : decode cX9_point 138 = .ok (.iload_n 1, 1) := by decide +kernel
theorem dX9_point_139 : decode cX9_point 139 = .ok (.invokevirtual 182, 3) := by decide +kernel
theorem dX9_point_142 : decode cX9_point 142 = .ok (.ireturn, 1) := by decide +kernel
theorem dX9_point_143 : decode cX9_point 143 = .ok (.aload_n 0, 1) := by decide +kernel
theorem dX9_point_144 : decode cX9_point 144 = .ok (.getfield 25, 3) := by decide +kernel
theorem dX9_point_147 : decode cX9_point 147 = .ok (.getfield 186, 3) := by decide +kernel
theorem dX9_point_150 : decode cX9_point 150 = .ok (.iload_n 1, 1) := by decide +kernel
theorem dX9_point_151 : decode cX9_point 151 = .ok (.iaload, 1) := by decide +kernel
theorem dX9_point_152 : decode cX9_point 152 = .ok (.ireturn, 1) := by decide +kernel
theorem dX9_order_0 : decode cX9_order 0 = .ok (.iload_n 1, 1) := by decide +kernel
theorem dX9_order_1 : decode cX9_order 1 = .ok (.ifCond .lt 21, 3) := by decide +kernel
theorem dX9_order_4 : decode cX9_order 4 = .ok (.iload_n 1, 1) := by decide +kernel
theorem dX9_order_5 : decode cX9_order 5 = .ok (.sipush 400, 3) := by decide +kernel
theorem dX9_order_8 : decode cX9_order 8 = .ok (.if_icmp .gt 14, 3) := by decide +kernel
theorem dX9_order_11 : decode cX9_order 11 = .ok (.iload_n 2, 1) := by decide +kernel
theorem dX9_order_12 : decode cX9_order 12 = .ok (.iconst 1, 1) := by decide +kernel
theorem dX9_order_13 : decode cX9_order 13 = .ok (.if_icmp .lt 9, 3) := by decide +kernel
theorem dX9_order_16 : decode cX9_order 16 = .ok (.iload_n 2, 1) := by decide +kernel
theorem dX9_order_17 : decode cX9_order 17 = .ok (.bipush 10, 2) := by decide +kernel
theorem dX9_order_19 : decode cX9_order 19 = .ok (.if_icmp .le 6, 3) := by decide +kernel
theorem dX9_order_22 : decode cX9_order 22 = .ok (.bipush (-2), 2) := by decide +kernel
theorem dX9_order_24 : decode cX9_order 24 = .ok (.ireturn, 1) := by decide +kernel
theorem dX9_order_25 : decode cX9_order 25 = .ok (.aload_n 0, 1) := by decide +kernel
theorem dX9_order_26 : decode cX9_order 26 = .ok (.getfield 42, 3) := by decide +kernel
theorem dX9_order_29 : decode cX9_order 29 = .ok (.aload_n 0, 1) := by decide +kernel
theorem dX9_order_30 : decode cX9_order 30 = .ok (.getfield 12, 3) := by decide +kernel
theorem dX9_order_33 : decode cX9_order 33 = .ok (.iload_n 1, 1) := by decide +kernel
theorem dX9_order_34 : decode cX9_order 34 = .ok (.i2l, 1) := by decide +kernel
theorem dX9_order_35 : decode cX9_order 35 = .ok (.iload_n 2, 1) := by decide +kernel
theorem dX9_order_36 : decode cX9_order 36 = .ok (.i2l, 1) := by decide +kernel
theorem dX9_order_37 : decode cX9_order 37 = .ok (.invokevirtual 189, 3) := by decide +kernel
theorem dX9_order_40 : decode cX9_order 40 = .ok (.iload_n 3, 1) := by decide +kernel
theorem dX9_order_41 : decode cX9_order 41 = .ok (.iconst (-1), 1) := by decide +kernel
theorem dX9_order_42 : decode cX9_order 42 = .ok (.if_icmp .ne 11, 3) := by decide +kernel
theorem dX9_order_45 : decode cX9_order 45 = .ok (.aload_n 0, 1) := by decide +kernel
theorem dX9_order_46 : decode cX9_order 46 = .ok (.getfield 42, 3) := by decide +kernel
theorem dX9_order_49 : decode cX9_order 49 = .ok (.getfield 193, 3) := by decide +kernel
theorem dX9_order_52 : decode cX9_order 52 = .ok (.ireturn, 1) := by decide +kernel
theorem dX9_order_53 : decode cX9_order 53 = .ok (.iload_n 3, 1) := by decide +kernel
theorem dX9_order_54 : decode cX9_order 54 = .ok (.ifCond .lt 14, 3) := by decide +kernel
theorem dX9_order_57 : decode cX9_order 57 = .ok (.iload_n 3, 1) := by decide +kernel
theorem dX9_order_58 : decode cX9_order 58 = .ok (.aload_n 0, 1) := by decide +kernel
theorem dX9_order_59 : decode cX9_order 59 = .ok (.getfield 42, 3) := by decide +kernel
theorem dX9_order_62 : decode cX9_order 62 = .ok (.getfield 193, 3) := by decide +kernel
theorem dX9_order_65 : decode cX9_order 65 = .ok (.if_icmp .lt 6, 3) := by decide +kernel
theorem dX9_order_68 : decode cX9_order 68 = .ok (.bipush (-12), 2) := by decide +kernel
theorem dX9_order_70 : decode cX9_order 70 = .ok (.ireturn, 1) := by decide +kernel
theorem dX9_order_71 : decode cX9_order 71 = .ok (.aload_n 0, 1) := by decide +kernel
theorem dX9_order_72 : decode cX9_order 72 = .ok (.getfield 42, 3) := by decide +kernel
theorem dX9_order_75 : decode cX9_order 75 = .ok (.getfield 194, 3) := by decide +kernel
theorem dX9_order_78 : decode cX9_order 78 = .ok (.iload_n 3, 1) := by decide +kernel
theorem dX9_order_79 : decode cX9_order 79 = .ok (.iaload, 1) := by decide +kernel
theorem dX9_order_80 : decode cX9_order 80 = .ok (.ireturn, 1) := by decide +kernel
theorem dX9_slab_0 : decode cX9_slab 0 = .ok (.iload_n 2, 1) := by decide +kernel
theorem dX9_slab_1 : decode cX9_slab 1 = .ok (.ifCond .lt 8, 3) := by decide +kernel
theorem dX9_slab_4 : decode cX9_slab 4 = .ok (.iload_n 2, 1) := by decide +kernel
theorem dX9_slab_5 : decode cX9_slab 5 = .ok (.iconst 3, 1) := by decide +kernel
theorem dX9_slab_6 : decode cX9_slab 6 = .ok (.if_icmp .le 6, 3) := by decide +kernel
theorem dX9_slab_9 : decode cX9_slab 9 = .ok (.bipush (-2), 2) := by decide +kernel
theorem dX9_slab_11 : decode cX9_slab 11 = .ok (.ireturn, 1) := by decide +kernel
theorem dX9_slab_12 : decode cX9_slab 12 = .ok (.aload_n 0, 1) := by decide +kernel
theorem dX9_slab_13 : decode cX9_slab 13 = .ok (.invokevirtual 197, 3) := by decide +kernel
theorem dX9_slab_16 : decode cX9_slab 16 = .ok (.iload_n 1, 1) := by decide +kernel
theorem dX9_slab_17 : decode cX9_slab 17 = .ok (.ifCond .lt 14, 3) := by decide +kernel
theorem dX9_slab_20 : decode cX9_slab 20 = .ok (.iload_n 1, 1) := by decide +kernel
theorem dX9_slab_21 : decode cX9_slab 21 = .ok (.aload_n 0, 1) := by decide +kernel
theorem dX9_slab_22 : decode cX9_slab 22 = .ok (.getfield 49, 3) := by decide +kernel
theorem dX9_slab_25 : decode cX9_slab 25 = .ok (.getfield 200, 3) := by decide +kernel
theorem dX9_slab_28 : decode cX9_slab 28 = .ok (.if_icmp .le 6, 3) := by decide +kernel
theorem dX9_slab_31 : decode cX9_slab 31 = .ok (.bipush (-12), 2) := by decide +kernel
theorem dX9_slab_33 : decode cX9_slab 33 = .ok (.ireturn, 1) := by decide +kernel
theorem dX9_slab_34 : decode cX9_slab 34 = .ok (.iload_n 2, 1) := by decide +kernel
theorem dX9_slab_35 : decode cX9_slab 35 = .ok (.iconst 2, 1) := by decide +kernel
theorem dX9_slab_36 : decode cX9_slab 36 = .ok (.if_icmp .ne 25, 3) := by decide +kernel
theorem dX9_slab_39 : decode cX9_slab 39 = .ok (.aload_n 0, 1) := by decide +kernel
theorem dX9_slab_40 : decode cX9_slab 40 = .ok (.getfield 49, 3) := by decide +kernel
theorem dX9_slab_43 : decode cX9_slab 43 = .ok (.getfield 203, 3) := by decide +kernel
theorem dX9_slab_46 : decode cX9_slab 46 = .ok (.iload_n 1, 1) := by decide +kernel
theorem dX9_slab_47 : decode cX9_slab 47 = .ok (.iconst 1, 1) := by decide +kernel
theorem dX9_slab_48 : decode cX9_slab 48 = .ok (.iadd, 1) := by decide +kernel
theorem dX9_slab_49 : decode cX9_slab 49 = .ok (.iaload, 1) := by decide +kernel
theorem dX9_slab_50 : decode cX9_slab 50 = .ok (.aload_n 0, 1) := by decide +kernel
theorem dX9_slab_51 : decode cX9_slab 51 = .ok (.getfield 49, 3) := by decide +kernel
theorem dX9_slab_54 : decode cX9_slab 54 = .ok (.getfield 203, 3) := by decide +kernel
theorem dX9_slab_57 : decode cX9_slab 57 = .ok (.iload_n 1, 1) := by decide +kernel
theorem dX9_slab_58 : decode cX9_slab 58 = .ok (.iaload, 1) := by decide +kernel
theorem dX9_slab_59 : decode cX9_slab 59 = .ok (.isub, 1) := by decide +kernel
theorem dX9_slab_60 : decode cX9_slab 60 = .ok (.ireturn, 1) := by decide +kernel
theorem dX9_slab_61 : decode cX9_slab 61 = .ok (.iload_n 2, 1) := by decide +kernel
theorem dX9_slab_62 : decode cX9_slab 62 = .ok (.iconst 3, 1) := by decide +kernel
theorem dX9_slab_63 : decode cX9_slab 63 = .ok (.if_icmp .ne 13, 3) := by decide +kernel
theorem dX9_slab_66 : decode cX9_slab 66 = .ok (.aload_n 0, 1) := by decide +kernel
theorem dX9_slab_67 : decode cX9_slab 67 = .ok (.getfield 49, 3) := by decide +kernel
theorem dX9_slab_70 : decode cX9_slab 70 = .ok (.getfield 203, 3) := by decide +kernel
theorem dX9_slab_73 : decode cX9_slab 73 = .ok (.iload_n 1, 1) := by decide +kernel
theorem dX9_slab_74 : decode cX9_slab 74 = .ok (.iaload, 1) := by decide +kernel
theorem dX9_slab_75 : decode cX9_slab 75 = .ok (.ireturn, 1) := by decide +kernel
theorem dX9_slab_76 : decode cX9_slab 76 = .ok (.iload_n 1, 1) := by decide +kernel
theorem dX9_slab_77 : decode cX9_slab 77 = .ok (.ifCond .ne 6, 3) := by decide +kernel
theorem dX9_slab_80 : decode cX9_slab 80 = .ok (.bipush (-3), 2) := by decide +kernel
theorem dX9_slab_82 : decode cX9_slab 82 = .ok (.ireturn, 1) := by decide +kernel
theorem dX9_slab_83 : decode cX9_slab 83 = .ok (.iload_n 2, 1) := by decide +kernel
theorem dX9_slab_84 : decode cX9_slab 84 = .ok (.ifCond .ne 17, 3) := by decide +kernel
theorem dX9_slab_87 : decode cX9_slab 87 = .ok (.aload_n 0, 1) := by decide +kernel
theorem dX9_slab_88 : decode cX9_slab 88 = .ok (.getfield 49, 3) := by decide +kernel
theorem dX9_slab_91 : decode cX9_slab 91 = .ok (.getfield 206, 3) := by decide +kernel
theorem dX9_slab_94 : decode cX9_slab 94 = .ok (.iload_n 1, 1) := by decide +kernel
theorem dX9_slab_95 : decode cX9_slab 95 = .ok (.iconst 1, 1) := by decide +kernel
theorem dX9_slab_96 : decode cX9_slab 96 = .ok (.isub, 1) := by decide +kernel
theorem dX9_slab_97 : decode cX9_slab 97 = .ok (.laload, 1) := by decide +kernel
theorem dX9_slab_98 : decode cX9_slab 98 = .ok (.goto 14, 3) := by decide +kernel
theorem dX9_slab_101 : decode cX9_slab 101 = .ok (.aload_n 0, 1) := by decide +kernel
theorem dX9_slab_102 : decode cX9_slab 102 = .ok (.getfield 49, 3) := by decide +kernel
theorem dX9_slab_105 : decode cX9_slab 105 = .ok (.getfield 207, 3) := by decide +kernel
theorem dX9_slab_108 : decode cX9_slab 108 = .ok (.iload_n 1, 1) := by decide +kernel
theorem dX9_slab_109 : decode cX9_slab 109 = .ok (.iconst 1, 1) := by decide +kernel
theorem dX9_slab_110 : decode cX9_slab 110 = .ok (.isub, 1) := by decide +kernel
theorem dX9_slab_111 : decode cX9_slab 111 = .ok (.laload, 1) := by decide +kernel
theorem dX9_slab_112 : decode cX9_slab 112 = .ok (.l2i, 1) := by decide +kernel
theorem dX9_slab_113 : decode cX9_slab 113 = .ok (.ireturn, 1) := by decide +kernel
theorem dX9_cell_0 : decode cX9_cell 0 = .ok (.iload_n 2, 1) := by decide +kernel
theorem dX9_cell_1 : decode cX9_cell 1 = .ok (.ifCond .lt 8, 3) := by decide +kernel
theorem dX9_cell_4 : decode cX9_cell 4 = .ok (.iload_n 2, 1) := by decide +kernel
theorem dX9_cell_5 : decode cX9_cell 5 = .ok (.iconst 3, 1) := by decide +kernel
theorem dX9_cell_6 : decode cX9_cell 6 = .ok (.if_icmp .le 6, 3) := by decide +kernel
theorem dX9_cell_9 : decode cX9_cell 9 = .ok (.bipush (-2), 2) := by decide +kernel
theorem dX9_cell_11 : decode cX9_cell 11 = .ok (.ireturn, 1) := by decide +kernel
theorem dX9_cell_12 : decode cX9_cell 12 = .ok (.aload_n 0, 1) := by decide +kernel
theorem dX9_cell_13 : decode cX9_cell 13 = .ok (.invokevirtual 197, 3) := by decide +kernel
theorem dX9_cell_16 : decode cX9_cell 16 = .ok (.iload_n 1, 1) := by decide +kernel
theorem dX9_cell_17 : decode cX9_cell 17 = .ok (.ifCond .lt 14, 3) := by decide +kernel
theorem dX9_cell_20 : decode cX9_cell 20 = .ok (.iload_n 1, 1) := by decide +kernel
theorem dX9_cell_21 : decode cX9_cell 21 = .ok (.aload_n 0, 1) := by decide +kernel
theorem dX9_cell_22 : decode cX9_cell 22 = .ok (.getfield 49, 3) := by decide +kernel
theorem dX9_cell_25 : decode cX9_cell 25 = .ok (.getfield 208, 3) := by decide +kernel
theorem dX9_cell_28 : decode cX9_cell 28 = .ok (.if_icmp .lt 6, 3) := by decide +kernel
theorem dX9_cell_31 : decode cX9_cell 31 = .ok (.bipush (-12), 2) := by decide +kernel
theorem dX9_cell_33 : decode cX9_cell 33 = .ok (.ireturn, 1) := by decide +kernel
theorem dX9_cell_34 : decode cX9_cell 34 = .ok (.iload_n 2, 1) := by decide +kernel
theorem dX9_cell_35 : decode cX9_cell 35 = .ok (.tableswitch 58 0 2 #[25, 35, 45], 25) := by decide +kernel
theorem dX9_cell_60 : decode cX9_cell 60 = .ok (.aload_n 0, 1) := by decide +kernel
theorem dX9_cell_61 : decode cX9_cell 61 = .ok (.getfield 49, 3) := by decide +kernel
theorem dX9_cell_64 : decode cX9_cell 64 = .ok (.getfield 211, 3) := by decide +kernel
theorem dX9_cell_67 : decode cX9_cell 67 = .ok (.iload_n 1, 1) := by decide +kernel
theorem dX9_cell_68 : decode cX9_cell 68 = .ok (.iaload, 1) := by decide +kernel
theorem dX9_cell_69 : decode cX9_cell 69 = .ok (.ireturn, 1) := by decide +kernel
theorem dX9_cell_70 : decode cX9_cell 70 = .ok (.aload_n 0, 1) := by decide +kernel
theorem dX9_cell_71 : decode cX9_cell 71 = .ok (.getfield 63, 3) := by decide +kernel
theorem dX9_cell_74 : decode cX9_cell 74 = .ok (.getfield 214, 3) := by decide +kernel
theorem dX9_cell_77 : decode cX9_cell 77 = .ok (.iload_n 1, 1) := by decide +kernel
theorem dX9_cell_78 : decode cX9_cell 78 = .ok (.iaload, 1) := by decide +kernel
theorem dX9_cell_79 : decode cX9_cell 79 = .ok (.ireturn, 1) := by decide +kernel
theorem dX9_cell_80 : decode cX9_cell 80 = .ok (.aload_n 0, 1) := by decide +kernel
theorem dX9_cell_81 : decode cX9_cell 81 = .ok (.getfield 49, 3) := by decide +kernel
theorem dX9_cell_84 : decode cX9_cell 84 = .ok (.getfield 217, 3) := by decide +kernel
theorem dX9_cell_87 : decode cX9_cell 87 = .ok (.iload_n 1, 1) := by decide +kernel
theorem dX9_cell_88 : decode cX9_cell 88 = .ok (.iaload, 1) := by decide +kernel
theorem dX9_cell_89 : decode cX9_cell 89 = .ok (.invokestatic 220, 3) := by decide +kernel
theorem dX9_cell_92 : decode cX9_cell 92 = .ok (.ireturn, 1) := by decide +kernel
theorem dX9_cell_93 : decode cX9_cell 93 = .ok (.aload_n 0, 1) := by decide +kernel
theorem dX9_cell_94 : decode cX9_cell 94 = .ok (.getfield 49, 3) := by decide +kernel
theorem dX9_cell_97 : decode cX9_cell 97 = .ok (.getfield 223, 3) := by decide +kernel
theorem dX9_cell_100 : decode cX9_cell 100 = .ok (.iload_n 1, 1) := by decide +kernel
theorem dX9_cell_101 : decode cX9_cell 101 = .ok (.iaload, 1) := by decide +kernel
theorem dX9_cell_102 : decode cX9_cell 102 = .ok (.invokestatic 220, 3) := by decide +kernel
theorem dX9_cell_105 : decode cX9_cell 105 = .ok (.ireturn, 1) := by decide +kernel
theorem dX9_face_0 : decode cX9_face 0 = .ok (.iload_n 2, 1) := by decide +kernel
theorem dX9_face_1 : decode cX9_face 1 = .ok (.ifCond .lt 8, 3) := by decide +kernel
theorem dX9_face_4 : decode cX9_face 4 = .ok (.iload_n 2, 1) := by decide +kernel
theorem dX9_face_5 : decode cX9_face 5 = .ok (.iconst 4, 1) := by decide +kernel
theorem dX9_face_6 : decode cX9_face 6 = .ok (.if_icmp .le 6, 3) := by decide +kernel
theorem dX9_face_9 : decode cX9_face 9 = .ok (.bipush (-2), 2) := by decide +kernel
theorem dX9_face_11 : decode cX9_face 11 = .ok (.ireturn, 1) := by decide +kernel
theorem dX9_face_12 : decode cX9_face 12 = .ok (.aload_n 0, 1) := by decide +kernel
theorem dX9_face_13 : decode cX9_face 13 = .ok (.invokevirtual 197, 3) := by decide +kernel
theorem dX9_face_16 : decode cX9_face 16 = .ok (.iload_n 1, 1) := by decide +kernel
theorem dX9_face_17 : decode cX9_face 17 = .ok (.ifCond .lt 14, 3) := by decide +kernel
theorem dX9_face_20 : decode cX9_face 20 = .ok (.iload_n 1, 1) := by decide +kernel
theorem dX9_face_21 : decode cX9_face 21 = .ok (.aload_n 0, 1) := by decide +kernel
theorem dX9_face_22 : decode cX9_face 22 = .ok (.getfield 63, 3) := by decide +kernel
theorem dX9_face_25 : decode cX9_face 25 = .ok (.getfield 226, 3) := by decide +kernel
theorem dX9_face_28 : decode cX9_face 28 = .ok (.if_icmp .lt 6, 3) := by decide +kernel
theorem dX9_face_31 : decode cX9_face 31 = .ok (.bipush (-12), 2) := by decide +kernel
theorem dX9_face_33 : decode cX9_face 33 = .ok (.ireturn, 1) := by decide +kernel
theorem dX9_face_34 : decode cX9_face 34 = .ok (.iload_n 2, 1) := by decide +kernel
theorem dX9_face_35 : decode cX9_face 35 = .ok (.tableswitch 72 0 3 #[29, 39, 49, 59], 29) := by decide +kernel
theorem dX9_face_64 : decode cX9_face 64 = .ok (.aload_n 0, 1) := by decide +kernel
theorem dX9_face_65 : decode cX9_face 65 = .ok (.getfield 63, 3) := by decide +kernel
theorem dX9_face_68 : decode cX9_face 68 = .ok (.getfield 227, 3) := by decide +kernel
theorem dX9_face_71 : decode cX9_face 71 = .ok (.iload_n 1, 1) := by decide +kernel
theorem dX9_face_72 : decode cX9_face 72 = .ok (.iaload, 1) := by decide +kernel
theorem dX9_face_73 : decode cX9_face 73 = .ok (.ireturn, 1) := by decide +kernel
theorem dX9_face_74 : decode cX9_face 74 = .ok (.aload_n 0, 1) := by decide +kernel
theorem dX9_face_75 : decode cX9_face 75 = .ok (.getfield 63, 3) := by decide +kernel
theorem dX9_face_78 : decode cX9_face 78 = .ok (.getfield 230, 3) := by decide +kernel
theorem dX9_face_81 : decode cX9_face 81 = .ok (.iload_n 1, 1) := by decide +kernel
theorem dX9_face_82 : decode cX9_face 82 = .ok (.iaload, 1) := by decide +kernel
theorem dX9_face_83 : decode cX9_face 83 = .ok (.ireturn, 1) := by decide +kernel
theorem dX9_face_84 : decode cX9_face 84 = .ok (.aload_n 0, 1) := by decide +kernel
theorem dX9_face_85 : decode cX9_face 85 = .ok (.getfield 63, 3) := by decide +kernel
theorem dX9_face_88 : decode cX9_face 88 = .ok (.getfield 232, 3) := by decide +kernel
theorem dX9_face_91 : decode cX9_face 91 = .ok (.iload_n 1, 1) := by decide +kernel
theorem dX9_face_92 : decode cX9_face 92 = .ok (.iaload, 1) := by decide +kernel
theorem dX9_face_93 : decode cX9_face 93 = .ok (.ireturn, 1) := by decide +kernel
theorem dX9_face_94 : decode cX9_face 94 = .ok (.aload_n 0, 1) := by decide +kernel
theorem dX9_face_95 : decode cX9_face 95 = .ok (.getfield 63, 3) := by decide +kernel
theorem dX9_face_98 : decode cX9_face 98 = .ok (.getfield 235, 3) := by decide +kernel
theorem dX9_face_101 : decode cX9_face 101 = .ok (.iload_n 1, 1) := by decide +kernel
theorem dX9_face_102 : decode cX9_face 102 = .ok (.laload, 1) := by decide +kernel
theorem dX9_face_103 : decode cX9_face 103 = .ok (.invokestatic 238, 3) := by decide +kernel
theorem dX9_face_106 : decode cX9_face 106 = .ok (.ireturn, 1) := by decide +kernel
theorem dX9_face_107 : decode cX9_face 107 = .ok (.aload_n 0, 1) := by decide +kernel
theorem dX9_face_108 : decode cX9_face 108 = .ok (.getfield 63, 3) := by decide +kernel
theorem dX9_face_111 : decode cX9_face 111 = .ok (.getfield 214, 3) := by decide +kernel
theorem dX9_face_114 : decode cX9_face 114 = .ok (.iconst 0, 1) := by decide +kernel
theorem dX9_face_115 : decode cX9_face 115 = .ok (.iaload, 1) := by decide +kernel
theorem dX9_face_116 : decode cX9_face 116 = .ok (.iload_n 1, 1) := by decide +kernel
theorem dX9_face_117 : decode cX9_face 117 = .ok (.if_icmp .ne 7, 3) := by decide +kernel
theorem dX9_face_120 : decode cX9_face 120 = .ok (.iconst 1, 1) := by decide +kernel
theorem dX9_face_121 : decode cX9_face 121 = .ok (.goto 4, 3) := by decide +kernel
theorem dX9_face_124 : decode cX9_face 124 = .ok (.iconst 0, 1) := by decide +kernel
theorem dX9_face_125 : decode cX9_face 125 = .ok (.ireturn, 1) := by decide +kernel
theorem dX9_where_0 : decode cX9_where 0 = .ok (.iload_n 1, 1) := by decide +kernel
theorem dX9_where_1 : decode cX9_where 1 = .ok (.iload_n 2, 1) := by decide +kernel
theorem dX9_where_2 : decode cX9_where 2 = .ok (.iload_n 3, 1) := by decide +kernel
theorem dX9_where_3 : decode cX9_where 3 = .ok (.invokestatic 244, 3) := by decide +kernel
theorem dX9_where_6 : decode cX9_where 6 = .ok (.ifCond .ne 6, 3) := by decide +kernel
theorem dX9_where_9 : decode cX9_where 9 = .ok (.bipush (-2), 2) := by decide +kernel
theorem dX9_where_11 : decode cX9_where 11 = .ok (.ireturn, 1) := by decide +kernel
theorem dX9_where_12 : decode cX9_where 12 = .ok (.aload_n 0, 1) := by decide +kernel
theorem dX9_where_13 : decode cX9_where 13 = .ok (.iload_n 1, 1) := by decide +kernel
theorem dX9_where_14 : decode cX9_where 14 = .ok (.iload_n 2, 1) := by decide +kernel
theorem dX9_where_15 : decode cX9_where 15 = .ok (.iload_n 3, 1) := by decide +kernel
theorem dX9_where_16 : decode cX9_where 16 = .ok (.invokevirtual 248, 3) := by decide +kernel
theorem dX9_where_19 : decode cX9_where 19 = .ok (.ifCond .eq 5, 3) := by decide +kernel
theorem dX9_where_22 : decode cX9_where 22 = .ok (.iconst (-1), 1) := by decide +kernel
theorem dX9_where_23 : decode cX9_where 23 = .ok (.ireturn, 1) := by decide +kernel
theorem dX9_where_24 : decode cX9_where 24 = .ok (.aload_n 0, 1) := by decide +kernel
theorem dX9_where_25 : decode cX9_where 25 = .ok (.invokevirtual 197, 3) := by decide +kernel
theorem dX9_where_28 : decode cX9_where 28 = .ok (.aload_n 0, 1) := by decide +kernel
theorem dX9_where_29 : decode cX9_where 29 = .ok (.getfield 63, 3) := by decide +kernel
theorem dX9_where_32 : decode cX9_where 32 = .ok (.getfield 214, 3) := by decide +kernel
theorem dX9_where_35 : decode cX9_where 35 = .ok (.aload_n 0, 1) := by decide +kernel
theorem dX9_where_36 : decode cX9_where 36 = .ok (.getfield 49, 3) := by decide +kernel
theorem dX9_where_39 : decode cX9_where 39 = .ok (.aload_n 0, 1) := by decide +kernel
theorem dX9_where_40 : decode cX9_where 40 = .ok (.getfield 12, 3) := by decide +kernel
theorem dX9_where_43 : decode cX9_where 43 = .ok (.iload_n 1, 1) := by decide +kernel
theorem dX9_where_44 : decode cX9_where 44 = .ok (.iload_n 2, 1) := by decide +kernel
theorem dX9_where_45 : decode cX9_where 45 = .ok (.iload_n 3, 1) := by decide +kernel
theorem dX9_where_46 : decode cX9_where 46 = .ok (.invokevirtual 252, 3) := by decide +kernel
theorem dX9_where_49 : decode cX9_where 49 = .ok (.iaload, 1) := by decide +kernel
theorem dX9_where_50 : decode cX9_where 50 = .ok (.ireturn, 1) := by decide +kernel
theorem dX9_on_0 : decode cX9_on 0 = .ok (.iload_n 1, 1) := by decide +kernel
theorem dX9_on_1 : decode cX9_on 1 = .ok (.iload_n 2, 1) := by decide +kernel
theorem dX9_on_2 : decode cX9_on 2 = .ok (.iload_n 3, 1) := by decide +kernel
theorem dX9_on_3 : decode cX9_on 3 = .ok (.invokestatic 244, 3) := by decide +kernel
theorem dX9_on_6 : decode cX9_on 6 = .ok (.ifCond .eq 13, 3) := by decide +kernel
theorem dX9_on_9 : decode cX9_on 9 = .ok (.aload_n 0, 1) := by decide +kernel
theorem dX9_on_10 : decode cX9_on 10 = .ok (.iload_n 1, 1) := by decide +kernel
theorem dX9_on_11 : decode cX9_on 11 = .ok (.iload_n 2, 1) := by decide +kernel
theorem dX9_on_12 : decode cX9_on 12 = .ok (.iload_n 3, 1) := by decide +kernel
theorem dX9_on_13 : decode cX9_on 13 = .ok (.invokevirtual 248, 3) := by decide +kernel
theorem dX9_on_16 : decode cX9_on 16 = .ok (.goto 5, 3) := by decide +kernel
theorem dX9_on_19 : decode cX9_on 19 = .ok (.bipush (-2), 2) := by decide +kernel
theorem dX9_on_21 : decode cX9_on 21 = .ok (.ireturn, 1) := by decide +kernel
theorem dX9_hops_0 : decode cX9_hops 0 = .ok (.aload_n 0, 1) := by decide +kernel
theorem dX9_hops_1 : decode cX9_hops 1 = .ok (.invokevirtual 197, 3) := by decide +kernel
theorem dX9_hops_4 : decode cX9_hops 4 = .ok (.iload_n 1, 1) := by decide +kernel
theorem dX9_hops_5 : decode cX9_hops 5 = .ok (.ifCond .lt 29, 3) := by decide +kernel
theorem dX9_hops_8 : decode cX9_hops 8 = .ok (.iload_n 1, 1) := by decide +kernel
theorem dX9_hops_9 : decode cX9_hops 9 = .ok (.aload_n 0, 1) := by decide +kernel
theorem dX9_hops_10 : decode cX9_hops 10 = .ok (.getfield 63, 3) := by decide +kernel
theorem dX9_hops_13 : decode cX9_hops 13 = .ok (.getfield 226, 3) := by decide +kernel
theorem dX9_hops_16 : decode cX9_hops 16 = .ok (.if_icmp .ge 18, 3) := by decide +kernel
theorem dX9_hops_19 : decode cX9_hops 19 = .ok (.iload_n 2, 1) := by decide +kernel
theorem dX9_hops_20 : decode cX9_hops 20 = .ok (.ifCond .lt 14, 3) := by decide +kernel
theorem dX9_hops_23 : decode cX9_hops 23 = .ok (.iload_n 2, 1) := by decide +kernel
theorem dX9_hops_24 : decode cX9_hops 24 = .ok (.aload_n 0, 1) := by decide +kernel
theorem dX9_hops_25 : decode cX9_hops 25 = .ok (.getfield 63, 3) := by decide +kernel
theorem dX9_hops_28 : decode cX9_hops 28 = .ok (.getfield 226, 3) := by decide +kernel
theorem dX9_hops_31 : decode cX9_hops 31 = .ok (.if_icmp .lt 6, 3) := by decide +kernel
theorem dX9_hops_34 : decode cX9_hops 34 = .ok (.bipush (-2), 2) := by decide +kernel
theorem dX9_hops_36 : decode cX9_hops 36 = .ok (.ireturn, 1) := by decide +kernel
theorem dX9_hops_37 : decode cX9_hops 37 = .ok (.aload_n 0, 1) := by decide +kernel
theorem dX9_hops_38 : decode cX9_hops 38 = .ok (.getfield 63, 3) := by decide +kernel
theorem dX9_hops_41 : decode cX9_hops 41 = .ok (.iload_n 1, 1) := by decide +kernel
theorem dX9_hops_42 : decode cX9_hops 42 = .ok (.iload_n 2, 1) := by decide +kernel
theorem dX9_hops_43 : decode cX9_hops 43 = .ok (.invokevirtual 256, 3) := by decide +kernel
theorem dX9_hops_46 : decode cX9_hops 46 = .ok (.ireturn, 1) := by decide +kernel
theorem dX9_count_0 : decode cX9_count 0 = .ok (.iload_n 1, 1) := by decide +kernel
theorem dX9_count_1 : decode cX9_count 1 = .ok (.ifCond .lt 9, 3) := by decide +kernel
theorem dX9_count_4 : decode cX9_count 4 = .ok (.iload_n 1, 1) := by decide +kernel
theorem dX9_count_5 : decode cX9_count 5 = .ok (.bipush 10, 2) := by decide +kernel
theorem dX9_count_7 : decode cX9_count 7 = .ok (.if_icmp .le 6, 3) := by decide +kernel
theorem dX9_count_10 : decode cX9_count 10 = .ok (.bipush (-2), 2) := by decide +kernel
theorem dX9_count_12 : decode cX9_count 12 = .ok (.ireturn, 1) := by decide +kernel
theorem dX9_count_13 : decode cX9_count 13 = .ok (.iload_n 1, 1) := by decide +kernel
theorem dX9_count_14 : decode cX9_count 14 = .ok (.iconst 4, 1) := by decide +kernel
theorem dX9_count_15 : decode cX9_count 15 = .ok (.if_icmp .lt 16, 3) := by decide +kernel
theorem dX9_count_18 : decode cX9_count 18 = .ok (.iload_n 1, 1) := by decide +kernel
theorem dX9_count_19 : decode cX9_count 19 = .ok (.bipush 6, 2) := by decide +kernel
theorem dX9_count_21 : decode cX9_count 21 = .ok (.if_icmp .gt 10, 3) := by decide +kernel
theorem dX9_count_24 : decode cX9_count 24 = .ok (.aload_n 0, 1) := by decide +kernel
theorem dX9_count_25 : decode cX9_count 25 = .ok (.invokevirtual 197, 3) := by decide +kernel
theorem dX9_count_28 : decode cX9_count 28 = .ok (.goto 20, 3) := by decide +kernel
theorem dX9_count_31 : decode cX9_count 31 = .ok (.iload_n 1, 1) := by decide +kernel
theorem dX9_count_32 : decode cX9_count 32 = .ok (.bipush 7, 2) := by decide +kernel
theorem dX9_count_34 : decode cX9_count 34 = .ok (.if_icmp .ne 10, 3) := by decide +kernel
theorem dX9_count_37 : decode cX9_count 37 = .ok (.aload_n 0, 1) := by decide +kernel
theorem dX9_count_38 : decode cX9_count 38 = .ok (.invokevirtual 135, 3) := by decide +kernel
theorem dX9_count_41 : decode cX9_count 41 = .ok (.goto 7, 3) := by decide +kernel
theorem dX9_count_44 : decode cX9_count 44 = .ok (.aload_n 0, 1) := by decide +kernel
theorem dX9_count_45 : decode cX9_count 45 = .ok (.invokevirtual 128, 3) := by decide +kernel
theorem dX9_count_48 : decode cX9_count 48 = .ok (.iload_n 1, 1) := by decide +kernel
theorem dX9_count_49 : decode cX9_count 49 = .ok (.tableswitch 141 0 9 #[55, 63, 71, 79, 87, 97, 105, 113, 121, 131], 55) := by decide +kernel
theorem dX9_count_104 : decode cX9_count 104 = .ok (.aload_n 0, 1) := by decide +kernel
theorem dX9_count_105 : decode cX9_count 105 = .ok (.getfield 12, 3) := by decide +kernel
theorem dX9_count_108 : decode cX9_count 108 = .ok (.getfield 104, 3) := by decide +kernel
theorem dX9_count_111 : decode cX9_count 111 = .ok (.ireturn, 1) := by decide +kernel
theorem dX9_count_112 : decode cX9_count 112 = .ok (.aload_n 0, 1) := by decide +kernel
theorem dX9_count_113 : decode cX9_count 113 = .ok (.getfield 25, 3) := by decide +kernel
theorem dX9_count_116 : decode cX9_count 116 = .ok (.getfield 169, 3) := by decide +kernel
theorem dX9_count_119 : decode cX9_count 119 = .ok (.ireturn, 1) := by decide +kernel
theorem dX9_count_120 : decode cX9_count 120 = .ok (.aload_n 0, 1) := by decide +kernel
theorem dX9_count_121 : decode cX9_count 121 = .ok (.getfield 25, 3) := by decide +kernel
theorem dX9_count_124 : decode cX9_count 124 = .ok (.getfield 259, 3) := by decide +kernel
theorem dX9_count_127 : decode cX9_count 127 = .ok (.ireturn, 1) := by decide +kernel
theorem dX9_count_128 : decode cX9_count 128 = .ok (.aload_n 0, 1) := by decide +kernel
theorem dX9_count_129 : decode cX9_count 129 = .ok (.getfield 25, 3) := by decide +kernel
theorem dX9_count_132 : decode cX9_count 132 = .ok (.getfield 262, 3) := by decide +kernel
theorem dX9_count_135 : decode cX9_count 135 = .ok (.ireturn, 1) := by decide +kernel
theorem dX9_count_136 : decode cX9_count 136 = .ok (.aload_n 0, 1) := by decide +kernel
theorem dX9_count_137 : decode cX9_count 137 = .ok (.getfield 49, 3) := by decide +kernel
theorem dX9_count_140 : decode cX9_count 140 = .ok (.getfield 200, 3) := by decide +kernel
theorem dX9_count_143 : decode cX9_count 143 = .ok (.iconst 1, 1) := by decide +kernel
theorem dX9_count_144 : decode cX9_count 144 = .ok (.iadd, 1) := by decide +kernel
theorem dX9_count_145 : decode cX9_count 145 = .ok (.ireturn, 1) := by decide +kernel
theorem dX9_count_146 : decode cX9_count 146 = .ok (.aload_n 0, 1) := by decide +kernel
theorem dX9_count_147 : decode cX9_count 147 = .ok (.getfield 49, 3) := by decide +kernel
theorem dX9_count_150 : decode cX9_count 150 = .ok (.getfield 208, 3) := by decide +kernel
theorem dX9_count_153 : decode cX9_count 153 = .ok (.ireturn, 1) := by decide +kernel
theorem dX9_count_154 : decode cX9_count 154 = .ok (.aload_n 0, 1) := by decide +kernel
theorem dX9_count_155 : decode cX9_count 155 = .ok (.getfield 63, 3) := by decide +kernel
theorem dX9_count_158 : decode cX9_count 158 = .ok (.getfield 226, 3) := by decide +kernel
theorem dX9_count_161 : decode cX9_count 161 = .ok (.ireturn, 1) := by decide +kernel
theorem dX9_count_162 : decode cX9_count 162 = .ok (.aload_n 0, 1) := by decide +kernel
theorem dX9_count_163 : decode cX9_count 163 = .ok (.getfield 70, 3) := by decide +kernel
theorem dX9_count_166 : decode cX9_count 166 = .ok (.getfield 265, 3) := by decide +kernel
theorem dX9_count_169 : decode cX9_count 169 = .ok (.ireturn, 1) := by decide +kernel
theorem dX9_count_170 : decode cX9_count 170 = .ok (.aload_n 0, 1) := by decide +kernel
theorem dX9_count_171 : decode cX9_count 171 = .ok (.getfield 25, 3) := by decide +kernel
theorem dX9_count_174 : decode cX9_count 174 = .ok (.getfield 266, 3) := by decide +kernel
theorem dX9_count_177 : decode cX9_count 177 = .ok (.iconst 1, 1) := by decide +kernel
theorem dX9_count_178 : decode cX9_count 178 = .ok (.iaload, 1) := by decide +kernel
theorem dX9_count_179 : decode cX9_count 179 = .ok (.ireturn, 1) := by decide +kernel
theorem dX9_count_180 : decode cX9_count 180 = .ok (.aload_n 0, 1) := by decide +kernel
theorem dX9_count_181 : decode cX9_count 181 = .ok (.getfield 25, 3) := by decide +kernel
theorem dX9_count_184 : decode cX9_count 184 = .ok (.getfield 266, 3) := by decide +kernel
theorem dX9_count_187 : decode cX9_count 187 = .ok (.iconst 2, 1) := by decide +kernel
theorem dX9_count_188 : decode cX9_count 188 = .ok (.iaload, 1) := by decide +kernel
theorem dX9_count_189 : decode cX9_count 189 = .ok (.ireturn, 1) := by decide +kernel
theorem dX9_count_190 : decode cX9_count 190 = .ok (.aload_n 0, 1) := by decide +kernel
theorem dX9_count_191 : decode cX9_count 191 = .ok (.getfield 25, 3) := by decide +kernel
theorem dX9_count_194 : decode cX9_count 194 = .ok (.getfield 266, 3) := by decide +kernel
theorem dX9_count_197 : decode cX9_count 197 = .ok (.iconst 3, 1) := by decide +kernel
theorem dX9_count_198 : decode cX9_count 198 = .ok (.iaload, 1) := by decide +kernel
theorem dX9_count_199 : decode cX9_count 199 = .ok (.ireturn, 1) := by decide +kernel
theorem dX9_without_0 : decode cX9_without 0 = .ok (.aload_n 0, 1) := by decide +kernel
theorem dX9_without_1 : decode cX9_without 1 = .ok (.getfield 12, 3) := by decide +kernel
theorem dX9_without_4 : decode cX9_without 4 = .ok (.iload_n 1, 1) := by decide +kernel
theorem dX9_without_5 : decode cX9_without 5 = .ok (.invokevirtual 96, 3) := by decide +kernel
theorem dX9_without_8 : decode cX9_without 8 = .ok (.ifCond .eq 11, 3) := by decide +kernel
theorem dX9_without_11 : decode cX9_without 11 = .ok (.aload_n 0, 1) := by decide +kernel
theorem dX9_without_12 : decode cX9_without 12 = .ok (.iload_n 1, 1) := by decide +kernel
theorem dX9_without_13 : decode cX9_without 13 = .ok (.invokevirtual 269, 3) := by decide +kernel
theorem dX9_without_16 : decode cX9_without 16 = .ok (.goto 5, 3) := by decide +kernel
theorem dX9_without_19 : decode cX9_without 19 = .ok (.bipush (-2), 2) := by decide +kernel
theorem dX9_without_21 : decode cX9_without 21 = .ok (.ireturn, 1) := by decide +kernel
theorem dX9_most_0 : decode cX9_most 0 = .ok (.iload_n 1, 1) := by decide +kernel
theorem dX9_most_1 : decode cX9_most 1 = .ok (.ifCond .lt 8, 3) := by decide +kernel
theorem dX9_most_4 : decode cX9_most 4 = .ok (.iload_n 1, 1) := by decide +kernel
theorem dX9_most_5 : decode cX9_most 5 = .ok (.iconst 1, 1) := by decide +kernel
theorem dX9_most_6 : decode cX9_most 6 = .ok (.if_icmp .le 6, 3) := by decide +kernel
theorem dX9_most_9 : decode cX9_most 9 = .ok (.bipush (-2), 2) := by decide +kernel
theorem dX9_most_11 : decode cX9_most 11 = .ok (.ireturn, 1) := by decide +kernel
theorem dX9_most_12 : decode cX9_most 12 = .ok (.iconst (-1), 1) := by decide +kernel
theorem dX9_most_13 : decode cX9_most 13 = .ok (.istore_n 2, 1) := by decide +kernel
theorem dX9_most_14 : decode cX9_most 14 = .ok (.iconst (-1), 1) := by decide +kernel
theorem dX9_most_15 : decode cX9_most 15 = .ok (.istore_n 3, 1) := by decide +kernel
theorem dX9_most_16 : decode cX9_most 16 = .ok (.iconst 0, 1) := by decide +kernel
theorem dX9_most_17 : decode cX9_most 17 = .ok (.istore 4, 2) := by decide +kernel
theorem dX9_most_19 : decode cX9_most 19 = .ok (.iload 4, 2) := by decide +kernel
theorem dX9_most_21 : decode cX9_most 21 = .ok (.aload_n 0, 1) := by decide +kernel
theorem dX9_most_22 : decode cX9_most 22 = .ok (.getfield 12, 3) := by decide +kernel
theorem dX9_most_25 : decode cX9_most 25 = .ok (.getfield 104, 3) := by decide +kernel
theorem dX9_most_28 : decode cX9_most 28 = .ok (.if_icmp .ge 34, 3) := by decide +kernel
theorem dX9_most_31 : decode cX9_most 31 = .ok (.aload_n 0, 1) := by decide +kernel
theorem dX9_most_32 : decode cX9_most 32 = .ok (.iload 4, 2) := by decide +kernel
theorem dX9_most_34 : decode cX9_most 34 = .ok (.invokevirtual 269, 3) := by decide +kernel
theorem dX9_most_37 : decode cX9_most 37 = .ok (.istore 5, 2) := by decide +kernel
theorem dX9_most_39 : decode cX9_most 39 = .ok (.iload_n 2, 1) := by decide +kernel
theorem dX9_most_40 : decode cX9_most 40 = .ok (.iconst (-1), 1) := by decide +kernel
theorem dX9_most_41 : decode cX9_most 41 = .ok (.if_icmp .eq 9, 3) := by decide +kernel
theorem dX9_most_44 : decode cX9_most 44 = .ok (.iload 5, 2) := by decide +kernel
theorem dX9_most_46 : decode cX9_most 46 = .ok (.iload_n 3, 1) := by decide +kernel
theorem dX9_most_47 : decode cX9_most 47 = .ok (.if_icmp .ge 9, 3) := by decide +kernel
theorem dX9_most_50 : decode cX9_most 50 = .ok (.iload 4, 2) := by decide +kernel
theorem dX9_most_52 : decode cX9_most 52 = .ok (.istore_n 2, 1) := by decide +kernel
theorem dX9_most_53 : decode cX9_most 53 = .ok (.iload 5, 2) := by decide +kernel
theorem dX9_most_55 : decode cX9_most 55 = .ok (.istore_n 3, 1) := by decide +kernel
theorem dX9_most_56 : decode cX9_most 56 = .ok (.iinc 4 1, 3) := by decide +kernel
theorem dX9_most_59 : decode cX9_most 59 = .ok (.goto (-40), 3) := by decide +kernel
theorem dX9_most_62 : decode cX9_most 62 = .ok (.iload_n 1, 1) := by decide +kernel
theorem dX9_most_63 : decode cX9_most 63 = .ok (.ifCond .ne 7, 3) := by decide +kernel
theorem dX9_most_66 : decode cX9_most 66 = .ok (.iload_n 2, 1) := by decide +kernel
theorem dX9_most_67 : decode cX9_most 67 = .ok (.goto 4, 3) := by decide +kernel
theorem dX9_most_70 : decode cX9_most 70 = .ok (.iload_n 3, 1) := by decide +kernel
theorem dX9_most_71 : decode cX9_most 71 = .ok (.ireturn, 1) := by decide +kernel
theorem dX9_drawn_0 : decode cX9_drawn 0 = .ok (.iload_n 2, 1) := by decide +kernel
theorem dX9_drawn_1 : decode cX9_drawn 1 = .ok (.ifCond .lt 8, 3) := by decide +kernel
theorem dX9_drawn_4 : decode cX9_drawn 4 = .ok (.iload_n 2, 1) := by decide +kernel
theorem dX9_drawn_5 : decode cX9_drawn 5 = .ok (.iconst 5, 1) := by decide +kernel
theorem dX9_drawn_6 : decode cX9_drawn 6 = .ok (.if_icmp .le 8, 3) := by decide +kernel
theorem dX9_drawn_9 : decode cX9_drawn 9 = .ok (.bipush (-2), 2) := by decide +kernel
theorem dX9_drawn_11 : decode cX9_drawn 11 = .ok (.goto 9, 3) := by decide +kernel
theorem dX9_drawn_14 : decode cX9_drawn 14 = .ok (.aload_n 0, 1) := by decide +kernel
theorem dX9_drawn_15 : decode cX9_drawn 15 = .ok (.iload_n 1, 1) := by decide +kernel
theorem dX9_drawn_16 : decode cX9_drawn 16 = .ok (.iload_n 2, 1) := by decide +kernel
theorem dX9_drawn_17 : decode cX9_drawn 17 = .ok (.invokevirtual 272, 3) := by decide +kernel
theorem dX9_drawn_20 : decode cX9_drawn 20 = .ok (.ireturn, 1) := by decide +kernel
theorem dX9_chance_0 : decode cX9_chance 0 = .ok (.iload_n 2, 1) := by decide +kernel
theorem dX9_chance_1 : decode cX9_chance 1 = .ok (.iconst 1, 1) := by decide +kernel
theorem dX9_chance_2 : decode cX9_chance 2 = .ok (.if_icmp .lt 29, 3) := by decide +kernel
theorem dX9_chance_5 : decode cX9_chance 5 = .ok (.iload_n 2, 1) := by decide +kernel
theorem dX9_chance_6 : decode cX9_chance 6 = .ok (.iconst 5, 1) := by decide +kernel
theorem dX9_chance_7 : decode cX9_chance 7 = .ok (.if_icmp .gt 24, 3) := by decide +kernel
theorem dX9_chance_10 : decode cX9_chance 10 = .ok (.iload_n 3, 1) := by decide +kernel
theorem dX9_chance_11 : decode cX9_chance 11 = .ok (.ifCond .lt 20, 3) := by decide +kernel
theorem dX9_chance_14 : decode cX9_chance 14 = .ok (.iload_n 3, 1) := by decide +kernel
theorem dX9_chance_15 : decode cX9_chance 15 = .ok (.bipush 99, 2) := by decide +kernel
theorem dX9_chance_17 : decode cX9_chance 17 = .ok (.if_icmp .gt 14, 3) := by decide +kernel
theorem dX9_chance_20 : decode cX9_chance 20 = .ok (.iload 4, 2) := by decide +kernel
theorem dX9_chance_22 : decode cX9_chance 22 = .ok (.ifCond .lt 9, 3) := by decide +kernel
theorem dX9_chance_25 : decode cX9_chance 25 = .ok (.iload 4, 2) := by decide +kernel
theorem dX9_chance_27 : decode cX9_chance 27 = .ok (.iconst 1, 1) := by decide +kernel
theorem dX9_chance_28 : decode cX9_chance 28 = .ok (.if_icmp .le 6, 3) := by decide +kernel
theorem dX9_chance_31 : decode cX9_chance 31 = .ok (.bipush (-2), 2) := by decide +kernel
theorem dX9_chance_33 : decode cX9_chance 33 = .ok (.ireturn, 1) := by decide +kernel
theorem dX9_chance_34 : decode cX9_chance 34 = .ok (.iconst 0, 1) := by decide +kernel
theorem dX9_chance_35 : decode cX9_chance 35 = .ok (.istore 5, 2) := by decide +kernel
theorem dX9_chance_37 : decode cX9_chance 37 = .ok (.iconst 0, 1) := by decide +kernel
theorem dX9_chance_38 : decode cX9_chance 38 = .ok (.istore 6, 2) := by decide +kernel
theorem dX9_chance_40 : decode cX9_chance 40 = .ok (.iload 6, 2) := by decide +kernel
theorem dX9_chance_42 : decode cX9_chance 42 = .ok (.iload_n 2, 1) := by decide +kernel
theorem dX9_chance_43 : decode cX9_chance 43 = .ok (.if_icmp .ge 25, 3) := by decide +kernel
theorem dX9_chance_46 : decode cX9_chance 46 = .ok (.aload_n 0, 1) := by decide +kernel
theorem dX9_chance_47 : decode cX9_chance 47 = .ok (.iload_n 1, 1) := by decide +kernel
theorem dX9_chance_48 : decode cX9_chance 48 = .ok (.iload 6, 2) := by decide +kernel
theorem dX9_chance_50 : decode cX9_chance 50 = .ok (.iadd, 1) := by decide +kernel
theorem dX9_chance_51 : decode cX9_chance 51 = .ok (.iconst 3, 1) := by decide +kernel
theorem dX9_chance_52 : decode cX9_chance 52 = .ok (.invokevirtual 272, 3) := by decide +kernel
theorem dX9_chance_55 : decode cX9_chance 55 = .ok (.iload_n 3, 1) := by decide +kernel
theorem dX9_chance_56 : decode cX9_chance 56 = .ok (.if_icmp .lt 6, 3) := by decide +kernel
theorem dX9_chance_59 : decode cX9_chance 59 = .ok (.iinc 5 1, 3) := by decide +kernel
theorem dX9_chance_62 : decode cX9_chance 62 = .ok (.iinc 6 1, 3) := by decide +kernel
theorem dX9_chance_65 : decode cX9_chance 65 = .ok (.goto (-25), 3) := by decide +kernel
theorem dX9_chance_68 : decode cX9_chance 68 = .ok (.iload 4, 2) := by decide +kernel
theorem dX9_chance_70 : decode cX9_chance 70 = .ok (.ifCond .ne 8, 3) := by decide +kernel
theorem dX9_chance_73 : decode cX9_chance 73 = .ok (.iload 5, 2) := by decide +kernel
theorem dX9_chance_75 : decode cX9_chance 75 = .ok (.goto 4, 3) := by decide +kernel
theorem dX9_chance_78 : decode cX9_chance 78 = .ok (.iload_n 2, 1) := by decide +kernel
theorem dX9_chance_79 : decode cX9_chance 79 = .ok (.iload 5, 2) := by decide +kernel
theorem dX9_chance_81 : decode cX9_chance 81 = .ok (.i2l, 1) := by decide +kernel
theorem dX9_chance_82 : decode cX9_chance 82 = .ok (.iload_n 2, 1) := by decide +kernel
theorem dX9_chance_83 : decode cX9_chance 83 = .ok (.i2l, 1) := by decide +kernel
theorem dX9_chance_84 : decode cX9_chance 84 = .ok (.invokestatic 275, 3) := by decide +kernel
theorem dX9_chance_87 : decode cX9_chance 87 = .ok (.l2i, 1) := by decide +kernel
theorem dX9_chance_88 : decode cX9_chance 88 = .ok (.idiv, 1) := by decide +kernel
theorem dX9_chance_89 : decode cX9_chance 89 = .ok (.ireturn, 1) := by decide +kernel
theorem dX9_tells_0 : decode cX9_tells 0 = .ok (.aload_n 0, 1) := by decide +kernel
theorem dX9_tells_1 : decode cX9_tells 1 = .ok (.getfield 77, 3) := by decide +kernel
theorem dX9_tells_4 : decode cX9_tells 4 = .ok (.iload_n 1, 1) := by decide +kernel
theorem dX9_tells_5 : decode cX9_tells 5 = .ok (.invokevirtual 279, 3) := by decide +kernel
theorem dX9_tells_8 : decode cX9_tells 8 = .ok (.ifCond .eq 19, 3) := by decide +kernel
theorem dX9_tells_11 : decode cX9_tells 11 = .ok (.iload_n 2, 1) := by decide +kernel
theorem dX9_tells_12 : decode cX9_tells 12 = .ok (.invokestatic 282, 3) := by decide +kernel
theorem dX9_tells_15 : decode cX9_tells 15 = .ok (.ifCond .eq 12, 3) := by decide +kernel
theorem dX9_tells_18 : decode cX9_tells 18 = .ok (.iload_n 3, 1) := by decide +kernel
theorem dX9_tells_19 : decode cX9_tells 19 = .ok (.ifCond .lt 8, 3) := by decide +kernel
theorem dX9_tells_22 : decode cX9_tells 22 = .ok (.iload_n 3, 1) := by decide +kernel
theorem dX9_tells_23 : decode cX9_tells 23 = .ok (.iconst 3, 1) := by decide +kernel
theorem dX9_tells_24 : decode cX9_tells 24 = .ok (.if_icmp .le 6, 3) := by decide +kernel
theorem dX9_tells_27 : decode cX9_tells 27 = .ok (.bipush (-2), 2) := by decide +kernel
theorem dX9_tells_29 : decode cX9_tells 29 = .ok (.ireturn, 1) := by decide +kernel
theorem dX9_tells_30 : decode cX9_tells 30 = .ok (.aload_n 0, 1) := by decide +kernel
theorem dX9_tells_31 : decode cX9_tells 31 = .ok (.getfield 77, 3) := by decide +kernel
theorem dX9_tells_34 : decode cX9_tells 34 = .ok (.iload_n 1, 1) := by decide +kernel
theorem dX9_tells_35 : decode cX9_tells 35 = .ok (.invokevirtual 285, 3) := by decide +kernel
theorem dX9_tells_38 : decode cX9_tells 38 = .ok (.ifCond .eq 6, 3) := by decide +kernel
theorem dX9_tells_41 : decode cX9_tells 41 = .ok (.bipush (-11), 2) := by decide +kernel
theorem dX9_tells_43 : decode cX9_tells 43 = .ok (.ireturn, 1) := by decide +kernel
theorem dX9_tells_44 : decode cX9_tells 44 = .ok (.aload_n 0, 1) := by decide +kernel
theorem dX9_tells_45 : decode cX9_tells 45 = .ok (.getfield 77, 3) := by decide +kernel
theorem dX9_tells_48 : decode cX9_tells 48 = .ok (.getfield 288, 3) := by decide +kernel
theorem dX9_tells_51 : decode cX9_tells 51 = .ok (.iload_n 1, 1) := by decide +kernel
theorem dX9_tells_52 : decode cX9_tells 52 = .ok (.iaload, 1) := by decide +kernel
theorem dX9_tells_53 : decode cX9_tells 53 = .ok (.bipush 10, 2) := by decide +kernel
theorem dX9_tells_55 : decode cX9_tells 55 = .ok (.if_icmp .le 6, 3) := by decide +kernel
theorem dX9_tells_58 : decode cX9_tells 58 = .ok (.bipush (-2), 2) := by decide +kernel
theorem dX9_tells_60 : decode cX9_tells 60 = .ok (.ireturn, 1) := by decide +kernel
theorem dX9_tells_61 : decode cX9_tells 61 = .ok (.iload_n 3, 1) := by decide +kernel
theorem dX9_tells_62 : decode cX9_tells 62 = .ok (.tableswitch 68 0 2 #[26, 54, 61], 26) := by decide +kernel
theorem dX9_tells_88 : decode cX9_tells 88 = .ok (.aload_n 0, 1) := by decide +kernel
theorem dX9_tells_89 : decode cX9_tells 89 = .ok (.getfield 42, 3) := by decide +kernel
theorem dX9_tells_92 : decode cX9_tells 92 = .ok (.aload_n 0, 1) := by decide +kernel
theorem dX9_tells_93 : decode cX9_tells 93 = .ok (.getfield 12, 3) := by decide +kernel
theorem dX9_tells_96 : decode cX9_tells 96 = .ok (.iload_n 2, 1) := by decide +kernel
theorem dX9_tells_97 : decode cX9_tells 97 = .ok (.i2l, 1) := by decide +kernel
theorem dX9_tells_98 : decode cX9_tells 98 = .ok (.lconst 1, 1) := by decide +kernel
theorem dX9_tells_99 : decode cX9_tells 99 = .ok (.invokevirtual 189, 3) := by decide +kernel
theorem dX9_tells_102 : decode cX9_tells 102 = .ok (.aload_n 0, 1) := by decide +kernel
theorem dX9_tells_103 : decode cX9_tells 103 = .ok (.getfield 77, 3) := by decide +kernel
theorem dX9_tells_106 : decode cX9_tells 106 = .ok (.iload_n 1, 1) := by decide +kernel
theorem dX9_tells_107 : decode cX9_tells 107 = .ok (.aload_n 0, 1) := by decide +kernel
theorem dX9_tells_108 : decode cX9_tells 108 = .ok (.getfield 42, 3) := by decide +kernel
theorem dX9_tells_111 : decode cX9_tells 111 = .ok (.iconst (-1), 1) := by decide +kernel
theorem dX9_tells_112 : decode cX9_tells 112 = .ok (.invokevirtual 290, 3) := by decide +kernel
theorem dX9_tells_115 : decode cX9_tells 115 = .ok (.ireturn, 1) := by decide +kernel
theorem dX9_tells_116 : decode cX9_tells 116 = .ok (.aload_n 0, 1) := by decide +kernel
theorem dX9_tells_117 : decode cX9_tells 117 = .ok (.iload_n 1, 1) := by decide +kernel
theorem dX9_tells_118 : decode cX9_tells 118 = .ok (.iconst 1, 1) := by decide +kernel
theorem dX9_tells_119 : decode cX9_tells 119 = .ok (.invokevirtual 294, 3) := by decide +kernel
theorem dX9_tells_122 : decode cX9_tells 122 = .ok (.ireturn, 1) := by decide +kernel
theorem dX9_tells_123 : decode cX9_tells 123 = .ok (.aload_n 0, 1) := by decide +kernel
theorem dX9_tells_124 : decode cX9_tells 124 = .ok (.iload_n 1, 1) := by decide +kernel
theorem dX9_tells_125 : decode cX9_tells 125 = .ok (.iconst 0, 1) := by decide +kernel
theorem dX9_tells_126 : decode cX9_tells 126 = .ok (.invokevirtual 294, 3) := by decide +kernel
theorem dX9_tells_129 : decode cX9_tells 129 = .ok (.ireturn, 1) := by decide +kernel
theorem dX9_tells_130 : decode cX9_tells 130 = .ok (.aload_n 0, 1) := by decide +kernel
theorem dX9_tells_131 : decode cX9_tells 131 = .ok (.iload_n 1, 1) := by decide +kernel
theorem dX9_tells_132 : decode cX9_tells 132 = .ok (.iload_n 2, 1) := by decide +kernel
theorem dX9_tells_133 : decode cX9_tells 133 = .ok (.invokevirtual 298, 3) := by decide +kernel
theorem dX9_tells_136 : decode cX9_tells 136 = .ok (.ireturn, 1) := by decide +kernel
theorem dX9_film_0 : decode cX9_film 0 = .ok (.aload_n 0, 1) := by decide +kernel
theorem dX9_film_1 : decode cX9_film 1 = .ok (.getfield 77, 3) := by decide +kernel
theorem dX9_film_4 : decode cX9_film 4 = .ok (.iload_n 1, 1) := by decide +kernel
theorem dX9_film_5 : decode cX9_film 5 = .ok (.invokevirtual 279, 3) := by decide +kernel
theorem dX9_film_8 : decode cX9_film 8 = .ok (.ifCond .eq 10, 3) := by decide +kernel
theorem dX9_film_11 : decode cX9_film 11 = .ok (.iload_n 2, 1) := by decide +kernel
theorem dX9_film_12 : decode cX9_film 12 = .ok (.invokestatic 282, 3) := by decide +kernel
theorem dX9_film_15 : decode cX9_film 15 = .ok (.ifCond .ne 6, 3) := by decide +kernel
theorem dX9_film_18 : decode cX9_film 18 = .ok (.bipush (-2), 2) := by decide +kernel
theorem dX9_film_20 : decode cX9_film 20 = .ok (.ireturn, 1) := by decide +kernel
theorem dX9_film_21 : decode cX9_film 21 = .ok (.aload_n 0, 1) := by decide +kernel
theorem dX9_film_22 : decode cX9_film 22 = .ok (.getfield 42, 3) := by decide +kernel
theorem dX9_film_25 : decode cX9_film 25 = .ok (.aload_n 0, 1) := by decide +kernel
theorem dX9_film_26 : decode cX9_film 26 = .ok (.getfield 12, 3) := by decide +kernel
theorem dX9_film_29 : decode cX9_film 29 = .ok (.iload_n 2, 1) := by decide +kernel
theorem dX9_film_30 : decode cX9_film 30 = .ok (.i2l, 1) := by decide +kernel
theorem dX9_film_31 : decode cX9_film 31 = .ok (.lconst 1, 1) := by decide +kernel
theorem dX9_film_32 : decode cX9_film 32 = .ok (.invokevirtual 189, 3) := by decide +kernel
theorem dX9_film_35 : decode cX9_film 35 = .ok (.aload_n 0, 1) := by decide +kernel
theorem dX9_film_36 : decode cX9_film 36 = .ok (.getfield 77, 3) := by decide +kernel
theorem dX9_film_39 : decode cX9_film 39 = .ok (.iload_n 1, 1) := by decide +kernel
theorem dX9_film_40 : decode cX9_film 40 = .ok (.iconst 0, 1) := by decide +kernel
theorem dX9_film_41 : decode cX9_film 41 = .ok (.aload_n 0, 1) := by decide +kernel
theorem dX9_film_42 : decode cX9_film 42 = .ok (.getfield 42, 3) := by decide +kernel
theorem dX9_film_45 : decode cX9_film 45 = .ok (.getfield 193, 3) := by decide +kernel
theorem dX9_film_48 : decode cX9_film 48 = .ok (.invokevirtual 301, 3) := by decide +kernel
theorem dX9_film_51 : decode cX9_film 51 = .ok (.iconst 0, 1) := by decide +kernel
theorem dX9_film_52 : decode cX9_film 52 = .ok (.istore_n 3, 1) := by decide +kernel
theorem dX9_film_53 : decode cX9_film 53 = .ok (.iload_n 3, 1) := by decide +kernel
theorem dX9_film_54 : decode cX9_film 54 = .ok (.aload_n 0, 1) := by decide +kernel
theorem dX9_film_55 : decode cX9_film 55 = .ok (.getfield 42, 3) := by decide +kernel
theorem dX9_film_58 : decode cX9_film 58 = .ok (.getfield 193, 3) := by decide +kernel
theorem dX9_film_61 : decode cX9_film 61 = .ok (.if_icmp .ge 27, 3) := by decide +kernel
theorem dX9_film_64 : decode cX9_film 64 = .ok (.aload_n 0, 1) := by decide +kernel
theorem dX9_film_65 : decode cX9_film 65 = .ok (.getfield 77, 3) := by decide +kernel
theorem dX9_film_68 : decode cX9_film 68 = .ok (.iload_n 1, 1) := by decide +kernel
theorem dX9_film_69 : decode cX9_film 69 = .ok (.iload_n 3, 1) := by decide +kernel
theorem dX9_film_70 : decode cX9_film 70 = .ok (.aload_n 0, 1) := by decide +kernel
theorem dX9_film_71 : decode cX9_film 71 = .ok (.getfield 42, 3) := by decide +kernel
theorem dX9_film_74 : decode cX9_film 74 = .ok (.getfield 194, 3) := by decide +kernel
theorem dX9_film_77 : decode cX9_film 77 = .ok (.iload_n 3, 1) := by decide +kernel
theorem dX9_film_78 : decode cX9_film 78 = .ok (.iaload, 1) := by decide +kernel
theorem dX9_film_79 : decode cX9_film 79 = .ok (.invokevirtual 305, 3) := by decide +kernel
theorem dX9_film_82 : decode cX9_film 82 = .ok (.iinc 3 1, 3) := by decide +kernel
theorem dX9_film_85 : decode cX9_film 85 = .ok (.goto (-32), 3) := by decide +kernel
theorem dX9_film_88 : decode cX9_film 88 = .ok (.aload_n 0, 1) := by decide +kernel
theorem dX9_film_89 : decode cX9_film 89 = .ok (.getfield 42, 3) := by decide +kernel
theorem dX9_film_92 : decode cX9_film 92 = .ok (.getfield 193, 3) := by decide +kernel
theorem dX9_film_95 : decode cX9_film 95 = .ok (.ireturn, 1) := by decide +kernel
theorem dX9_image_0 : decode cX9_image 0 = .ok (.aload_n 0, 1) := by decide +kernel
theorem dX9_image_1 : decode cX9_image 1 = .ok (.getfield 16, 3) := by decide +kernel
theorem dX9_image_4 : decode cX9_image 4 = .ok (.aload_n 0, 1) := by decide +kernel
theorem dX9_image_5 : decode cX9_image 5 = .ok (.getfield 12, 3) := by decide +kernel
theorem dX9_image_8 : decode cX9_image 8 = .ok (.invokevirtual 308, 3) := by decide +kernel
theorem dX9_image_11 : decode cX9_image 11 = .ok (.aload_n 0, 1) := by decide +kernel
theorem dX9_image_12 : decode cX9_image 12 = .ok (.iconst 1, 1) := by decide +kernel
theorem dX9_image_13 : decode cX9_image 13 = .ok (.putfield 312, 3) := by decide +kernel
theorem dX9_image_16 : decode cX9_image 16 = .ok (.aload_n 0, 1) := by decide +kernel
theorem dX9_image_17 : decode cX9_image 17 = .ok (.getfield 16, 3) := by decide +kernel
theorem dX9_image_20 : decode cX9_image 20 = .ok (.getfield 104, 3) := by decide +kernel
theorem dX9_image_23 : decode cX9_image 23 = .ok (.ireturn, 1) := by decide +kernel
theorem dX9_back_0 : decode cX9_back 0 = .ok (.aload_n 0, 1) := by decide +kernel
theorem dX9_back_1 : decode cX9_back 1 = .ok (.getfield 312, 3) := by decide +kernel
theorem dX9_back_4 : decode cX9_back 4 = .ok (.ifCond .ne 6, 3) := by decide +kernel
theorem dX9_back_7 : decode cX9_back 7 = .ok (.bipush (-3), 2) := by decide +kernel
theorem dX9_back_9 : decode cX9_back 9 = .ok (.ireturn, 1) := by decide +kernel
theorem dX9_back_10 : decode cX9_back 10 = .ok (.aload_n 0, 1) := by decide +kernel
theorem dX9_back_11 : decode cX9_back 11 = .ok (.invokevirtual 89, 3) := by decide +kernel
theorem dX9_back_14 : decode cX9_back 14 = .ok (.aload_n 0, 1) := by decide +kernel
theorem dX9_back_15 : decode cX9_back 15 = .ok (.getfield 12, 3) := by decide +kernel
theorem dX9_back_18 : decode cX9_back 18 = .ok (.aload_n 0, 1) := by decide +kernel
theorem dX9_back_19 : decode cX9_back 19 = .ok (.getfield 16, 3) := by decide +kernel
theorem dX9_back_22 : decode cX9_back 22 = .ok (.invokevirtual 308, 3) := by decide +kernel
theorem dX9_back_25 : decode cX9_back 25 = .ok (.aload_n 0, 1) := by decide +kernel
theorem dX9_back_26 : decode cX9_back 26 = .ok (.getfield 12, 3) := by decide +kernel
theorem dX9_back_29 : decode cX9_back 29 = .ok (.getfield 104, 3) := by decide +kernel
theorem dX9_back_32 : decode cX9_back 32 = .ok (.ireturn, 1) := by decide +kernel
theorem dX9_sheet_0 : decode cX9_sheet 0 = .ok (.aload_n 0, 1) := by decide +kernel
theorem dX9_sheet_1 : decode cX9_sheet 1 = .ok (.getfield 77, 3) := by decide +kernel
theorem dX9_sheet_4 : decode cX9_sheet 4 = .ok (.iload_n 1, 1) := by decide +kernel
theorem dX9_sheet_5 : decode cX9_sheet 5 = .ok (.invokevirtual 279, 3) := by decide +kernel
theorem dX9_sheet_8 : decode cX9_sheet 8 = .ok (.ifCond .eq 19, 3) := by decide +kernel
theorem dX9_sheet_11 : decode cX9_sheet 11 = .ok (.iload_n 2, 1) := by decide +kernel
theorem dX9_sheet_12 : decode cX9_sheet 12 = .ok (.iconst (-1), 1) := by decide +kernel
theorem dX9_sheet_13 : decode cX9_sheet 13 = .ok (.if_icmp .eq 17, 3) := by decide +kernel
theorem dX9_sheet_16 : decode cX9_sheet 16 = .ok (.aload_n 0, 1) := by decide +kernel
theorem dX9_sheet_17 : decode cX9_sheet 17 = .ok (.getfield 77, 3) := by decide +kernel
theorem dX9_sheet_20 : decode cX9_sheet 20 = .ok (.iload_n 2, 1) := by decide +kernel
theorem dX9_sheet_21 : decode cX9_sheet 21 = .ok (.invokevirtual 316, 3) := by decide +kernel
theorem dX9_sheet_24 : decode cX9_sheet 24 = .ok (.ifCond .ne 6, 3) := by decide +kernel
theorem dX9_sheet_27 : decode cX9_sheet 27 = .ok (.bipush (-2), 2) := by decide +kernel
theorem dX9_sheet_29 : decode cX9_sheet 29 = .ok (.ireturn, 1) := by decide +kernel
theorem dX9_sheet_30 : decode cX9_sheet 30 = .ok (.iload_n 2, 1) := by decide +kernel
theorem dX9_sheet_31 : decode cX9_sheet 31 = .ok (.iconst (-1), 1) := by decide +kernel
theorem dX9_sheet_32 : decode cX9_sheet 32 = .ok (.if_icmp .ne 15, 3) := by decide +kernel
theorem dX9_sheet_35 : decode cX9_sheet 35 = .ok (.aload_n 0, 1) := by decide +kernel
theorem dX9_sheet_36 : decode cX9_sheet 36 = .ok (.getfield 77, 3) := by decide +kernel
theorem dX9_sheet_39 : decode cX9_sheet 39 = .ok (.iload_n 1, 1) := by decide +kernel
theorem dX9_sheet_40 : decode cX9_sheet 40 = .ok (.iconst (-1), 1) := by decide +kernel
theorem dX9_sheet_41 : decode cX9_sheet 41 = .ok (.iconst 0, 1) := by decide +kernel
theorem dX9_sheet_42 : decode cX9_sheet 42 = .ok (.invokevirtual 301, 3) := by decide +kernel
theorem dX9_sheet_45 : decode cX9_sheet 45 = .ok (.iconst 1, 1) := by decide +kernel
theorem dX9_sheet_46 : decode cX9_sheet 46 = .ok (.ireturn, 1) := by decide +kernel
theorem dX9_sheet_47 : decode cX9_sheet 47 = .ok (.iload_n 3, 1) := by decide +kernel
theorem dX9_sheet_48 : decode cX9_sheet 48 = .ok (.bipush 40, 2) := by decide +kernel
theorem dX9_sheet_50 : decode cX9_sheet 50 = .ok (.if_icmp .le 6, 3) := by decide +kernel
theorem dX9_sheet_53 : decode cX9_sheet 53 = .ok (.bipush (-2), 2) := by decide +kernel
theorem dX9_sheet_55 : decode cX9_sheet 55 = .ok (.ireturn, 1) := by decide +kernel
theorem dX9_sheet_56 : decode cX9_sheet 56 = .ok (.iload_n 3, 1) := by decide +kernel
theorem dX9_sheet_57 : decode cX9_sheet 57 = .ok (.ifCond .ge 6, 3) := by decide +kernel
theorem dX9_sheet_60 : decode cX9_sheet 60 = .ok (.bipush (-14), 2) := by decide +kernel
theorem dX9_sheet_62 : decode cX9_sheet 62 = .ok (.ireturn, 1) := by decide +kernel
theorem dX9_sheet_63 : decode cX9_sheet 63 = .ok (.aload_n 0, 1) := by decide +kernel
theorem dX9_sheet_64 : decode cX9_sheet 64 = .ok (.getfield 77, 3) := by decide +kernel
theorem dX9_sheet_67 : decode cX9_sheet 67 = .ok (.iload_n 1, 1) := by decide +kernel
theorem dX9_sheet_68 : decode cX9_sheet 68 = .ok (.iload_n 2, 1) := by decide +kernel
theorem dX9_sheet_69 : decode cX9_sheet 69 = .ok (.iload_n 3, 1) := by decide +kernel
theorem dX9_sheet_70 : decode cX9_sheet 70 = .ok (.invokevirtual 301, 3) := by decide +kernel
theorem dX9_sheet_73 : decode cX9_sheet 73 = .ok (.iconst 1, 1) := by decide +kernel
theorem dX9_sheet_74 : decode cX9_sheet 74 = .ok (.ireturn, 1) := by decide +kernel
theorem dX9_put_0 : decode cX9_put 0 = .ok (.aload_n 0, 1) := by decide +kernel
theorem dX9_put_1 : decode cX9_put 1 = .ok (.getfield 77, 3) := by decide +kernel
theorem dX9_put_4 : decode cX9_put 4 = .ok (.iload_n 1, 1) := by decide +kernel
theorem dX9_put_5 : decode cX9_put 5 = .ok (.invokevirtual 279, 3) := by decide +kernel
theorem dX9_put_8 : decode cX9_put 8 = .ok (.ifCond .ne 6, 3) := by decide +kernel
theorem dX9_put_11 : decode cX9_put 11 = .ok (.bipush (-2), 2) := by decide +kernel
theorem dX9_put_13 : decode cX9_put 13 = .ok (.ireturn, 1) := by decide +kernel
theorem dX9_put_14 : decode cX9_put 14 = .ok (.aload_n 0, 1) := by decide +kernel
theorem dX9_put_15 : decode cX9_put 15 = .ok (.getfield 77, 3) := by decide +kernel
theorem dX9_put_18 : decode cX9_put 18 = .ok (.iload_n 1, 1) := by decide +kernel
theorem dX9_put_19 : decode cX9_put 19 = .ok (.invokevirtual 285, 3) := by decide +kernel
theorem dX9_put_22 : decode cX9_put 22 = .ok (.ifCond .eq 6, 3) := by decide +kernel
theorem dX9_put_25 : decode cX9_put 25 = .ok (.bipush (-11), 2) := by decide +kernel
theorem dX9_put_27 : decode cX9_put 27 = .ok (.ireturn, 1) := by decide +kernel
theorem dX9_put_28 : decode cX9_put 28 = .ok (.iload_n 2, 1) := by decide +kernel
theorem dX9_put_29 : decode cX9_put 29 = .ok (.ifCond .lt 16, 3) := by decide +kernel
theorem dX9_put_32 : decode cX9_put 32 = .ok (.iload_n 2, 1) := by decide +kernel
theorem dX9_put_33 : decode cX9_put 33 = .ok (.aload_n 0, 1) := by decide +kernel
theorem dX9_put_34 : decode cX9_put 34 = .ok (.getfield 77, 3) := by decide +kernel
theorem dX9_put_37 : decode cX9_put 37 = .ok (.getfield 288, 3) := by decide +kernel
theorem dX9_put_40 : decode cX9_put 40 = .ok (.iload_n 1, 1) := by decide +kernel
theorem dX9_put_41 : decode cX9_put 41 = .ok (.iaload, 1) := by decide +kernel
theorem dX9_put_42 : decode cX9_put 42 = .ok (.if_icmp .lt 6, 3) := by decide +kernel
theorem dX9_put_45 : decode cX9_put 45 = .ok (.bipush (-12), 2) := by decide +kernel
theorem dX9_put_47 : decode cX9_put 47 = .ok (.ireturn, 1) := by decide +kernel
theorem dX9_put_48 : decode cX9_put 48 = .ok (.aload_n 0, 1) := by decide +kernel
theorem dX9_put_49 : decode cX9_put 49 = .ok (.getfield 77, 3) := by decide +kernel
theorem dX9_put_52 : decode cX9_put 52 = .ok (.iload_n 1, 1) := by decide +kernel
theorem dX9_put_53 : decode cX9_put 53 = .ok (.iload_n 2, 1) := by decide +kernel
theorem dX9_put_54 : decode cX9_put 54 = .ok (.iload_n 3, 1) := by decide +kernel
theorem dX9_put_55 : decode cX9_put 55 = .ok (.invokevirtual 305, 3) := by decide +kernel
theorem dX9_put_58 : decode cX9_put 58 = .ok (.iconst 1, 1) := by decide +kernel
theorem dX9_put_59 : decode cX9_put 59 = .ok (.ireturn, 1) := by decide +kernel
theorem dX9_copy_0 : decode cX9_copy 0 = .ok (.aload_n 0, 1) := by decide +kernel
theorem dX9_copy_1 : decode cX9_copy 1 = .ok (.getfield 77, 3) := by decide +kernel
theorem dX9_copy_4 : decode cX9_copy 4 = .ok (.iload_n 1, 1) := by decide +kernel
theorem dX9_copy_5 : decode cX9_copy 5 = .ok (.invokevirtual 279, 3) := by decide +kernel
theorem dX9_copy_8 : decode cX9_copy 8 = .ok (.ifCond .eq 14, 3) := by decide +kernel
theorem dX9_copy_11 : decode cX9_copy 11 = .ok (.aload_n 0, 1) := by decide +kernel
theorem dX9_copy_12 : decode cX9_copy 12 = .ok (.getfield 77, 3) := by decide +kernel
theorem dX9_copy_15 : decode cX9_copy 15 = .ok (.iload_n 3, 1) := by decide +kernel
theorem dX9_copy_16 : decode cX9_copy 16 = .ok (.invokevirtual 279, 3) := by decide +kernel
theorem dX9_copy_19 : decode cX9_copy 19 = .ok (.ifCond .ne 6, 3) := by decide +kernel
theorem dX9_copy_22 : decode cX9_copy 22 = .ok (.bipush (-2), 2) := by decide +kernel
theorem dX9_copy_24 : decode cX9_copy 24 = .ok (.ireturn, 1) := by decide +kernel
theorem dX9_copy_25 : decode cX9_copy 25 = .ok (.aload_n 0, 1) := by decide +kernel
theorem dX9_copy_26 : decode cX9_copy 26 = .ok (.getfield 77, 3) := by decide +kernel
theorem dX9_copy_29 : decode cX9_copy 29 = .ok (.iload_n 1, 1) := by decide +kernel
theorem dX9_copy_30 : decode cX9_copy 30 = .ok (.invokevirtual 285, 3) := by decide +kernel
theorem dX9_copy_33 : decode cX9_copy 33 = .ok (.ifCond .ne 14, 3) := by decide +kernel
theorem dX9_copy_36 : decode cX9_copy 36 = .ok (.aload_n 0, 1) := by decide +kernel
theorem dX9_copy_37 : decode cX9_copy 37 = .ok (.getfield 77, 3) := by decide +kernel
theorem dX9_copy_40 : decode cX9_copy 40 = .ok (.iload_n 3, 1) := by decide +kernel
theorem dX9_copy_41 : decode cX9_copy 41 = .ok (.invokevirtual 285, 3) := by decide +kernel
theorem dX9_copy_44 : decode cX9_copy 44 = .ok (.ifCond .eq 6, 3) := by decide +kernel
theorem dX9_copy_47 : decode cX9_copy 47 = .ok (.bipush (-11), 2) := by decide +kernel
theorem dX9_copy_49 : decode cX9_copy 49 = .ok (.ireturn, 1) := by decide +kernel
theorem dX9_copy_50 : decode cX9_copy 50 = .ok (.aload_n 0, 1) := by decide +kernel
theorem dX9_copy_51 : decode cX9_copy 51 = .ok (.getfield 77, 3) := by decide +kernel
theorem dX9_copy_54 : decode cX9_copy 54 = .ok (.getfield 319, 3) := by decide +kernel
theorem dX9_copy_57 : decode cX9_copy 57 = .ok (.iload_n 1, 1) := by decide +kernel
theorem dX9_copy_58 : decode cX9_copy 58 = .ok (.iaload, 1) := by decide +kernel
theorem dX9_copy_59 : decode cX9_copy 59 = .ok (.aload_n 0, 1) := by decide +kernel
theorem dX9_copy_60 : decode cX9_copy 60 = .ok (.getfield 77, 3) := by decide +kernel
theorem dX9_copy_63 : decode cX9_copy 63 = .ok (.getfield 319, 3) := by decide +kernel
theorem dX9_copy_66 : decode cX9_copy 66 = .ok (.iload_n 3, 1) := by decide +kernel
theorem dX9_copy_67 : decode cX9_copy 67 = .ok (.iaload, 1) := by decide +kernel
theorem dX9_copy_68 : decode cX9_copy 68 = .ok (.if_icmp .eq 6, 3) := by decide +kernel
theorem dX9_copy_71 : decode cX9_copy 71 = .ok (.bipush (-13), 2) := by decide +kernel
theorem dX9_copy_73 : decode cX9_copy 73 = .ok (.ireturn, 1) := by decide +kernel
theorem dX9_copy_74 : decode cX9_copy 74 = .ok (.iload 5, 2) := by decide +kernel
theorem dX9_copy_76 : decode cX9_copy 76 = .ok (.ifCond .lt 32, 3) := by decide +kernel
theorem dX9_copy_79 : decode cX9_copy 79 = .ok (.aload_n 0, 1) := by decide +kernel
theorem dX9_copy_80 : decode cX9_copy 80 = .ok (.getfield 77, 3) := by decide +kernel
theorem dX9_copy_83 : decode cX9_copy 83 = .ok (.iload_n 1, 1) := by decide +kernel
theorem dX9_copy_84 : decode cX9_copy 84 = .ok (.iload_n 2, 1) := by decide +kernel
theorem dX9_copy_85 : decode cX9_copy 85 = .ok (.iload 5, 2) := by decide +kernel
theorem dX9_copy_87 : decode cX9_copy 87 = .ok (.invokevirtual 322, 3) := by decide +kernel
theorem dX9_copy_90 : decode cX9_copy 90 = .ok (.ifCond .eq 18, 3) := by decide +kernel
theorem dX9_copy_93 : decode cX9_copy 93 = .ok (.aload_n 0, 1) := by decide +kernel
theorem dX9_copy_94 : decode cX9_copy 94 = .ok (.getfield 77, 3) := by decide +kernel
theorem dX9_copy_97 : decode cX9_copy 97 = .ok (.iload_n 3, 1) := by decide +kernel
theorem dX9_copy_98 : decode cX9_copy 98 = .ok (.iload 4, 2) := by decide +kernel
theorem dX9_copy_100 : decode cX9_copy 100 = .ok (.iload 5, 2) := by decide +kernel
theorem dX9_copy_102 : decode cX9_copy 102 = .ok (.invokevirtual 322, 3) := by decide +kernel
theorem dX9_copy_105 : decode cX9_copy 105 = .ok (.ifCond .ne 6, 3) := by decide +kernel
theorem dX9_copy_108 : decode cX9_copy 108 = .ok (.bipush (-12), 2) := by decide +kernel
theorem dX9_copy_110 : decode cX9_copy 110 = .ok (.ireturn, 1) := by decide +kernel
theorem dX9_copy_111 : decode cX9_copy 111 = .ok (.aload_n 0, 1) := by decide +kernel
theorem dX9_copy_112 : decode cX9_copy 112 = .ok (.getfield 77, 3) := by decide +kernel
theorem dX9_copy_115 : decode cX9_copy 115 = .ok (.getfield 325, 3) := by decide +kernel
theorem dX9_copy_118 : decode cX9_copy 118 = .ok (.iload_n 1, 1) := by decide +kernel
theorem dX9_copy_119 : decode cX9_copy 119 = .ok (.bipush 40, 2) := by decide +kernel
theorem dX9_copy_121 : decode cX9_copy 121 = .ok (.imul, 1) := by decide +kernel
theorem dX9_copy_122 : decode cX9_copy 122 = .ok (.iload_n 2, 1) := by decide +kernel
theorem dX9_copy_123 : decode cX9_copy 123 = .ok (.iadd, 1) := by decide +kernel
theorem dX9_copy_124 : decode cX9_copy 124 = .ok (.aload_n 0, 1) := by decide +kernel
theorem dX9_copy_125 : decode cX9_copy 125 = .ok (.getfield 77, 3) := by decide +kernel
theorem dX9_copy_128 : decode cX9_copy 128 = .ok (.getfield 325, 3) := by decide +kernel
theorem dX9_copy_131 : decode cX9_copy 131 = .ok (.iload_n 3, 1) := by decide +kernel
theorem dX9_copy_132 : decode cX9_copy 132 = .ok (.bipush 40, 2) := by decide +kernel
theorem dX9_copy_134 : decode cX9_copy 134 = .ok (.imul, 1) := by decide +kernel
theorem dX9_copy_135 : decode cX9_copy 135 = .ok (.iload 4, 2) := by decide +kernel
theorem dX9_copy_137 : decode cX9_copy 137 = .ok (.iadd, 1) := by decide +kernel
theorem dX9_copy_138 : decode cX9_copy 138 = .ok (.iload 5, 2) := by decide +kernel
theorem dX9_copy_140 : decode cX9_copy 140 = .ok (.invokestatic 328, 3) := by decide +kernel
theorem dX9_copy_143 : decode cX9_copy 143 = .ok (.iload 5, 2) := by decide +kernel
theorem dX9_copy_145 : decode cX9_copy 145 = .ok (.ireturn, 1) := by decide +kernel
theorem dX9_load_0 : decode cX9_load 0 = .ok (.aload_n 0, 1) := by decide +kernel
theorem dX9_load_1 : decode cX9_load 1 = .ok (.getfield 77, 3) := by decide +kernel
theorem dX9_load_4 : decode cX9_load 4 = .ok (.iload_n 1, 1) := by decide +kernel
theorem dX9_load_5 : decode cX9_load 5 = .ok (.invokevirtual 279, 3) := by decide +kernel
theorem dX9_load_8 : decode cX9_load 8 = .ok (.ifCond .eq 25, 3) := by decide +kernel
theorem dX9_load_11 : decode cX9_load 11 = .ok (.aload_n 0, 1) := by decide +kernel
theorem dX9_load_12 : decode cX9_load 12 = .ok (.getfield 77, 3) := by decide +kernel
theorem dX9_load_15 : decode cX9_load 15 = .ok (.iload_n 2, 1) := by decide +kernel
theorem dX9_load_16 : decode cX9_load 16 = .ok (.invokevirtual 316, 3) := by decide +kernel
theorem dX9_load_19 : decode cX9_load 19 = .ok (.ifCond .eq 14, 3) := by decide +kernel
theorem dX9_load_22 : decode cX9_load 22 = .ok (.iload 4, 2) := by decide +kernel
theorem dX9_load_24 : decode cX9_load 24 = .ok (.ifCond .lt 9, 3) := by decide +kernel
theorem dX9_load_27 : decode cX9_load 27 = .ok (.iload 4, 2) := by decide +kernel
theorem dX9_load_29 : decode cX9_load 29 = .ok (.iconst 5, 1) := by decide +kernel
theorem dX9_load_30 : decode cX9_load 30 = .ok (.if_icmp .le 6, 3) := by decide +kernel
theorem dX9_load_33 : decode cX9_load 33 = .ok (.bipush (-2), 2) := by decide +kernel
theorem dX9_load_35 : decode cX9_load 35 = .ok (.ireturn, 1) := by decide +kernel
theorem dX9_load_36 : decode cX9_load 36 = .ok (.aload_n 0, 1) := by decide +kernel
theorem dX9_load_37 : decode cX9_load 37 = .ok (.getfield 77, 3) := by decide +kernel
theorem dX9_load_40 : decode cX9_load 40 = .ok (.iload_n 1, 1) := by decide +kernel
theorem dX9_load_41 : decode cX9_load 41 = .ok (.invokevirtual 285, 3) := by decide +kernel
theorem dX9_load_44 : decode cX9_load 44 = .ok (.ifCond .eq 6, 3) := by decide +kernel
theorem dX9_load_47 : decode cX9_load 47 = .ok (.bipush (-11), 2) := by decide +kernel
theorem dX9_load_49 : decode cX9_load 49 = .ok (.ireturn, 1) := by decide +kernel
theorem dX9_load_50 : decode cX9_load 50 = .ok (.aload_n 0, 1) := by decide +kernel
theorem dX9_load_51 : decode cX9_load 51 = .ok (.getfield 77, 3) := by decide +kernel
theorem dX9_load_54 : decode cX9_load 54 = .ok (.getfield 319, 3) := by decide +kernel
theorem dX9_load_57 : decode cX9_load 57 = .ok (.iload_n 1, 1) := by decide +kernel
theorem dX9_load_58 : decode cX9_load 58 = .ok (.iaload, 1) := by decide +kernel
theorem dX9_load_59 : decode cX9_load 59 = .ok (.iload_n 2, 1) := by decide +kernel
theorem dX9_load_60 : decode cX9_load 60 = .ok (.if_icmp .eq 6, 3) := by decide +kernel
theorem dX9_load_63 : decode cX9_load 63 = .ok (.bipush (-13), 2) := by decide +kernel
theorem dX9_load_65 : decode cX9_load 65 = .ok (.ireturn, 1) := by decide +kernel
theorem dX9_load_66 : decode cX9_load 66 = .ok (.iconst 0, 1) := by decide +kernel
theorem dX9_load_67 : decode cX9_load 67 = .ok (.istore 5, 2) := by decide +kernel
theorem dX9_load_69 : decode cX9_load 69 = .ok (.iconst 0, 1) := by decide +kernel
theorem dX9_load_70 : decode cX9_load 70 = .ok (.istore 6, 2) := by decide +kernel
theorem dX9_load_72 : decode cX9_load 72 = .ok (.iload 6, 2) := by decide +kernel
theorem dX9_load_74 : decode cX9_load 74 = .ok (.iload 4, 2) := by decide +kernel
theorem dX9_load_76 : decode cX9_load 76 = .ok (.if_icmp .ge 98, 3) := by decide +kernel
theorem dX9_load_79 : decode cX9_load 79 = .ok (.aload_n 0, 1) := by decide +kernel
theorem dX9_load_80 : decode cX9_load 80 = .ok (.getfield 77, 3) := by decide +kernel
theorem dX9_load_83 : decode cX9_load 83 = .ok (.iload_n 1, 1) := by decide +kernel
theorem dX9_load_84 : decode cX9_load 84 = .ok (.iload_n 3, 1) := by decide +kernel
theorem dX9_load_85 : decode cX9_load 85 = .ok (.iconst 4, 1) := by decide +kernel
theorem dX9_load_86 : decode cX9_load 86 = .ok (.iload 6, 2) := by decide +kernel
theorem dX9_load_88 : decode cX9_load 88 = .ok (.iconst 1, 1) := by decide +kernel
theorem dX9_load_89 : decode cX9_load 89 = .ok (.iadd, 1) := by decide +kernel
theorem dX9_load_90 : decode cX9_load 90 = .ok (.imul, 1) := by decide +kernel
theorem dX9_load_91 : decode cX9_load 91 = .ok (.invokevirtual 322, 3) := by decide +kernel
theorem dX9_load_94 : decode cX9_load 94 = .ok (.ifCond .ne 6, 3) := by decide +kernel
theorem dX9_load_97 : decode cX9_load 97 = .ok (.bipush (-12), 2) := by decide +kernel
theorem dX9_load_99 : decode cX9_load 99 = .ok (.ireturn, 1) := by decide +kernel
theorem dX9_load_100 : decode cX9_load 100 = .ok (.iload_n 3, 1) := by decide +kernel
theorem dX9_load_101 : decode cX9_load 101 = .ok (.iconst 4, 1) := by decide +kernel
theorem dX9_load_102 : decode cX9_load 102 = .ok (.iload 6, 2) := by decide +kernel
theorem dX9_load_104 : decode cX9_load 104 = .ok (.imul, 1) := by decide +kernel
theorem dX9_load_105 : decode cX9_load 105 = .ok (.iadd, 1) := by decide +kernel
theorem dX9_load_106 : decode cX9_load 106 = .ok (.istore 7, 2) := by decide +kernel
theorem dX9_load_108 : decode cX9_load 108 = .ok (.aload_n 0, 1) := by decide +kernel
theorem dX9_load_109 : decode cX9_load 109 = .ok (.aload_n 0, 1) := by decide +kernel
theorem dX9_load_110 : decode cX9_load 110 = .ok (.getfield 77, 3) := by decide +kernel
theorem dX9_load_113 : decode cX9_load 113 = .ok (.iload_n 1, 1) := by decide +kernel
theorem dX9_load_114 : decode cX9_load 114 = .ok (.iload 7, 2) := by decide +kernel
theorem dX9_load_116 : decode cX9_load 116 = .ok (.invokevirtual 334, 3) := by decide +kernel
theorem dX9_load_119 : decode cX9_load 119 = .ok (.aload_n 0, 1) := by decide +kernel
theorem dX9_load_120 : decode cX9_load 120 = .ok (.getfield 77, 3) := by decide +kernel
theorem dX9_load_123 : decode cX9_load 123 = .ok (.iload_n 1, 1) := by decide +kernel
theorem dX9_load_124 : decode cX9_load 124 = .ok (.iload 7, 2) := by decide +kernel
theorem dX9_load_126 : decode cX9_load 126 = .ok (.iconst 1, 1) := by decide +kernel
theorem dX9_load_127 : decode cX9_load 127 = .ok (.iadd, 1) := by decide +kernel
theorem dX9_load_128 : decode cX9_load 128 = .ok (.invokevirtual 334, 3) := by decide +kernel
theorem dX9_load_131 : decode cX9_load 131 = .ok (.aload_n 0, 1) := by decide +kernel
theorem dX9_load_132 : decode cX9_load 132 = .ok (.getfield 77, 3) := by decide +kernel
theorem dX9_load_135 : decode cX9_load 135 = .ok (.iload_n 1, 1) := by decide +kernel
theorem dX9_load_136 : decode cX9_load 136 = .ok (.iload 7, 2) := by decide +kernel
theorem dX9_load_138 : decode cX9_load 138 = .ok (.iconst 2, 1) := by decide +kernel
theorem dX9_load_139 : decode cX9_load 139 = .ok (.iadd, 1) := by decide +kernel
theorem dX9_load_140 : decode cX9_load 140 = .ok (.invokevirtual 334, 3) := by decide +kernel
theorem dX9_load_143 : decode cX9_load 143 = .ok (.aload_n 0, 1) := by decide +kernel
theorem dX9_load_144 : decode cX9_load 144 = .ok (.getfield 77, 3) := by decide +kernel
theorem dX9_load_147 : decode cX9_load 147 = .ok (.iload_n 1, 1) := by decide +kernel
theorem dX9_load_148 : decode cX9_load 148 = .ok (.iload 7, 2) := by decide +kernel
theorem dX9_load_150 : decode cX9_load 150 = .ok (.iconst 3, 1) := by decide +kernel
theorem dX9_load_151 : decode cX9_load 151 = .ok (.iadd, 1) := by decide +kernel
theorem dX9_load_152 : decode cX9_load 152 = .ok (.invokevirtual 334, 3) := by decide +kernel
theorem dX9_load_155 : decode cX9_load 155 = .ok (.invokevirtual 337, 3) := by decide +kernel
theorem dX9_load_158 : decode cX9_load 158 = .ok (.istore 8, 2) := by decide +kernel
theorem dX9_load_160 : decode cX9_load 160 = .ok (.iload 8, 2) := by decide +kernel
theorem dX9_load_162 : decode cX9_load 162 = .ok (.ifCond .lt 6, 3) := by decide +kernel
theorem dX9_load_165 : decode cX9_load 165 = .ok (.iinc 5 1, 3) := by decide +kernel
theorem dX9_load_168 : decode cX9_load 168 = .ok (.iinc 6 1, 3) := by decide +kernel
theorem dX9_load_171 : decode cX9_load 171 = .ok (.goto (-99), 3) := by decide +kernel
theorem dX9_load_174 : decode cX9_load 174 = .ok (.iload 5, 2) := by decide +kernel
theorem dX9_load_176 : decode cX9_load 176 = .ok (.ireturn, 1) := by decide +kernel
theorem dX9_isCoordinate_0 : decode cX9_isCoordinate 0 = .ok (.iload_n 0, 1) := by decide +kernel
theorem dX9_isCoordinate_1 : decode cX9_isCoordinate 1 = .ok (.ifCond .lt 13, 3) := by decide +kernel
theorem dX9_isCoordinate_4 : decode cX9_isCoordinate 4 = .ok (.iload_n 0, 1) := by decide +kernel
theorem dX9_isCoordinate_5 : decode cX9_isCoordinate 5 = .ok (.bipush 40, 2) := by decide +kernel
theorem dX9_isCoordinate_7 : decode cX9_isCoordinate 7 = .ok (.if_icmp .gt 7, 3) := by decide +kernel
theorem dX9_isCoordinate_10 : decode cX9_isCoordinate 10 = .ok (.iconst 1, 1) := by decide +kernel
theorem dX9_isCoordinate_11 : decode cX9_isCoordinate 11 = .ok (.goto 4, 3) := by decide +kernel
theorem dX9_isCoordinate_14 : decode cX9_isCoordinate 14 = .ok (.iconst 0, 1) := by decide +kernel
theorem dX9_isCoordinate_15 : decode cX9_isCoordinate 15 = .ok (.ireturn, 1) := by decide +kernel
theorem dX9_canBeEnds_0 : decode cX9_canBeEnds 0 = .ok (.iload_n 0, 1) := by decide +kernel
theorem dX9_canBeEnds_1 : decode cX9_canBeEnds 1 = .ok (.invokestatic 282, 3) := by decide +kernel
theorem dX9_canBeEnds_4 : decode cX9_canBeEnds 4 = .ok (.ifCond .eq 38, 3) := by decide +kernel
theorem dX9_canBeEnds_7 : decode cX9_canBeEnds 7 = .ok (.iload_n 1, 1) := by decide +kernel
theorem dX9_canBeEnds_8 : decode cX9_canBeEnds 8 = .ok (.invokestatic 282, 3) := by decide +kernel
theorem dX9_canBeEnds_11 : decode cX9_canBeEnds 11 = .ok (.ifCond .eq 31, 3) := by decide +kernel
theorem dX9_canBeEnds_14 : decode cX9_canBeEnds 14 = .ok (.iload_n 2, 1) := by decide +kernel
theorem dX9_canBeEnds_15 : decode cX9_canBeEnds 15 = .ok (.invokestatic 282, 3) := by decide +kernel
theorem dX9_canBeEnds_18 : decode cX9_canBeEnds 18 = .ok (.ifCond .eq 24, 3) := by decide +kernel
theorem dX9_canBeEnds_21 : decode cX9_canBeEnds 21 = .ok (.iload_n 3, 1) := by decide +kernel
theorem dX9_canBeEnds_22 : decode cX9_canBeEnds 22 = .ok (.invokestatic 282, 3) := by decide +kernel
theorem dX9_canBeEnds_25 : decode cX9_canBeEnds 25 = .ok (.ifCond .eq 17, 3) := by decide +kernel
theorem dX9_canBeEnds_28 : decode cX9_canBeEnds 28 = .ok (.iload_n 0, 1) := by decide +kernel
theorem dX9_canBeEnds_29 : decode cX9_canBeEnds 29 = .ok (.iload_n 2, 1) := by decide +kernel
theorem dX9_canBeEnds_30 : decode cX9_canBeEnds 30 = .ok (.if_icmp .ne 8, 3) := by decide +kernel
theorem dX9_canBeEnds_33 : decode cX9_canBeEnds 33 = .ok (.iload_n 1, 1) := by decide +kernel
theorem dX9_canBeEnds_34 : decode cX9_canBeEnds 34 = .ok (.iload_n 3, 1) := by decide +kernel
theorem dX9_canBeEnds_35 : decode cX9_canBeEnds 35 = .ok (.if_icmp .eq 7, 3) := by decide +kernel
theorem dX9_canBeEnds_38 : decode cX9_canBeEnds 38 = .ok (.iconst 1, 1) := by decide +kernel
theorem dX9_canBeEnds_39 : decode cX9_canBeEnds 39 = .ok (.goto 4, 3) := by decide +kernel
theorem dX9_canBeEnds_42 : decode cX9_canBeEnds 42 = .ok (.iconst 0, 1) := by decide +kernel
theorem dX9_canBeEnds_43 : decode cX9_canBeEnds 43 = .ok (.ireturn, 1) := by decide +kernel
theorem dX9_canBePlace_0 : decode cX9_canBePlace 0 = .ok (.iload_n 0, 1) := by decide +kernel
theorem dX9_canBePlace_1 : decode cX9_canBePlace 1 = .ok (.sipush (-400), 3) := by decide +kernel
theorem dX9_canBePlace_4 : decode cX9_canBePlace 4 = .ok (.if_icmp .lt 39, 3) := by decide +kernel
theorem dX9_canBePlace_7 : decode cX9_canBePlace 7 = .ok (.iload_n 0, 1) := by decide +kernel
theorem dX9_canBePlace_8 : decode cX9_canBePlace 8 = .ok (.sipush 800, 3) := by decide +kernel
theorem dX9_canBePlace_11 : decode cX9_canBePlace 11 = .ok (.if_icmp .gt 32, 3) := by decide +kernel
theorem dX9_canBePlace_14 : decode cX9_canBePlace 14 = .ok (.iload_n 1, 1) := by decide +kernel
theorem dX9_canBePlace_15 : decode cX9_canBePlace 15 = .ok (.sipush (-400), 3) := by decide +kernel
theorem dX9_canBePlace_18 : decode cX9_canBePlace 18 = .ok (.if_icmp .lt 25, 3) := by decide +kernel
theorem dX9_canBePlace_21 : decode cX9_canBePlace 21 = .ok (.iload_n 1, 1) := by decide +kernel
theorem dX9_canBePlace_22 : decode cX9_canBePlace 22 = .ok (.sipush 800, 3) := by decide +kernel
theorem dX9_canBePlace_25 : decode cX9_canBePlace 25 = .ok (.if_icmp .gt 18, 3) := by decide +kernel
theorem dX9_canBePlace_28 : decode cX9_canBePlace 28 = .ok (.iload_n 2, 1) := by decide +kernel
theorem dX9_canBePlace_29 : decode cX9_canBePlace 29 = .ok (.iconst 1, 1) := by decide +kernel
theorem dX9_canBePlace_30 : decode cX9_canBePlace 30 = .ok (.if_icmp .lt 13, 3) := by decide +kernel
theorem dX9_canBePlace_33 : decode cX9_canBePlace 33 = .ok (.iload_n 2, 1) := by decide +kernel
theorem dX9_canBePlace_34 : decode cX9_canBePlace 34 = .ok (.bipush 10, 2) := by decide +kernel
theorem dX9_canBePlace_36 : decode cX9_canBePlace 36 = .ok (.if_icmp .gt 7, 3) := by decide +kernel
theorem dX9_canBePlace_39 : decode cX9_canBePlace 39 = .ok (.iconst 1, 1) := by decide +kernel
theorem dX9_canBePlace_40 : decode cX9_canBePlace 40 = .ok (.goto 4, 3) := by decide +kernel
theorem dX9_canBePlace_43 : decode cX9_canBePlace 43 = .ok (.iconst 0, 1) := by decide +kernel
theorem dX9_canBePlace_44 : decode cX9_canBePlace 44 = .ok (.ireturn, 1) := by decide +kernel
theorem dX9_compareFractions_0 : decode cX9_compareFractions 0 = .ok (.lload_n 0, 1) := by decide +kernel
theorem dX9_compareFractions_1 : decode cX9_compareFractions 1 = .ok (.lload 6, 2) := by decide +kernel
theorem dX9_compareFractions_3 : decode cX9_compareFractions 3 = .ok (.lmul, 1) := by decide +kernel
theorem dX9_compareFractions_4 : decode cX9_compareFractions 4 = .ok (.lstore 8, 2) := by decide +kernel
theorem dX9_compareFractions_6 : decode cX9_compareFractions 6 = .ok (.lload 4, 2) := by decide +kernel
theorem dX9_compareFractions_8 : decode cX9_compareFractions 8 = .ok (.lload_n 2, 1) := by decide +kernel
theorem dX9_compareFractions_9 : decode cX9_compareFractions 9 = .ok (.lmul, 1) := by decide +kernel
theorem dX9_compareFractions_10 : decode cX9_compareFractions 10 = .ok (.lstore 10, 2) := by decide +kernel
theorem dX9_compareFractions_12 : decode cX9_compareFractions 12 = .ok (.lload 8, 2) := by decide +kernel
theorem dX9_compareFractions_14 : decode cX9_compareFractions 14 = .ok (.lload 10, 2) := by decide +kernel
theorem dX9_compareFractions_16 : decode cX9_compareFractions 16 = .ok (.lcmp, 1) := by decide +kernel
theorem dX9_compareFractions_17 : decode cX9_compareFractions 17 = .ok (.ifCond .ge 7, 3) := by decide +kernel
theorem dX9_compareFractions_20 : decode cX9_compareFractions 20 = .ok (.iconst (-1), 1) := by decide +kernel
theorem dX9_compareFractions_21 : decode cX9_compareFractions 21 = .ok (.goto 16, 3) := by decide +kernel
theorem dX9_compareFractions_24 : decode cX9_compareFractions 24 = .ok (.lload 8, 2) := by decide +kernel
theorem dX9_compareFractions_26 : decode cX9_compareFractions 26 = .ok (.lload 10, 2) := by decide +kernel
theorem dX9_compareFractions_28 : decode cX9_compareFractions 28 = .ok (.lcmp, 1) := by decide +kernel
theorem dX9_compareFractions_29 : decode cX9_compareFractions 29 = .ok (.ifCond .le 7, 3) := by decide +kernel
theorem dX9_compareFractions_32 : decode cX9_compareFractions 32 = .ok (.iconst 1, 1) := by decide +kernel
theorem dX9_compareFractions_33 : decode cX9_compareFractions 33 = .ok (.goto 4, 3) := by decide +kernel
theorem dX9_compareFractions_36 : decode cX9_compareFractions 36 = .ok (.iconst 0, 1) := by decide +kernel
theorem dX9_compareFractions_37 : decode cX9_compareFractions 37 = .ok (.ireturn, 1) := by decide +kernel
theorem dX9_commonDivisor_0 : decode cX9_commonDivisor 0 = .ok (.lload_n 0, 1) := by decide +kernel
theorem dX9_commonDivisor_1 : decode cX9_commonDivisor 1 = .ok (.lstore 4, 2) := by decide +kernel
theorem dX9_commonDivisor_3 : decode cX9_commonDivisor 3 = .ok (.lload_n 2, 1) := by decide +kernel
theorem dX9_commonDivisor_4 : decode cX9_commonDivisor 4 = .ok (.lstore 6, 2) := by decide +kernel
theorem dX9_commonDivisor_6 : decode cX9_commonDivisor 6 = .ok (.iconst 0, 1) := by decide +kernel
theorem dX9_commonDivisor_7 : decode cX9_commonDivisor 7 = .ok (.istore 8, 2) := by decide +kernel
theorem dX9_commonDivisor_9 : decode cX9_commonDivisor 9 = .ok (.iload 8, 2) := by decide +kernel
theorem dX9_commonDivisor_11 : decode cX9_commonDivisor 11 = .ok (.bipush 100, 2) := by decide +kernel
theorem dX9_commonDivisor_13 : decode cX9_commonDivisor 13 = .ok (.if_icmp .ge 31, 3) := by decide +kernel
theorem dX9_commonDivisor_16 : decode cX9_commonDivisor 16 = .ok (.lload 6, 2) := by decide +kernel
theorem dX9_commonDivisor_18 : decode cX9_commonDivisor 18 = .ok (.lconst 0, 1) := by decide +kernel
theorem dX9_commonDivisor_19 : decode cX9_commonDivisor 19 = .ok (.lcmp, 1) := by decide +kernel
theorem dX9_commonDivisor_20 : decode cX9_commonDivisor 20 = .ok (.ifCond .eq 24, 3) := by decide +kernel
theorem dX9_commonDivisor_23 : decode cX9_commonDivisor 23 = .ok (.lload 4, 2) := by decide +kernel
theorem dX9_commonDivisor_25 : decode cX9_commonDivisor 25 = .ok (.lload 6, 2) := by decide +kernel
theorem dX9_commonDivisor_27 : decode cX9_commonDivisor 27 = .ok (.lrem, 1) := by decide +kernel
theorem dX9_commonDivisor_28 : decode cX9_commonDivisor 28 = .ok (.lstore 9, 2) := by decide +kernel
theorem dX9_commonDivisor_30 : decode cX9_commonDivisor 30 = .ok (.lload 6, 2) := by decide +kernel
theorem dX9_commonDivisor_32 : decode cX9_commonDivisor 32 = .ok (.lstore 4, 2) := by decide +kernel
theorem dX9_commonDivisor_34 : decode cX9_commonDivisor 34 = .ok (.lload 9, 2) := by decide +kernel
theorem dX9_commonDivisor_36 : decode cX9_commonDivisor 36 = .ok (.lstore 6, 2) := by decide +kernel
theorem dX9_commonDivisor_38 : decode cX9_commonDivisor 38 = .ok (.iinc 8 1, 3) := by decide +kernel
theorem dX9_commonDivisor_41 : decode cX9_commonDivisor 41 = .ok (.goto (-32), 3) := by decide +kernel
theorem dX9_commonDivisor_44 : decode cX9_commonDivisor 44 = .ok (.lload 4, 2) := by decide +kernel
theorem dX9_commonDivisor_46 : decode cX9_commonDivisor 46 = .ok (.lconst 0, 1) := by decide +kernel
theorem dX9_commonDivisor_47 : decode cX9_commonDivisor 47 = .ok (.lcmp, 1) := by decide +kernel
theorem dX9_commonDivisor_48 : decode cX9_commonDivisor 48 = .ok (.ifCond .le 8, 3) := by decide +kernel
theorem dX9_commonDivisor_51 : decode cX9_commonDivisor 51 = .ok (.lload 4, 2) := by decide +kernel
theorem dX9_commonDivisor_53 : decode cX9_commonDivisor 53 = .ok (.goto 4, 3) := by decide +kernel
theorem dX9_commonDivisor_56 : decode cX9_commonDivisor 56 = .ok (.lconst 1, 1) := by decide +kernel
theorem dX9_commonDivisor_57 : decode cX9_commonDivisor 57 = .ok (.lreturn, 1) := by decide +kernel
theorem dX9_leastOf_0 : decode cX9_leastOf 0 = .ok (.iconst 0, 1) := by decide +kernel
theorem dX9_leastOf_1 : decode cX9_leastOf 1 = .ok (.istore_n 1, 1) := by decide +kernel
theorem dX9_leastOf_2 : decode cX9_leastOf 2 = .ok (.iload_n 1, 1) := by decide +kernel
theorem dX9_leastOf_3 : decode cX9_leastOf 3 = .ok (.bipush 10, 2) := by decide +kernel
theorem dX9_leastOf_5 : decode cX9_leastOf 5 = .ok (.if_icmp .ge 19, 3) := by decide +kernel
theorem dX9_leastOf_8 : decode cX9_leastOf 8 = .ok (.iload_n 0, 1) := by decide +kernel
theorem dX9_leastOf_9 : decode cX9_leastOf 9 = .ok (.iload_n 1, 1) := by decide +kernel
theorem dX9_leastOf_10 : decode cX9_leastOf 10 = .ok (.ishr, 1) := by decide +kernel
theorem dX9_leastOf_11 : decode cX9_leastOf 11 = .ok (.iconst 1, 1) := by decide +kernel
theorem dX9_leastOf_12 : decode cX9_leastOf 12 = .ok (.iand, 1) := by decide +kernel
theorem dX9_leastOf_13 : decode cX9_leastOf 13 = .ok (.ifCond .eq 5, 3) := by decide +kernel
theorem dX9_leastOf_16 : decode cX9_leastOf 16 = .ok (.iload_n 1, 1) := by decide +kernel
theorem dX9_leastOf_17 : decode cX9_leastOf 17 = .ok (.ireturn, 1) := by decide +kernel
theorem dX9_leastOf_18 : decode cX9_leastOf 18 = .ok (.iinc 1 1, 3) := by decide +kernel
theorem dX9_leastOf_21 : decode cX9_leastOf 21 = .ok (.goto (-19), 3) := by decide +kernel
theorem dX9_leastOf_24 : decode cX9_leastOf 24 = .ok (.iconst (-1), 1) := by decide +kernel
theorem dX9_leastOf_25 : decode cX9_leastOf 25 = .ok (.ireturn, 1) := by decide +kernel
theorem dX9_forgetWhatFollows_0 : decode cX9_forgetWhatFollows 0 = .ok (.aload_n 0, 1) := by decide +kernel
theorem dX9_forgetWhatFollows_1 : decode cX9_forgetWhatFollows 1 = .ok (.iconst 0, 1) := by decide +kernel
theorem dX9_forgetWhatFollows_2 : decode cX9_forgetWhatFollows 2 = .ok (.putfield 340, 3) := by decide +kernel
theorem dX9_forgetWhatFollows_5 : decode cX9_forgetWhatFollows 5 = .ok (.aload_n 0, 1) := by decide +kernel
theorem dX9_forgetWhatFollows_6 : decode cX9_forgetWhatFollows 6 = .ok (.iconst 0, 1) := by decide +kernel
theorem dX9_forgetWhatFollows_7 : decode cX9_forgetWhatFollows 7 = .ok (.putfield 343, 3) := by decide +kernel
theorem dX9_forgetWhatFollows_10 : decode cX9_forgetWhatFollows 10 = .ok (.aload_n 0, 1) := by decide +kernel
theorem dX9_forgetWhatFollows_11 : decode cX9_forgetWhatFollows 11 = .ok (.iconst 0, 1) := by decide +kernel
theorem dX9_forgetWhatFollows_12 : decode cX9_forgetWhatFollows 12 = .ok (.putfield 346, 3) := by decide +kernel
theorem dX9_forgetWhatFollows_15 : decode cX9_forgetWhatFollows 15 = .ok (.return_, 1) := by decide +kernel
theorem dX9_knowPoints_0 : decode cX9_knowPoints 0 = .ok (.aload_n 0, 1) := by decide +kernel
theorem dX9_knowPoints_1 : decode cX9_knowPoints 1 = .ok (.getfield 340, 3) := by decide +kernel
theorem dX9_knowPoints_4 : decode cX9_knowPoints 4 = .ok (.ifCond .ne 19, 3) := by decide +kernel
theorem dX9_knowPoints_7 : decode cX9_knowPoints 7 = .ok (.aload_n 0, 1) := by decide +kernel
theorem dX9_knowPoints_8 : decode cX9_knowPoints 8 = .ok (.getfield 25, 3) := by decide +kernel
theorem dX9_knowPoints_11 : decode cX9_knowPoints 11 = .ok (.aload_n 0, 1) := by decide +kernel
theorem dX9_knowPoints_12 : decode cX9_knowPoints 12 = .ok (.getfield 12, 3) := by decide +kernel
theorem dX9_knowPoints_15 : decode cX9_knowPoints 15 = .ok (.invokevirtual 349, 3) := by decide +kernel
theorem dX9_knowPoints_18 : decode cX9_knowPoints 18 = .ok (.aload_n 0, 1) := by decide +kernel
theorem dX9_knowPoints_19 : decode cX9_knowPoints 19 = .ok (.iconst 1, 1) := by decide +kernel
theorem dX9_knowPoints_20 : decode cX9_knowPoints 20 = .ok (.putfield 340, 3) := by decide +kernel
theorem dX9_knowPoints_23 : decode cX9_knowPoints 23 = .ok (.return_, 1) := by decide +kernel
theorem dX9_knowFaces_0 : decode cX9_knowFaces 0 = .ok (.aload_n 0, 1) := by decide +kernel
theorem dX9_knowFaces_1 : decode cX9_knowFaces 1 = .ok (.getfield 343, 3) := by decide +kernel
theorem dX9_knowFaces_4 : decode cX9_knowFaces 4 = .ok (.ifCond .eq 4, 3) := by decide +kernel
theorem dX9_knowFaces_7 : decode cX9_knowFaces 7 = .ok (.return_, 1) := by decide +kernel
theorem dX9_knowFaces_8 : decode cX9_knowFaces 8 = .ok (.aload_n 0, 1) := by decide +kernel
theorem dX9_knowFaces_9 : decode cX9_knowFaces 9 = .ok (.getfield 340, 3) := by decide +kernel
theorem dX9_knowFaces_12 : decode cX9_knowFaces 12 = .ok (.ifCond .ne 19, 3) := by decide +kernel
theorem dX9_knowFaces_15 : decode cX9_knowFaces 15 = .ok (.aload_n 0, 1) := by decide +kernel
theorem dX9_knowFaces_16 : decode cX9_knowFaces 16 = .ok (.getfield 25, 3) := by decide +kernel
theorem dX9_knowFaces_19 : decode cX9_knowFaces 19 = .ok (.aload_n 0, 1) := by decide +kernel
theorem dX9_knowFaces_20 : decode cX9_knowFaces 20 = .ok (.getfield 12, 3) := by decide +kernel
theorem dX9_knowFaces_23 : decode cX9_knowFaces 23 = .ok (.invokevirtual 349, 3) := by decide +kernel
theorem dX9_knowFaces_26 : decode cX9_knowFaces 26 = .ok (.aload_n 0, 1) := by decide +kernel
theorem dX9_knowFaces_27 : decode cX9_knowFaces 27 = .ok (.iconst 1, 1) := by decide +kernel
theorem dX9_knowFaces_28 : decode cX9_knowFaces 28 = .ok (.putfield 340, 3) := by decide +kernel
theorem dX9_knowFaces_31 : decode cX9_knowFaces 31 = .ok (.aload_n 0, 1) := by decide +kernel
theorem dX9_knowFaces_32 : decode cX9_knowFaces 32 = .ok (.getfield 49, 3) := by decide +kernel
theorem dX9_knowFaces_35 : decode cX9_knowFaces 35 = .ok (.aload_n 0, 1) := by decide +kernel
theorem dX9_knowFaces_36 : decode cX9_knowFaces 36 = .ok (.getfield 12, 3) := by decide +kernel
theorem dX9_knowFaces_39 : decode cX9_knowFaces 39 = .ok (.aload_n 0, 1) := by decide +kernel
theorem dX9_knowFaces_40 : decode cX9_knowFaces 40 = .ok (.getfield 25, 3) := by decide +kernel
theorem dX9_knowFaces_43 : decode cX9_knowFaces 43 = .ok (.aload_n 0, 1) := by decide +kernel
theorem dX9_knowFaces_44 : decode cX9_knowFaces 44 = .ok (.getfield 42, 3) := by decide +kernel
theorem dX9_knowFaces_47 : decode cX9_knowFaces 47 = .ok (.invokevirtual 351, 3) := by decide +kernel
theorem dX9_knowFaces_50 : decode cX9_knowFaces 50 = .ok (.aload_n 0, 1) := by decide +kernel
theorem dX9_knowFaces_51 : decode cX9_knowFaces 51 = .ok (.getfield 56, 3) := by decide +kernel
theorem dX9_knowFaces_54 : decode cX9_knowFaces 54 = .ok (.aload_n 0, 1) := by decide +kernel
theorem dX9_knowFaces_55 : decode cX9_knowFaces 55 = .ok (.getfield 12, 3) := by decide +kernel
theorem dX9_knowFaces_58 : decode cX9_knowFaces 58 = .ok (.aload_n 0, 1) := by decide +kernel
theorem dX9_knowFaces_59 : decode cX9_knowFaces 59 = .ok (.getfield 49, 3) := by decide +kernel
theorem dX9_knowFaces_62 : decode cX9_knowFaces 62 = .ok (.invokevirtual 355, 3) := by decide +kernel
theorem dX9_knowFaces_65 : decode cX9_knowFaces 65 = .ok (.aload_n 0, 1) := by decide +kernel
theorem dX9_knowFaces_66 : decode cX9_knowFaces 66 = .ok (.getfield 63, 3) := by decide +kernel
theorem dX9_knowFaces_69 : decode cX9_knowFaces 69 = .ok (.aload_n 0, 1) := by decide +kernel
theorem dX9_knowFaces_70 : decode cX9_knowFaces 70 = .ok (.getfield 49, 3) := by decide +kernel
theorem dX9_knowFaces_73 : decode cX9_knowFaces 73 = .ok (.aload_n 0, 1) := by decide +kernel
theorem dX9_knowFaces_74 : decode cX9_knowFaces 74 = .ok (.getfield 56, 3) := by decide +kernel
theorem dX9_knowFaces_77 : decode cX9_knowFaces 77 = .ok (.invokevirtual 358, 3) := by decide +kernel
theorem dX9_knowFaces_80 : decode cX9_knowFaces 80 = .ok (.aload_n 0, 1) := by decide +kernel
theorem dX9_knowFaces_81 : decode cX9_knowFaces 81 = .ok (.iconst 1, 1) := by decide +kernel
theorem dX9_knowFaces_82 : decode cX9_knowFaces 82 = .ok (.putfield 343, 3) := by decide +kernel
theorem dX9_knowFaces_85 : decode cX9_knowFaces 85 = .ok (.return_, 1) := by decide +kernel
theorem dX9_knowHulls_0 : decode cX9_knowHulls 0 = .ok (.aload_n 0, 1) := by decide +kernel
theorem dX9_knowHulls_1 : decode cX9_knowHulls 1 = .ok (.getfield 346, 3) := by decide +kernel
theorem dX9_knowHulls_4 : decode cX9_knowHulls 4 = .ok (.ifCond .ne 19, 3) := by decide +kernel
theorem dX9_knowHulls_7 : decode cX9_knowHulls 7 = .ok (.aload_n 0, 1) := by decide +kernel
theorem dX9_knowHulls_8 : decode cX9_knowHulls 8 = .ok (.getfield 70, 3) := by decide +kernel
theorem dX9_knowHulls_11 : decode cX9_knowHulls 11 = .ok (.aload_n 0, 1) := by decide +kernel
theorem dX9_knowHulls_12 : decode cX9_knowHulls 12 = .ok (.getfield 12, 3) := by decide +kernel
theorem dX9_knowHulls_15 : decode cX9_knowHulls 15 = .ok (.invokevirtual 362, 3) := by decide +kernel
theorem dX9_knowHulls_18 : decode cX9_knowHulls 18 = .ok (.aload_n 0, 1) := by decide +kernel
theorem dX9_knowHulls_19 : decode cX9_knowHulls 19 = .ok (.iconst 1, 1) := by decide +kernel
theorem dX9_knowHulls_20 : decode cX9_knowHulls 20 = .ok (.putfield 346, 3) := by decide +kernel
theorem dX9_knowHulls_23 : decode cX9_knowHulls 23 = .ok (.return_, 1) := by decide +kernel
theorem dX9_linesOn_0 : decode cX9_linesOn 0 = .ok (.iconst 0, 1) := by decide +kernel
theorem dX9_linesOn_1 : decode cX9_linesOn 1 = .ok (.istore 4, 2) := by decide +kernel
theorem dX9_linesOn_3 : decode cX9_linesOn 3 = .ok (.iconst 0, 1) := by decide +kernel
theorem dX9_linesOn_4 : decode cX9_linesOn 4 = .ok (.istore 5, 2) := by decide +kernel
theorem dX9_linesOn_6 : decode cX9_linesOn 6 = .ok (.iload 5, 2) := by decide +kernel
theorem dX9_linesOn_8 : decode cX9_linesOn 8 = .ok (.aload_n 0, 1) := by decide +kernel
theorem dX9_linesOn_9 : decode cX9_linesOn 9 = .ok (.getfield 12, 3) := by decide +kernel
theorem dX9_linesOn_12 : decode cX9_linesOn 12 = .ok (.getfield 104, 3) := by decide +kernel
theorem dX9_linesOn_15 : decode cX9_linesOn 15 = .ok (.if_icmp .ge 38, 3) := by decide +kernel
theorem dX9_linesOn_18 : decode cX9_linesOn 18 = .ok (.aload_n 0, 1) := by decide +kernel
theorem dX9_linesOn_19 : decode cX9_linesOn 19 = .ok (.getfield 12, 3) := by decide +kernel
theorem dX9_linesOn_22 : decode cX9_linesOn 22 = .ok (.iload 5, 2) := by decide +kernel
theorem dX9_linesOn_24 : decode cX9_linesOn 24 = .ok (.iload_n 1, 1) := by decide +kernel
theorem dX9_linesOn_25 : decode cX9_linesOn 25 = .ok (.i2l, 1) := by decide +kernel
theorem dX9_linesOn_26 : decode cX9_linesOn 26 = .ok (.iload_n 3, 1) := by decide +kernel
theorem dX9_linesOn_27 : decode cX9_linesOn 27 = .ok (.i2l, 1) := by decide +kernel
theorem dX9_linesOn_28 : decode cX9_linesOn 28 = .ok (.iload_n 2, 1) := by decide +kernel
theorem dX9_linesOn_29 : decode cX9_linesOn 29 = .ok (.i2l, 1) := by decide +kernel
theorem dX9_linesOn_30 : decode cX9_linesOn 30 = .ok (.iload_n 3, 1) := by decide +kernel
theorem dX9_linesOn_31 : decode cX9_linesOn 31 = .ok (.i2l, 1) := by decide +kernel
theorem dX9_linesOn_32 : decode cX9_linesOn 32 = .ok (.invokevirtual 365, 3) := by decide +kernel
theorem dX9_linesOn_35 : decode cX9_linesOn 35 = .ok (.ifCond .eq 12, 3) := by decide +kernel
theorem dX9_linesOn_38 : decode cX9_linesOn 38 = .ok (.iload 4, 2) := by decide +kernel
theorem dX9_linesOn_40 : decode cX9_linesOn 40 = .ok (.iconst 1, 1) := by decide +kernel
theorem dX9_linesOn_41 : decode cX9_linesOn 41 = .ok (.iload 5, 2) := by decide +kernel
theorem dX9_linesOn_43 : decode cX9_linesOn 43 = .ok (.ishl, 1) := by decide +kernel
theorem dX9_linesOn_44 : decode cX9_linesOn 44 = .ok (.ior, 1) := by decide +kernel
theorem dX9_linesOn_45 : decode cX9_linesOn 45 = .ok (.istore 4, 2) := by decide +kernel
theorem dX9_linesOn_47 : decode cX9_linesOn 47 = .ok (.iinc 5 1, 3) := by decide +kernel
theorem dX9_linesOn_50 : decode cX9_linesOn 50 = .ok (.goto (-44), 3) := by decide +kernel
theorem dX9_linesOn_53 : decode cX9_linesOn 53 = .ok (.iload 4, 2) := by decide +kernel
theorem dX9_linesOn_55 : decode cX9_linesOn 55 = .ok (.ireturn, 1) := by decide +kernel
theorem dX9_facesWithout_0 : decode cX9_facesWithout 0 = .ok (.aload_n 0, 1) := by decide +kernel
theorem dX9_facesWithout_1 : decode cX9_facesWithout 1 = .ok (.getfield 19, 3) := by decide +kernel
theorem dX9_facesWithout_4 : decode cX9_facesWithout 4 = .ok (.aload_n 0, 1) := by decide +kernel
theorem dX9_facesWithout_5 : decode cX9_facesWithout 5 = .ok (.getfield 12, 3) := by decide +kernel
theorem dX9_facesWithout_8 : decode cX9_facesWithout 8 = .ok (.invokevirtual 308, 3) := by decide +kernel
theorem dX9_facesWithout_11 : decode cX9_facesWithout 11 = .ok (.aload_n 0, 1) := by decide +kernel
theorem dX9_facesWithout_12 : decode cX9_facesWithout 12 = .ok (.getfield 19, 3) := by decide +kernel
theorem dX9_facesWithout_15 : decode cX9_facesWithout 15 = .ok (.iload_n 1, 1) := by decide +kernel
theorem dX9_facesWithout_16 : decode cX9_facesWithout 16 = .ok (.invokevirtual 100, 3) := by decide +kernel
theorem dX9_facesWithout_19 : decode cX9_facesWithout 19 = .ok (.aload_n 0, 1) := by decide +kernel
theorem dX9_facesWithout_20 : decode cX9_facesWithout 20 = .ok (.getfield 29, 3) := by decide +kernel
theorem dX9_facesWithout_23 : decode cX9_facesWithout 23 = .ok (.aload_n 0, 1) := by decide +kernel
theorem dX9_facesWithout_24 : decode cX9_facesWithout 24 = .ok (.getfield 19, 3) := by decide +kernel
theorem dX9_facesWithout_27 : decode cX9_facesWithout 27 = .ok (.invokevirtual 349, 3) := by decide +kernel
theorem dX9_facesWithout_30 : decode cX9_facesWithout 30 = .ok (.aload_n 0, 1) := by decide +kernel
theorem dX9_facesWithout_31 : decode cX9_facesWithout 31 = .ok (.getfield 29, 3) := by decide +kernel
theorem dX9_facesWithout_34 : decode cX9_facesWithout 34 = .ok (.invokevirtual 369, 3) := by decide +kernel
theorem dX9_facesWithout_37 : decode cX9_facesWithout 37 = .ok (.ireturn, 1) := by decide +kernel
theorem dX9_facesDrawn_0 : decode cX9_facesDrawn 0 = .ok (.aload_n 0, 1) := by decide +kernel
theorem dX9_facesDrawn_1 : decode cX9_facesDrawn 1 = .ok (.getfield 19, 3) := by decide +kernel
theorem dX9_facesDrawn_4 : decode cX9_facesDrawn 4 = .ok (.aload_n 0, 1) := by decide +kernel
theorem dX9_facesDrawn_5 : decode cX9_facesDrawn 5 = .ok (.getfield 12, 3) := by decide +kernel
theorem dX9_facesDrawn_8 : decode cX9_facesDrawn 8 = .ok (.invokevirtual 308, 3) := by decide +kernel
theorem dX9_facesDrawn_11 : decode cX9_facesDrawn 11 = .ok (.iload_n 1, 1) := by decide +kernel
theorem dX9_facesDrawn_12 : decode cX9_facesDrawn 12 = .ok (.istore_n 3, 1) := by decide +kernel
theorem dX9_facesDrawn_13 : decode cX9_facesDrawn 13 = .ok (.iconst 0, 1) := by decide +kernel
theorem dX9_facesDrawn_14 : decode cX9_facesDrawn 14 = .ok (.istore 4, 2) := by decide +kernel
theorem dX9_facesDrawn_16 : decode cX9_facesDrawn 16 = .ok (.iload 4, 2) := by decide +kernel
theorem dX9_facesDrawn_18 : decode cX9_facesDrawn 18 = .ok (.iload_n 2, 1) := by decide +kernel
theorem dX9_facesDrawn_19 : decode cX9_facesDrawn 19 = .ok (.if_icmp .ge 93, 3) := by decide +kernel
theorem dX9_facesDrawn_22 : decode cX9_facesDrawn 22 = .ok (.iload_n 3, 1) := by decide +kernel
theorem dX9_facesDrawn_23 : decode cX9_facesDrawn 23 = .ok (.invokestatic 373, 3) := by decide +kernel
theorem dX9_facesDrawn_26 : decode cX9_facesDrawn 26 = .ok (.istore_n 3, 1) := by decide +kernel
theorem dX9_facesDrawn_27 : decode cX9_facesDrawn 27 = .ok (.iload_n 3, 1) := by decide +kernel
theorem dX9_facesDrawn_28 : decode cX9_facesDrawn 28 = .ok (.invokestatic 376, 3) := by decide +kernel
theorem dX9_facesDrawn_31 : decode cX9_facesDrawn 31 = .ok (.istore 5, 2) := by decide +kernel
theorem dX9_facesDrawn_33 : decode cX9_facesDrawn 33 = .ok (.iload_n 3, 1) := by decide +kernel
theorem dX9_facesDrawn_34 : decode cX9_facesDrawn 34 = .ok (.invokestatic 373, 3) := by decide +kernel
theorem dX9_facesDrawn_37 : decode cX9_facesDrawn 37 = .ok (.istore_n 3, 1) := by decide +kernel
theorem dX9_facesDrawn_38 : decode cX9_facesDrawn 38 = .ok (.iload_n 3, 1) := by decide +kernel
theorem dX9_facesDrawn_39 : decode cX9_facesDrawn 39 = .ok (.invokestatic 376, 3) := by decide +kernel
theorem dX9_facesDrawn_42 : decode cX9_facesDrawn 42 = .ok (.istore 6, 2) := by decide +kernel
theorem dX9_facesDrawn_44 : decode cX9_facesDrawn 44 = .ok (.iload_n 3, 1) := by decide +kernel
theorem dX9_facesDrawn_45 : decode cX9_facesDrawn 45 = .ok (.invokestatic 373, 3) := by decide +kernel
theorem dX9_facesDrawn_48 : decode cX9_facesDrawn 48 = .ok (.istore_n 3, 1) := by decide +kernel
theorem dX9_facesDrawn_49 : decode cX9_facesDrawn 49 = .ok (.iload_n 3, 1) := by decide +kernel
theorem dX9_facesDrawn_50 : decode cX9_facesDrawn 50 = .ok (.invokestatic 376, 3) := by decide +kernel
theorem dX9_facesDrawn_53 : decode cX9_facesDrawn 53 = .ok (.istore 7, 2) := by decide +kernel
theorem dX9_facesDrawn_55 : decode cX9_facesDrawn 55 = .ok (.iload_n 3, 1) := by decide +kernel
theorem dX9_facesDrawn_56 : decode cX9_facesDrawn 56 = .ok (.invokestatic 373, 3) := by decide +kernel
theorem dX9_facesDrawn_59 : decode cX9_facesDrawn 59 = .ok (.istore_n 3, 1) := by decide +kernel
theorem dX9_facesDrawn_60 : decode cX9_facesDrawn 60 = .ok (.iload_n 3, 1) := by decide +kernel
theorem dX9_facesDrawn_61 : decode cX9_facesDrawn 61 = .ok (.invokestatic 376, 3) := by decide +kernel
theorem dX9_facesDrawn_64 : decode cX9_facesDrawn 64 = .ok (.istore 8, 2) := by decide +kernel
theorem dX9_facesDrawn_66 : decode cX9_facesDrawn 66 = .ok (.iload 5, 2) := by decide +kernel
theorem dX9_facesDrawn_68 : decode cX9_facesDrawn 68 = .ok (.iload 6, 2) := by decide +kernel
theorem dX9_facesDrawn_70 : decode cX9_facesDrawn 70 = .ok (.iload 7, 2) := by decide +kernel
theorem dX9_facesDrawn_72 : decode cX9_facesDrawn 72 = .ok (.iload 8, 2) := by decide +kernel
theorem dX9_facesDrawn_74 : decode cX9_facesDrawn 74 = .ok (.invokestatic 81, 3) := by decide +kernel
theorem dX9_facesDrawn_77 : decode cX9_facesDrawn 77 = .ok (.ifCond .eq 29, 3) := by decide +kernel
theorem dX9_facesDrawn_80 : decode cX9_facesDrawn 80 = .ok (.aload_n 0, 1) := by decide +kernel
theorem dX9_facesDrawn_81 : decode cX9_facesDrawn 81 = .ok (.getfield 19, 3) := by decide +kernel
theorem dX9_facesDrawn_84 : decode cX9_facesDrawn 84 = .ok (.invokevirtual 85, 3) := by decide +kernel
theorem dX9_facesDrawn_87 : decode cX9_facesDrawn 87 = .ok (.ifCond .ne 19, 3) := by decide +kernel
theorem dX9_facesDrawn_90 : decode cX9_facesDrawn 90 = .ok (.aload_n 0, 1) := by decide +kernel
theorem dX9_facesDrawn_91 : decode cX9_facesDrawn 91 = .ok (.getfield 19, 3) := by decide +kernel
theorem dX9_facesDrawn_94 : decode cX9_facesDrawn 94 = .ok (.iload 5, 2) := by decide +kernel
theorem dX9_facesDrawn_96 : decode cX9_facesDrawn 96 = .ok (.iload 6, 2) := by decide +kernel
theorem dX9_facesDrawn_98 : decode cX9_facesDrawn 98 = .ok (.iload 7, 2) := by decide +kernel
theorem dX9_facesDrawn_100 : decode cX9_facesDrawn 100 = .ok (.iload 8, 2) := by decide +kernel
theorem dX9_facesDrawn_102 : decode cX9_facesDrawn 102 = .ok (.invokevirtual 92, 3) := by decide +kernel
theorem dX9_facesDrawn_105 : decode cX9_facesDrawn 105 = .ok (.pop, 1) := by decide +kernel
theorem dX9_facesDrawn_106 : decode cX9_facesDrawn 106 = .ok (.iinc 4 1, 3) := by decide +kernel
theorem dX9_facesDrawn_109 : decode cX9_facesDrawn 109 = .ok (.goto (-93), 3) := by decide +kernel
theorem dX9_facesDrawn_112 : decode cX9_facesDrawn 112 = .ok (.aload_n 0, 1) := by decide +kernel
theorem dX9_facesDrawn_113 : decode cX9_facesDrawn 113 = .ok (.getfield 29, 3) := by decide +kernel
theorem dX9_facesDrawn_116 : decode cX9_facesDrawn 116 = .ok (.aload_n 0, 1) := by decide +kernel
theorem dX9_facesDrawn_117 : decode cX9_facesDrawn 117 = .ok (.getfield 19, 3) := by decide +kernel
theorem dX9_facesDrawn_120 : decode cX9_facesDrawn 120 = .ok (.invokevirtual 349, 3) := by decide +kernel
theorem dX9_facesDrawn_123 : decode cX9_facesDrawn 123 = .ok (.aload_n 0, 1) := by decide +kernel
theorem dX9_facesDrawn_124 : decode cX9_facesDrawn 124 = .ok (.getfield 29, 3) := by decide +kernel
theorem dX9_facesDrawn_127 : decode cX9_facesDrawn 127 = .ok (.invokevirtual 369, 3) := by decide +kernel
theorem dX9_facesDrawn_130 : decode cX9_facesDrawn 130 = .ok (.ireturn, 1) := by decide +kernel
theorem dX9_anew_0 : decode cX9_anew 0 = .ok (.iload_n 0, 1) := by decide +kernel
theorem dX9_anew_1 : decode cX9_anew 1 = .ok (.ldc_w 379, 3) := by decide +kernel
theorem dX9_anew_4 : decode cX9_anew 4 = .ok (.imul, 1) := by decide +kernel
theorem dX9_anew_5 : decode cX9_anew 5 = .ok (.sipush 12345, 3) := by decide +kernel
theorem dX9_anew_8 : decode cX9_anew 8 = .ok (.iadd, 1) := by decide +kernel
theorem dX9_anew_9 : decode cX9_anew 9 = .ok (.ireturn, 1) := by decide +kernel
theorem dX9_coordinateBy_0 : decode cX9_coordinateBy 0 = .ok (.iload_n 0, 1) := by decide +kernel
theorem dX9_coordinateBy_1 : decode cX9_coordinateBy 1 = .ok (.bipush 9, 2) := by decide +kernel
theorem dX9_coordinateBy_3 : decode cX9_coordinateBy 3 = .ok (.iushr, 1) := by decide +kernel
theorem dX9_coordinateBy_4 : decode cX9_coordinateBy 4 = .ok (.bipush 41, 2) := by decide +kernel
theorem dX9_coordinateBy_6 : decode cX9_coordinateBy 6 = .ok (.irem, 1) := by decide +kernel
theorem dX9_coordinateBy_7 : decode cX9_coordinateBy 7 = .ok (.ireturn, 1) := by decide +kernel
theorem dX9_toldXs_0 : decode cX9_toldXs 0 = .ok (.iconst 0, 1) := by decide +kernel
theorem dX9_toldXs_1 : decode cX9_toldXs 1 = .ok (.istore_n 3, 1) := by decide +kernel
theorem dX9_toldXs_2 : decode cX9_toldXs 2 = .ok (.iconst 0, 1) := by decide +kernel
theorem dX9_toldXs_3 : decode cX9_toldXs 3 = .ok (.istore 4, 2) := by decide +kernel
theorem dX9_toldXs_5 : decode cX9_toldXs 5 = .ok (.iload 4, 2) := by decide +kernel
theorem dX9_toldXs_7 : decode cX9_toldXs 7 = .ok (.bipush 40, 2) := by decide +kernel
theorem dX9_toldXs_9 : decode cX9_toldXs 9 = .ok (.if_icmp .gt 51, 3) := by decide +kernel
theorem dX9_toldXs_12 : decode cX9_toldXs 12 = .ok (.aload_n 0, 1) := by decide +kernel
theorem dX9_toldXs_13 : decode cX9_toldXs 13 = .ok (.getfield 42, 3) := by decide +kernel
theorem dX9_toldXs_16 : decode cX9_toldXs 16 = .ok (.aload_n 0, 1) := by decide +kernel
theorem dX9_toldXs_17 : decode cX9_toldXs 17 = .ok (.getfield 12, 3) := by decide +kernel
theorem dX9_toldXs_20 : decode cX9_toldXs 20 = .ok (.iload 4, 2) := by decide +kernel
theorem dX9_toldXs_22 : decode cX9_toldXs 22 = .ok (.i2l, 1) := by decide +kernel
theorem dX9_toldXs_23 : decode cX9_toldXs 23 = .ok (.lconst 1, 1) := by decide +kernel
theorem dX9_toldXs_24 : decode cX9_toldXs 24 = .ok (.invokevirtual 189, 3) := by decide +kernel
theorem dX9_toldXs_27 : decode cX9_toldXs 27 = .ok (.aload_n 0, 1) := by decide +kernel
theorem dX9_toldXs_28 : decode cX9_toldXs 28 = .ok (.getfield 77, 3) := by decide +kernel
theorem dX9_toldXs_31 : decode cX9_toldXs 31 = .ok (.iload_n 1, 1) := by decide +kernel
theorem dX9_toldXs_32 : decode cX9_toldXs 32 = .ok (.aload_n 0, 1) := by decide +kernel
theorem dX9_toldXs_33 : decode cX9_toldXs 33 = .ok (.getfield 42, 3) := by decide +kernel
theorem dX9_toldXs_36 : decode cX9_toldXs 36 = .ok (.iconst (-1), 1) := by decide +kernel
theorem dX9_toldXs_37 : decode cX9_toldXs 37 = .ok (.invokevirtual 290, 3) := by decide +kernel
theorem dX9_toldXs_40 : decode cX9_toldXs 40 = .ok (.iconst (-1), 1) := by decide +kernel
theorem dX9_toldXs_41 : decode cX9_toldXs 41 = .ok (.if_icmp .ne 13, 3) := by decide +kernel
theorem dX9_toldXs_44 : decode cX9_toldXs 44 = .ok (.iload_n 2, 1) := by decide +kernel
theorem dX9_toldXs_45 : decode cX9_toldXs 45 = .ok (.ifCond .ne 6, 3) := by decide +kernel
theorem dX9_toldXs_48 : decode cX9_toldXs 48 = .ok (.iload 4, 2) := by decide +kernel
theorem dX9_toldXs_50 : decode cX9_toldXs 50 = .ok (.ireturn, 1) := by decide +kernel
theorem dX9_toldXs_51 : decode cX9_toldXs 51 = .ok (.iinc 3 1, 3) := by decide +kernel
theorem dX9_toldXs_54 : decode cX9_toldXs 54 = .ok (.iinc 4 1, 3) := by decide +kernel
theorem dX9_toldXs_57 : decode cX9_toldXs 57 = .ok (.goto (-52), 3) := by decide +kernel
theorem dX9_toldXs_60 : decode cX9_toldXs 60 = .ok (.iload_n 2, 1) := by decide +kernel
theorem dX9_toldXs_61 : decode cX9_toldXs 61 = .ok (.ifCond .eq 7, 3) := by decide +kernel
theorem dX9_toldXs_64 : decode cX9_toldXs 64 = .ok (.iload_n 3, 1) := by decide +kernel
theorem dX9_toldXs_65 : decode cX9_toldXs 65 = .ok (.goto 4, 3) := by decide +kernel
theorem dX9_toldXs_68 : decode cX9_toldXs 68 = .ok (.iconst (-1), 1) := by decide +kernel
theorem dX9_toldXs_69 : decode cX9_toldXs 69 = .ok (.ireturn, 1) := by decide +kernel
theorem dX9_toldWithout_0 : decode cX9_toldWithout 0 = .ok (.aload_n 0, 1) := by decide +kernel
theorem dX9_toldWithout_1 : decode cX9_toldWithout 1 = .ok (.getfield 42, 3) := by decide +kernel
theorem dX9_toldWithout_4 : decode cX9_toldWithout 4 = .ok (.aload_n 0, 1) := by decide +kernel
theorem dX9_toldWithout_5 : decode cX9_toldWithout 5 = .ok (.getfield 12, 3) := by decide +kernel
theorem dX9_toldWithout_8 : decode cX9_toldWithout 8 = .ok (.iload_n 2, 1) := by decide +kernel
theorem dX9_toldWithout_9 : decode cX9_toldWithout 9 = .ok (.i2l, 1) := by decide +kernel
theorem dX9_toldWithout_10 : decode cX9_toldWithout 10 = .ok (.lconst 1, 1) := by decide +kernel
theorem dX9_toldWithout_11 : decode cX9_toldWithout 11 = .ok (.invokevirtual 189, 3) := by decide +kernel
theorem dX9_toldWithout_14 : decode cX9_toldWithout 14 = .ok (.iconst 0, 1) := by decide +kernel
theorem dX9_toldWithout_15 : decode cX9_toldWithout 15 = .ok (.istore_n 3, 1) := by decide +kernel
theorem dX9_toldWithout_16 : decode cX9_toldWithout 16 = .ok (.iconst 0, 1) := by decide +kernel
theorem dX9_toldWithout_17 : decode cX9_toldWithout 17 = .ok (.istore 4, 2) := by decide +kernel
theorem dX9_toldWithout_19 : decode cX9_toldWithout 19 = .ok (.iload 4, 2) := by decide +kernel
theorem dX9_toldWithout_21 : decode cX9_toldWithout 21 = .ok (.aload_n 0, 1) := by decide +kernel
theorem dX9_toldWithout_22 : decode cX9_toldWithout 22 = .ok (.getfield 12, 3) := by decide +kernel
theorem dX9_toldWithout_25 : decode cX9_toldWithout 25 = .ok (.getfield 104, 3) := by decide +kernel
theorem dX9_toldWithout_28 : decode cX9_toldWithout 28 = .ok (.if_icmp .ge 34, 3) := by decide +kernel
theorem dX9_toldWithout_31 : decode cX9_toldWithout 31 = .ok (.aload_n 0, 1) := by decide +kernel
theorem dX9_toldWithout_32 : decode cX9_toldWithout 32 = .ok (.getfield 77, 3) := by decide +kernel
theorem dX9_toldWithout_35 : decode cX9_toldWithout 35 = .ok (.iload_n 1, 1) := by decide +kernel
theorem dX9_toldWithout_36 : decode cX9_toldWithout 36 = .ok (.aload_n 0, 1) := by decide +kernel
theorem dX9_toldWithout_37 : decode cX9_toldWithout 37 = .ok (.getfield 42, 3) := by decide +kernel
theorem dX9_toldWithout_40 : decode cX9_toldWithout 40 = .ok (.iload 4, 2) := by decide +kernel
theorem dX9_toldWithout_42 : decode cX9_toldWithout 42 = .ok (.invokevirtual 290, 3) := by decide +kernel
theorem dX9_toldWithout_45 : decode cX9_toldWithout 45 = .ok (.iconst (-1), 1) := by decide +kernel
theorem dX9_toldWithout_46 : decode cX9_toldWithout 46 = .ok (.if_icmp .ne 10, 3) := by decide +kernel
theorem dX9_toldWithout_49 : decode cX9_toldWithout 49 = .ok (.iload_n 3, 1) := by decide +kernel
theorem dX9_toldWithout_50 : decode cX9_toldWithout 50 = .ok (.iconst 1, 1) := by decide +kernel
theorem dX9_toldWithout_51 : decode cX9_toldWithout 51 = .ok (.iload 4, 2) := by decide +kernel
theorem dX9_toldWithout_53 : decode cX9_toldWithout 53 = .ok (.ishl, 1) := by decide +kernel
theorem dX9_toldWithout_54 : decode cX9_toldWithout 54 = .ok (.ior, 1) := by decide +kernel
theorem dX9_toldWithout_55 : decode cX9_toldWithout 55 = .ok (.istore_n 3, 1) := by decide +kernel
theorem dX9_toldWithout_56 : decode cX9_toldWithout 56 = .ok (.iinc 4 1, 3) := by decide +kernel
theorem dX9_toldWithout_59 : decode cX9_toldWithout 59 = .ok (.goto (-40), 3) := by decide +kernel
theorem dX9_toldWithout_62 : decode cX9_toldWithout 62 = .ok (.iload_n 3, 1) := by decide +kernel
theorem dX9_toldWithout_63 : decode cX9_toldWithout 63 = .ok (.ireturn, 1) := by decide +kernel
theorem dX10_in_0 : decode cX10_in 0 = .ok (.iload_n 0, 1) := by decide +kernel
theorem dX10_in_1 : decode cX10_in 1 = .ok (.iload_n 1, 1) := by decide +kernel
theorem dX10_in_2 : decode cX10_in 2 = .ok (.if_icmp .lt 12, 3) := by decide +kernel
theorem dX10_in_5 : decode cX10_in 5 = .ok (.iload_n 0, 1) := by decide +kernel
theorem dX10_in_6 : decode cX10_in 6 = .ok (.iload_n 2, 1) := by decide +kernel
theorem dX10_in_7 : decode cX10_in 7 = .ok (.if_icmp .gt 7, 3) := by decide +kernel
theorem dX10_in_10 : decode cX10_in 10 = .ok (.iconst 1, 1) := by decide +kernel
theorem dX10_in_11 : decode cX10_in 11 = .ok (.goto 4, 3) := by decide +kernel
theorem dX10_in_14 : decode cX10_in 14 = .ok (.iconst 0, 1) := by decide +kernel
theorem dX10_in_15 : decode cX10_in 15 = .ok (.ireturn, 1) := by decide +kernel
theorem dX10_isLine_0 : decode cX10_isLine 0 = .ok (.iload_n 1, 1) := by decide +kernel
theorem dX10_isLine_1 : decode cX10_isLine 1 = .ok (.iconst 0, 1) := by decide +kernel
theorem dX10_isLine_2 : decode cX10_isLine 2 = .ok (.aload_n 0, 1) := by decide +kernel
theorem dX10_isLine_3 : decode cX10_isLine 3 = .ok (.getfield 109, 3) := by decide +kernel
theorem dX10_isLine_6 : decode cX10_isLine 6 = .ok (.iconst 1, 1) := by decide +kernel
theorem dX10_isLine_7 : decode cX10_isLine 7 = .ok (.isub, 1) := by decide +kernel
theorem dX10_isLine_8 : decode cX10_isLine 8 = .ok (.invokestatic 113, 3) := by decide +kernel
theorem dX10_isLine_11 : decode cX10_isLine 11 = .ok (.ireturn, 1) := by decide +kernel
theorem dX10_isOnSheet_0 : decode cX10_isOnSheet 0 = .ok (.iload_n 0, 1) := by decide +kernel
theorem dX10_isOnSheet_1 : decode cX10_isOnSheet 1 = .ok (.iconst 0, 1) := by decide +kernel
theorem dX10_isOnSheet_2 : decode cX10_isOnSheet 2 = .ok (.bipush 40, 2) := by decide +kernel
theorem dX10_isOnSheet_4 : decode cX10_isOnSheet 4 = .ok (.invokestatic 113, 3) := by decide +kernel
theorem dX10_isOnSheet_7 : decode cX10_isOnSheet 7 = .ok (.ireturn, 1) := by decide +kernel
theorem dX10_common_0 : decode cX10_common 0 = .ok (.lload_n 2, 1) := by decide +kernel
theorem dX10_common_1 : decode cX10_common 1 = .ok (.lconst 0, 1) := by decide +kernel
theorem dX10_common_2 : decode cX10_common 2 = .ok (.lcmp, 1) := by decide +kernel
theorem dX10_common_3 : decode cX10_common 3 = .ok (.ifCond .ne 7, 3) := by decide +kernel
theorem dX10_common_6 : decode cX10_common 6 = .ok (.lload_n 0, 1) := by decide +kernel
theorem dX10_common_7 : decode cX10_common 7 = .ok (.goto 10, 3) := by decide +kernel
theorem dX10_common_10 : decode cX10_common 10 = .ok (.lload_n 2, 1) := by decide +kernel
theorem dX10_common_11 : decode cX10_common 11 = .ok (.lload_n 0, 1) := by decide +kernel
theorem dX10_common_12 : decode cX10_common 12 = .ok (.lload_n 2, 1) := by decide +kernel
theorem dX10_common_13 : decode cX10_common 13 = .ok (.lrem, 1) := by decide +kernel
theorem dX10_common_14 : decode cX10_common 14 = .ok (.invokestatic 117, 3) := by decide +kernel
theorem dX10_common_17 : decode cX10_common 17 = .ok (.lreturn, 1) := by decide +kernel
theorem dX10_size_0 : decode cX10_size 0 = .ok (.lload_n 0, 1) := by decide +kernel
theorem dX10_size_1 : decode cX10_size 1 = .ok (.lconst 0, 1) := by decide +kernel
theorem dX10_size_2 : decode cX10_size 2 = .ok (.lcmp, 1) := by decide +kernel
theorem dX10_size_3 : decode cX10_size 3 = .ok (.ifCond .ge 8, 3) := by decide +kernel
theorem dX10_size_6 : decode cX10_size 6 = .ok (.lload_n 0, 1) := by decide +kernel
theorem dX10_size_7 : decode cX10_size 7 = .ok (.lneg, 1) := by decide +kernel
theorem dX10_size_8 : decode cX10_size 8 = .ok (.goto 4, 3) := by decide +kernel
theorem dX10_size_11 : decode cX10_size 11 = .ok (.lload_n 0, 1) := by decide +kernel
theorem dX10_size_12 : decode cX10_size 12 = .ok (.lreturn, 1) := by decide +kernel
theorem dX10_against_0 : decode cX10_against 0 = .ok (.lload_n 0, 1) := by decide +kernel
theorem dX10_against_1 : decode cX10_against 1 = .ok (.lload 6, 2) := by decide +kernel
theorem dX10_against_3 : decode cX10_against 3 = .ok (.lmul, 1) := by decide +kernel
theorem dX10_against_4 : decode cX10_against 4 = .ok (.lload 4, 2) := by decide +kernel
theorem dX10_against_6 : decode cX10_against 6 = .ok (.lload_n 2, 1) := by decide +kernel
theorem dX10_against_7 : decode cX10_against 7 = .ok (.lmul, 1) := by decide +kernel
theorem dX10_against_8 : decode cX10_against 8 = .ok (.lsub, 1) := by decide +kernel
theorem dX10_against_9 : decode cX10_against 9 = .ok (.lstore 8, 2) := by decide +kernel
theorem dX10_against_11 : decode cX10_against 11 = .ok (.lload 8, 2) := by decide +kernel
theorem dX10_against_13 : decode cX10_against 13 = .ok (.lconst 0, 1) := by decide +kernel
theorem dX10_against_14 : decode cX10_against 14 = .ok (.lcmp, 1) := by decide +kernel
theorem dX10_against_15 : decode cX10_against 15 = .ok (.ifCond .ge 7, 3) := by decide +kernel
theorem dX10_against_18 : decode cX10_against 18 = .ok (.iconst (-1), 1) := by decide +kernel
theorem dX10_against_19 : decode cX10_against 19 = .ok (.goto 15, 3) := by decide +kernel
theorem dX10_against_22 : decode cX10_against 22 = .ok (.lload 8, 2) := by decide +kernel
theorem dX10_against_24 : decode cX10_against 24 = .ok (.lconst 0, 1) := by decide +kernel
theorem dX10_against_25 : decode cX10_against 25 = .ok (.lcmp, 1) := by decide +kernel
theorem dX10_against_26 : decode cX10_against 26 = .ok (.ifCond .le 7, 3) := by decide +kernel
theorem dX10_against_29 : decode cX10_against 29 = .ok (.iconst 1, 1) := by decide +kernel
theorem dX10_against_30 : decode cX10_against 30 = .ok (.goto 4, 3) := by decide +kernel
theorem dX10_against_33 : decode cX10_against 33 = .ok (.iconst 0, 1) := by decide +kernel
theorem dX10_against_34 : decode cX10_against 34 = .ok (.ireturn, 1) := by decide +kernel
theorem dX10_stands_0 : decode cX10_stands 0 = .ok (.iload_n 2, 1) := by decide +kernel
theorem dX10_stands_1 : decode cX10_stands 1 = .ok (.iload 4, 2) := by decide +kernel
theorem dX10_stands_3 : decode cX10_stands 3 = .ok (.if_icmp .lt 15, 3) := by decide +kernel
theorem dX10_stands_6 : decode cX10_stands 6 = .ok (.iload_n 2, 1) := by decide +kernel
theorem dX10_stands_7 : decode cX10_stands 7 = .ok (.iload 4, 2) := by decide +kernel
theorem dX10_stands_9 : decode cX10_stands 9 = .ok (.if_icmp .ne 13, 3) := by decide +kernel
theorem dX10_stands_12 : decode cX10_stands 12 = .ok (.iload_n 3, 1) := by decide +kernel
theorem dX10_stands_13 : decode cX10_stands 13 = .ok (.iload 5, 2) := by decide +kernel
theorem dX10_stands_15 : decode cX10_stands 15 = .ok (.if_icmp .ge 7, 3) := by decide +kernel
theorem dX10_stands_18 : decode cX10_stands 18 = .ok (.iconst 1, 1) := by decide +kernel
theorem dX10_stands_19 : decode cX10_stands 19 = .ok (.goto 4, 3) := by decide +kernel
theorem dX10_stands_22 : decode cX10_stands 22 = .ok (.iconst 0, 1) := by decide +kernel
theorem dX10_stands_23 : decode cX10_stands 23 = .ok (.istore 6, 2) := by decide +kernel
theorem dX10_stands_25 : decode cX10_stands 25 = .ok (.aload_n 0, 1) := by decide +kernel
theorem dX10_stands_26 : decode cX10_stands 26 = .ok (.getfield 9, 3) := by decide +kernel
theorem dX10_stands_29 : decode cX10_stands 29 = .ok (.iload_n 1, 1) := by decide +kernel
theorem dX10_stands_30 : decode cX10_stands 30 = .ok (.iload 6, 2) := by decide +kernel
theorem dX10_stands_32 : decode cX10_stands 32 = .ok (.ifCond .eq 7, 3) := by decide +kernel
theorem dX10_stands_35 : decode cX10_stands 35 = .ok (.iload_n 2, 1) := by decide +kernel
theorem dX10_stands_36 : decode cX10_stands 36 = .ok (.goto 5, 3) := by decide +kernel
theorem dX10_stands_39 : decode cX10_stands 39 = .ok (.iload 4, 2) := by decide +kernel
theorem dX10_stands_41 : decode cX10_stands 41 = .ok (.iastore, 1) := by decide +kernel
theorem dX10_stands_42 : decode cX10_stands 42 = .ok (.aload_n 0, 1) := by decide +kernel
theorem dX10_stands_43 : decode cX10_stands 43 = .ok (.getfield 13, 3) := by decide +kernel
theorem dX10_stands_46 : decode cX10_stands 46 = .ok (.iload_n 1, 1) := by decide +kernel
theorem dX10_stands_47 : decode cX10_stands 47 = .ok (.iload 6, 2) := by decide +kernel
theorem dX10_stands_49 : decode cX10_stands 49 = .ok (.ifCond .eq 7, 3) := by decide +kernel
theorem dX10_stands_52 : decode cX10_stands 52 = .ok (.iload_n 3, 1) := by decide +kernel
theorem dX10_stands_53 : decode cX10_stands 53 = .ok (.goto 5, 3) := by decide +kernel
theorem dX10_stands_56 : decode cX10_stands 56 = .ok (.iload 5, 2) := by decide +kernel
theorem dX10_stands_58 : decode cX10_stands 58 = .ok (.iastore, 1) := by decide +kernel
theorem dX10_stands_59 : decode cX10_stands 59 = .ok (.aload_n 0, 1) := by decide +kernel
theorem dX10_stands_60 : decode cX10_stands 60 = .ok (.getfield 16, 3) := by decide +kernel
theorem dX10_stands_63 : decode cX10_stands 63 = .ok (.iload_n 1, 1) := by decide +kernel
theorem dX10_stands_64 : decode cX10_stands 64 = .ok (.iload 6, 2) := by decide +kernel
theorem dX10_stands_66 : decode cX10_stands 66 = .ok (.ifCond .eq 8, 3) := by decide +kernel
theorem dX10_stands_69 : decode cX10_stands 69 = .ok (.iload 4, 2) := by decide +kernel
theorem dX10_stands_71 : decode cX10_stands 71 = .ok (.goto 4, 3) := by decide +kernel
theorem dX10_stands_74 : decode cX10_stands 74 = .ok (.iload_n 2, 1) := by decide +kernel
theorem dX10_stands_75 : decode cX10_stands 75 = .ok (.iastore, 1) := by decide +kernel
theorem dX10_stands_76 : decode cX10_stands 76 = .ok (.aload_n 0, 1) := by decide +kernel
theorem dX10_stands_77 : decode cX10_stands 77 = .ok (.getfield 19, 3) := by decide +kernel
theorem dX10_stands_80 : decode cX10_stands 80 = .ok (.iload_n 1, 1) := by decide +kernel
theorem dX10_stands_81 : decode cX10_stands 81 = .ok (.iload 6, 2) := by decide +kernel
theorem dX10_stands_83 : decode cX10_stands 83 = .ok (.ifCond .eq 8, 3) := by decide +kernel
theorem dX10_stands_86 : decode cX10_stands 86 = .ok (.iload 5, 2) := by decide +kernel
theorem dX10_stands_88 : decode cX10_stands 88 = .ok (.goto 4, 3) := by decide +kernel
theorem dX10_stands_91 : decode cX10_stands 91 = .ok (.iload_n 3, 1) := by decide +kernel
theorem dX10_stands_92 : decode cX10_stands 92 = .ok (.iastore, 1) := by decide +kernel
theorem dX10_stands_93 : decode cX10_stands 93 = .ok (.return_, 1) := by decide +kernel
theorem dX10_line_0 : decode cX10_line 0 = .ok (.iload_n 1, 1) := by decide +kernel
theorem dX10_line_1 : decode cX10_line 1 = .ok (.invokestatic 121, 3) := by decide +kernel
theorem dX10_line_4 : decode cX10_line 4 = .ok (.ifCond .eq 36, 3) := by decide +kernel
theorem dX10_line_7 : decode cX10_line 7 = .ok (.iload_n 2, 1) := by decide +kernel
theorem dX10_line_8 : decode cX10_line 8 = .ok (.invokestatic 121, 3) := by decide +kernel
theorem dX10_line_11 : decode cX10_line 11 = .ok (.ifCond .eq 29, 3) := by decide +kernel
theorem dX10_line_14 : decode cX10_line 14 = .ok (.iload_n 3, 1) := by decide +kernel
theorem dX10_line_15 : decode cX10_line 15 = .ok (.invokestatic 121, 3) := by decide +kernel
theorem dX10_line_18 : decode cX10_line 18 = .ok (.ifCond .eq 22, 3) := by decide +kernel
theorem dX10_line_21 : decode cX10_line 21 = .ok (.iload 4, 2) := by decide +kernel
theorem dX10_line_23 : decode cX10_line 23 = .ok (.invokestatic 121, 3) := by decide +kernel
theorem dX10_line_26 : decode cX10_line 26 = .ok (.ifCond .eq 14, 3) := by decide +kernel
theorem dX10_line_29 : decode cX10_line 29 = .ok (.iload_n 1, 1) := by decide +kernel
theorem dX10_line_30 : decode cX10_line 30 = .ok (.iload_n 3, 1) := by decide +kernel
theorem dX10_line_31 : decode cX10_line 31 = .ok (.if_icmp .ne 12, 3) := by decide +kernel
theorem dX10_line_34 : decode cX10_line 34 = .ok (.iload_n 2, 1) := by decide +kernel
theorem dX10_line_35 : decode cX10_line 35 = .ok (.iload 4, 2) := by decide +kernel
theorem dX10_line_37 : decode cX10_line 37 = .ok (.if_icmp .ne 6, 3) := by decide +kernel
theorem dX10_line_40 : decode cX10_line 40 = .ok (.bipush (-2), 2) := by decide +kernel
theorem dX10_line_42 : decode cX10_line 42 = .ok (.ireturn, 1) := by decide +kernel
theorem dX10_line_43 : decode cX10_line 43 = .ok (.aload_n 0, 1) := by decide +kernel
theorem dX10_line_44 : decode cX10_line 44 = .ok (.getfield 109, 3) := by decide +kernel
theorem dX10_line_47 : decode cX10_line 47 = .ok (.bipush 10, 2) := by decide +kernel
theorem dX10_line_49 : decode cX10_line 49 = .ok (.if_icmp .ne 6, 3) := by decide +kernel
theorem dX10_line_52 : decode cX10_line 52 = .ok (.bipush (-4), 2) := by decide +kernel
theorem dX10_line_54 : decode cX10_line 54 = .ok (.ireturn, 1) := by decide +kernel
theorem dX10_line_55 : decode cX10_line 55 = .ok (.aload_n 0, 1) := by decide +kernel
theorem dX10_line_56 : decode cX10_line 56 = .ok (.aload_n 0, 1) := by decide +kernel
theorem dX10_line_57 : decode cX10_line 57 = .ok (.getfield 109, 3) := by decide +kernel
theorem dX10_line_60 : decode cX10_line 60 = .ok (.iload_n 1, 1) := by decide +kernel
theorem dX10_line_61 : decode cX10_line 61 = .ok (.iload_n 2, 1) := by decide +kernel
theorem dX10_line_62 : decode cX10_line 62 = .ok (.iload_n 3, 1) := by decide +kernel
theorem dX10_line_63 : decode cX10_line 63 = .ok (.iload 4, 2) := by decide +kernel
theorem dX10_line_65 : decode cX10_line 65 = .ok (.invokevirtual 125, 3) := by decide +kernel
theorem dX10_line_68 : decode cX10_line 68 = .ok (.aload_n 0, 1) := by decide +kernel
theorem dX10_line_69 : decode cX10_line 69 = .ok (.dup, 1) := by decide +kernel
theorem dX10_line_70 : decode cX10_line 70 = .ok (.getfield 109, 3) := by decide +kernel
theorem dX10_line_73 : decode cX10_line 73 = .ok (.iconst 1, 1) := by decide +kernel
theorem dX10_line_74 : decode cX10_line 74 = .ok (.iadd, 1) := by decide +kernel
theorem dX10_line_75 : decode cX10_line 75 = .ok (.putfield 109, 3) := by decide +kernel
theorem dX10_line_78 : decode cX10_line 78 = .ok (.aload_n 0, 1) := by decide +kernel
theorem dX10_line_79 : decode cX10_line 79 = .ok (.getfield 109, 3) := by decide +kernel
theorem dX10_line_82 : decode cX10_line 82 = .ok (.iconst 1, 1) := by decide +kernel
theorem dX10_line_83 : decode cX10_line 83 = .ok (.isub, 1) := by decide +kernel
theorem dX10_line_84 : decode cX10_line 84 = .ok (.ireturn, 1) := by decide +kernel
theorem dX10_drops_0 : decode cX10_drops 0 = .ok (.iload_n 1, 1) := by decide +kernel
theorem dX10_drops_1 : decode cX10_drops 1 = .ok (.iconst 1, 1) := by decide +kernel
theorem dX10_drops_2 : decode cX10_drops 2 = .ok (.iadd, 1) := by decide +kernel
theorem dX10_drops_3 : decode cX10_drops 3 = .ok (.istore_n 2, 1) := by decide +kernel
theorem dX10_drops_4 : decode cX10_drops 4 = .ok (.iload_n 2, 1) := by decide +kernel
theorem dX10_drops_5 : decode cX10_drops 5 = .ok (.aload_n 0, 1) := by decide +kernel
theorem dX10_drops_6 : decode cX10_drops 6 = .ok (.getfield 109, 3) := by decide +kernel
theorem dX10_drops_9 : decode cX10_drops 9 = .ok (.if_icmp .ge 40, 3) := by decide +kernel
theorem dX10_drops_12 : decode cX10_drops 12 = .ok (.aload_n 0, 1) := by decide +kernel
theorem dX10_drops_13 : decode cX10_drops 13 = .ok (.iload_n 2, 1) := by decide +kernel
theorem dX10_drops_14 : decode cX10_drops 14 = .ok (.iconst 1, 1) := by decide +kernel
theorem dX10_drops_15 : decode cX10_drops 15 = .ok (.isub, 1) := by decide +kernel
theorem dX10_drops_16 : decode cX10_drops 16 = .ok (.aload_n 0, 1) := by decide +kernel
theorem dX10_drops_17 : decode cX10_drops 17 = .ok (.getfield 9, 3) := by decide +kernel
theorem dX10_drops_20 : decode cX10_drops 20 = .ok (.iload_n 2, 1) := by decide +kernel
theorem dX10_drops_21 : decode cX10_drops 21 = .ok (.iaload, 1) := by decide +kernel
theorem dX10_drops_22 : decode cX10_drops 22 = .ok (.aload_n 0, 1) := by decide +kernel
theorem dX10_drops_23 : decode cX10_drops 23 = .ok (.getfield 13, 3) := by decide +kernel
theorem dX10_drops_26 : decode cX10_drops 26 = .ok (.iload_n 2, 1) := by decide +kernel
theorem dX10_drops_27 : decode cX10_drops 27 = .ok (.iaload, 1) := by decide +kernel
theorem dX10_drops_28 : decode cX10_drops 28 = .ok (.aload_n 0, 1) := by decide +kernel
theorem dX10_drops_29 : decode cX10_drops 29 = .ok (.getfield 16, 3) := by decide +kernel
theorem dX10_drops_32 : decode cX10_drops 32 = .ok (.iload_n 2, 1) := by decide +kernel
theorem dX10_drops_33 : decode cX10_drops 33 = .ok (.iaload, 1) := by decide +kernel
theorem dX10_drops_34 : decode cX10_drops 34 = .ok (.aload_n 0, 1) := by decide +kernel
theorem dX10_drops_35 : decode cX10_drops 35 = .ok (.getfield 19, 3) := by decide +kernel
theorem dX10_drops_38 : decode cX10_drops 38 = .ok (.iload_n 2, 1) := by decide +kernel
theorem dX10_drops_39 : decode cX10_drops 39 = .ok (.iaload, 1) := by decide +kernel
theorem dX10_drops_40 : decode cX10_drops 40 = .ok (.invokevirtual 125, 3) := by decide +kernel
theorem dX10_drops_43 : decode cX10_drops 43 = .ok (.iinc 2 1, 3) := by decide +kernel
theorem dX10_drops_46 : decode cX10_drops 46 = .ok (.goto (-42), 3) := by decide +kernel
theorem dX10_drops_49 : decode cX10_drops 49 = .ok (.aload_n 0, 1) := by decide +kernel
theorem dX10_drops_50 : decode cX10_drops 50 = .ok (.dup, 1) := by decide +kernel
theorem dX10_drops_51 : decode cX10_drops 51 = .ok (.getfield 109, 3) := by decide +kernel
theorem dX10_drops_54 : decode cX10_drops 54 = .ok (.iconst 1, 1) := by decide +kernel
theorem dX10_drops_55 : decode cX10_drops 55 = .ok (.isub, 1) := by decide +kernel
theorem dX10_drops_56 : decode cX10_drops 56 = .ok (.putfield 109, 3) := by decide +kernel
theorem dX10_drops_59 : decode cX10_drops 59 = .ok (.return_, 1) := by decide +kernel
theorem dX10_drop_0 : decode cX10_drop 0 = .ok (.aload_n 0, 1) := by decide +kernel
theorem dX10_drop_1 : decode cX10_drop 1 = .ok (.iload_n 1, 1) := by decide +kernel
theorem dX10_drop_2 : decode cX10_drop 2 = .ok (.invokevirtual 129, 3) := by decide +kernel
theorem dX10_drop_5 : decode cX10_drop 5 = .ok (.ifCond .ne 6, 3) := by decide +kernel
theorem dX10_drop_8 : decode cX10_drop 8 = .ok (.bipush (-2), 2) := by decide +kernel
theorem dX10_drop_10 : decode cX10_drop 10 = .ok (.ireturn, 1) := by decide +kernel
theorem dX10_drop_11 : decode cX10_drop 11 = .ok (.aload_n 0, 1) := by decide +kernel
theorem dX10_drop_12 : decode cX10_drop 12 = .ok (.iload_n 1, 1) := by decide +kernel
theorem dX10_drop_13 : decode cX10_drop 13 = .ok (.invokevirtual 132, 3) := by decide +kernel
theorem dX10_drop_16 : decode cX10_drop 16 = .ok (.aload_n 0, 1) := by decide +kernel
theorem dX10_drop_17 : decode cX10_drop 17 = .ok (.getfield 109, 3) := by decide +kernel
theorem dX10_drop_20 : decode cX10_drop 20 = .ok (.ireturn, 1) := by decide +kernel
theorem dX10_move_0 : decode cX10_move 0 = .ok (.aload_n 0, 1) := by decide +kernel
theorem dX10_move_1 : decode cX10_move 1 = .ok (.iload_n 1, 1) := by decide +kernel
theorem dX10_move_2 : decode cX10_move 2 = .ok (.invokevirtual 129, 3) := by decide +kernel
theorem dX10_move_5 : decode cX10_move 5 = .ok (.ifCond .eq 27, 3) := by decide +kernel
theorem dX10_move_8 : decode cX10_move 8 = .ok (.iload_n 2, 1) := by decide +kernel
theorem dX10_move_9 : decode cX10_move 9 = .ok (.iconst 0, 1) := by decide +kernel
theorem dX10_move_10 : decode cX10_move 10 = .ok (.iconst 1, 1) := by decide +kernel
theorem dX10_move_11 : decode cX10_move 11 = .ok (.invokestatic 113, 3) := by decide +kernel
theorem dX10_move_14 : decode cX10_move 14 = .ok (.ifCond .eq 18, 3) := by decide +kernel
theorem dX10_move_17 : decode cX10_move 17 = .ok (.iload_n 3, 1) := by decide +kernel
theorem dX10_move_18 : decode cX10_move 18 = .ok (.invokestatic 121, 3) := by decide +kernel
theorem dX10_move_21 : decode cX10_move 21 = .ok (.ifCond .eq 11, 3) := by decide +kernel
theorem dX10_move_24 : decode cX10_move 24 = .ok (.iload 4, 2) := by decide +kernel
theorem dX10_move_26 : decode cX10_move 26 = .ok (.invokestatic 121, 3) := by decide +kernel
theorem dX10_move_29 : decode cX10_move 29 = .ok (.ifCond .ne 6, 3) := by decide +kernel
theorem dX10_move_32 : decode cX10_move 32 = .ok (.bipush (-2), 2) := by decide +kernel
theorem dX10_move_34 : decode cX10_move 34 = .ok (.ireturn, 1) := by decide +kernel
theorem dX10_move_35 : decode cX10_move 35 = .ok (.iload_n 2, 1) := by decide +kernel
theorem dX10_move_36 : decode cX10_move 36 = .ok (.ifCond .ne 12, 3) := by decide +kernel
theorem dX10_move_39 : decode cX10_move 39 = .ok (.aload_n 0, 1) := by decide +kernel
theorem dX10_move_40 : decode cX10_move 40 = .ok (.getfield 16, 3) := by decide +kernel
theorem dX10_move_43 : decode cX10_move 43 = .ok (.iload_n 1, 1) := by decide +kernel
theorem dX10_move_44 : decode cX10_move 44 = .ok (.iaload, 1) := by decide +kernel
theorem dX10_move_45 : decode cX10_move 45 = .ok (.goto 9, 3) := by decide +kernel
theorem dX10_move_48 : decode cX10_move 48 = .ok (.aload_n 0, 1) := by decide +kernel
theorem dX10_move_49 : decode cX10_move 49 = .ok (.getfield 9, 3) := by decide +kernel
theorem dX10_move_52 : decode cX10_move 52 = .ok (.iload_n 1, 1) := by decide +kernel
theorem dX10_move_53 : decode cX10_move 53 = .ok (.iaload, 1) := by decide +kernel
theorem dX10_move_54 : decode cX10_move 54 = .ok (.istore 5, 2) := by decide +kernel
theorem dX10_move_56 : decode cX10_move 56 = .ok (.iload_n 2, 1) := by decide +kernel
theorem dX10_move_57 : decode cX10_move 57 = .ok (.ifCond .ne 12, 3) := by decide +kernel
theorem dX10_move_60 : decode cX10_move 60 = .ok (.aload_n 0, 1) := by decide +kernel
theorem dX10_move_61 : decode cX10_move 61 = .ok (.getfield 19, 3) := by decide +kernel
theorem dX10_move_64 : decode cX10_move 64 = .ok (.iload_n 1, 1) := by decide +kernel
theorem dX10_move_65 : decode cX10_move 65 = .ok (.iaload, 1) := by decide +kernel
theorem dX10_move_66 : decode cX10_move 66 = .ok (.goto 9, 3) := by decide +kernel
theorem dX10_move_69 : decode cX10_move 69 = .ok (.aload_n 0, 1) := by decide +kernel
theorem dX10_move_70 : decode cX10_move 70 = .ok (.getfield 13, 3) := by decide +kernel
theorem dX10_move_73 : decode cX10_move 73 = .ok (.iload_n 1, 1) := by decide +kernel
theorem dX10_move_74 : decode cX10_move 74 = .ok (.iaload, 1) := by decide +kernel
theorem dX10_move_75 : decode cX10_move 75 = .ok (.istore 6, 2) := by decide +kernel
theorem dX10_move_77 : decode cX10_move 77 = .ok (.iload_n 3, 1) := by decide +kernel
theorem dX10_move_78 : decode cX10_move 78 = .ok (.iload 5, 2) := by decide +kernel
theorem dX10_move_80 : decode cX10_move 80 = .ok (.if_icmp .ne 13, 3) := by decide +kernel
theorem dX10_move_83 : decode cX10_move 83 = .ok (.iload 4, 2) := by decide +kernel
theorem dX10_move_85 : decode cX10_move 85 = .ok (.iload 6, 2) := by decide +kernel
theorem dX10_move_87 : decode cX10_move 87 = .ok (.if_icmp .ne 6, 3) := by decide +kernel
theorem dX10_move_90 : decode cX10_move 90 = .ok (.bipush (-2), 2) := by decide +kernel
theorem dX10_move_92 : decode cX10_move 92 = .ok (.ireturn, 1) := by decide +kernel
theorem dX10_move_93 : decode cX10_move 93 = .ok (.aload_n 0, 1) := by decide +kernel
theorem dX10_move_94 : decode cX10_move 94 = .ok (.iload_n 1, 1) := by decide +kernel
theorem dX10_move_95 : decode cX10_move 95 = .ok (.iload_n 3, 1) := by decide +kernel
theorem dX10_move_96 : decode cX10_move 96 = .ok (.iload 4, 2) := by decide +kernel
theorem dX10_move_98 : decode cX10_move 98 = .ok (.iload 5, 2) := by decide +kernel
theorem dX10_move_100 : decode cX10_move 100 = .ok (.iload 6, 2) := by decide +kernel
theorem dX10_move_102 : decode cX10_move 102 = .ok (.invokevirtual 125, 3) := by decide +kernel
theorem dX10_move_105 : decode cX10_move 105 = .ok (.iconst 1, 1) := by decide +kernel
theorem dX10_move_106 : decode cX10_move 106 = .ok (.ireturn, 1) := by decide +kernel
theorem dX10_isUpright_0 : decode cX10_isUpright 0 = .ok (.aload_n 0, 1) := by decide +kernel
theorem dX10_isUpright_1 : decode cX10_isUpright 1 = .ok (.getfield 9, 3) := by decide +kernel
theorem dX10_isUpright_4 : decode cX10_isUpright 4 = .ok (.iload_n 1, 1) := by decide +kernel
theorem dX10_isUpright_5 : decode cX10_isUpright 5 = .ok (.iaload, 1) := by decide +kernel
theorem dX10_isUpright_6 : decode cX10_isUpright 6 = .ok (.aload_n 0, 1) := by decide +kernel
theorem dX10_isUpright_7 : decode cX10_isUpright 7 = .ok (.getfield 16, 3) := by decide +kernel
theorem dX10_isUpright_10 : decode cX10_isUpright 10 = .ok (.iload_n 1, 1) := by decide +kernel
theorem dX10_isUpright_11 : decode cX10_isUpright 11 = .ok (.iaload, 1) := by decide +kernel
theorem dX10_isUpright_12 : decode cX10_isUpright 12 = .ok (.if_icmp .ne 7, 3) := by decide +kernel
theorem dX10_isUpright_15 : decode cX10_isUpright 15 = .ok (.iconst 1, 1) := by decide +kernel
theorem dX10_isUpright_16 : decode cX10_isUpright 16 = .ok (.goto 4, 3) := by decide +kernel
theorem dX10_isUpright_19 : decode cX10_isUpright 19 = .ok (.iconst 0, 1) := by decide +kernel
theorem dX10_isUpright_20 : decode cX10_isUpright 20 = .ok (.ireturn, 1) := by decide +kernel
theorem dX10_turn_0 : decode cX10_turn 0 = .ok (.iload_n 1, 1) := by decide +kernel
theorem dX10_turn_1 : decode cX10_turn 1 = .ok (.iload 4, 2) := by decide +kernel
theorem dX10_turn_3 : decode cX10_turn 3 = .ok (.imul, 1) := by decide +kernel
theorem dX10_turn_4 : decode cX10_turn 4 = .ok (.iload_n 2, 1) := by decide +kernel
theorem dX10_turn_5 : decode cX10_turn 5 = .ok (.iload_n 3, 1) := by decide +kernel
theorem dX10_turn_6 : decode cX10_turn 6 = .ok (.imul, 1) := by decide +kernel
theorem dX10_turn_7 : decode cX10_turn 7 = .ok (.isub, 1) := by decide +kernel
theorem dX10_turn_8 : decode cX10_turn 8 = .ok (.ireturn, 1) := by decide +kernel
theorem dX10_isLess_0 : decode cX10_isLess 0 = .ok (.iload_n 0, 1) := by decide +kernel
theorem dX10_isLess_1 : decode cX10_isLess 1 = .ok (.iload_n 2, 1) := by decide +kernel
theorem dX10_isLess_2 : decode cX10_isLess 2 = .ok (.if_icmp .lt 13, 3) := by decide +kernel
theorem dX10_isLess_5 : decode cX10_isLess 5 = .ok (.iload_n 0, 1) := by decide +kernel
theorem dX10_isLess_6 : decode cX10_isLess 6 = .ok (.iload_n 2, 1) := by decide +kernel
theorem dX10_isLess_7 : decode cX10_isLess 7 = .ok (.if_icmp .ne 12, 3) := by decide +kernel
theorem dX10_isLess_10 : decode cX10_isLess 10 = .ok (.iload_n 1, 1) := by decide +kernel
theorem dX10_isLess_11 : decode cX10_isLess 11 = .ok (.iload_n 3, 1) := by decide +kernel
theorem dX10_isLess_12 : decode cX10_isLess 12 = .ok (.if_icmp .ge 7, 3) := by decide +kernel
theorem dX10_isLess_15 : decode cX10_isLess 15 = .ok (.iconst 1, 1) := by decide +kernel
theorem dX10_isLess_16 : decode cX10_isLess 16 = .ok (.goto 4, 3) := by decide +kernel
theorem dX10_isLess_19 : decode cX10_isLess 19 = .ok (.iconst 0, 1) := by decide +kernel
theorem dX10_isLess_20 : decode cX10_isLess 20 = .ok (.ireturn, 1) := by decide +kernel
theorem dX10_meetInRow_0 : decode cX10_meetInRow 0 = .ok (.aload_n 0, 1) := by decide +kernel
theorem dX10_meetInRow_1 : decode cX10_meetInRow 1 = .ok (.getfield 9, 3) := by decide +kernel
theorem dX10_meetInRow_4 : decode cX10_meetInRow 4 = .ok (.iload_n 1, 1) := by decide +kernel
theorem dX10_meetInRow_5 : decode cX10_meetInRow 5 = .ok (.iaload, 1) := by decide +kernel
theorem dX10_meetInRow_6 : decode cX10_meetInRow 6 = .ok (.aload_n 0, 1) := by decide +kernel
theorem dX10_meetInRow_7 : decode cX10_meetInRow 7 = .ok (.getfield 13, 3) := by decide +kernel
theorem dX10_meetInRow_10 : decode cX10_meetInRow 10 = .ok (.iload_n 1, 1) := by decide +kernel
theorem dX10_meetInRow_11 : decode cX10_meetInRow 11 = .ok (.iaload, 1) := by decide +kernel
theorem dX10_meetInRow_12 : decode cX10_meetInRow 12 = .ok (.aload_n 0, 1) := by decide +kernel
theorem dX10_meetInRow_13 : decode cX10_meetInRow 13 = .ok (.getfield 9, 3) := by decide +kernel
theorem dX10_meetInRow_16 : decode cX10_meetInRow 16 = .ok (.iload_n 2, 1) := by decide +kernel
theorem dX10_meetInRow_17 : decode cX10_meetInRow 17 = .ok (.iaload, 1) := by decide +kernel
theorem dX10_meetInRow_18 : decode cX10_meetInRow 18 = .ok (.aload_n 0, 1) := by decide +kernel
theorem dX10_meetInRow_19 : decode cX10_meetInRow 19 = .ok (.getfield 13, 3) := by decide +kernel
theorem dX10_meetInRow_22 : decode cX10_meetInRow 22 = .ok (.iload_n 2, 1) := by decide +kernel
theorem dX10_meetInRow_23 : decode cX10_meetInRow 23 = .ok (.iaload, 1) := by decide +kernel
theorem dX10_meetInRow_24 : decode cX10_meetInRow 24 = .ok (.invokestatic 136, 3) := by decide +kernel
theorem dX10_meetInRow_27 : decode cX10_meetInRow 27 = .ok (.istore_n 3, 1) := by decide +kernel
theorem dX10_meetInRow_28 : decode cX10_meetInRow 28 = .ok (.aload_n 0, 1) := by decide +kernel
theorem dX10_meetInRow_29 : decode cX10_meetInRow 29 = .ok (.getfield 16, 3) := by decide +kernel
theorem dX10_meetInRow_32 : decode cX10_meetInRow 32 = .ok (.iload_n 1, 1) := by decide +kernel
theorem dX10_meetInRow_33 : decode cX10_meetInRow 33 = .ok (.iaload, 1) := by decide +kernel
theorem dX10_meetInRow_34 : decode cX10_meetInRow 34 = .ok (.aload_n 0, 1) := by decide +kernel
theorem dX10_meetInRow_35 : decode cX10_meetInRow 35 = .ok (.getfield 19, 3) := by decide +kernel
theorem dX10_meetInRow_38 : decode cX10_meetInRow 38 = .ok (.iload_n 1, 1) := by decide +kernel
theorem dX10_meetInRow_39 : decode cX10_meetInRow 39 = .ok (.iaload, 1) := by decide +kernel
theorem dX10_meetInRow_40 : decode cX10_meetInRow 40 = .ok (.aload_n 0, 1) := by decide +kernel
theorem dX10_meetInRow_41 : decode cX10_meetInRow 41 = .ok (.getfield 16, 3) := by decide +kernel
theorem dX10_meetInRow_44 : decode cX10_meetInRow 44 = .ok (.iload_n 2, 1) := by decide +kernel
theorem dX10_meetInRow_45 : decode cX10_meetInRow 45 = .ok (.iaload, 1) := by decide +kernel
theorem dX10_meetInRow_46 : decode cX10_meetInRow 46 = .ok (.aload_n 0, 1) := by decide +kernel
theorem dX10_meetInRow_47 : decode cX10_meetInRow 47 = .ok (.getfield 19, 3) := by decide +kernel
theorem dX10_meetInRow_50 : decode cX10_meetInRow 50 = .ok (.iload_n 2, 1) := by decide +kernel
theorem dX10_meetInRow_51 : decode cX10_meetInRow 51 = .ok (.iaload, 1) := by decide +kernel
theorem dX10_meetInRow_52 : decode cX10_meetInRow 52 = .ok (.invokestatic 136, 3) := by decide +kernel
theorem dX10_meetInRow_55 : decode cX10_meetInRow 55 = .ok (.istore 4, 2) := by decide +kernel
theorem dX10_meetInRow_57 : decode cX10_meetInRow 57 = .ok (.iload_n 3, 1) := by decide +kernel
theorem dX10_meetInRow_58 : decode cX10_meetInRow 58 = .ok (.ifCond .eq 12, 3) := by decide +kernel
theorem dX10_meetInRow_61 : decode cX10_meetInRow 61 = .ok (.aload_n 0, 1) := by decide +kernel
theorem dX10_meetInRow_62 : decode cX10_meetInRow 62 = .ok (.getfield 9, 3) := by decide +kernel
theorem dX10_meetInRow_65 : decode cX10_meetInRow 65 = .ok (.iload_n 2, 1) := by decide +kernel
theorem dX10_meetInRow_66 : decode cX10_meetInRow 66 = .ok (.iaload, 1) := by decide +kernel
theorem dX10_meetInRow_67 : decode cX10_meetInRow 67 = .ok (.goto 9, 3) := by decide +kernel
theorem dX10_meetInRow_70 : decode cX10_meetInRow 70 = .ok (.aload_n 0, 1) := by decide +kernel
theorem dX10_meetInRow_71 : decode cX10_meetInRow 71 = .ok (.getfield 9, 3) := by decide +kernel
theorem dX10_meetInRow_74 : decode cX10_meetInRow 74 = .ok (.iload_n 1, 1) := by decide +kernel
theorem dX10_meetInRow_75 : decode cX10_meetInRow 75 = .ok (.iaload, 1) := by decide +kernel
theorem dX10_meetInRow_76 : decode cX10_meetInRow 76 = .ok (.istore 5, 2) := by decide +kernel
theorem dX10_meetInRow_78 : decode cX10_meetInRow 78 = .ok (.iload_n 3, 1) := by decide +kernel
theorem dX10_meetInRow_79 : decode cX10_meetInRow 79 = .ok (.ifCond .eq 12, 3) := by decide +kernel
theorem dX10_meetInRow_82 : decode cX10_meetInRow 82 = .ok (.aload_n 0, 1) := by decide +kernel
theorem dX10_meetInRow_83 : decode cX10_meetInRow 83 = .ok (.getfield 13, 3) := by decide +kernel
theorem dX10_meetInRow_86 : decode cX10_meetInRow 86 = .ok (.iload_n 2, 1) := by decide +kernel
theorem dX10_meetInRow_87 : decode cX10_meetInRow 87 = .ok (.iaload, 1) := by decide +kernel
theorem dX10_meetInRow_88 : decode cX10_meetInRow 88 = .ok (.goto 9, 3) := by decide +kernel
theorem dX10_meetInRow_91 : decode cX10_meetInRow 91 = .ok (.aload_n 0, 1) := by decide +kernel
theorem dX10_meetInRow_92 : decode cX10_meetInRow 92 = .ok (.getfield 13, 3) := by decide +kernel
theorem dX10_meetInRow_95 : decode cX10_meetInRow 95 = .ok (.iload_n 1, 1) := by decide +kernel
theorem dX10_meetInRow_96 : decode cX10_meetInRow 96 = .ok (.iaload, 1) := by decide +kernel
theorem dX10_meetInRow_97 : decode cX10_meetInRow 97 = .ok (.istore 6, 2) := by decide +kernel
theorem dX10_meetInRow_99 : decode cX10_meetInRow 99 = .ok (.iload 4, 2) := by decide +kernel
theorem dX10_meetInRow_101 : decode cX10_meetInRow 101 = .ok (.ifCond .eq 12, 3) := by decide +kernel
theorem dX10_meetInRow_104 : decode cX10_meetInRow 104 = .ok (.aload_n 0, 1) := by decide +kernel
theorem dX10_meetInRow_105 : decode cX10_meetInRow 105 = .ok (.getfield 16, 3) := by decide +kernel
theorem dX10_meetInRow_108 : decode cX10_meetInRow 108 = .ok (.iload_n 1, 1) := by decide +kernel
theorem dX10_meetInRow_109 : decode cX10_meetInRow 109 = .ok (.iaload, 1) := by decide +kernel
theorem dX10_meetInRow_110 : decode cX10_meetInRow 110 = .ok (.goto 9, 3) := by decide +kernel
theorem dX10_meetInRow_113 : decode cX10_meetInRow 113 = .ok (.aload_n 0, 1) := by decide +kernel
theorem dX10_meetInRow_114 : decode cX10_meetInRow 114 = .ok (.getfield 16, 3) := by decide +kernel
theorem dX10_meetInRow_117 : decode cX10_meetInRow 117 = .ok (.iload_n 2, 1) := by decide +kernel
theorem dX10_meetInRow_118 : decode cX10_meetInRow 118 = .ok (.iaload, 1) := by decide +kernel
theorem dX10_meetInRow_119 : decode cX10_meetInRow 119 = .ok (.istore 7, 2) := by decide +kernel
theorem dX10_meetInRow_121 : decode cX10_meetInRow 121 = .ok (.iload 4, 2) := by decide +kernel
theorem dX10_meetInRow_123 : decode cX10_meetInRow 123 = .ok (.ifCond .eq 12, 3) := by decide +kernel
theorem dX10_meetInRow_126 : decode cX10_meetInRow 126 = .ok (.aload_n 0, 1) := by decide +kernel
theorem dX10_meetInRow_127 : decode cX10_meetInRow 127 = .ok (.getfield 19, 3) := by decide +kernel
theorem dX10_meetInRow_130 : decode cX10_meetInRow 130 = .ok (.iload_n 1, 1) := by decide +kernel
theorem dX10_meetInRow_131 : decode cX10_meetInRow 131 = .ok (.iaload, 1) := by decide +kernel
theorem dX10_meetInRow_132 : decode cX10_meetInRow 132 = .ok (.goto 9, 3) := by decide +kernel
theorem dX10_meetInRow_135 : decode cX10_meetInRow 135 = .ok (.aload_n 0, 1) := by decide +kernel
theorem dX10_meetInRow_136 : decode cX10_meetInRow 136 = .ok (.getfield 19, 3) := by decide +kernel
theorem dX10_meetInRow_139 : decode cX10_meetInRow 139 = .ok (.iload_n 2, 1) := by decide +kernel
theorem dX10_meetInRow_140 : decode cX10_meetInRow 140 = .ok (.iaload, 1) := by decide +kernel
theorem dX10_meetInRow_141 : decode cX10_meetInRow 141 = .ok (.istore 8, 2) := by decide +kernel
theorem dX10_meetInRow_143 : decode cX10_meetInRow 143 = .ok (.aload_n 0, 1) := by decide +kernel
theorem dX10_meetInRow_144 : decode cX10_meetInRow 144 = .ok (.iload 5, 2) := by decide +kernel
theorem dX10_meetInRow_146 : decode cX10_meetInRow 146 = .ok (.iload 6, 2) := by decide +kernel
theorem dX10_meetInRow_148 : decode cX10_meetInRow 148 = .ok (.iload 7, 2) := by decide +kernel
theorem dX10_meetInRow_150 : decode cX10_meetInRow 150 = .ok (.iload 8, 2) := by decide +kernel
theorem dX10_meetInRow_152 : decode cX10_meetInRow 152 = .ok (.invokestatic 136, 3) := by decide +kernel
theorem dX10_meetInRow_155 : decode cX10_meetInRow 155 = .ok (.ifCond .eq 7, 3) := by decide +kernel
theorem dX10_meetInRow_158 : decode cX10_meetInRow 158 = .ok (.iconst 3, 1) := by decide +kernel
theorem dX10_meetInRow_159 : decode cX10_meetInRow 159 = .ok (.goto 22, 3) := by decide +kernel
theorem dX10_meetInRow_162 : decode cX10_meetInRow 162 = .ok (.iload 5, 2) := by decide +kernel
theorem dX10_meetInRow_164 : decode cX10_meetInRow 164 = .ok (.iload 7, 2) := by decide +kernel
theorem dX10_meetInRow_166 : decode cX10_meetInRow 166 = .ok (.if_icmp .ne 14, 3) := by decide +kernel
theorem dX10_meetInRow_169 : decode cX10_meetInRow 169 = .ok (.iload 6, 2) := by decide +kernel
theorem dX10_meetInRow_171 : decode cX10_meetInRow 171 = .ok (.iload 8, 2) := by decide +kernel
theorem dX10_meetInRow_173 : decode cX10_meetInRow 173 = .ok (.if_icmp .ne 7, 3) := by decide +kernel
theorem dX10_meetInRow_176 : decode cX10_meetInRow 176 = .ok (.iconst 2, 1) := by decide +kernel
theorem dX10_meetInRow_177 : decode cX10_meetInRow 177 = .ok (.goto 4, 3) := by decide +kernel
theorem dX10_meetInRow_180 : decode cX10_meetInRow 180 = .ok (.iconst 0, 1) := by decide +kernel
theorem dX10_meetInRow_181 : decode cX10_meetInRow 181 = .ok (.putfield 140, 3) := by decide +kernel
theorem dX10_meetInRow_184 : decode cX10_meetInRow 184 = .ok (.aload_n 0, 1) := by decide +kernel
theorem dX10_meetInRow_185 : decode cX10_meetInRow 185 = .ok (.iload 5, 2) := by decide +kernel
theorem dX10_meetInRow_187 : decode cX10_meetInRow 187 = .ok (.i2l, 1) := by decide +kernel
theorem dX10_meetInRow_188 : decode cX10_meetInRow 188 = .ok (.putfield 143, 3) := by decide +kernel
theorem dX10_meetInRow_191 : decode cX10_meetInRow 191 = .ok (.aload_n 0, 1) := by decide +kernel
theorem dX10_meetInRow_192 : decode cX10_meetInRow 192 = .ok (.iload 6, 2) := by decide +kernel
theorem dX10_meetInRow_194 : decode cX10_meetInRow 194 = .ok (.i2l, 1) := by decide +kernel
theorem dX10_meetInRow_195 : decode cX10_meetInRow 195 = .ok (.putfield 147, 3) := by decide +kernel
theorem dX10_meetInRow_198 : decode cX10_meetInRow 198 = .ok (.aload_n 0, 1) := by decide +kernel
theorem dX10_meetInRow_199 : decode cX10_meetInRow 199 = .ok (.lconst 1, 1) := by decide +kernel
theorem dX10_meetInRow_200 : decode cX10_meetInRow 200 = .ok (.putfield 150, 3) := by decide +kernel
theorem dX10_meetInRow_203 : decode cX10_meetInRow 203 = .ok (.return_, 1) := by decide +kernel
theorem dX10_meet_0 : decode cX10_meet 0 = .ok (.aload_n 0, 1) := by decide +kernel
theorem dX10_meet_1 : decode cX10_meet 1 = .ok (.getfield 16, 3) := by decide +kernel
theorem dX10_meet_4 : decode cX10_meet 4 = .ok (.iload_n 1, 1) := by decide +kernel
theorem dX10_meet_5 : decode cX10_meet 5 = .ok (.iaload, 1) := by decide +kernel
theorem dX10_meet_6 : decode cX10_meet 6 = .ok (.aload_n 0, 1) := by decide +kernel
theorem dX10_meet_7 : decode cX10_meet 7 = .ok (.getfield 9, 3) := by decide +kernel
theorem dX10_meet_10 : decode cX10_meet 10 = .ok (.iload_n 1, 1) := by decide +kernel
theorem dX10_meet_11 : decode cX10_meet 11 = .ok (.iaload, 1) := by decide +kernel
theorem dX10_meet_12 : decode cX10_meet 12 = .ok (.isub, 1) := by decide +kernel
theorem dX10_meet_13 : decode cX10_meet 13 = .ok (.istore_n 3, 1) := by decide +kernel
theorem dX10_meet_14 : decode cX10_meet 14 = .ok (.aload_n 0, 1) := by decide +kernel
theorem dX10_meet_15 : decode cX10_meet 15 = .ok (.getfield 19, 3) := by decide +kernel
theorem dX10_meet_18 : decode cX10_meet 18 = .ok (.iload_n 1, 1) := by decide +kernel
theorem dX10_meet_19 : decode cX10_meet 19 = .ok (.iaload, 1) := by decide +kernel
theorem dX10_meet_20 : decode cX10_meet 20 = .ok (.aload_n 0, 1) := by decide +kernel
theorem dX10_meet_21 : decode cX10_meet 21 = .ok (.getfield 13, 3) := by decide +kernel
theorem dX10_meet_24 : decode cX10_meet 24 = .ok (.iload_n 1, 1) := by decide +kernel
theorem dX10_meet_25 : decode cX10_meet 25 = .ok (.iaload, 1) := by decide +kernel
theorem dX10_meet_26 : decode cX10_meet 26 = .ok (.isub, 1) := by decide +kernel
theorem dX10_meet_27 : decode cX10_meet 27 = .ok (.istore 4, 2) := by decide +kernel
theorem dX10_meet_29 : decode cX10_meet 29 = .ok (.aload_n 0, 1) := by decide +kernel
theorem dX10_meet_30 : decode cX10_meet 30 = .ok (.getfield 16, 3) := by decide +kernel
theorem dX10_meet_33 : decode cX10_meet 33 = .ok (.iload_n 2, 1) := by decide +kernel
theorem dX10_meet_34 : decode cX10_meet 34 = .ok (.iaload, 1) := by decide +kernel
theorem dX10_meet_35 : decode cX10_meet 35 = .ok (.aload_n 0, 1) := by decide +kernel
theorem dX10_meet_36 : decode cX10_meet 36 = .ok (.getfield 9, 3) := by decide +kernel
theorem dX10_meet_39 : decode cX10_meet 39 = .ok (.iload_n 2, 1) := by decide +kernel
theorem dX10_meet_40 : decode cX10_meet 40 = .ok (.iaload, 1) := by decide +kernel
theorem dX10_meet_41 : decode cX10_meet 41 = .ok (.isub, 1) := by decide +kernel
theorem dX10_meet_42 : decode cX10_meet 42 = .ok (.istore 5, 2) := by decide +kernel
theorem dX10_meet_44 : decode cX10_meet 44 = .ok (.aload_n 0, 1) := by decide +kernel
theorem dX10_meet_45 : decode cX10_meet 45 = .ok (.getfield 19, 3) := by decide +kernel
theorem dX10_meet_48 : decode cX10_meet 48 = .ok (.iload_n 2, 1) := by decide +kernel
theorem dX10_meet_49 : decode cX10_meet 49 = .ok (.iaload, 1) := by decide +kernel
theorem dX10_meet_50 : decode cX10_meet 50 = .ok (.aload_n 0, 1) := by decide +kernel
theorem dX10_meet_51 : decode cX10_meet 51 = .ok (.getfield 13, 3) := by decide +kernel
theorem dX10_meet_54 : decode cX10_meet 54 = .ok (.iload_n 2, 1) := by decide +kernel
theorem dX10_meet_55 : decode cX10_meet 55 = .ok (.iaload, 1) := by decide +kernel
theorem dX10_meet_56 : decode cX10_meet 56 = .ok (.isub, 1) := by decide +kernel
theorem dX10_meet_57 : decode cX10_meet 57 = .ok (.istore 6, 2) := by decide +kernel
theorem dX10_meet_59 : decode cX10_meet 59 = .ok (.aload_n 0, 1) := by decide +kernel
theorem dX10_meet_60 : decode cX10_meet 60 = .ok (.iload_n 3, 1) := by decide +kernel
theorem dX10_meet_61 : decode cX10_meet 61 = .ok (.iload 4, 2) := by decide +kernel
theorem dX10_meet_63 : decode cX10_meet 63 = .ok (.iload 5, 2) := by decide +kernel
theorem dX10_meet_65 : decode cX10_meet 65 = .ok (.iload 6, 2) := by decide +kernel
theorem dX10_meet_67 : decode cX10_meet 67 = .ok (.invokevirtual 153, 3) := by decide +kernel
theorem dX10_meet_70 : decode cX10_meet 70 = .ok (.istore 7, 2) := by decide +kernel
theorem dX10_meet_72 : decode cX10_meet 72 = .ok (.aload_n 0, 1) := by decide +kernel
theorem dX10_meet_73 : decode cX10_meet 73 = .ok (.aload_n 0, 1) := by decide +kernel
theorem dX10_meet_74 : decode cX10_meet 74 = .ok (.getfield 9, 3) := by decide +kernel
theorem dX10_meet_77 : decode cX10_meet 77 = .ok (.iload_n 2, 1) := by decide +kernel
theorem dX10_meet_78 : decode cX10_meet 78 = .ok (.iaload, 1) := by decide +kernel
theorem dX10_meet_79 : decode cX10_meet 79 = .ok (.aload_n 0, 1) := by decide +kernel
theorem dX10_meet_80 : decode cX10_meet 80 = .ok (.getfield 9, 3) := by decide +kernel
theorem dX10_meet_83 : decode cX10_meet 83 = .ok (.iload_n 1, 1) := by decide +kernel
theorem dX10_meet_84 : decode cX10_meet 84 = .ok (.iaload, 1) := by decide +kernel
theorem dX10_meet_85 : decode cX10_meet 85 = .ok (.isub, 1) := by decide +kernel
theorem dX10_meet_86 : decode cX10_meet 86 = .ok (.aload_n 0, 1) := by decide +kernel
theorem dX10_meet_87 : decode cX10_meet 87 = .ok (.getfield 13, 3) := by decide +kernel
theorem dX10_meet_90 : decode cX10_meet 90 = .ok (.iload_n 2, 1) := by decide +kernel
theorem dX10_meet_91 : decode cX10_meet 91 = .ok (.iaload, 1) := by decide +kernel
theorem dX10_meet_92 : decode cX10_meet 92 = .ok (.aload_n 0, 1) := by decide +kernel
theorem dX10_meet_93 : decode cX10_meet 93 = .ok (.getfield 13, 3) := by decide +kernel
theorem dX10_meet_96 : decode cX10_meet 96 = .ok (.iload_n 1, 1) := by decide +kernel
theorem dX10_meet_97 : decode cX10_meet 97 = .ok (.iaload, 1) := by decide +kernel
theorem dX10_meet_98 : decode cX10_meet 98 = .ok (.isub, 1) := by decide +kernel
theorem dX10_meet_99 : decode cX10_meet 99 = .ok (.iload 5, 2) := by decide +kernel
theorem dX10_meet_101 : decode cX10_meet 101 = .ok (.iload 6, 2) := by decide +kernel
theorem dX10_meet_103 : decode cX10_meet 103 = .ok (.invokevirtual 153, 3) := by decide +kernel
theorem dX10_meet_106 : decode cX10_meet 106 = .ok (.istore 8, 2) := by decide +kernel
theorem dX10_meet_108 : decode cX10_meet 108 = .ok (.aload_n 0, 1) := by decide +kernel
theorem dX10_meet_109 : decode cX10_meet 109 = .ok (.aload_n 0, 1) := by decide +kernel
theorem dX10_meet_110 : decode cX10_meet 110 = .ok (.getfield 9, 3) := by decide +kernel
theorem dX10_meet_113 : decode cX10_meet 113 = .ok (.iload_n 2, 1) := by decide +kernel
theorem dX10_meet_114 : decode cX10_meet 114 = .ok (.iaload, 1) := by decide +kernel
theorem dX10_meet_115 : decode cX10_meet 115 = .ok (.aload_n 0, 1) := by decide +kernel
theorem dX10_meet_116 : decode cX10_meet 116 = .ok (.getfield 9, 3) := by decide +kernel
theorem dX10_meet_119 : decode cX10_meet 119 = .ok (.iload_n 1, 1) := by decide +kernel
theorem dX10_meet_120 : decode cX10_meet 120 = .ok (.iaload, 1) := by decide +kernel
theorem dX10_meet_121 : decode cX10_meet 121 = .ok (.isub, 1) := by decide +kernel
theorem dX10_meet_122 : decode cX10_meet 122 = .ok (.aload_n 0, 1) := by decide +kernel
theorem dX10_meet_123 : decode cX10_meet 123 = .ok (.getfield 13, 3) := by decide +kernel
theorem dX10_meet_126 : decode cX10_meet 126 = .ok (.iload_n 2, 1) := by decide +kernel
theorem dX10_meet_127 : decode cX10_meet 127 = .ok (.iaload, 1) := by decide +kernel
theorem dX10_meet_128 : decode cX10_meet 128 = .ok (.aload_n 0, 1) := by decide +kernel
theorem dX10_meet_129 : decode cX10_meet 129 = .ok (.getfield 13, 3) := by decide +kernel
theorem dX10_meet_132 : decode cX10_meet 132 = .ok (.iload_n 1, 1) := by decide +kernel
theorem dX10_meet_133 : decode cX10_meet 133 = .ok (.iaload, 1) := by decide +kernel
theorem dX10_meet_134 : decode cX10_meet 134 = .ok (.isub, 1) := by decide +kernel
theorem dX10_meet_135 : decode cX10_meet 135 = .ok (.iload_n 3, 1) := by decide +kernel
theorem dX10_meet_136 : decode cX10_meet 136 = .ok (.iload 4, 2) := by decide +kernel
theorem dX10_meet_138 : decode cX10_meet 138 = .ok (.invokevirtual 153, 3) := by decide +kernel
theorem dX10_meet_141 : decode cX10_meet 141 = .ok (.istore 9, 2) := by decide +kernel
theorem dX10_meet_143 : decode cX10_meet 143 = .ok (.aload_n 0, 1) := by decide +kernel
theorem dX10_meet_144 : decode cX10_meet 144 = .ok (.iconst 0, 1) := by decide +kernel
theorem dX10_meet_145 : decode cX10_meet 145 = .ok (.putfield 140, 3) := by decide +kernel
theorem dX10_meet_148 : decode cX10_meet 148 = .ok (.iload 7, 2) := by decide +kernel
theorem dX10_meet_150 : decode cX10_meet 150 = .ok (.ifCond .ne 20, 3) := by decide +kernel
theorem dX10_meet_153 : decode cX10_meet 153 = .ok (.iload 9, 2) := by decide +kernel
theorem dX10_meet_155 : decode cX10_meet 155 = .ok (.ifCond .ne 14, 3) := by decide +kernel
theorem dX10_meet_158 : decode cX10_meet 158 = .ok (.iload 8, 2) := by decide +kernel
theorem dX10_meet_160 : decode cX10_meet 160 = .ok (.ifCond .ne 9, 3) := by decide +kernel
theorem dX10_meet_163 : decode cX10_meet 163 = .ok (.aload_n 0, 1) := by decide +kernel
theorem dX10_meet_164 : decode cX10_meet 164 = .ok (.iload_n 1, 1) := by decide +kernel
theorem dX10_meet_165 : decode cX10_meet 165 = .ok (.iload_n 2, 1) := by decide +kernel
theorem dX10_meet_166 : decode cX10_meet 166 = .ok (.invokevirtual 157, 3) := by decide +kernel
theorem dX10_meet_169 : decode cX10_meet 169 = .ok (.return_, 1) := by decide +kernel
theorem dX10_meet_170 : decode cX10_meet 170 = .ok (.iload 7, 2) := by decide +kernel
theorem dX10_meet_172 : decode cX10_meet 172 = .ok (.ifCond .ge 18, 3) := by decide +kernel
theorem dX10_meet_175 : decode cX10_meet 175 = .ok (.iload 7, 2) := by decide +kernel
theorem dX10_meet_177 : decode cX10_meet 177 = .ok (.ineg, 1) := by decide +kernel
theorem dX10_meet_178 : decode cX10_meet 178 = .ok (.istore 7, 2) := by decide +kernel
theorem dX10_meet_180 : decode cX10_meet 180 = .ok (.iload 8, 2) := by decide +kernel
theorem dX10_meet_182 : decode cX10_meet 182 = .ok (.ineg, 1) := by decide +kernel
theorem dX10_meet_183 : decode cX10_meet 183 = .ok (.istore 8, 2) := by decide +kernel
theorem dX10_meet_185 : decode cX10_meet 185 = .ok (.iload 9, 2) := by decide +kernel
theorem dX10_meet_187 : decode cX10_meet 187 = .ok (.ineg, 1) := by decide +kernel
theorem dX10_meet_188 : decode cX10_meet 188 = .ok (.istore 9, 2) := by decide +kernel
theorem dX10_meet_190 : decode cX10_meet 190 = .ok (.iload 8, 2) := by decide +kernel
theorem dX10_meet_192 : decode cX10_meet 192 = .ok (.iconst 0, 1) := by decide +kernel
theorem dX10_meet_193 : decode cX10_meet 193 = .ok (.iload 7, 2) := by decide +kernel
theorem dX10_meet_195 : decode cX10_meet 195 = .ok (.invokestatic 113, 3) := by decide +kernel
theorem dX10_meet_198 : decode cX10_meet 198 = .ok (.ifCond .eq 14, 3) := by decide +kernel
theorem dX10_meet_201 : decode cX10_meet 201 = .ok (.iload 9, 2) := by decide +kernel
theorem dX10_meet_203 : decode cX10_meet 203 = .ok (.iconst 0, 1) := by decide +kernel
theorem dX10_meet_204 : decode cX10_meet 204 = .ok (.iload 7, 2) := by decide +kernel
