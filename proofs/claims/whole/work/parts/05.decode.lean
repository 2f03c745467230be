theorem dX10_isNext_32 : decode cX10_isNext 32 = .ok (.iaload, 1) := by decide +kernel
theorem dX10_isNext_33 : decode cX10_isNext 33 = .ok (.iconst 1, 1) := by decide +kernel
theorem dX10_isNext_34 : decode cX10_isNext 34 = .ok (.bastore, 1) := by decide +kernel
theorem dX10_isNext_35 : decode cX10_isNext 35 = .ok (.aload_n 0, 1) := by decide +kernel
theorem dX10_isNext_36 : decode cX10_isNext 36 = .ok (.getfield 83, 3) := by decide +kernel
theorem dX10_isNext_39 : decode cX10_isNext 39 = .ok (.aload_n 0, 1) := by decide +kernel
theorem dX10_isNext_40 : decode cX10_isNext 40 = .ok (.getfield 72, 3) := by decide +kernel
theorem dX10_isNext_43 : decode cX10_isNext 43 = .ok (.iload_n 2, 1) := by decide +kernel
theorem dX10_isNext_44 : decode cX10_isNext 44 = .ok (.iaload, 1) := by decide +kernel
theorem dX10_isNext_45 : decode cX10_isNext 45 = .ok (.aaload, 1) := by decide +kernel
theorem dX10_isNext_46 : decode cX10_isNext 46 = .ok (.aload_n 0, 1) := by decide +kernel
theorem dX10_isNext_47 : decode cX10_isNext 47 = .ok (.getfield 72, 3) := by decide +kernel
theorem dX10_isNext_50 : decode cX10_isNext 50 = .ok (.iload_n 1, 1) := by decide +kernel
theorem dX10_isNext_51 : decode cX10_isNext 51 = .ok (.iaload, 1) := by decide +kernel
theorem dX10_isNext_52 : decode cX10_isNext 52 = .ok (.iconst 1, 1) := by decide +kernel
theorem dX10_isNext_53 : decode cX10_isNext 53 = .ok (.bastore, 1) := by decide +kernel
theorem dX10_isNext_54 : decode cX10_isNext 54 = .ok (.return_, 1) := by decide +kernel
theorem dX10_tellNext_0 : decode cX10_tellNext 0 = .ok (.iconst 0, 1) := by decide +kernel
theorem dX10_tellNext_1 : decode cX10_tellNext 1 = .ok (.istore_n 1, 1) := by decide +kernel
theorem dX10_tellNext_2 : decode cX10_tellNext 2 = .ok (.iload_n 1, 1) := by decide +kernel
theorem dX10_tellNext_3 : decode cX10_tellNext 3 = .ok (.aload_n 0, 1) := by decide +kernel
theorem dX10_tellNext_4 : decode cX10_tellNext 4 = .ok (.getfield 324, 3) := by decide +kernel
theorem dX10_tellNext_7 : decode cX10_tellNext 7 = .ok (.if_icmp .ge 34, 3) := by decide +kernel
theorem dX10_tellNext_10 : decode cX10_tellNext 10 = .ok (.iconst 0, 1) := by decide +kernel
theorem dX10_tellNext_11 : decode cX10_tellNext 11 = .ok (.istore_n 2, 1) := by decide +kernel
theorem dX10_tellNext_12 : decode cX10_tellNext 12 = .ok (.iload_n 2, 1) := by decide +kernel
theorem dX10_tellNext_13 : decode cX10_tellNext 13 = .ok (.aload_n 0, 1) := by decide +kernel
theorem dX10_tellNext_14 : decode cX10_tellNext 14 = .ok (.getfield 324, 3) := by decide +kernel
theorem dX10_tellNext_17 : decode cX10_tellNext 17 = .ok (.if_icmp .ge 18, 3) := by decide +kernel
theorem dX10_tellNext_20 : decode cX10_tellNext 20 = .ok (.aload_n 0, 1) := by decide +kernel
theorem dX10_tellNext_21 : decode cX10_tellNext 21 = .ok (.getfield 83, 3) := by decide +kernel
theorem dX10_tellNext_24 : decode cX10_tellNext 24 = .ok (.iload_n 1, 1) := by decide +kernel
theorem dX10_tellNext_25 : decode cX10_tellNext 25 = .ok (.aaload, 1) := by decide +kernel
theorem dX10_tellNext_26 : decode cX10_tellNext 26 = .ok (.iload_n 2, 1) := by decide +kernel
theorem dX10_tellNext_27 : decode cX10_tellNext 27 = .ok (.iconst 0, 1) := by decide +kernel
theorem dX10_tellNext_28 : decode cX10_tellNext 28 = .ok (.bastore, 1) := by decide +kernel
theorem dX10_tellNext_29 : decode cX10_tellNext 29 = .ok (.iinc 2 1, 3) := by decide +kernel
theorem dX10_tellNext_32 : decode cX10_tellNext 32 = .ok (.goto (-20), 3) := by decide +kernel
theorem dX10_tellNext_35 : decode cX10_tellNext 35 = .ok (.iinc 1 1, 3) := by decide +kernel
theorem dX10_tellNext_38 : decode cX10_tellNext 38 = .ok (.goto (-36), 3) := by decide +kernel
theorem dX10_tellNext_41 : decode cX10_tellNext 41 = .ok (.iconst 1, 1) := by decide +kernel
theorem dX10_tellNext_42 : decode cX10_tellNext 42 = .ok (.istore_n 1, 1) := by decide +kernel
theorem dX10_tellNext_43 : decode cX10_tellNext 43 = .ok (.iload_n 1, 1) := by decide +kernel
theorem dX10_tellNext_44 : decode cX10_tellNext 44 = .ok (.aload_n 0, 1) := by decide +kernel
theorem dX10_tellNext_45 : decode cX10_tellNext 45 = .ok (.getfield 267, 3) := by decide +kernel
theorem dX10_tellNext_48 : decode cX10_tellNext 48 = .ok (.if_icmp .ge 34, 3) := by decide +kernel
theorem dX10_tellNext_51 : decode cX10_tellNext 51 = .ok (.aload_n 0, 1) := by decide +kernel
theorem dX10_tellNext_52 : decode cX10_tellNext 52 = .ok (.getfield 63, 3) := by decide +kernel
theorem dX10_tellNext_55 : decode cX10_tellNext 55 = .ok (.iload_n 1, 1) := by decide +kernel
theorem dX10_tellNext_56 : decode cX10_tellNext 56 = .ok (.iaload, 1) := by decide +kernel
theorem dX10_tellNext_57 : decode cX10_tellNext 57 = .ok (.aload_n 0, 1) := by decide +kernel
theorem dX10_tellNext_58 : decode cX10_tellNext 58 = .ok (.getfield 63, 3) := by decide +kernel
theorem dX10_tellNext_61 : decode cX10_tellNext 61 = .ok (.iload_n 1, 1) := by decide +kernel
theorem dX10_tellNext_62 : decode cX10_tellNext 62 = .ok (.iconst 1, 1) := by decide +kernel
theorem dX10_tellNext_63 : decode cX10_tellNext 63 = .ok (.isub, 1) := by decide +kernel
theorem dX10_tellNext_64 : decode cX10_tellNext 64 = .ok (.iaload, 1) := by decide +kernel
theorem dX10_tellNext_65 : decode cX10_tellNext 65 = .ok (.if_icmp .ne 11, 3) := by decide +kernel
theorem dX10_tellNext_68 : decode cX10_tellNext 68 = .ok (.aload_n 0, 1) := by decide +kernel
theorem dX10_tellNext_69 : decode cX10_tellNext 69 = .ok (.iload_n 1, 1) := by decide +kernel
theorem dX10_tellNext_70 : decode cX10_tellNext 70 = .ok (.iconst 1, 1) := by decide +kernel
theorem dX10_tellNext_71 : decode cX10_tellNext 71 = .ok (.isub, 1) := by decide +kernel
theorem dX10_tellNext_72 : decode cX10_tellNext 72 = .ok (.iload_n 1, 1) := by decide +kernel
theorem dX10_tellNext_73 : decode cX10_tellNext 73 = .ok (.invokevirtual 336, 3) := by decide +kernel
theorem dX10_tellNext_76 : decode cX10_tellNext 76 = .ok (.iinc 1 1, 3) := by decide +kernel
theorem dX10_tellNext_79 : decode cX10_tellNext 79 = .ok (.goto (-36), 3) := by decide +kernel
theorem dX10_tellNext_82 : decode cX10_tellNext 82 = .ok (.iconst 1, 1) := by decide +kernel
theorem dX10_tellNext_83 : decode cX10_tellNext 83 = .ok (.istore_n 1, 1) := by decide +kernel
theorem dX10_tellNext_84 : decode cX10_tellNext 84 = .ok (.iload_n 1, 1) := by decide +kernel
theorem dX10_tellNext_85 : decode cX10_tellNext 85 = .ok (.aload_n 0, 1) := by decide +kernel
theorem dX10_tellNext_86 : decode cX10_tellNext 86 = .ok (.getfield 278, 3) := by decide +kernel
theorem dX10_tellNext_89 : decode cX10_tellNext 89 = .ok (.if_icmp .ge 161, 3) := by decide +kernel
theorem dX10_tellNext_92 : decode cX10_tellNext 92 = .ok (.aload_n 0, 1) := by decide +kernel
theorem dX10_tellNext_93 : decode cX10_tellNext 93 = .ok (.getfield 60, 3) := by decide +kernel
theorem dX10_tellNext_96 : decode cX10_tellNext 96 = .ok (.iload_n 1, 1) := by decide +kernel
theorem dX10_tellNext_97 : decode cX10_tellNext 97 = .ok (.iconst 1, 1) := by decide +kernel
theorem dX10_tellNext_98 : decode cX10_tellNext 98 = .ok (.isub, 1) := by decide +kernel
theorem dX10_tellNext_99 : decode cX10_tellNext 99 = .ok (.iaload, 1) := by decide +kernel
theorem dX10_tellNext_100 : decode cX10_tellNext 100 = .ok (.istore_n 2, 1) := by decide +kernel
theorem dX10_tellNext_101 : decode cX10_tellNext 101 = .ok (.iload_n 2, 1) := by decide +kernel
theorem dX10_tellNext_102 : decode cX10_tellNext 102 = .ok (.aload_n 0, 1) := by decide +kernel
theorem dX10_tellNext_103 : decode cX10_tellNext 103 = .ok (.getfield 60, 3) := by decide +kernel
theorem dX10_tellNext_106 : decode cX10_tellNext 106 = .ok (.iload_n 1, 1) := by decide +kernel
theorem dX10_tellNext_107 : decode cX10_tellNext 107 = .ok (.iaload, 1) := by decide +kernel
theorem dX10_tellNext_108 : decode cX10_tellNext 108 = .ok (.if_icmp .ge 136, 3) := by decide +kernel
theorem dX10_tellNext_111 : decode cX10_tellNext 111 = .ok (.aload_n 0, 1) := by decide +kernel
theorem dX10_tellNext_112 : decode cX10_tellNext 112 = .ok (.getfield 60, 3) := by decide +kernel
theorem dX10_tellNext_115 : decode cX10_tellNext 115 = .ok (.iload_n 1, 1) := by decide +kernel
theorem dX10_tellNext_116 : decode cX10_tellNext 116 = .ok (.iaload, 1) := by decide +kernel
theorem dX10_tellNext_117 : decode cX10_tellNext 117 = .ok (.istore_n 3, 1) := by decide +kernel
theorem dX10_tellNext_118 : decode cX10_tellNext 118 = .ok (.iload_n 3, 1) := by decide +kernel
theorem dX10_tellNext_119 : decode cX10_tellNext 119 = .ok (.aload_n 0, 1) := by decide +kernel
theorem dX10_tellNext_120 : decode cX10_tellNext 120 = .ok (.getfield 60, 3) := by decide +kernel
theorem dX10_tellNext_123 : decode cX10_tellNext 123 = .ok (.iload_n 1, 1) := by decide +kernel
theorem dX10_tellNext_124 : decode cX10_tellNext 124 = .ok (.iconst 1, 1) := by decide +kernel
theorem dX10_tellNext_125 : decode cX10_tellNext 125 = .ok (.iadd, 1) := by decide +kernel
theorem dX10_tellNext_126 : decode cX10_tellNext 126 = .ok (.iaload, 1) := by decide +kernel
theorem dX10_tellNext_127 : decode cX10_tellNext 127 = .ok (.if_icmp .ge 111, 3) := by decide +kernel
theorem dX10_tellNext_130 : decode cX10_tellNext 130 = .ok (.aload_n 0, 1) := by decide +kernel
theorem dX10_tellNext_131 : decode cX10_tellNext 131 = .ok (.invokevirtual 309, 3) := by decide +kernel
theorem dX10_tellNext_134 : decode cX10_tellNext 134 = .ok (.aload_n 0, 1) := by decide +kernel
theorem dX10_tellNext_135 : decode cX10_tellNext 135 = .ok (.iload_n 2, 1) := by decide +kernel
theorem dX10_tellNext_136 : decode cX10_tellNext 136 = .ok (.aload_n 0, 1) := by decide +kernel
theorem dX10_tellNext_137 : decode cX10_tellNext 137 = .ok (.getfield 54, 3) := by decide +kernel
theorem dX10_tellNext_140 : decode cX10_tellNext 140 = .ok (.iload_n 1, 1) := by decide +kernel
theorem dX10_tellNext_141 : decode cX10_tellNext 141 = .ok (.laload, 1) := by decide +kernel
theorem dX10_tellNext_142 : decode cX10_tellNext 142 = .ok (.aload_n 0, 1) := by decide +kernel
theorem dX10_tellNext_143 : decode cX10_tellNext 143 = .ok (.getfield 57, 3) := by decide +kernel
theorem dX10_tellNext_146 : decode cX10_tellNext 146 = .ok (.iload_n 1, 1) := by decide +kernel
theorem dX10_tellNext_147 : decode cX10_tellNext 147 = .ok (.laload, 1) := by decide +kernel
theorem dX10_tellNext_148 : decode cX10_tellNext 148 = .ok (.invokevirtual 312, 3) := by decide +kernel
theorem dX10_tellNext_151 : decode cX10_tellNext 151 = .ok (.aload_n 0, 1) := by decide +kernel
theorem dX10_tellNext_152 : decode cX10_tellNext 152 = .ok (.iload_n 3, 1) := by decide +kernel
theorem dX10_tellNext_153 : decode cX10_tellNext 153 = .ok (.aload_n 0, 1) := by decide +kernel
theorem dX10_tellNext_154 : decode cX10_tellNext 154 = .ok (.getfield 54, 3) := by decide +kernel
theorem dX10_tellNext_157 : decode cX10_tellNext 157 = .ok (.iload_n 1, 1) := by decide +kernel
theorem dX10_tellNext_158 : decode cX10_tellNext 158 = .ok (.laload, 1) := by decide +kernel
theorem dX10_tellNext_159 : decode cX10_tellNext 159 = .ok (.aload_n 0, 1) := by decide +kernel
theorem dX10_tellNext_160 : decode cX10_tellNext 160 = .ok (.getfield 57, 3) := by decide +kernel
theorem dX10_tellNext_163 : decode cX10_tellNext 163 = .ok (.iload_n 1, 1) := by decide +kernel
theorem dX10_tellNext_164 : decode cX10_tellNext 164 = .ok (.laload, 1) := by decide +kernel
theorem dX10_tellNext_165 : decode cX10_tellNext 165 = .ok (.invokevirtual 312, 3) := by decide +kernel
theorem dX10_tellNext_168 : decode cX10_tellNext 168 = .ok (.aload_n 0, 1) := by decide +kernel
theorem dX10_tellNext_169 : decode cX10_tellNext 169 = .ok (.invokevirtual 316, 3) := by decide +kernel
theorem dX10_tellNext_172 : decode cX10_tellNext 172 = .ok (.ifCond .ne 6, 3) := by decide +kernel
theorem dX10_tellNext_175 : decode cX10_tellNext 175 = .ok (.goto 57, 3) := by decide +kernel
theorem dX10_tellNext_178 : decode cX10_tellNext 178 = .ok (.iconst 0, 1) := by decide +kernel
theorem dX10_tellNext_179 : decode cX10_tellNext 179 = .ok (.istore 4, 2) := by decide +kernel
theorem dX10_tellNext_181 : decode cX10_tellNext 181 = .ok (.iload 4, 2) := by decide +kernel
theorem dX10_tellNext_183 : decode cX10_tellNext 183 = .ok (.aload_n 0, 1) := by decide +kernel
theorem dX10_tellNext_184 : decode cX10_tellNext 184 = .ok (.getfield 109, 3) := by decide +kernel
theorem dX10_tellNext_187 : decode cX10_tellNext 187 = .ok (.if_icmp .ge 45, 3) := by decide +kernel
theorem dX10_tellNext_190 : decode cX10_tellNext 190 = .ok (.aload_n 0, 1) := by decide +kernel
theorem dX10_tellNext_191 : decode cX10_tellNext 191 = .ok (.iload 4, 2) := by decide +kernel
theorem dX10_tellNext_193 : decode cX10_tellNext 193 = .ok (.aload_n 0, 1) := by decide +kernel
theorem dX10_tellNext_194 : decode cX10_tellNext 194 = .ok (.getfield 54, 3) := by decide +kernel
theorem dX10_tellNext_197 : decode cX10_tellNext 197 = .ok (.iload_n 1, 1) := by decide +kernel
theorem dX10_tellNext_198 : decode cX10_tellNext 198 = .ok (.laload, 1) := by decide +kernel
theorem dX10_tellNext_199 : decode cX10_tellNext 199 = .ok (.aload_n 0, 1) := by decide +kernel
theorem dX10_tellNext_200 : decode cX10_tellNext 200 = .ok (.getfield 57, 3) := by decide +kernel
theorem dX10_tellNext_203 : decode cX10_tellNext 203 = .ok (.iload_n 1, 1) := by decide +kernel
theorem dX10_tellNext_204 : decode cX10_tellNext 204 = .ok (.laload, 1) := by decide +kernel
theorem dX10_tellNext_205 : decode cX10_tellNext 205 = .ok (.invokevirtual 306, 3) := by decide +kernel
theorem dX10_tellNext_208 : decode cX10_tellNext 208 = .ok (.ifCond .eq 18, 3) := by decide +kernel
theorem dX10_tellNext_211 : decode cX10_tellNext 211 = .ok (.aload_n 0, 1) := by decide +kernel
theorem dX10_tellNext_212 : decode cX10_tellNext 212 = .ok (.iload 4, 2) := by decide +kernel
theorem dX10_tellNext_214 : decode cX10_tellNext 214 = .ok (.invokevirtual 330, 3) := by decide +kernel
theorem dX10_tellNext_217 : decode cX10_tellNext 217 = .ok (.ifCond .eq 9, 3) := by decide +kernel
theorem dX10_tellNext_220 : decode cX10_tellNext 220 = .ok (.aload_n 0, 1) := by decide +kernel
theorem dX10_tellNext_221 : decode cX10_tellNext 221 = .ok (.iload_n 2, 1) := by decide +kernel
theorem dX10_tellNext_222 : decode cX10_tellNext 222 = .ok (.iload_n 3, 1) := by decide +kernel
theorem dX10_tellNext_223 : decode cX10_tellNext 223 = .ok (.invokevirtual 336, 3) := by decide +kernel
theorem dX10_tellNext_226 : decode cX10_tellNext 226 = .ok (.iinc 4 1, 3) := by decide +kernel
theorem dX10_tellNext_229 : decode cX10_tellNext 229 = .ok (.goto (-48), 3) := by decide +kernel
theorem dX10_tellNext_232 : decode cX10_tellNext 232 = .ok (.iinc 3 1, 3) := by decide +kernel
theorem dX10_tellNext_235 : decode cX10_tellNext 235 = .ok (.goto (-117), 3) := by decide +kernel
theorem dX10_tellNext_238 : decode cX10_tellNext 238 = .ok (.iinc 2 1, 3) := by decide +kernel
theorem dX10_tellNext_241 : decode cX10_tellNext 241 = .ok (.goto (-140), 3) := by decide +kernel
theorem dX10_tellNext_244 : decode cX10_tellNext 244 = .ok (.iinc 1 1, 3) := by decide +kernel
theorem dX10_tellNext_247 : decode cX10_tellNext 247 = .ok (.goto (-163), 3) := by decide +kernel
theorem dX10_tellNext_250 : decode cX10_tellNext 250 = .ok (.return_, 1) := by decide +kernel
theorem dX10_nextTo_0 : decode cX10_nextTo 0 = .ok (.aload_n 0, 1) := by decide +kernel
theorem dX10_nextTo_1 : decode cX10_nextTo 1 = .ok (.invokevirtual 339, 3) := by decide +kernel
theorem dX10_nextTo_4 : decode cX10_nextTo 4 = .ok (.iconst 0, 1) := by decide +kernel
theorem dX10_nextTo_5 : decode cX10_nextTo 5 = .ok (.istore_n 2, 1) := by decide +kernel
theorem dX10_nextTo_6 : decode cX10_nextTo 6 = .ok (.iconst 0, 1) := by decide +kernel
theorem dX10_nextTo_7 : decode cX10_nextTo 7 = .ok (.istore_n 3, 1) := by decide +kernel
theorem dX10_nextTo_8 : decode cX10_nextTo 8 = .ok (.iload_n 3, 1) := by decide +kernel
theorem dX10_nextTo_9 : decode cX10_nextTo 9 = .ok (.aload_n 0, 1) := by decide +kernel
theorem dX10_nextTo_10 : decode cX10_nextTo 10 = .ok (.getfield 324, 3) := by decide +kernel
theorem dX10_nextTo_13 : decode cX10_nextTo 13 = .ok (.if_icmp .ge 23, 3) := by decide +kernel
theorem dX10_nextTo_16 : decode cX10_nextTo 16 = .ok (.aload_n 0, 1) := by decide +kernel
theorem dX10_nextTo_17 : decode cX10_nextTo 17 = .ok (.getfield 83, 3) := by decide +kernel
theorem dX10_nextTo_20 : decode cX10_nextTo 20 = .ok (.iload_n 1, 1) := by decide +kernel
theorem dX10_nextTo_21 : decode cX10_nextTo 21 = .ok (.aaload, 1) := by decide +kernel
theorem dX10_nextTo_22 : decode cX10_nextTo 22 = .ok (.iload_n 3, 1) := by decide +kernel
theorem dX10_nextTo_23 : decode cX10_nextTo 23 = .ok (.baload, 1) := by decide +kernel
theorem dX10_nextTo_24 : decode cX10_nextTo 24 = .ok (.ifCond .eq 6, 3) := by decide +kernel
theorem dX10_nextTo_27 : decode cX10_nextTo 27 = .ok (.iinc 2 1, 3) := by decide +kernel
theorem dX10_nextTo_30 : decode cX10_nextTo 30 = .ok (.iinc 3 1, 3) := by decide +kernel
theorem dX10_nextTo_33 : decode cX10_nextTo 33 = .ok (.goto (-25), 3) := by decide +kernel
theorem dX10_nextTo_36 : decode cX10_nextTo 36 = .ok (.iload_n 2, 1) := by decide +kernel
theorem dX10_nextTo_37 : decode cX10_nextTo 37 = .ok (.ireturn, 1) := by decide +kernel
theorem dX10_face_0 : decode cX10_face 0 = .ok (.iload_n 2, 1) := by decide +kernel
theorem dX10_face_1 : decode cX10_face 1 = .ok (.iconst 0, 1) := by decide +kernel
theorem dX10_face_2 : decode cX10_face 2 = .ok (.iconst 4, 1) := by decide +kernel
theorem dX10_face_3 : decode cX10_face 3 = .ok (.invokestatic 113, 3) := by decide +kernel
theorem dX10_face_6 : decode cX10_face 6 = .ok (.ifCond .ne 6, 3) := by decide +kernel
theorem dX10_face_9 : decode cX10_face 9 = .ok (.bipush (-2), 2) := by decide +kernel
theorem dX10_face_11 : decode cX10_face 11 = .ok (.ireturn, 1) := by decide +kernel
theorem dX10_face_12 : decode cX10_face 12 = .ok (.aload_n 0, 1) := by decide +kernel
theorem dX10_face_13 : decode cX10_face 13 = .ok (.invokevirtual 327, 3) := by decide +kernel
theorem dX10_face_16 : decode cX10_face 16 = .ok (.iload_n 1, 1) := by decide +kernel
theorem dX10_face_17 : decode cX10_face 17 = .ok (.iconst 0, 1) := by decide +kernel
theorem dX10_face_18 : decode cX10_face 18 = .ok (.aload_n 0, 1) := by decide +kernel
theorem dX10_face_19 : decode cX10_face 19 = .ok (.getfield 324, 3) := by decide +kernel
theorem dX10_face_22 : decode cX10_face 22 = .ok (.iconst 1, 1) := by decide +kernel
theorem dX10_face_23 : decode cX10_face 23 = .ok (.isub, 1) := by decide +kernel
theorem dX10_face_24 : decode cX10_face 24 = .ok (.invokestatic 113, 3) := by decide +kernel
theorem dX10_face_27 : decode cX10_face 27 = .ok (.ifCond .ne 6, 3) := by decide +kernel
theorem dX10_face_30 : decode cX10_face 30 = .ok (.bipush (-12), 2) := by decide +kernel
theorem dX10_face_32 : decode cX10_face 32 = .ok (.ireturn, 1) := by decide +kernel
theorem dX10_face_33 : decode cX10_face 33 = .ok (.iconst 0, 1) := by decide +kernel
theorem dX10_face_34 : decode cX10_face 34 = .ok (.istore_n 3, 1) := by decide +kernel
theorem dX10_face_35 : decode cX10_face 35 = .ok (.iconst 0, 1) := by decide +kernel
theorem dX10_face_36 : decode cX10_face 36 = .ok (.istore 4, 2) := by decide +kernel
theorem dX10_face_38 : decode cX10_face 38 = .ok (.iload 4, 2) := by decide +kernel
theorem dX10_face_40 : decode cX10_face 40 = .ok (.aload_n 0, 1) := by decide +kernel
theorem dX10_face_41 : decode cX10_face 41 = .ok (.getfield 267, 3) := by decide +kernel
theorem dX10_face_44 : decode cX10_face 44 = .ok (.if_icmp .ge 23, 3) := by decide +kernel
theorem dX10_face_47 : decode cX10_face 47 = .ok (.aload_n 0, 1) := by decide +kernel
theorem dX10_face_48 : decode cX10_face 48 = .ok (.getfield 72, 3) := by decide +kernel
theorem dX10_face_51 : decode cX10_face 51 = .ok (.iload 4, 2) := by decide +kernel
theorem dX10_face_53 : decode cX10_face 53 = .ok (.iaload, 1) := by decide +kernel
theorem dX10_face_54 : decode cX10_face 54 = .ok (.iload_n 1, 1) := by decide +kernel
theorem dX10_face_55 : decode cX10_face 55 = .ok (.if_icmp .ne 6, 3) := by decide +kernel
theorem dX10_face_58 : decode cX10_face 58 = .ok (.iinc 3 1, 3) := by decide +kernel
theorem dX10_face_61 : decode cX10_face 61 = .ok (.iinc 4 1, 3) := by decide +kernel
theorem dX10_face_64 : decode cX10_face 64 = .ok (.goto (-26), 3) := by decide +kernel
theorem dX10_face_67 : decode cX10_face 67 = .ok (.iload_n 2, 1) := by decide +kernel
theorem dX10_face_68 : decode cX10_face 68 = .ok (.ifCond .ne 12, 3) := by decide +kernel
theorem dX10_face_71 : decode cX10_face 71 = .ok (.aload_n 0, 1) := by decide +kernel
theorem dX10_face_72 : decode cX10_face 72 = .ok (.getfield 78, 3) := by decide +kernel
theorem dX10_face_75 : decode cX10_face 75 = .ok (.iload_n 1, 1) := by decide +kernel
theorem dX10_face_76 : decode cX10_face 76 = .ok (.iaload, 1) := by decide +kernel
theorem dX10_face_77 : decode cX10_face 77 = .ok (.goto 53, 3) := by decide +kernel
theorem dX10_face_80 : decode cX10_face 80 = .ok (.iload_n 2, 1) := by decide +kernel
theorem dX10_face_81 : decode cX10_face 81 = .ok (.iconst 1, 1) := by decide +kernel
theorem dX10_face_82 : decode cX10_face 82 = .ok (.if_icmp .ne 7, 3) := by decide +kernel
theorem dX10_face_85 : decode cX10_face 85 = .ok (.iload_n 3, 1) := by decide +kernel
theorem dX10_face_86 : decode cX10_face 86 = .ok (.goto 44, 3) := by decide +kernel
theorem dX10_face_89 : decode cX10_face 89 = .ok (.iload_n 2, 1) := by decide +kernel
theorem dX10_face_90 : decode cX10_face 90 = .ok (.iconst 2, 1) := by decide +kernel
theorem dX10_face_91 : decode cX10_face 91 = .ok (.if_icmp .ne 11, 3) := by decide +kernel
theorem dX10_face_94 : decode cX10_face 94 = .ok (.aload_n 0, 1) := by decide +kernel
theorem dX10_face_95 : decode cX10_face 95 = .ok (.iload_n 1, 1) := by decide +kernel
theorem dX10_face_96 : decode cX10_face 96 = .ok (.invokevirtual 342, 3) := by decide +kernel
theorem dX10_face_99 : decode cX10_face 99 = .ok (.goto 31, 3) := by decide +kernel
theorem dX10_face_102 : decode cX10_face 102 = .ok (.iload_n 2, 1) := by decide +kernel
theorem dX10_face_103 : decode cX10_face 103 = .ok (.iconst 3, 1) := by decide +kernel
theorem dX10_face_104 : decode cX10_face 104 = .ok (.if_icmp .ne 11, 3) := by decide +kernel
theorem dX10_face_107 : decode cX10_face 107 = .ok (.aload_n 0, 1) := by decide +kernel
theorem dX10_face_108 : decode cX10_face 108 = .ok (.iload_n 1, 1) := by decide +kernel
theorem dX10_face_109 : decode cX10_face 109 = .ok (.invokevirtual 345, 3) := by decide +kernel
theorem dX10_face_112 : decode cX10_face 112 = .ok (.goto 18, 3) := by decide +kernel
theorem dX10_face_115 : decode cX10_face 115 = .ok (.aload_n 0, 1) := by decide +kernel
theorem dX10_face_116 : decode cX10_face 116 = .ok (.getfield 72, 3) := by decide +kernel
theorem dX10_face_119 : decode cX10_face 119 = .ok (.iconst 0, 1) := by decide +kernel
theorem dX10_face_120 : decode cX10_face 120 = .ok (.iaload, 1) := by decide +kernel
theorem dX10_face_121 : decode cX10_face 121 = .ok (.iload_n 1, 1) := by decide +kernel
theorem dX10_face_122 : decode cX10_face 122 = .ok (.if_icmp .ne 7, 3) := by decide +kernel
theorem dX10_face_125 : decode cX10_face 125 = .ok (.iconst 1, 1) := by decide +kernel
theorem dX10_face_126 : decode cX10_face 126 = .ok (.goto 4, 3) := by decide +kernel
theorem dX10_face_129 : decode cX10_face 129 = .ok (.iconst 0, 1) := by decide +kernel
theorem dX10_face_130 : decode cX10_face 130 = .ok (.ireturn, 1) := by decide +kernel
theorem dX10_isPlace_0 : decode cX10_isPlace 0 = .ok (.iload_n 0, 1) := by decide +kernel
theorem dX10_isPlace_1 : decode cX10_isPlace 1 = .ok (.sipush (-400), 3) := by decide +kernel
theorem dX10_isPlace_4 : decode cX10_isPlace 4 = .ok (.sipush 800, 3) := by decide +kernel
theorem dX10_isPlace_7 : decode cX10_isPlace 7 = .ok (.invokestatic 113, 3) := by decide +kernel
theorem dX10_isPlace_10 : decode cX10_isPlace 10 = .ok (.ifCond .eq 30, 3) := by decide +kernel
theorem dX10_isPlace_13 : decode cX10_isPlace 13 = .ok (.iload_n 1, 1) := by decide +kernel
theorem dX10_isPlace_14 : decode cX10_isPlace 14 = .ok (.sipush (-400), 3) := by decide +kernel
theorem dX10_isPlace_17 : decode cX10_isPlace 17 = .ok (.sipush 800, 3) := by decide +kernel
theorem dX10_isPlace_20 : decode cX10_isPlace 20 = .ok (.invokestatic 113, 3) := by decide +kernel
theorem dX10_isPlace_23 : decode cX10_isPlace 23 = .ok (.ifCond .eq 17, 3) := by decide +kernel
theorem dX10_isPlace_26 : decode cX10_isPlace 26 = .ok (.iload_n 2, 1) := by decide +kernel
theorem dX10_isPlace_27 : decode cX10_isPlace 27 = .ok (.iconst 1, 1) := by decide +kernel
theorem dX10_isPlace_28 : decode cX10_isPlace 28 = .ok (.bipush 10, 2) := by decide +kernel
theorem dX10_isPlace_30 : decode cX10_isPlace 30 = .ok (.invokestatic 113, 3) := by decide +kernel
theorem dX10_isPlace_33 : decode cX10_isPlace 33 = .ok (.ifCond .eq 7, 3) := by decide +kernel
theorem dX10_isPlace_36 : decode cX10_isPlace 36 = .ok (.iconst 1, 1) := by decide +kernel
theorem dX10_isPlace_37 : decode cX10_isPlace 37 = .ok (.goto 4, 3) := by decide +kernel
theorem dX10_isPlace_40 : decode cX10_isPlace 40 = .ok (.iconst 0, 1) := by decide +kernel
theorem dX10_isPlace_41 : decode cX10_isPlace 41 = .ok (.ireturn, 1) := by decide +kernel
theorem dX10_where_0 : decode cX10_where 0 = .ok (.iload_n 1, 1) := by decide +kernel
theorem dX10_where_1 : decode cX10_where 1 = .ok (.iload_n 2, 1) := by decide +kernel
theorem dX10_where_2 : decode cX10_where 2 = .ok (.iload_n 3, 1) := by decide +kernel
theorem dX10_where_3 : decode cX10_where 3 = .ok (.invokestatic 348, 3) := by decide +kernel
theorem dX10_where_6 : decode cX10_where 6 = .ok (.ifCond .ne 6, 3) := by decide +kernel
theorem dX10_where_9 : decode cX10_where 9 = .ok (.bipush (-2), 2) := by decide +kernel
theorem dX10_where_11 : decode cX10_where 11 = .ok (.ireturn, 1) := by decide +kernel
theorem dX10_where_12 : decode cX10_where 12 = .ok (.aload_n 0, 1) := by decide +kernel
theorem dX10_where_13 : decode cX10_where 13 = .ok (.iload_n 1, 1) := by decide +kernel
theorem dX10_where_14 : decode cX10_where 14 = .ok (.i2l, 1) := by decide +kernel
theorem dX10_where_15 : decode cX10_where 15 = .ok (.iload_n 3, 1) := by decide +kernel
theorem dX10_where_16 : decode cX10_where 16 = .ok (.i2l, 1) := by decide +kernel
theorem dX10_where_17 : decode cX10_where 17 = .ok (.iload_n 2, 1) := by decide +kernel
theorem dX10_where_18 : decode cX10_where 18 = .ok (.i2l, 1) := by decide +kernel
theorem dX10_where_19 : decode cX10_where 19 = .ok (.iload_n 3, 1) := by decide +kernel
theorem dX10_where_20 : decode cX10_where 20 = .ok (.i2l, 1) := by decide +kernel
theorem dX10_where_21 : decode cX10_where 21 = .ok (.invokevirtual 200, 3) := by decide +kernel
theorem dX10_where_24 : decode cX10_where 24 = .ok (.ifCond .eq 5, 3) := by decide +kernel
theorem dX10_where_27 : decode cX10_where 27 = .ok (.iconst (-1), 1) := by decide +kernel
theorem dX10_where_28 : decode cX10_where 28 = .ok (.ireturn, 1) := by decide +kernel
theorem dX10_where_29 : decode cX10_where 29 = .ok (.aload_n 0, 1) := by decide +kernel
theorem dX10_where_30 : decode cX10_where 30 = .ok (.invokevirtual 327, 3) := by decide +kernel
theorem dX10_where_33 : decode cX10_where 33 = .ok (.iconst 0, 1) := by decide +kernel
theorem dX10_where_34 : decode cX10_where 34 = .ok (.istore 4, 2) := by decide +kernel
theorem dX10_where_36 : decode cX10_where 36 = .ok (.iload 4, 2) := by decide +kernel
theorem dX10_where_38 : decode cX10_where 38 = .ok (.iconst 1, 1) := by decide +kernel
theorem dX10_where_39 : decode cX10_where 39 = .ok (.iadd, 1) := by decide +kernel
theorem dX10_where_40 : decode cX10_where 40 = .ok (.aload_n 0, 1) := by decide +kernel
theorem dX10_where_41 : decode cX10_where 41 = .ok (.getfield 278, 3) := by decide +kernel
theorem dX10_where_44 : decode cX10_where 44 = .ok (.if_icmp .ge 37, 3) := by decide +kernel
theorem dX10_where_47 : decode cX10_where 47 = .ok (.aload_n 0, 1) := by decide +kernel
theorem dX10_where_48 : decode cX10_where 48 = .ok (.getfield 54, 3) := by decide +kernel
theorem dX10_where_51 : decode cX10_where 51 = .ok (.iload 4, 2) := by decide +kernel
theorem dX10_where_53 : decode cX10_where 53 = .ok (.iconst 1, 1) := by decide +kernel
theorem dX10_where_54 : decode cX10_where 54 = .ok (.iadd, 1) := by decide +kernel
theorem dX10_where_55 : decode cX10_where 55 = .ok (.laload, 1) := by decide +kernel
theorem dX10_where_56 : decode cX10_where 56 = .ok (.iload_n 3, 1) := by decide +kernel
theorem dX10_where_57 : decode cX10_where 57 = .ok (.i2l, 1) := by decide +kernel
theorem dX10_where_58 : decode cX10_where 58 = .ok (.lmul, 1) := by decide +kernel
theorem dX10_where_59 : decode cX10_where 59 = .ok (.iload_n 1, 1) := by decide +kernel
theorem dX10_where_60 : decode cX10_where 60 = .ok (.i2l, 1) := by decide +kernel
theorem dX10_where_61 : decode cX10_where 61 = .ok (.aload_n 0, 1) := by decide +kernel
theorem dX10_where_62 : decode cX10_where 62 = .ok (.getfield 57, 3) := by decide +kernel
theorem dX10_where_65 : decode cX10_where 65 = .ok (.iload 4, 2) := by decide +kernel
theorem dX10_where_67 : decode cX10_where 67 = .ok (.iconst 1, 1) := by decide +kernel
theorem dX10_where_68 : decode cX10_where 68 = .ok (.iadd, 1) := by decide +kernel
theorem dX10_where_69 : decode cX10_where 69 = .ok (.laload, 1) := by decide +kernel
theorem dX10_where_70 : decode cX10_where 70 = .ok (.lmul, 1) := by decide +kernel
theorem dX10_where_71 : decode cX10_where 71 = .ok (.lcmp, 1) := by decide +kernel
theorem dX10_where_72 : decode cX10_where 72 = .ok (.ifCond .gt 9, 3) := by decide +kernel
theorem dX10_where_75 : decode cX10_where 75 = .ok (.iinc 4 1, 3) := by decide +kernel
theorem dX10_where_78 : decode cX10_where 78 = .ok (.goto (-42), 3) := by decide +kernel
theorem dX10_where_81 : decode cX10_where 81 = .ok (.aload_n 0, 1) := by decide +kernel
theorem dX10_where_82 : decode cX10_where 82 = .ok (.getfield 60, 3) := by decide +kernel
theorem dX10_where_85 : decode cX10_where 85 = .ok (.iload 4, 2) := by decide +kernel
theorem dX10_where_87 : decode cX10_where 87 = .ok (.iaload, 1) := by decide +kernel
theorem dX10_where_88 : decode cX10_where 88 = .ok (.istore 5, 2) := by decide +kernel
theorem dX10_where_90 : decode cX10_where 90 = .ok (.aload_n 0, 1) := by decide +kernel
theorem dX10_where_91 : decode cX10_where 91 = .ok (.getfield 69, 3) := by decide +kernel
theorem dX10_where_94 : decode cX10_where 94 = .ok (.iload 5, 2) := by decide +kernel
theorem dX10_where_96 : decode cX10_where 96 = .ok (.iaload, 1) := by decide +kernel
theorem dX10_where_97 : decode cX10_where 97 = .ok (.ifCond .eq 53, 3) := by decide +kernel
theorem dX10_where_100 : decode cX10_where 100 = .ok (.aload_n 0, 1) := by decide +kernel
theorem dX10_where_101 : decode cX10_where 101 = .ok (.aload_n 0, 1) := by decide +kernel
theorem dX10_where_102 : decode cX10_where 102 = .ok (.getfield 69, 3) := by decide +kernel
theorem dX10_where_105 : decode cX10_where 105 = .ok (.iload 5, 2) := by decide +kernel
theorem dX10_where_107 : decode cX10_where 107 = .ok (.iaload, 1) := by decide +kernel
theorem dX10_where_108 : decode cX10_where 108 = .ok (.invokestatic 287, 3) := by decide +kernel
theorem dX10_where_111 : decode cX10_where 111 = .ok (.iload_n 1, 1) := by decide +kernel
theorem dX10_where_112 : decode cX10_where 112 = .ok (.i2l, 1) := by decide +kernel
theorem dX10_where_113 : decode cX10_where 113 = .ok (.iload_n 3, 1) := by decide +kernel
theorem dX10_where_114 : decode cX10_where 114 = .ok (.i2l, 1) := by decide +kernel
theorem dX10_where_115 : decode cX10_where 115 = .ok (.invokevirtual 239, 3) := by decide +kernel
theorem dX10_where_118 : decode cX10_where 118 = .ok (.aload_n 0, 1) := by decide +kernel
theorem dX10_where_119 : decode cX10_where 119 = .ok (.aload_n 0, 1) := by decide +kernel
theorem dX10_where_120 : decode cX10_where 120 = .ok (.getfield 69, 3) := by decide +kernel
theorem dX10_where_123 : decode cX10_where 123 = .ok (.iload 5, 2) := by decide +kernel
theorem dX10_where_125 : decode cX10_where 125 = .ok (.iaload, 1) := by decide +kernel
theorem dX10_where_126 : decode cX10_where 126 = .ok (.invokestatic 287, 3) := by decide +kernel
theorem dX10_where_129 : decode cX10_where 129 = .ok (.iload_n 3, 1) := by decide +kernel
theorem dX10_where_130 : decode cX10_where 130 = .ok (.i2l, 1) := by decide +kernel
theorem dX10_where_131 : decode cX10_where 131 = .ok (.invokevirtual 243, 3) := by decide +kernel
theorem dX10_where_134 : decode cX10_where 134 = .ok (.iload_n 2, 1) := by decide +kernel
theorem dX10_where_135 : decode cX10_where 135 = .ok (.i2l, 1) := by decide +kernel
theorem dX10_where_136 : decode cX10_where 136 = .ok (.iload_n 3, 1) := by decide +kernel
theorem dX10_where_137 : decode cX10_where 137 = .ok (.i2l, 1) := by decide +kernel
theorem dX10_where_138 : decode cX10_where 138 = .ok (.invokestatic 172, 3) := by decide +kernel
theorem dX10_where_141 : decode cX10_where 141 = .ok (.ifCond .ge 9, 3) := by decide +kernel
theorem dX10_where_144 : decode cX10_where 144 = .ok (.iinc 5 1, 3) := by decide +kernel
theorem dX10_where_147 : decode cX10_where 147 = .ok (.goto (-57), 3) := by decide +kernel
theorem dX10_where_150 : decode cX10_where 150 = .ok (.aload_n 0, 1) := by decide +kernel
theorem dX10_where_151 : decode cX10_where 151 = .ok (.getfield 72, 3) := by decide +kernel
theorem dX10_where_154 : decode cX10_where 154 = .ok (.iload 5, 2) := by decide +kernel
theorem dX10_where_156 : decode cX10_where 156 = .ok (.iaload, 1) := by decide +kernel
theorem dX10_where_157 : decode cX10_where 157 = .ok (.ireturn, 1) := by decide +kernel
theorem dX10_on_0 : decode cX10_on 0 = .ok (.iload_n 1, 1) := by decide +kernel
theorem dX10_on_1 : decode cX10_on 1 = .ok (.iload_n 2, 1) := by decide +kernel
theorem dX10_on_2 : decode cX10_on 2 = .ok (.iload_n 3, 1) := by decide +kernel
theorem dX10_on_3 : decode cX10_on 3 = .ok (.invokestatic 348, 3) := by decide +kernel
theorem dX10_on_6 : decode cX10_on 6 = .ok (.ifCond .eq 18, 3) := by decide +kernel
theorem dX10_on_9 : decode cX10_on 9 = .ok (.aload_n 0, 1) := by decide +kernel
theorem dX10_on_10 : decode cX10_on 10 = .ok (.iload_n 1, 1) := by decide +kernel
theorem dX10_on_11 : decode cX10_on 11 = .ok (.i2l, 1) := by decide +kernel
theorem dX10_on_12 : decode cX10_on 12 = .ok (.iload_n 3, 1) := by decide +kernel
theorem dX10_on_13 : decode cX10_on 13 = .ok (.i2l, 1) := by decide +kernel
theorem dX10_on_14 : decode cX10_on 14 = .ok (.iload_n 2, 1) := by decide +kernel
theorem dX10_on_15 : decode cX10_on 15 = .ok (.i2l, 1) := by decide +kernel
theorem dX10_on_16 : decode cX10_on 16 = .ok (.iload_n 3, 1) := by decide +kernel
theorem dX10_on_17 : decode cX10_on 17 = .ok (.i2l, 1) := by decide +kernel
theorem dX10_on_18 : decode cX10_on 18 = .ok (.invokevirtual 200, 3) := by decide +kernel
theorem dX10_on_21 : decode cX10_on 21 = .ok (.goto 5, 3) := by decide +kernel
theorem dX10_on_24 : decode cX10_on 24 = .ok (.bipush (-2), 2) := by decide +kernel
theorem dX10_on_26 : decode cX10_on 26 = .ok (.ireturn, 1) := by decide +kernel
theorem dX10_hops_0 : decode cX10_hops 0 = .ok (.aload_n 0, 1) := by decide +kernel
theorem dX10_hops_1 : decode cX10_hops 1 = .ok (.invokevirtual 327, 3) := by decide +kernel
theorem dX10_hops_4 : decode cX10_hops 4 = .ok (.iload_n 1, 1) := by decide +kernel
theorem dX10_hops_5 : decode cX10_hops 5 = .ok (.iconst 0, 1) := by decide +kernel
theorem dX10_hops_6 : decode cX10_hops 6 = .ok (.aload_n 0, 1) := by decide +kernel
theorem dX10_hops_7 : decode cX10_hops 7 = .ok (.getfield 324, 3) := by decide +kernel
theorem dX10_hops_10 : decode cX10_hops 10 = .ok (.iconst 1, 1) := by decide +kernel
theorem dX10_hops_11 : decode cX10_hops 11 = .ok (.isub, 1) := by decide +kernel
theorem dX10_hops_12 : decode cX10_hops 12 = .ok (.invokestatic 113, 3) := by decide +kernel
theorem dX10_hops_15 : decode cX10_hops 15 = .ok (.ifCond .eq 17, 3) := by decide +kernel
theorem dX10_hops_18 : decode cX10_hops 18 = .ok (.iload_n 2, 1) := by decide +kernel
theorem dX10_hops_19 : decode cX10_hops 19 = .ok (.iconst 0, 1) := by decide +kernel
theorem dX10_hops_20 : decode cX10_hops 20 = .ok (.aload_n 0, 1) := by decide +kernel
theorem dX10_hops_21 : decode cX10_hops 21 = .ok (.getfield 324, 3) := by decide +kernel
theorem dX10_hops_24 : decode cX10_hops 24 = .ok (.iconst 1, 1) := by decide +kernel
theorem dX10_hops_25 : decode cX10_hops 25 = .ok (.isub, 1) := by decide +kernel
theorem dX10_hops_26 : decode cX10_hops 26 = .ok (.invokestatic 113, 3) := by decide +kernel
theorem dX10_hops_29 : decode cX10_hops 29 = .ok (.ifCond .ne 6, 3) := by decide +kernel
theorem dX10_hops_32 : decode cX10_hops 32 = .ok (.bipush (-2), 2) := by decide +kernel
theorem dX10_hops_34 : decode cX10_hops 34 = .ok (.ireturn, 1) := by decide +kernel
theorem dX10_hops_35 : decode cX10_hops 35 = .ok (.aload_n 0, 1) := by decide +kernel
theorem dX10_hops_36 : decode cX10_hops 36 = .ok (.invokevirtual 339, 3) := by decide +kernel
theorem dX10_hops_39 : decode cX10_hops 39 = .ok (.iconst 0, 1) := by decide +kernel
theorem dX10_hops_40 : decode cX10_hops 40 = .ok (.istore_n 3, 1) := by decide +kernel
theorem dX10_hops_41 : decode cX10_hops 41 = .ok (.iload_n 3, 1) := by decide +kernel
theorem dX10_hops_42 : decode cX10_hops 42 = .ok (.aload_n 0, 1) := by decide +kernel
theorem dX10_hops_43 : decode cX10_hops 43 = .ok (.getfield 324, 3) := by decide +kernel
theorem dX10_hops_46 : decode cX10_hops 46 = .ok (.if_icmp .ge 25, 3) := by decide +kernel
theorem dX10_hops_49 : decode cX10_hops 49 = .ok (.aload_n 0, 1) := by decide +kernel
theorem dX10_hops_50 : decode cX10_hops 50 = .ok (.getfield 86, 3) := by decide +kernel
theorem dX10_hops_53 : decode cX10_hops 53 = .ok (.iload_n 3, 1) := by decide +kernel
theorem dX10_hops_54 : decode cX10_hops 54 = .ok (.iload_n 3, 1) := by decide +kernel
theorem dX10_hops_55 : decode cX10_hops 55 = .ok (.iload_n 1, 1) := by decide +kernel
theorem dX10_hops_56 : decode cX10_hops 56 = .ok (.if_icmp .ne 7, 3) := by decide +kernel
theorem dX10_hops_59 : decode cX10_hops 59 = .ok (.iconst 0, 1) := by decide +kernel
theorem dX10_hops_60 : decode cX10_hops 60 = .ok (.goto 4, 3) := by decide +kernel
theorem dX10_hops_63 : decode cX10_hops 63 = .ok (.iconst (-1), 1) := by decide +kernel
theorem dX10_hops_64 : decode cX10_hops 64 = .ok (.iastore, 1) := by decide +kernel
theorem dX10_hops_65 : decode cX10_hops 65 = .ok (.iinc 3 1, 3) := by decide +kernel
theorem dX10_hops_68 : decode cX10_hops 68 = .ok (.goto (-27), 3) := by decide +kernel
theorem dX10_hops_71 : decode cX10_hops 71 = .ok (.iconst 0, 1) := by decide +kernel
theorem dX10_hops_72 : decode cX10_hops 72 = .ok (.istore_n 3, 1) := by decide +kernel
theorem dX10_hops_73 : decode cX10_hops 73 = .ok (.iload_n 3, 1) := by decide +kernel
theorem dX10_hops_74 : decode cX10_hops 74 = .ok (.aload_n 0, 1) := by decide +kernel
theorem dX10_hops_75 : decode cX10_hops 75 = .ok (.getfield 324, 3) := by decide +kernel
theorem dX10_hops_78 : decode cX10_hops 78 = .ok (.if_icmp .ge 90, 3) := by decide +kernel
theorem dX10_hops_81 : decode cX10_hops 81 = .ok (.iconst 0, 1) := by decide +kernel
theorem dX10_hops_82 : decode cX10_hops 82 = .ok (.istore 4, 2) := by decide +kernel
theorem dX10_hops_84 : decode cX10_hops 84 = .ok (.iload 4, 2) := by decide +kernel
theorem dX10_hops_86 : decode cX10_hops 86 = .ok (.aload_n 0, 1) := by decide +kernel
theorem dX10_hops_87 : decode cX10_hops 87 = .ok (.getfield 324, 3) := by decide +kernel
theorem dX10_hops_90 : decode cX10_hops 90 = .ok (.if_icmp .ge 72, 3) := by decide +kernel
theorem dX10_hops_93 : decode cX10_hops 93 = .ok (.iconst 0, 1) := by decide +kernel
theorem dX10_hops_94 : decode cX10_hops 94 = .ok (.istore 5, 2) := by decide +kernel
theorem dX10_hops_96 : decode cX10_hops 96 = .ok (.iload 5, 2) := by decide +kernel
theorem dX10_hops_98 : decode cX10_hops 98 = .ok (.aload_n 0, 1) := by decide +kernel
theorem dX10_hops_99 : decode cX10_hops 99 = .ok (.getfield 324, 3) := by decide +kernel
theorem dX10_hops_102 : decode cX10_hops 102 = .ok (.if_icmp .ge 54, 3) := by decide +kernel
theorem dX10_hops_105 : decode cX10_hops 105 = .ok (.aload_n 0, 1) := by decide +kernel
theorem dX10_hops_106 : decode cX10_hops 106 = .ok (.getfield 86, 3) := by decide +kernel
theorem dX10_hops_109 : decode cX10_hops 109 = .ok (.iload 4, 2) := by decide +kernel
theorem dX10_hops_111 : decode cX10_hops 111 = .ok (.iaload, 1) := by decide +kernel
theorem dX10_hops_112 : decode cX10_hops 112 = .ok (.iload_n 3, 1) := by decide +kernel
theorem dX10_hops_113 : decode cX10_hops 113 = .ok (.if_icmp .ne 43, 3) := by decide +kernel
theorem dX10_hops_116 : decode cX10_hops 116 = .ok (.aload_n 0, 1) := by decide +kernel
theorem dX10_hops_117 : decode cX10_hops 117 = .ok (.getfield 83, 3) := by decide +kernel
theorem dX10_hops_120 : decode cX10_hops 120 = .ok (.iload 4, 2) := by decide +kernel
theorem dX10_hops_122 : decode cX10_hops 122 = .ok (.aaload, 1) := by decide +kernel
theorem dX10_hops_123 : decode cX10_hops 123 = .ok (.iload 5, 2) := by decide +kernel
theorem dX10_hops_125 : decode cX10_hops 125 = .ok (.baload, 1) := by decide +kernel
theorem dX10_hops_126 : decode cX10_hops 126 = .ok (.ifCond .eq 24, 3) := by decide +kernel
theorem dX10_hops_129 : decode cX10_hops 129 = .ok (.aload_n 0, 1) := by decide +kernel
theorem dX10_hops_130 : decode cX10_hops 130 = .ok (.getfield 86, 3) := by decide +kernel
theorem dX10_hops_133 : decode cX10_hops 133 = .ok (.iload 5, 2) := by decide +kernel
theorem dX10_hops_135 : decode cX10_hops 135 = .ok (.iaload, 1) := by decide +kernel
theorem dX10_hops_136 : decode cX10_hops 136 = .ok (.iconst (-1), 1) := by decide +kernel
theorem dX10_hops_137 : decode cX10_hops 137 = .ok (.if_icmp .ne 13, 3) := by decide +kernel
theorem dX10_hops_140 : decode cX10_hops 140 = .ok (.aload_n 0, 1) := by decide +kernel
theorem dX10_hops_141 : decode cX10_hops 141 = .ok (.getfield 86, 3) := by decide +kernel
theorem dX10_hops_144 : decode cX10_hops 144 = .ok (.iload 5, 2) := by decide +kernel
theorem dX10_hops_146 : decode cX10_hops 146 = .ok (.iload_n 3, 1) := by decide +kernel
theorem dX10_hops_147 : decode cX10_hops 147 = .ok (.iconst 1, 1) := by decide +kernel
theorem dX10_hops_148 : decode cX10_hops 148 = .ok (.iadd, 1) := by decide +kernel
theorem dX10_hops_149 : decode cX10_hops 149 = .ok (.iastore, 1) := by decide +kernel
theorem dX10_hops_150 : decode cX10_hops 150 = .ok (.iinc 5 1, 3) := by decide +kernel
theorem dX10_hops_153 : decode cX10_hops 153 = .ok (.goto (-57), 3) := by decide +kernel
theorem dX10_hops_156 : decode cX10_hops 156 = .ok (.iinc 4 1, 3) := by decide +kernel
theorem dX10_hops_159 : decode cX10_hops 159 = .ok (.goto (-75), 3) := by decide +kernel
theorem dX10_hops_162 : decode cX10_hops 162 = .ok (.iinc 3 1, 3) := by decide +kernel
theorem dX10_hops_165 : decode cX10_hops 165 = .ok (.goto (-92), 3) := by decide +kernel
theorem dX10_hops_168 : decode cX10_hops 168 = .ok (.aload_n 0, 1) := by decide +kernel
theorem dX10_hops_169 : decode cX10_hops 169 = .ok (.getfield 86, 3) := by decide +kernel
theorem dX10_hops_172 : decode cX10_hops 172 = .ok (.iload_n 2, 1) := by decide +kernel
theorem dX10_hops_173 : decode cX10_hops 173 = .ok (.iaload, 1) := by decide +kernel
theorem dX10_hops_174 : decode cX10_hops 174 = .ok (.ireturn, 1) := by decide +kernel
theorem dX10_partsMany_0 : decode cX10_partsMany 0 = .ok (.aload_n 0, 1) := by decide +kernel
theorem dX10_partsMany_1 : decode cX10_partsMany 1 = .ok (.invokevirtual 217, 3) := by decide +kernel
theorem dX10_partsMany_4 : decode cX10_partsMany 4 = .ok (.istore_n 1, 1) := by decide +kernel
theorem dX10_partsMany_5 : decode cX10_partsMany 5 = .ok (.iconst 0, 1) := by decide +kernel
theorem dX10_partsMany_6 : decode cX10_partsMany 6 = .ok (.istore_n 2, 1) := by decide +kernel
theorem dX10_partsMany_7 : decode cX10_partsMany 7 = .ok (.iconst 0, 1) := by decide +kernel
theorem dX10_partsMany_8 : decode cX10_partsMany 8 = .ok (.istore_n 3, 1) := by decide +kernel
theorem dX10_partsMany_9 : decode cX10_partsMany 9 = .ok (.iload_n 3, 1) := by decide +kernel
theorem dX10_partsMany_10 : decode cX10_partsMany 10 = .ok (.aload_n 0, 1) := by decide +kernel
theorem dX10_partsMany_11 : decode cX10_partsMany 11 = .ok (.getfield 176, 3) := by decide +kernel
theorem dX10_partsMany_14 : decode cX10_partsMany 14 = .ok (.if_icmp .ge 22, 3) := by decide +kernel
theorem dX10_partsMany_17 : decode cX10_partsMany 17 = .ok (.aload_n 0, 1) := by decide +kernel
theorem dX10_partsMany_18 : decode cX10_partsMany 18 = .ok (.getfield 35, 3) := by decide +kernel
theorem dX10_partsMany_21 : decode cX10_partsMany 21 = .ok (.iload_n 3, 1) := by decide +kernel
theorem dX10_partsMany_22 : decode cX10_partsMany 22 = .ok (.iaload, 1) := by decide +kernel
theorem dX10_partsMany_23 : decode cX10_partsMany 23 = .ok (.iload_n 3, 1) := by decide +kernel
theorem dX10_partsMany_24 : decode cX10_partsMany 24 = .ok (.if_icmp .ne 6, 3) := by decide +kernel
theorem dX10_partsMany_27 : decode cX10_partsMany 27 = .ok (.iinc 2 1, 3) := by decide +kernel
theorem dX10_partsMany_30 : decode cX10_partsMany 30 = .ok (.iinc 3 1, 3) := by decide +kernel
theorem dX10_partsMany_33 : decode cX10_partsMany 33 = .ok (.goto (-24), 3) := by decide +kernel
theorem dX10_partsMany_36 : decode cX10_partsMany 36 = .ok (.iload_n 2, 1) := by decide +kernel
theorem dX10_partsMany_37 : decode cX10_partsMany 37 = .ok (.ireturn, 1) := by decide +kernel
theorem dX10_twos_0 : decode cX10_twos 0 = .ok (.iconst 0, 1) := by decide +kernel
theorem dX10_twos_1 : decode cX10_twos 1 = .ok (.istore_n 2, 1) := by decide +kernel
theorem dX10_twos_2 : decode cX10_twos 2 = .ok (.iconst 0, 1) := by decide +kernel
theorem dX10_twos_3 : decode cX10_twos 3 = .ok (.istore_n 3, 1) := by decide +kernel
theorem dX10_twos_4 : decode cX10_twos 4 = .ok (.iload_n 3, 1) := by decide +kernel
theorem dX10_twos_5 : decode cX10_twos 5 = .ok (.aload_n 0, 1) := by decide +kernel
theorem dX10_twos_6 : decode cX10_twos 6 = .ok (.getfield 109, 3) := by decide +kernel
theorem dX10_twos_9 : decode cX10_twos 9 = .ok (.if_icmp .ge 42, 3) := by decide +kernel
theorem dX10_twos_12 : decode cX10_twos 12 = .ok (.iconst 0, 1) := by decide +kernel
theorem dX10_twos_13 : decode cX10_twos 13 = .ok (.istore 4, 2) := by decide +kernel
theorem dX10_twos_15 : decode cX10_twos 15 = .ok (.iload 4, 2) := by decide +kernel
theorem dX10_twos_17 : decode cX10_twos 17 = .ok (.iload_n 3, 1) := by decide +kernel
theorem dX10_twos_18 : decode cX10_twos 18 = .ok (.if_icmp .ge 27, 3) := by decide +kernel
theorem dX10_twos_21 : decode cX10_twos 21 = .ok (.aload_n 0, 1) := by decide +kernel
theorem dX10_twos_22 : decode cX10_twos 22 = .ok (.iload_n 3, 1) := by decide +kernel
theorem dX10_twos_23 : decode cX10_twos 23 = .ok (.iload 4, 2) := by decide +kernel
theorem dX10_twos_25 : decode cX10_twos 25 = .ok (.invokevirtual 165, 3) := by decide +kernel
theorem dX10_twos_28 : decode cX10_twos 28 = .ok (.aload_n 0, 1) := by decide +kernel
theorem dX10_twos_29 : decode cX10_twos 29 = .ok (.getfield 140, 3) := by decide +kernel
theorem dX10_twos_32 : decode cX10_twos 32 = .ok (.iload_n 1, 1) := by decide +kernel
theorem dX10_twos_33 : decode cX10_twos 33 = .ok (.if_icmp .ne 6, 3) := by decide +kernel
theorem dX10_twos_36 : decode cX10_twos 36 = .ok (.iinc 2 1, 3) := by decide +kernel
theorem dX10_twos_39 : decode cX10_twos 39 = .ok (.iinc 4 1, 3) := by decide +kernel
theorem dX10_twos_42 : decode cX10_twos 42 = .ok (.goto (-27), 3) := by decide +kernel
theorem dX10_twos_45 : decode cX10_twos 45 = .ok (.iinc 3 1, 3) := by decide +kernel
theorem dX10_twos_48 : decode cX10_twos 48 = .ok (.goto (-44), 3) := by decide +kernel
theorem dX10_twos_51 : decode cX10_twos 51 = .ok (.iload_n 2, 1) := by decide +kernel
theorem dX10_twos_52 : decode cX10_twos 52 = .ok (.ireturn, 1) := by decide +kernel
theorem dX10_facesNow_0 : decode cX10_facesNow 0 = .ok (.aload_n 0, 1) := by decide +kernel
theorem dX10_facesNow_1 : decode cX10_facesNow 1 = .ok (.invokevirtual 327, 3) := by decide +kernel
theorem dX10_facesNow_4 : decode cX10_facesNow 4 = .ok (.aload_n 0, 1) := by decide +kernel
theorem dX10_facesNow_5 : decode cX10_facesNow 5 = .ok (.getfield 324, 3) := by decide +kernel
theorem dX10_facesNow_8 : decode cX10_facesNow 8 = .ok (.ireturn, 1) := by decide +kernel
theorem dX10_count_0 : decode cX10_count 0 = .ok (.iload_n 1, 1) := by decide +kernel
theorem dX10_count_1 : decode cX10_count 1 = .ok (.iconst 0, 1) := by decide +kernel
theorem dX10_count_2 : decode cX10_count 2 = .ok (.bipush 10, 2) := by decide +kernel
theorem dX10_count_4 : decode cX10_count 4 = .ok (.invokestatic 113, 3) := by decide +kernel
theorem dX10_count_7 : decode cX10_count 7 = .ok (.ifCond .ne 6, 3) := by decide +kernel
theorem dX10_count_10 : decode cX10_count 10 = .ok (.bipush (-2), 2) := by decide +kernel
theorem dX10_count_12 : decode cX10_count 12 = .ok (.ireturn, 1) := by decide +kernel
theorem dX10_count_13 : decode cX10_count 13 = .ok (.aload_n 0, 1) := by decide +kernel
theorem dX10_count_14 : decode cX10_count 14 = .ok (.invokevirtual 327, 3) := by decide +kernel
theorem dX10_count_17 : decode cX10_count 17 = .ok (.iload_n 1, 1) := by decide +kernel
theorem dX10_count_18 : decode cX10_count 18 = .ok (.tableswitch 86 0 7 #[46, 51, 56, 61, 66, 71, 76, 81], 46) := by decide +kernel
theorem dX10_count_64 : decode cX10_count 64 = .ok (.aload_n 0, 1) := by decide +kernel
theorem dX10_count_65 : decode cX10_count 65 = .ok (.getfield 109, 3) := by decide +kernel
theorem dX10_count_68 : decode cX10_count 68 = .ok (.ireturn, 1) := by decide +kernel
theorem dX10_count_69 : decode cX10_count 69 = .ok (.aload_n 0, 1) := by decide +kernel
theorem dX10_count_70 : decode cX10_count 70 = .ok (.getfield 176, 3) := by decide +kernel
theorem dX10_count_73 : decode cX10_count 73 = .ok (.ireturn, 1) := by decide +kernel
theorem dX10_count_74 : decode cX10_count 74 = .ok (.aload_n 0, 1) := by decide +kernel
theorem dX10_count_75 : decode cX10_count 75 = .ok (.invokevirtual 217, 3) := by decide +kernel
theorem dX10_count_78 : decode cX10_count 78 = .ok (.ireturn, 1) := by decide +kernel
theorem dX10_count_79 : decode cX10_count 79 = .ok (.aload_n 0, 1) := by decide +kernel
theorem dX10_count_80 : decode cX10_count 80 = .ok (.invokevirtual 351, 3) := by decide +kernel
theorem dX10_count_83 : decode cX10_count 83 = .ok (.ireturn, 1) := by decide +kernel
theorem dX10_count_84 : decode cX10_count 84 = .ok (.aload_n 0, 1) := by decide +kernel
theorem dX10_count_85 : decode cX10_count 85 = .ok (.getfield 278, 3) := by decide +kernel
theorem dX10_count_88 : decode cX10_count 88 = .ok (.ireturn, 1) := by decide +kernel
theorem dX10_count_89 : decode cX10_count 89 = .ok (.aload_n 0, 1) := by decide +kernel
theorem dX10_count_90 : decode cX10_count 90 = .ok (.getfield 267, 3) := by decide +kernel
theorem dX10_count_93 : decode cX10_count 93 = .ok (.ireturn, 1) := by decide +kernel
theorem dX10_count_94 : decode cX10_count 94 = .ok (.aload_n 0, 1) := by decide +kernel
theorem dX10_count_95 : decode cX10_count 95 = .ok (.getfield 324, 3) := by decide +kernel
theorem dX10_count_98 : decode cX10_count 98 = .ok (.ireturn, 1) := by decide +kernel
theorem dX10_count_99 : decode cX10_count 99 = .ok (.aload_n 0, 1) := by decide +kernel
theorem dX10_count_100 : decode cX10_count 100 = .ok (.invokevirtual 236, 3) := by decide +kernel
theorem dX10_count_103 : decode cX10_count 103 = .ok (.ireturn, 1) := by decide +kernel
theorem dX10_count_104 : decode cX10_count 104 = .ok (.aload_n 0, 1) := by decide +kernel
theorem dX10_count_105 : decode cX10_count 105 = .ok (.iload_n 1, 1) := by decide +kernel
theorem dX10_count_106 : decode cX10_count 106 = .ok (.bipush 7, 2) := by decide +kernel
theorem dX10_count_108 : decode cX10_count 108 = .ok (.isub, 1) := by decide +kernel
theorem dX10_count_109 : decode cX10_count 109 = .ok (.invokevirtual 354, 3) := by decide +kernel
theorem dX10_count_112 : decode cX10_count 112 = .ok (.ireturn, 1) := by decide +kernel
theorem dX10_endRow_0 : decode cX10_endRow 0 = .ok (.iload_n 1, 1) := by decide +kernel
theorem dX10_endRow_1 : decode cX10_endRow 1 = .ok (.ifCond .ne 10, 3) := by decide +kernel
theorem dX10_endRow_4 : decode cX10_endRow 4 = .ok (.aload_n 0, 1) := by decide +kernel
theorem dX10_endRow_5 : decode cX10_endRow 5 = .ok (.getfield 9, 3) := by decide +kernel
theorem dX10_endRow_8 : decode cX10_endRow 8 = .ok (.goto 31, 3) := by decide +kernel
theorem dX10_endRow_11 : decode cX10_endRow 11 = .ok (.iload_n 1, 1) := by decide +kernel
theorem dX10_endRow_12 : decode cX10_endRow 12 = .ok (.iconst 1, 1) := by decide +kernel
theorem dX10_endRow_13 : decode cX10_endRow 13 = .ok (.if_icmp .ne 10, 3) := by decide +kernel
theorem dX10_endRow_16 : decode cX10_endRow 16 = .ok (.aload_n 0, 1) := by decide +kernel
theorem dX10_endRow_17 : decode cX10_endRow 17 = .ok (.getfield 13, 3) := by decide +kernel
theorem dX10_endRow_20 : decode cX10_endRow 20 = .ok (.goto 19, 3) := by decide +kernel
theorem dX10_endRow_23 : decode cX10_endRow 23 = .ok (.iload_n 1, 1) := by decide +kernel
theorem dX10_endRow_24 : decode cX10_endRow 24 = .ok (.iconst 2, 1) := by decide +kernel
theorem dX10_endRow_25 : decode cX10_endRow 25 = .ok (.if_icmp .ne 10, 3) := by decide +kernel
theorem dX10_endRow_28 : decode cX10_endRow 28 = .ok (.aload_n 0, 1) := by decide +kernel
theorem dX10_endRow_29 : decode cX10_endRow 29 = .ok (.getfield 16, 3) := by decide +kernel
theorem dX10_endRow_32 : decode cX10_endRow 32 = .ok (.goto 7, 3) := by decide +kernel
theorem dX10_endRow_35 : decode cX10_endRow 35 = .ok (.aload_n 0, 1) := by decide +kernel
theorem dX10_endRow_36 : decode cX10_endRow 36 = .ok (.getfield 19, 3) := by decide +kernel
theorem dX10_endRow_39 : decode cX10_endRow 39 = .ok (.areturn, 1) := by decide +kernel
theorem dX10_keep_0 : decode cX10_keep 0 = .ok (.aload_n 0, 1) := by decide +kernel
theorem dX10_keep_1 : decode cX10_keep 1 = .ok (.getfield 89, 3) := by decide +kernel
theorem dX10_keep_4 : decode cX10_keep 4 = .ok (.iload_n 1, 1) := by decide +kernel
theorem dX10_keep_5 : decode cX10_keep 5 = .ok (.aload_n 0, 1) := by decide +kernel
theorem dX10_keep_6 : decode cX10_keep 6 = .ok (.getfield 109, 3) := by decide +kernel
theorem dX10_keep_9 : decode cX10_keep 9 = .ok (.iastore, 1) := by decide +kernel
theorem dX10_keep_10 : decode cX10_keep 10 = .ok (.iconst 0, 1) := by decide +kernel
theorem dX10_keep_11 : decode cX10_keep 11 = .ok (.istore_n 2, 1) := by decide +kernel
theorem dX10_keep_12 : decode cX10_keep 12 = .ok (.iload_n 2, 1) := by decide +kernel
theorem dX10_keep_13 : decode cX10_keep 13 = .ok (.iconst 4, 1) := by decide +kernel
theorem dX10_keep_14 : decode cX10_keep 14 = .ok (.if_icmp .ge 31, 3) := by decide +kernel
theorem dX10_keep_17 : decode cX10_keep 17 = .ok (.aload_n 0, 1) := by decide +kernel
theorem dX10_keep_18 : decode cX10_keep 18 = .ok (.iload_n 2, 1) := by decide +kernel
theorem dX10_keep_19 : decode cX10_keep 19 = .ok (.invokevirtual 357, 3) := by decide +kernel
theorem dX10_keep_22 : decode cX10_keep 22 = .ok (.iconst 0, 1) := by decide +kernel
theorem dX10_keep_23 : decode cX10_keep 23 = .ok (.aload_n 0, 1) := by decide +kernel
theorem dX10_keep_24 : decode cX10_keep 24 = .ok (.getfield 94, 3) := by decide +kernel
theorem dX10_keep_27 : decode cX10_keep 27 = .ok (.iconst 4, 1) := by decide +kernel
theorem dX10_keep_28 : decode cX10_keep 28 = .ok (.iload_n 1, 1) := by decide +kernel
theorem dX10_keep_29 : decode cX10_keep 29 = .ok (.imul, 1) := by decide +kernel
theorem dX10_keep_30 : decode cX10_keep 30 = .ok (.iload_n 2, 1) := by decide +kernel
theorem dX10_keep_31 : decode cX10_keep 31 = .ok (.iadd, 1) := by decide +kernel
theorem dX10_keep_32 : decode cX10_keep 32 = .ok (.aaload, 1) := by decide +kernel
theorem dX10_keep_33 : decode cX10_keep 33 = .ok (.iconst 0, 1) := by decide +kernel
theorem dX10_keep_34 : decode cX10_keep 34 = .ok (.bipush 10, 2) := by decide +kernel
theorem dX10_keep_36 : decode cX10_keep 36 = .ok (.invokestatic 361, 3) := by decide +kernel
theorem dX10_keep_39 : decode cX10_keep 39 = .ok (.iinc 2 1, 3) := by decide +kernel
theorem dX10_keep_42 : decode cX10_keep 42 = .ok (.goto (-30), 3) := by decide +kernel
theorem dX10_keep_45 : decode cX10_keep 45 = .ok (.return_, 1) := by decide +kernel
theorem dX10_layBack_0 : decode cX10_layBack 0 = .ok (.aload_n 0, 1) := by decide +kernel
theorem dX10_layBack_1 : decode cX10_layBack 1 = .ok (.aload_n 0, 1) := by decide +kernel
theorem dX10_layBack_2 : decode cX10_layBack 2 = .ok (.getfield 89, 3) := by decide +kernel
theorem dX10_layBack_5 : decode cX10_layBack 5 = .ok (.iload_n 1, 1) := by decide +kernel
theorem dX10_layBack_6 : decode cX10_layBack 6 = .ok (.iaload, 1) := by decide +kernel
theorem dX10_layBack_7 : decode cX10_layBack 7 = .ok (.putfield 109, 3) := by decide +kernel
theorem dX10_layBack_10 : decode cX10_layBack 10 = .ok (.iconst 0, 1) := by decide +kernel
theorem dX10_layBack_11 : decode cX10_layBack 11 = .ok (.istore_n 2, 1) := by decide +kernel
theorem dX10_layBack_12 : decode cX10_layBack 12 = .ok (.iload_n 2, 1) := by decide +kernel
theorem dX10_layBack_13 : decode cX10_layBack 13 = .ok (.iconst 4, 1) := by decide +kernel
theorem dX10_layBack_14 : decode cX10_layBack 14 = .ok (.if_icmp .ge 31, 3) := by decide +kernel
theorem dX10_layBack_17 : decode cX10_layBack 17 = .ok (.aload_n 0, 1) := by decide +kernel
theorem dX10_layBack_18 : decode cX10_layBack 18 = .ok (.getfield 94, 3) := by decide +kernel
theorem dX10_layBack_21 : decode cX10_layBack 21 = .ok (.iconst 4, 1) := by decide +kernel
theorem dX10_layBack_22 : decode cX10_layBack 22 = .ok (.iload_n 1, 1) := by decide +kernel
theorem dX10_layBack_23 : decode cX10_layBack 23 = .ok (.imul, 1) := by decide +kernel
theorem dX10_layBack_24 : decode cX10_layBack 24 = .ok (.iload_n 2, 1) := by decide +kernel
theorem dX10_layBack_25 : decode cX10_layBack 25 = .ok (.iadd, 1) := by decide +kernel
theorem dX10_layBack_26 : decode cX10_layBack 26 = .ok (.aaload, 1) := by decide +kernel
theorem dX10_layBack_27 : decode cX10_layBack 27 = .ok (.iconst 0, 1) := by decide +kernel
theorem dX10_layBack_28 : decode cX10_layBack 28 = .ok (.aload_n 0, 1) := by decide +kernel
theorem dX10_layBack_29 : decode cX10_layBack 29 = .ok (.iload_n 2, 1) := by decide +kernel
theorem dX10_layBack_30 : decode cX10_layBack 30 = .ok (.invokevirtual 357, 3) := by decide +kernel
theorem dX10_layBack_33 : decode cX10_layBack 33 = .ok (.iconst 0, 1) := by decide +kernel
theorem dX10_layBack_34 : decode cX10_layBack 34 = .ok (.bipush 10, 2) := by decide +kernel
theorem dX10_layBack_36 : decode cX10_layBack 36 = .ok (.invokestatic 361, 3) := by decide +kernel
theorem dX10_layBack_39 : decode cX10_layBack 39 = .ok (.iinc 2 1, 3) := by decide +kernel
theorem dX10_layBack_42 : decode cX10_layBack 42 = .ok (.goto (-30), 3) := by decide +kernel
theorem dX10_layBack_45 : decode cX10_layBack 45 = .ok (.return_, 1) := by decide +kernel
theorem dX10_facesWithout_0 : decode cX10_facesWithout 0 = .ok (.aload_n 0, 1) := by decide +kernel
theorem dX10_facesWithout_1 : decode cX10_facesWithout 1 = .ok (.iconst 0, 1) := by decide +kernel
theorem dX10_facesWithout_2 : decode cX10_facesWithout 2 = .ok (.invokevirtual 367, 3) := by decide +kernel
theorem dX10_facesWithout_5 : decode cX10_facesWithout 5 = .ok (.aload_n 0, 1) := by decide +kernel
theorem dX10_facesWithout_6 : decode cX10_facesWithout 6 = .ok (.iload_n 1, 1) := by decide +kernel
theorem dX10_facesWithout_7 : decode cX10_facesWithout 7 = .ok (.invokevirtual 132, 3) := by decide +kernel
theorem dX10_facesWithout_10 : decode cX10_facesWithout 10 = .ok (.aload_n 0, 1) := by decide +kernel
theorem dX10_facesWithout_11 : decode cX10_facesWithout 11 = .ok (.invokevirtual 370, 3) := by decide +kernel
theorem dX10_facesWithout_14 : decode cX10_facesWithout 14 = .ok (.istore_n 2, 1) := by decide +kernel
theorem dX10_facesWithout_15 : decode cX10_facesWithout 15 = .ok (.aload_n 0, 1) := by decide +kernel
theorem dX10_facesWithout_16 : decode cX10_facesWithout 16 = .ok (.iconst 0, 1) := by decide +kernel
theorem dX10_facesWithout_17 : decode cX10_facesWithout 17 = .ok (.invokevirtual 373, 3) := by decide +kernel
theorem dX10_facesWithout_20 : decode cX10_facesWithout 20 = .ok (.iload_n 2, 1) := by decide +kernel
theorem dX10_facesWithout_21 : decode cX10_facesWithout 21 = .ok (.ireturn, 1) := by decide +kernel
theorem dX10_without_0 : decode cX10_without 0 = .ok (.aload_n 0, 1) := by decide +kernel
theorem dX10_without_1 : decode cX10_without 1 = .ok (.iload_n 1, 1) := by decide +kernel
theorem dX10_without_2 : decode cX10_without 2 = .ok (.invokevirtual 129, 3) := by decide +kernel
theorem dX10_without_5 : decode cX10_without 5 = .ok (.ifCond .eq 11, 3) := by decide +kernel
theorem dX10_without_8 : decode cX10_without 8 = .ok (.aload_n 0, 1) := by decide +kernel
theorem dX10_without_9 : decode cX10_without 9 = .ok (.iload_n 1, 1) := by decide +kernel
theorem dX10_without_10 : decode cX10_without 10 = .ok (.invokevirtual 376, 3) := by decide +kernel
theorem dX10_without_13 : decode cX10_without 13 = .ok (.goto 5, 3) := by decide +kernel
theorem dX10_without_16 : decode cX10_without 16 = .ok (.bipush (-2), 2) := by decide +kernel
theorem dX10_without_18 : decode cX10_without 18 = .ok (.ireturn, 1) := by decide +kernel
theorem dX10_most_0 : decode cX10_most 0 = .ok (.iload_n 1, 1) := by decide +kernel
theorem dX10_most_1 : decode cX10_most 1 = .ok (.iconst 0, 1) := by decide +kernel
theorem dX10_most_2 : decode cX10_most 2 = .ok (.iconst 1, 1) := by decide +kernel
theorem dX10_most_3 : decode cX10_most 3 = .ok (.invokestatic 113, 3) := by decide +kernel
theorem dX10_most_6 : decode cX10_most 6 = .ok (.ifCond .ne 6, 3) := by decide +kernel
theorem dX10_most_9 : decode cX10_most 9 = .ok (.bipush (-2), 2) := by decide +kernel
theorem dX10_most_11 : decode cX10_most 11 = .ok (.ireturn, 1) := by decide +kernel
theorem dX10_most_12 : decode cX10_most 12 = .ok (.iconst (-1), 1) := by decide +kernel
theorem dX10_most_13 : decode cX10_most 13 = .ok (.istore_n 2, 1) := by decide +kernel
theorem dX10_most_14 : decode cX10_most 14 = .ok (.iconst (-1), 1) := by decide +kernel
theorem dX10_most_15 : decode cX10_most 15 = .ok (.istore_n 3, 1) := by decide +kernel
theorem dX10_most_16 : decode cX10_most 16 = .ok (.iconst 0, 1) := by decide +kernel
theorem dX10_most_17 : decode cX10_most 17 = .ok (.istore 4, 2) := by decide +kernel
theorem dX10_most_19 : decode cX10_most 19 = .ok (.iload 4, 2) := by decide +kernel
theorem dX10_most_21 : decode cX10_most 21 = .ok (.aload_n 0, 1) := by decide +kernel
theorem dX10_most_22 : decode cX10_most 22 = .ok (.getfield 109, 3) := by decide +kernel
theorem dX10_most_25 : decode cX10_most 25 = .ok (.if_icmp .ge 37, 3) := by decide +kernel
theorem dX10_most_28 : decode cX10_most 28 = .ok (.aload_n 0, 1) := by decide +kernel
theorem dX10_most_29 : decode cX10_most 29 = .ok (.iload 4, 2) := by decide +kernel
theorem dX10_most_31 : decode cX10_most 31 = .ok (.invokevirtual 376, 3) := by decide +kernel
theorem dX10_most_34 : decode cX10_most 34 = .ok (.istore 5, 2) := by decide +kernel
theorem dX10_most_36 : decode cX10_most 36 = .ok (.iload_n 2, 1) := by decide +kernel
theorem dX10_most_37 : decode cX10_most 37 = .ok (.iconst (-1), 1) := by decide +kernel
theorem dX10_most_38 : decode cX10_most 38 = .ok (.if_icmp .eq 12, 3) := by decide +kernel
theorem dX10_most_41 : decode cX10_most 41 = .ok (.iload 5, 2) := by decide +kernel
theorem dX10_most_43 : decode cX10_most 43 = .ok (.iload_n 3, 1) := by decide +kernel
theorem dX10_most_44 : decode cX10_most 44 = .ok (.if_icmp .lt 6, 3) := by decide +kernel
theorem dX10_most_47 : decode cX10_most 47 = .ok (.goto 9, 3) := by decide +kernel
theorem dX10_most_50 : decode cX10_most 50 = .ok (.iload 4, 2) := by decide +kernel
theorem dX10_most_52 : decode cX10_most 52 = .ok (.istore_n 2, 1) := by decide +kernel
theorem dX10_most_53 : decode cX10_most 53 = .ok (.iload 5, 2) := by decide +kernel
theorem dX10_most_55 : decode cX10_most 55 = .ok (.istore_n 3, 1) := by decide +kernel
theorem dX10_most_56 : decode cX10_most 56 = .ok (.iinc 4 1, 3) := by decide +kernel
theorem dX10_most_59 : decode cX10_most 59 = .ok (.goto (-40), 3) := by decide +kernel
theorem dX10_most_62 : decode cX10_most 62 = .ok (.iload_n 1, 1) := by decide +kernel
theorem dX10_most_63 : decode cX10_most 63 = .ok (.ifCond .ne 7, 3) := by decide +kernel
theorem dX10_most_66 : decode cX10_most 66 = .ok (.iload_n 2, 1) := by decide +kernel
theorem dX10_most_67 : decode cX10_most 67 = .ok (.goto 4, 3) := by decide +kernel
theorem dX10_most_70 : decode cX10_most 70 = .ok (.iload_n 3, 1) := by decide +kernel
theorem dX10_most_71 : decode cX10_most 71 = .ok (.ireturn, 1) := by decide +kernel
theorem dX10_draw_0 : decode cX10_draw 0 = .ok (.aload_n 0, 1) := by decide +kernel
theorem dX10_draw_1 : decode cX10_draw 1 = .ok (.aload_n 0, 1) := by decide +kernel
theorem dX10_draw_2 : decode cX10_draw 2 = .ok (.getfield 379, 3) := by decide +kernel
theorem dX10_draw_5 : decode cX10_draw 5 = .ok (.ldc_w 382, 3) := by decide +kernel
theorem dX10_draw_8 : decode cX10_draw 8 = .ok (.imul, 1) := by decide +kernel
theorem dX10_draw_9 : decode cX10_draw 9 = .ok (.sipush 12345, 3) := by decide +kernel
theorem dX10_draw_12 : decode cX10_draw 12 = .ok (.iadd, 1) := by decide +kernel
theorem dX10_draw_13 : decode cX10_draw 13 = .ok (.putfield 379, 3) := by decide +kernel
theorem dX10_draw_16 : decode cX10_draw 16 = .ok (.aload_n 0, 1) := by decide +kernel
theorem dX10_draw_17 : decode cX10_draw 17 = .ok (.getfield 379, 3) := by decide +kernel
theorem dX10_draw_20 : decode cX10_draw 20 = .ok (.bipush 9, 2) := by decide +kernel
theorem dX10_draw_22 : decode cX10_draw 22 = .ok (.iushr, 1) := by decide +kernel
theorem dX10_draw_23 : decode cX10_draw 23 = .ok (.bipush 41, 2) := by decide +kernel
theorem dX10_draw_25 : decode cX10_draw 25 = .ok (.irem, 1) := by decide +kernel
theorem dX10_draw_26 : decode cX10_draw 26 = .ok (.ireturn, 1) := by decide +kernel
theorem dX10_byLot_0 : decode cX10_byLot 0 = .ok (.aload_n 0, 1) := by decide +kernel
theorem dX10_byLot_1 : decode cX10_byLot 1 = .ok (.iconst 0, 1) := by decide +kernel
theorem dX10_byLot_2 : decode cX10_byLot 2 = .ok (.invokevirtual 367, 3) := by decide +kernel
theorem dX10_byLot_5 : decode cX10_byLot 5 = .ok (.aload_n 0, 1) := by decide +kernel
theorem dX10_byLot_6 : decode cX10_byLot 6 = .ok (.iload_n 1, 1) := by decide +kernel
theorem dX10_byLot_7 : decode cX10_byLot 7 = .ok (.putfield 379, 3) := by decide +kernel
theorem dX10_byLot_10 : decode cX10_byLot 10 = .ok (.iconst 0, 1) := by decide +kernel
theorem dX10_byLot_11 : decode cX10_byLot 11 = .ok (.istore_n 3, 1) := by decide +kernel
theorem dX10_byLot_12 : decode cX10_byLot 12 = .ok (.iload_n 3, 1) := by decide +kernel
theorem dX10_byLot_13 : decode cX10_byLot 13 = .ok (.iload_n 2, 1) := by decide +kernel
theorem dX10_byLot_14 : decode cX10_byLot 14 = .ok (.if_icmp .ge 43, 3) := by decide +kernel
theorem dX10_byLot_17 : decode cX10_byLot 17 = .ok (.aload_n 0, 1) := by decide +kernel
theorem dX10_byLot_18 : decode cX10_byLot 18 = .ok (.invokevirtual 383, 3) := by decide +kernel
theorem dX10_byLot_21 : decode cX10_byLot 21 = .ok (.istore 4, 2) := by decide +kernel
theorem dX10_byLot_23 : decode cX10_byLot 23 = .ok (.aload_n 0, 1) := by decide +kernel
theorem dX10_byLot_24 : decode cX10_byLot 24 = .ok (.invokevirtual 383, 3) := by decide +kernel
theorem dX10_byLot_27 : decode cX10_byLot 27 = .ok (.istore 5, 2) := by decide +kernel
theorem dX10_byLot_29 : decode cX10_byLot 29 = .ok (.aload_n 0, 1) := by decide +kernel
theorem dX10_byLot_30 : decode cX10_byLot 30 = .ok (.invokevirtual 383, 3) := by decide +kernel
theorem dX10_byLot_33 : decode cX10_byLot 33 = .ok (.istore 6, 2) := by decide +kernel
theorem dX10_byLot_35 : decode cX10_byLot 35 = .ok (.aload_n 0, 1) := by decide +kernel
theorem dX10_byLot_36 : decode cX10_byLot 36 = .ok (.iload 4, 2) := by decide +kernel
theorem dX10_byLot_38 : decode cX10_byLot 38 = .ok (.iload 5, 2) := by decide +kernel
theorem dX10_byLot_40 : decode cX10_byLot 40 = .ok (.iload 6, 2) := by decide +kernel
theorem dX10_byLot_42 : decode cX10_byLot 42 = .ok (.aload_n 0, 1) := by decide +kernel
theorem dX10_byLot_43 : decode cX10_byLot 43 = .ok (.invokevirtual 383, 3) := by decide +kernel
theorem dX10_byLot_46 : decode cX10_byLot 46 = .ok (.invokevirtual 386, 3) := by decide +kernel
theorem dX10_byLot_49 : decode cX10_byLot 49 = .ok (.istore 7, 2) := by decide +kernel
theorem dX10_byLot_51 : decode cX10_byLot 51 = .ok (.iinc 3 1, 3) := by decide +kernel
theorem dX10_byLot_54 : decode cX10_byLot 54 = .ok (.goto (-42), 3) := by decide +kernel
theorem dX10_byLot_57 : decode cX10_byLot 57 = .ok (.aload_n 0, 1) := by decide +kernel
theorem dX10_byLot_58 : decode cX10_byLot 58 = .ok (.invokevirtual 370, 3) := by decide +kernel
theorem dX10_byLot_61 : decode cX10_byLot 61 = .ok (.istore_n 3, 1) := by decide +kernel
theorem dX10_byLot_62 : decode cX10_byLot 62 = .ok (.aload_n 0, 1) := by decide +kernel
theorem dX10_byLot_63 : decode cX10_byLot 63 = .ok (.iconst 0, 1) := by decide +kernel
theorem dX10_byLot_64 : decode cX10_byLot 64 = .ok (.invokevirtual 373, 3) := by decide +kernel
theorem dX10_byLot_67 : decode cX10_byLot 67 = .ok (.iload_n 3, 1) := by decide +kernel
theorem dX10_byLot_68 : decode cX10_byLot 68 = .ok (.ireturn, 1) := by decide +kernel
theorem dX10_drawn_0 : decode cX10_drawn 0 = .ok (.iload_n 2, 1) := by decide +kernel
theorem dX10_drawn_1 : decode cX10_drawn 1 = .ok (.iconst 0, 1) := by decide +kernel
theorem dX10_drawn_2 : decode cX10_drawn 2 = .ok (.iconst 5, 1) := by decide +kernel
theorem dX10_drawn_3 : decode cX10_drawn 3 = .ok (.invokestatic 113, 3) := by decide +kernel
theorem dX10_drawn_6 : decode cX10_drawn 6 = .ok (.ifCond .eq 12, 3) := by decide +kernel
theorem dX10_drawn_9 : decode cX10_drawn 9 = .ok (.aload_n 0, 1) := by decide +kernel
theorem dX10_drawn_10 : decode cX10_drawn 10 = .ok (.iload_n 1, 1) := by decide +kernel
theorem dX10_drawn_11 : decode cX10_drawn 11 = .ok (.iload_n 2, 1) := by decide +kernel
theorem dX10_drawn_12 : decode cX10_drawn 12 = .ok (.invokevirtual 389, 3) := by decide +kernel
theorem dX10_drawn_15 : decode cX10_drawn 15 = .ok (.goto 5, 3) := by decide +kernel
theorem dX10_drawn_18 : decode cX10_drawn 18 = .ok (.bipush (-2), 2) := by decide +kernel
theorem dX10_drawn_20 : decode cX10_drawn 20 = .ok (.ireturn, 1) := by decide +kernel
theorem dX10_chance_0 : decode cX10_chance 0 = .ok (.iload_n 2, 1) := by decide +kernel
theorem dX10_chance_1 : decode cX10_chance 1 = .ok (.iconst 1, 1) := by decide +kernel
theorem dX10_chance_2 : decode cX10_chance 2 = .ok (.iconst 5, 1) := by decide +kernel
theorem dX10_chance_3 : decode cX10_chance 3 = .ok (.invokestatic 113, 3) := by decide +kernel
theorem dX10_chance_6 : decode cX10_chance 6 = .ok (.ifCond .eq 23, 3) := by decide +kernel
theorem dX10_chance_9 : decode cX10_chance 9 = .ok (.iload_n 3, 1) := by decide +kernel
theorem dX10_chance_10 : decode cX10_chance 10 = .ok (.iconst 0, 1) := by decide +kernel
theorem dX10_chance_11 : decode cX10_chance 11 = .ok (.bipush 99, 2) := by decide +kernel
theorem dX10_chance_13 : decode cX10_chance 13 = .ok (.invokestatic 113, 3) := by decide +kernel
theorem dX10_chance_16 : decode cX10_chance 16 = .ok (.ifCond .eq 13, 3) := by decide +kernel
theorem dX10_chance_19 : decode cX10_chance 19 = .ok (.iload 4, 2) := by decide +kernel
theorem dX10_chance_21 : decode cX10_chance 21 = .ok (.iconst 0, 1) := by decide +kernel
theorem dX10_chance_22 : decode cX10_chance 22 = .ok (.iconst 1, 1) := by decide +kernel
theorem dX10_chance_23 : decode cX10_chance 23 = .ok (.invokestatic 113, 3) := by decide +kernel
theorem dX10_chance_26 : decode cX10_chance 26 = .ok (.ifCond .ne 6, 3) := by decide +kernel
theorem dX10_chance_29 : decode cX10_chance 29 = .ok (.bipush (-2), 2) := by decide +kernel
theorem dX10_chance_31 : decode cX10_chance 31 = .ok (.ireturn, 1) := by decide +kernel
theorem dX10_chance_32 : decode cX10_chance 32 = .ok (.iconst 0, 1) := by decide +kernel
theorem dX10_chance_33 : decode cX10_chance 33 = .ok (.istore 5, 2) := by decide +kernel
theorem dX10_chance_35 : decode cX10_chance 35 = .ok (.iconst 0, 1) := by decide +kernel
theorem dX10_chance_36 : decode cX10_chance 36 = .ok (.istore 6, 2) := by decide +kernel
theorem dX10_chance_38 : decode cX10_chance 38 = .ok (.iload 6, 2) := by decide +kernel
theorem dX10_chance_40 : decode cX10_chance 40 = .ok (.iload_n 2, 1) := by decide +kernel
theorem dX10_chance_41 : decode cX10_chance 41 = .ok (.if_icmp .ge 25, 3) := by decide +kernel
theorem dX10_chance_44 : decode cX10_chance 44 = .ok (.aload_n 0, 1) := by decide +kernel
theorem dX10_chance_45 : decode cX10_chance 45 = .ok (.iload_n 1, 1) := by decide +kernel
theorem dX10_chance_46 : decode cX10_chance 46 = .ok (.iload 6, 2) := by decide +kernel
theorem dX10_chance_48 : decode cX10_chance 48 = .ok (.iadd, 1) := by decide +kernel
theorem dX10_chance_49 : decode cX10_chance 49 = .ok (.iconst 3, 1) := by decide +kernel
theorem dX10_chance_50 : decode cX10_chance 50 = .ok (.invokevirtual 389, 3) := by decide +kernel
theorem dX10_chance_53 : decode cX10_chance 53 = .ok (.iload_n 3, 1) := by decide +kernel
theorem dX10_chance_54 : decode cX10_chance 54 = .ok (.if_icmp .lt 6, 3) := by decide +kernel
theorem dX10_chance_57 : decode cX10_chance 57 = .ok (.iinc 5 1, 3) := by decide +kernel
theorem dX10_chance_60 : decode cX10_chance 60 = .ok (.iinc 6 1, 3) := by decide +kernel
theorem dX10_chance_63 : decode cX10_chance 63 = .ok (.goto (-25), 3) := by decide +kernel
theorem dX10_chance_66 : decode cX10_chance 66 = .ok (.iload 5, 2) := by decide +kernel
theorem dX10_chance_68 : decode cX10_chance 68 = .ok (.i2l, 1) := by decide +kernel
theorem dX10_chance_69 : decode cX10_chance 69 = .ok (.iload_n 2, 1) := by decide +kernel
theorem dX10_chance_70 : decode cX10_chance 70 = .ok (.i2l, 1) := by decide +kernel
theorem dX10_chance_71 : decode cX10_chance 71 = .ok (.iload 4, 2) := by decide +kernel
theorem dX10_chance_73 : decode cX10_chance 73 = .ok (.iconst 1, 1) := by decide +kernel
theorem dX10_chance_74 : decode cX10_chance 74 = .ok (.if_icmp .ne 7, 3) := by decide +kernel
theorem dX10_chance_77 : decode cX10_chance 77 = .ok (.iconst 1, 1) := by decide +kernel
theorem dX10_chance_78 : decode cX10_chance 78 = .ok (.goto 4, 3) := by decide +kernel
theorem dX10_chance_81 : decode cX10_chance 81 = .ok (.iconst 0, 1) := by decide +kernel
theorem dX10_chance_82 : decode cX10_chance 82 = .ok (.invokestatic 168, 3) := by decide +kernel
theorem dX10_chance_85 : decode cX10_chance 85 = .ok (.l2i, 1) := by decide +kernel
theorem dX10_chance_86 : decode cX10_chance 86 = .ok (.ireturn, 1) := by decide +kernel
theorem dX10_otherwise_0 : decode cX10_otherwise 0 = .ok (.aload_n 0, 1) := by decide +kernel
theorem dX10_otherwise_1 : decode cX10_otherwise 1 = .ok (.iload_n 2, 1) := by decide +kernel
theorem dX10_otherwise_2 : decode cX10_otherwise 2 = .ok (.i2l, 1) := by decide +kernel
theorem dX10_otherwise_3 : decode cX10_otherwise 3 = .ok (.lconst 1, 1) := by decide +kernel
theorem dX10_otherwise_4 : decode cX10_otherwise 4 = .ok (.iload_n 3, 1) := by decide +kernel
theorem dX10_otherwise_5 : decode cX10_otherwise 5 = .ok (.invokevirtual 258, 3) := by decide +kernel
theorem dX10_otherwise_8 : decode cX10_otherwise 8 = .ok (.iconst 0, 1) := by decide +kernel
theorem dX10_otherwise_9 : decode cX10_otherwise 9 = .ok (.istore 4, 2) := by decide +kernel
theorem dX10_otherwise_11 : decode cX10_otherwise 11 = .ok (.iload 4, 2) := by decide +kernel
theorem dX10_otherwise_13 : decode cX10_otherwise 13 = .ok (.aload_n 0, 1) := by decide +kernel
theorem dX10_otherwise_14 : decode cX10_otherwise 14 = .ok (.getfield 100, 3) := by decide +kernel
theorem dX10_otherwise_17 : decode cX10_otherwise 17 = .ok (.iload_n 1, 1) := by decide +kernel
theorem dX10_otherwise_18 : decode cX10_otherwise 18 = .ok (.iaload, 1) := by decide +kernel
theorem dX10_otherwise_19 : decode cX10_otherwise 19 = .ok (.if_icmp .ge 40, 3) := by decide +kernel
theorem dX10_otherwise_22 : decode cX10_otherwise 22 = .ok (.iload 4, 2) := by decide +kernel
theorem dX10_otherwise_24 : decode cX10_otherwise 24 = .ok (.aload_n 0, 1) := by decide +kernel
theorem dX10_otherwise_25 : decode cX10_otherwise 25 = .ok (.getfield 247, 3) := by decide +kernel
theorem dX10_otherwise_28 : decode cX10_otherwise 28 = .ok (.if_icmp .ge 22, 3) := by decide +kernel
theorem dX10_otherwise_31 : decode cX10_otherwise 31 = .ok (.aload_n 0, 1) := by decide +kernel
theorem dX10_otherwise_32 : decode cX10_otherwise 32 = .ok (.getfield 51, 3) := by decide +kernel
theorem dX10_otherwise_35 : decode cX10_otherwise 35 = .ok (.iload 4, 2) := by decide +kernel
theorem dX10_otherwise_37 : decode cX10_otherwise 37 = .ok (.iaload, 1) := by decide +kernel
theorem dX10_otherwise_38 : decode cX10_otherwise 38 = .ok (.aload_n 0, 1) := by decide +kernel
theorem dX10_otherwise_39 : decode cX10_otherwise 39 = .ok (.getfield 103, 3) := by decide +kernel
theorem dX10_otherwise_42 : decode cX10_otherwise 42 = .ok (.iload_n 1, 1) := by decide +kernel
theorem dX10_otherwise_43 : decode cX10_otherwise 43 = .ok (.aaload, 1) := by decide +kernel
theorem dX10_otherwise_44 : decode cX10_otherwise 44 = .ok (.iload 4, 2) := by decide +kernel
theorem dX10_otherwise_46 : decode cX10_otherwise 46 = .ok (.iaload, 1) := by decide +kernel
theorem dX10_otherwise_47 : decode cX10_otherwise 47 = .ok (.if_icmp .eq 6, 3) := by decide +kernel
theorem dX10_otherwise_50 : decode cX10_otherwise 50 = .ok (.iload 4, 2) := by decide +kernel
theorem dX10_otherwise_52 : decode cX10_otherwise 52 = .ok (.ireturn, 1) := by decide +kernel
theorem dX10_otherwise_53 : decode cX10_otherwise 53 = .ok (.iinc 4 1, 3) := by decide +kernel
theorem dX10_otherwise_56 : decode cX10_otherwise 56 = .ok (.goto (-45), 3) := by decide +kernel
theorem dX10_otherwise_59 : decode cX10_otherwise 59 = .ok (.aload_n 0, 1) := by decide +kernel
theorem dX10_otherwise_60 : decode cX10_otherwise 60 = .ok (.getfield 247, 3) := by decide +kernel
theorem dX10_otherwise_63 : decode cX10_otherwise 63 = .ok (.aload_n 0, 1) := by decide +kernel
theorem dX10_otherwise_64 : decode cX10_otherwise 64 = .ok (.getfield 100, 3) := by decide +kernel
theorem dX10_otherwise_67 : decode cX10_otherwise 67 = .ok (.iload_n 1, 1) := by decide +kernel
theorem dX10_otherwise_68 : decode cX10_otherwise 68 = .ok (.iaload, 1) := by decide +kernel
theorem dX10_otherwise_69 : decode cX10_otherwise 69 = .ok (.if_icmp .le 12, 3) := by decide +kernel
theorem dX10_otherwise_72 : decode cX10_otherwise 72 = .ok (.aload_n 0, 1) := by decide +kernel
theorem dX10_otherwise_73 : decode cX10_otherwise 73 = .ok (.getfield 100, 3) := by decide +kernel
theorem dX10_otherwise_76 : decode cX10_otherwise 76 = .ok (.iload_n 1, 1) := by decide +kernel
theorem dX10_otherwise_77 : decode cX10_otherwise 77 = .ok (.iaload, 1) := by decide +kernel
theorem dX10_otherwise_78 : decode cX10_otherwise 78 = .ok (.goto 4, 3) := by decide +kernel
theorem dX10_otherwise_81 : decode cX10_otherwise 81 = .ok (.iconst (-1), 1) := by decide +kernel
theorem dX10_otherwise_82 : decode cX10_otherwise 82 = .ok (.ireturn, 1) := by decide +kernel
theorem dX10_tells_0 : decode cX10_tells 0 = .ok (.iload_n 1, 1) := by decide +kernel
theorem dX10_tells_1 : decode cX10_tells 1 = .ok (.invokestatic 392, 3) := by decide +kernel
theorem dX10_tells_4 : decode cX10_tells 4 = .ok (.ifCond .eq 19, 3) := by decide +kernel
theorem dX10_tells_7 : decode cX10_tells 7 = .ok (.iload_n 2, 1) := by decide +kernel
theorem dX10_tells_8 : decode cX10_tells 8 = .ok (.invokestatic 121, 3) := by decide +kernel
theorem dX10_tells_11 : decode cX10_tells 11 = .ok (.ifCond .eq 12, 3) := by decide +kernel
theorem dX10_tells_14 : decode cX10_tells 14 = .ok (.iload_n 3, 1) := by decide +kernel
theorem dX10_tells_15 : decode cX10_tells 15 = .ok (.iconst 0, 1) := by decide +kernel
theorem dX10_tells_16 : decode cX10_tells 16 = .ok (.iconst 3, 1) := by decide +kernel
theorem dX10_tells_17 : decode cX10_tells 17 = .ok (.invokestatic 113, 3) := by decide +kernel
theorem dX10_tells_20 : decode cX10_tells 20 = .ok (.ifCond .ne 6, 3) := by decide +kernel
theorem dX10_tells_23 : decode cX10_tells 23 = .ok (.bipush (-2), 2) := by decide +kernel
theorem dX10_tells_25 : decode cX10_tells 25 = .ok (.ireturn, 1) := by decide +kernel
theorem dX10_tells_26 : decode cX10_tells 26 = .ok (.aload_n 0, 1) := by decide +kernel
theorem dX10_tells_27 : decode cX10_tells 27 = .ok (.getfield 97, 3) := by decide +kernel
theorem dX10_tells_30 : decode cX10_tells 30 = .ok (.iload_n 1, 1) := by decide +kernel
theorem dX10_tells_31 : decode cX10_tells 31 = .ok (.iaload, 1) := by decide +kernel
theorem dX10_tells_32 : decode cX10_tells 32 = .ok (.ifCond .ge 6, 3) := by decide +kernel
theorem dX10_tells_35 : decode cX10_tells 35 = .ok (.bipush (-11), 2) := by decide +kernel
theorem dX10_tells_37 : decode cX10_tells 37 = .ok (.ireturn, 1) := by decide +kernel
theorem dX10_tells_38 : decode cX10_tells 38 = .ok (.aload_n 0, 1) := by decide +kernel
theorem dX10_tells_39 : decode cX10_tells 39 = .ok (.getfield 100, 3) := by decide +kernel
theorem dX10_tells_42 : decode cX10_tells 42 = .ok (.iload_n 1, 1) := by decide +kernel
theorem dX10_tells_43 : decode cX10_tells 43 = .ok (.iaload, 1) := by decide +kernel
theorem dX10_tells_44 : decode cX10_tells 44 = .ok (.bipush 10, 2) := by decide +kernel
theorem dX10_tells_46 : decode cX10_tells 46 = .ok (.if_icmp .le 6, 3) := by decide +kernel
theorem dX10_tells_49 : decode cX10_tells 49 = .ok (.bipush (-2), 2) := by decide +kernel
theorem dX10_tells_51 : decode cX10_tells 51 = .ok (.ireturn, 1) := by decide +kernel
theorem dX10_tells_52 : decode cX10_tells 52 = .ok (.iload_n 3, 1) := by decide +kernel
theorem dX10_tells_53 : decode cX10_tells 53 = .ok (.ifCond .ne 11, 3) := by decide +kernel
theorem dX10_tells_56 : decode cX10_tells 56 = .ok (.aload_n 0, 1) := by decide +kernel
theorem dX10_tells_57 : decode cX10_tells 57 = .ok (.iload_n 1, 1) := by decide +kernel
theorem dX10_tells_58 : decode cX10_tells 58 = .ok (.iload_n 2, 1) := by decide +kernel
theorem dX10_tells_59 : decode cX10_tells 59 = .ok (.iconst (-1), 1) := by decide +kernel
theorem dX10_tells_60 : decode cX10_tells 60 = .ok (.invokevirtual 395, 3) := by decide +kernel
theorem dX10_tells_63 : decode cX10_tells 63 = .ok (.ireturn, 1) := by decide +kernel
theorem dX10_tells_64 : decode cX10_tells 64 = .ok (.iconst 0, 1) := by decide +kernel
theorem dX10_tells_65 : decode cX10_tells 65 = .ok (.istore 4, 2) := by decide +kernel
theorem dX10_tells_67 : decode cX10_tells 67 = .ok (.iload_n 3, 1) := by decide +kernel
theorem dX10_tells_68 : decode cX10_tells 68 = .ok (.iconst 3, 1) := by decide +kernel
theorem dX10_tells_69 : decode cX10_tells 69 = .ok (.if_icmp .ne 45, 3) := by decide +kernel
theorem dX10_tells_72 : decode cX10_tells 72 = .ok (.iconst 0, 1) := by decide +kernel
theorem dX10_tells_73 : decode cX10_tells 73 = .ok (.istore 5, 2) := by decide +kernel
theorem dX10_tells_75 : decode cX10_tells 75 = .ok (.iload 5, 2) := by decide +kernel
theorem dX10_tells_77 : decode cX10_tells 77 = .ok (.aload_n 0, 1) := by decide +kernel
theorem dX10_tells_78 : decode cX10_tells 78 = .ok (.getfield 109, 3) := by decide +kernel
theorem dX10_tells_81 : decode cX10_tells 81 = .ok (.if_icmp .ge 30, 3) := by decide +kernel
theorem dX10_tells_84 : decode cX10_tells 84 = .ok (.aload_n 0, 1) := by decide +kernel
theorem dX10_tells_85 : decode cX10_tells 85 = .ok (.iload_n 1, 1) := by decide +kernel
theorem dX10_tells_86 : decode cX10_tells 86 = .ok (.iload_n 2, 1) := by decide +kernel
theorem dX10_tells_87 : decode cX10_tells 87 = .ok (.iload 5, 2) := by decide +kernel
theorem dX10_tells_89 : decode cX10_tells 89 = .ok (.invokevirtual 395, 3) := by decide +kernel
theorem dX10_tells_92 : decode cX10_tells 92 = .ok (.iconst (-1), 1) := by decide +kernel
theorem dX10_tells_93 : decode cX10_tells 93 = .ok (.if_icmp .ne 12, 3) := by decide +kernel
theorem dX10_tells_96 : decode cX10_tells 96 = .ok (.iload 4, 2) := by decide +kernel
theorem dX10_tells_98 : decode cX10_tells 98 = .ok (.iconst 1, 1) := by decide +kernel
theorem dX10_tells_99 : decode cX10_tells 99 = .ok (.iload 5, 2) := by decide +kernel
theorem dX10_tells_101 : decode cX10_tells 101 = .ok (.ishl, 1) := by decide +kernel
theorem dX10_tells_102 : decode cX10_tells 102 = .ok (.ior, 1) := by decide +kernel
theorem dX10_tells_103 : decode cX10_tells 103 = .ok (.istore 4, 2) := by decide +kernel
theorem dX10_tells_105 : decode cX10_tells 105 = .ok (.iinc 5 1, 3) := by decide +kernel
theorem dX10_tells_108 : decode cX10_tells 108 = .ok (.goto (-33), 3) := by decide +kernel
theorem dX10_tells_111 : decode cX10_tells 111 = .ok (.iload 4, 2) := by decide +kernel
theorem dX10_tells_113 : decode cX10_tells 113 = .ok (.ireturn, 1) := by decide +kernel
theorem dX10_tells_114 : decode cX10_tells 114 = .ok (.iconst 0, 1) := by decide +kernel
theorem dX10_tells_115 : decode cX10_tells 115 = .ok (.istore 5, 2) := by decide +kernel
theorem dX10_tells_117 : decode cX10_tells 117 = .ok (.iconst (-1), 1) := by decide +kernel
theorem dX10_tells_118 : decode cX10_tells 118 = .ok (.istore 6, 2) := by decide +kernel
theorem dX10_tells_120 : decode cX10_tells 120 = .ok (.iconst 0, 1) := by decide +kernel
theorem dX10_tells_121 : decode cX10_tells 121 = .ok (.istore 7, 2) := by decide +kernel
theorem dX10_tells_123 : decode cX10_tells 123 = .ok (.iload 7, 2) := by decide +kernel
theorem dX10_tells_125 : decode cX10_tells 125 = .ok (.bipush 40, 2) := by decide +kernel
theorem dX10_tells_127 : decode cX10_tells 127 = .ok (.if_icmp .gt 41, 3) := by decide +kernel
theorem dX10_tells_130 : decode cX10_tells 130 = .ok (.aload_n 0, 1) := by decide +kernel
theorem dX10_tells_131 : decode cX10_tells 131 = .ok (.iload_n 1, 1) := by decide +kernel
theorem dX10_tells_132 : decode cX10_tells 132 = .ok (.iload 7, 2) := by decide +kernel
theorem dX10_tells_134 : decode cX10_tells 134 = .ok (.iconst (-1), 1) := by decide +kernel
theorem dX10_tells_135 : decode cX10_tells 135 = .ok (.invokevirtual 395, 3) := by decide +kernel
theorem dX10_tells_138 : decode cX10_tells 138 = .ok (.iconst (-1), 1) := by decide +kernel
theorem dX10_tells_139 : decode cX10_tells 139 = .ok (.if_icmp .eq 6, 3) := by decide +kernel
theorem dX10_tells_142 : decode cX10_tells 142 = .ok (.goto 20, 3) := by decide +kernel
theorem dX10_tells_145 : decode cX10_tells 145 = .ok (.iload 5, 2) := by decide +kernel
theorem dX10_tells_147 : decode cX10_tells 147 = .ok (.ifCond .ne 8, 3) := by decide +kernel
theorem dX10_tells_150 : decode cX10_tells 150 = .ok (.iload 7, 2) := by decide +kernel
theorem dX10_tells_152 : decode cX10_tells 152 = .ok (.goto 5, 3) := by decide +kernel
theorem dX10_tells_155 : decode cX10_tells 155 = .ok (.iload 6, 2) := by decide +kernel
theorem dX10_tells_157 : decode cX10_tells 157 = .ok (.istore 6, 2) := by decide +kernel
theorem dX10_tells_159 : decode cX10_tells 159 = .ok (.iinc 5 1, 3) := by decide +kernel
theorem dX10_tells_162 : decode cX10_tells 162 = .ok (.iinc 7 1, 3) := by decide +kernel
theorem dX10_tells_165 : decode cX10_tells 165 = .ok (.goto (-42), 3) := by decide +kernel
theorem dX10_tells_168 : decode cX10_tells 168 = .ok (.iload_n 3, 1) := by decide +kernel
theorem dX10_tells_169 : decode cX10_tells 169 = .ok (.iconst 1, 1) := by decide +kernel
theorem dX10_tells_170 : decode cX10_tells 170 = .ok (.if_icmp .ne 8, 3) := by decide +kernel
theorem dX10_tells_173 : decode cX10_tells 173 = .ok (.iload 5, 2) := by decide +kernel
theorem dX10_tells_175 : decode cX10_tells 175 = .ok (.goto 5, 3) := by decide +kernel
theorem dX10_tells_178 : decode cX10_tells 178 = .ok (.iload 6, 2) := by decide +kernel
theorem dX10_tells_180 : decode cX10_tells 180 = .ok (.ireturn, 1) := by decide +kernel
theorem dX10_film_0 : decode cX10_film 0 = .ok (.iload_n 1, 1) := by decide +kernel
theorem dX10_film_1 : decode cX10_film 1 = .ok (.invokestatic 392, 3) := by decide +kernel
theorem dX10_film_4 : decode cX10_film 4 = .ok (.ifCond .eq 10, 3) := by decide +kernel
theorem dX10_film_7 : decode cX10_film 7 = .ok (.iload_n 2, 1) := by decide +kernel
theorem dX10_film_8 : decode cX10_film 8 = .ok (.invokestatic 121, 3) := by decide +kernel
theorem dX10_film_11 : decode cX10_film 11 = .ok (.ifCond .ne 6, 3) := by decide +kernel
theorem dX10_film_14 : decode cX10_film 14 = .ok (.bipush (-2), 2) := by decide +kernel
theorem dX10_film_16 : decode cX10_film 16 = .ok (.ireturn, 1) := by decide +kernel
theorem dX10_film_17 : decode cX10_film 17 = .ok (.aload_n 0, 1) := by decide +kernel
theorem dX10_film_18 : decode cX10_film 18 = .ok (.iload_n 2, 1) := by decide +kernel
theorem dX10_film_19 : decode cX10_film 19 = .ok (.i2l, 1) := by decide +kernel
theorem dX10_film_20 : decode cX10_film 20 = .ok (.lconst 1, 1) := by decide +kernel
theorem dX10_film_21 : decode cX10_film 21 = .ok (.iconst (-1), 1) := by decide +kernel
theorem dX10_film_22 : decode cX10_film 22 = .ok (.invokevirtual 258, 3) := by decide +kernel
theorem dX10_film_25 : decode cX10_film 25 = .ok (.aload_n 0, 1) := by decide +kernel
theorem dX10_film_26 : decode cX10_film 26 = .ok (.getfield 97, 3) := by decide +kernel
theorem dX10_film_29 : decode cX10_film 29 = .ok (.iload_n 1, 1) := by decide +kernel
theorem dX10_film_30 : decode cX10_film 30 = .ok (.iconst 0, 1) := by decide +kernel
theorem dX10_film_31 : decode cX10_film 31 = .ok (.iastore, 1) := by decide +kernel
theorem dX10_film_32 : decode cX10_film 32 = .ok (.aload_n 0, 1) := by decide +kernel
theorem dX10_film_33 : decode cX10_film 33 = .ok (.getfield 100, 3) := by decide +kernel
theorem dX10_film_36 : decode cX10_film 36 = .ok (.iload_n 1, 1) := by decide +kernel
theorem dX10_film_37 : decode cX10_film 37 = .ok (.aload_n 0, 1) := by decide +kernel
theorem dX10_film_38 : decode cX10_film 38 = .ok (.getfield 247, 3) := by decide +kernel
theorem dX10_film_41 : decode cX10_film 41 = .ok (.iastore, 1) := by decide +kernel
theorem dX10_film_42 : decode cX10_film 42 = .ok (.iconst 0, 1) := by decide +kernel
theorem dX10_film_43 : decode cX10_film 43 = .ok (.istore_n 3, 1) := by decide +kernel
theorem dX10_film_44 : decode cX10_film 44 = .ok (.iload_n 3, 1) := by decide +kernel
theorem dX10_film_45 : decode cX10_film 45 = .ok (.aload_n 0, 1) := by decide +kernel
theorem dX10_film_46 : decode cX10_film 46 = .ok (.getfield 247, 3) := by decide +kernel
theorem dX10_film_49 : decode cX10_film 49 = .ok (.if_icmp .ge 23, 3) := by decide +kernel
theorem dX10_film_52 : decode cX10_film 52 = .ok (.aload_n 0, 1) := by decide +kernel
theorem dX10_film_53 : decode cX10_film 53 = .ok (.getfield 103, 3) := by decide +kernel
theorem dX10_film_56 : decode cX10_film 56 = .ok (.iload_n 1, 1) := by decide +kernel
theorem dX10_film_57 : decode cX10_film 57 = .ok (.aaload, 1) := by decide +kernel
theorem dX10_film_58 : decode cX10_film 58 = .ok (.iload_n 3, 1) := by decide +kernel
theorem dX10_film_59 : decode cX10_film 59 = .ok (.aload_n 0, 1) := by decide +kernel
theorem dX10_film_60 : decode cX10_film 60 = .ok (.getfield 51, 3) := by decide +kernel
theorem dX10_film_63 : decode cX10_film 63 = .ok (.iload_n 3, 1) := by decide +kernel
theorem dX10_film_64 : decode cX10_film 64 = .ok (.iaload, 1) := by decide +kernel
theorem dX10_film_65 : decode cX10_film 65 = .ok (.iastore, 1) := by decide +kernel
theorem dX10_film_66 : decode cX10_film 66 = .ok (.iinc 3 1, 3) := by decide +kernel
theorem dX10_film_69 : decode cX10_film 69 = .ok (.goto (-25), 3) := by decide +kernel
theorem dX10_film_72 : decode cX10_film 72 = .ok (.aload_n 0, 1) := by decide +kernel
theorem dX10_film_73 : decode cX10_film 73 = .ok (.getfield 247, 3) := by decide +kernel
theorem dX10_film_76 : decode cX10_film 76 = .ok (.ireturn, 1) := by decide +kernel
theorem dX10_image_0 : decode cX10_image 0 = .ok (.aload_n 0, 1) := by decide +kernel
theorem dX10_image_1 : decode cX10_image 1 = .ok (.iconst 1, 1) := by decide +kernel
theorem dX10_image_2 : decode cX10_image 2 = .ok (.putfield 398, 3) := by decide +kernel
theorem dX10_image_5 : decode cX10_image 5 = .ok (.aload_n 0, 1) := by decide +kernel
theorem dX10_image_6 : decode cX10_image 6 = .ok (.iconst 1, 1) := by decide +kernel
theorem dX10_image_7 : decode cX10_image 7 = .ok (.invokevirtual 367, 3) := by decide +kernel
theorem dX10_image_10 : decode cX10_image 10 = .ok (.aload_n 0, 1) := by decide +kernel
theorem dX10_image_11 : decode cX10_image 11 = .ok (.getfield 109, 3) := by decide +kernel
theorem dX10_image_14 : decode cX10_image 14 = .ok (.ireturn, 1) := by decide +kernel
theorem dX10_back_0 : decode cX10_back 0 = .ok (.aload_n 0, 1) := by decide +kernel
theorem dX10_back_1 : decode cX10_back 1 = .ok (.getfield 398, 3) := by decide +kernel
theorem dX10_back_4 : decode cX10_back 4 = .ok (.ifCond .ne 6, 3) := by decide +kernel
theorem dX10_back_7 : decode cX10_back 7 = .ok (.bipush (-3), 2) := by decide +kernel
theorem dX10_back_9 : decode cX10_back 9 = .ok (.ireturn, 1) := by decide +kernel
theorem dX10_back_10 : decode cX10_back 10 = .ok (.aload_n 0, 1) := by decide +kernel
theorem dX10_back_11 : decode cX10_back 11 = .ok (.iconst 1, 1) := by decide +kernel
theorem dX10_back_12 : decode cX10_back 12 = .ok (.invokevirtual 373, 3) := by decide +kernel
theorem dX10_back_15 : decode cX10_back 15 = .ok (.aload_n 0, 1) := by decide +kernel
theorem dX10_back_16 : decode cX10_back 16 = .ok (.getfield 109, 3) := by decide +kernel
theorem dX10_back_19 : decode cX10_back 19 = .ok (.ireturn, 1) := by decide +kernel
theorem dX10_isSheet_0 : decode cX10_isSheet 0 = .ok (.iload_n 0, 1) := by decide +kernel
theorem dX10_isSheet_1 : decode cX10_isSheet 1 = .ok (.iconst 0, 1) := by decide +kernel
theorem dX10_isSheet_2 : decode cX10_isSheet 2 = .ok (.iconst 3, 1) := by decide +kernel
theorem dX10_isSheet_3 : decode cX10_isSheet 3 = .ok (.invokestatic 113, 3) := by decide +kernel
theorem dX10_isSheet_6 : decode cX10_isSheet 6 = .ok (.ireturn, 1) := by decide +kernel
theorem dX10_sheet_0 : decode cX10_sheet 0 = .ok (.iload_n 1, 1) := by decide +kernel
theorem dX10_sheet_1 : decode cX10_sheet 1 = .ok (.invokestatic 392, 3) := by decide +kernel
theorem dX10_sheet_4 : decode cX10_sheet 4 = .ok (.ifCond .eq 22, 3) := by decide +kernel
theorem dX10_sheet_7 : decode cX10_sheet 7 = .ok (.iload_n 2, 1) := by decide +kernel
theorem dX10_sheet_8 : decode cX10_sheet 8 = .ok (.iconst (-1), 1) := by decide +kernel
theorem dX10_sheet_9 : decode cX10_sheet 9 = .ok (.iconst 1, 1) := by decide +kernel
theorem dX10_sheet_10 : decode cX10_sheet 10 = .ok (.invokestatic 113, 3) := by decide +kernel
theorem dX10_sheet_13 : decode cX10_sheet 13 = .ok (.ifCond .eq 13, 3) := by decide +kernel
theorem dX10_sheet_16 : decode cX10_sheet 16 = .ok (.iload_n 2, 1) := by decide +kernel
theorem dX10_sheet_17 : decode cX10_sheet 17 = .ok (.ifCond .lt 12, 3) := by decide +kernel
theorem dX10_sheet_20 : decode cX10_sheet 20 = .ok (.iload_n 3, 1) := by decide +kernel
theorem dX10_sheet_21 : decode cX10_sheet 21 = .ok (.bipush 40, 2) := by decide +kernel
theorem dX10_sheet_23 : decode cX10_sheet 23 = .ok (.if_icmp .le 6, 3) := by decide +kernel
theorem dX10_sheet_26 : decode cX10_sheet 26 = .ok (.bipush (-2), 2) := by decide +kernel
theorem dX10_sheet_28 : decode cX10_sheet 28 = .ok (.ireturn, 1) := by decide +kernel
theorem dX10_sheet_29 : decode cX10_sheet 29 = .ok (.iload_n 2, 1) := by decide +kernel
theorem dX10_sheet_30 : decode cX10_sheet 30 = .ok (.ifCond .lt 10, 3) := by decide +kernel
theorem dX10_sheet_33 : decode cX10_sheet 33 = .ok (.iload_n 3, 1) := by decide +kernel
theorem dX10_sheet_34 : decode cX10_sheet 34 = .ok (.ifCond .ge 6, 3) := by decide +kernel
theorem dX10_sheet_37 : decode cX10_sheet 37 = .ok (.bipush (-14), 2) := by decide +kernel
theorem dX10_sheet_39 : decode cX10_sheet 39 = .ok (.ireturn, 1) := by decide +kernel
theorem dX10_sheet_40 : decode cX10_sheet 40 = .ok (.aload_n 0, 1) := by decide +kernel
theorem dX10_sheet_41 : decode cX10_sheet 41 = .ok (.getfield 97, 3) := by decide +kernel
theorem dX10_sheet_44 : decode cX10_sheet 44 = .ok (.iload_n 1, 1) := by decide +kernel
theorem dX10_sheet_45 : decode cX10_sheet 45 = .ok (.iload_n 2, 1) := by decide +kernel
theorem dX10_sheet_46 : decode cX10_sheet 46 = .ok (.iastore, 1) := by decide +kernel
theorem dX10_sheet_47 : decode cX10_sheet 47 = .ok (.aload_n 0, 1) := by decide +kernel
theorem dX10_sheet_48 : decode cX10_sheet 48 = .ok (.getfield 100, 3) := by decide +kernel
theorem dX10_sheet_51 : decode cX10_sheet 51 = .ok (.iload_n 1, 1) := by decide +kernel
theorem dX10_sheet_52 : decode cX10_sheet 52 = .ok (.iload_n 2, 1) := by decide +kernel
theorem dX10_sheet_53 : decode cX10_sheet 53 = .ok (.ifCond .ge 7, 3) := by decide +kernel
theorem dX10_sheet_56 : decode cX10_sheet 56 = .ok (.iconst 0, 1) := by decide +kernel
theorem dX10_sheet_57 : decode cX10_sheet 57 = .ok (.goto 4, 3) := by decide +kernel
theorem dX10_sheet_60 : decode cX10_sheet 60 = .ok (.iload_n 3, 1) := by decide +kernel
theorem dX10_sheet_61 : decode cX10_sheet 61 = .ok (.iastore, 1) := by decide +kernel
theorem dX10_sheet_62 : decode cX10_sheet 62 = .ok (.iconst 0, 1) := by decide +kernel
theorem dX10_sheet_63 : decode cX10_sheet 63 = .ok (.istore 4, 2) := by decide +kernel
theorem dX10_sheet_65 : decode cX10_sheet 65 = .ok (.iload 4, 2) := by decide +kernel
theorem dX10_sheet_67 : decode cX10_sheet 67 = .ok (.bipush 40, 2) := by decide +kernel
theorem dX10_sheet_69 : decode cX10_sheet 69 = .ok (.if_icmp .ge 19, 3) := by decide +kernel
theorem dX10_sheet_72 : decode cX10_sheet 72 = .ok (.aload_n 0, 1) := by decide +kernel
theorem dX10_sheet_73 : decode cX10_sheet 73 = .ok (.getfield 103, 3) := by decide +kernel
theorem dX10_sheet_76 : decode cX10_sheet 76 = .ok (.iload_n 1, 1) := by decide +kernel
theorem dX10_sheet_77 : decode cX10_sheet 77 = .ok (.aaload, 1) := by decide +kernel
theorem dX10_sheet_78 : decode cX10_sheet 78 = .ok (.iload 4, 2) := by decide +kernel
theorem dX10_sheet_80 : decode cX10_sheet 80 = .ok (.iconst 0, 1) := by decide +kernel
theorem dX10_sheet_81 : decode cX10_sheet 81 = .ok (.iastore, 1) := by decide +kernel
theorem dX10_sheet_82 : decode cX10_sheet 82 = .ok (.iinc 4 1, 3) := by decide +kernel
theorem dX10_sheet_85 : decode cX10_sheet 85 = .ok (.goto (-20), 3) := by decide +kernel
theorem dX10_sheet_88 : decode cX10_sheet 88 = .ok (.iconst 1, 1) := by decide +kernel
theorem dX10_sheet_89 : decode cX10_sheet 89 = .ok (.ireturn, 1) := by decide +kernel
theorem dX10_put_0 : decode cX10_put 0 = .ok (.iload_n 1, 1) := by decide +kernel
theorem dX10_put_1 : decode cX10_put 1 = .ok (.invokestatic 392, 3) := by decide +kernel
theorem dX10_put_4 : decode cX10_put 4 = .ok (.ifCond .ne 6, 3) := by decide +kernel
theorem dX10_put_7 : decode cX10_put 7 = .ok (.bipush (-2), 2) := by decide +kernel
theorem dX10_put_9 : decode cX10_put 9 = .ok (.ireturn, 1) := by decide +kernel
theorem dX10_put_10 : decode cX10_put 10 = .ok (.aload_n 0, 1) := by decide +kernel
theorem dX10_put_11 : decode cX10_put 11 = .ok (.getfield 97, 3) := by decide +kernel
theorem dX10_put_14 : decode cX10_put 14 = .ok (.iload_n 1, 1) := by decide +kernel
theorem dX10_put_15 : decode cX10_put 15 = .ok (.iaload, 1) := by decide +kernel
theorem dX10_put_16 : decode cX10_put 16 = .ok (.ifCond .ge 6, 3) := by decide +kernel
theorem dX10_put_19 : decode cX10_put 19 = .ok (.bipush (-11), 2) := by decide +kernel
theorem dX10_put_21 : decode cX10_put 21 = .ok (.ireturn, 1) := by decide +kernel
theorem dX10_put_22 : decode cX10_put 22 = .ok (.iload_n 2, 1) := by decide +kernel
theorem dX10_put_23 : decode cX10_put 23 = .ok (.iconst 0, 1) := by decide +kernel
theorem dX10_put_24 : decode cX10_put 24 = .ok (.aload_n 0, 1) := by decide +kernel
theorem dX10_put_25 : decode cX10_put 25 = .ok (.getfield 100, 3) := by decide +kernel
theorem dX10_put_28 : decode cX10_put 28 = .ok (.iload_n 1, 1) := by decide +kernel
theorem dX10_put_29 : decode cX10_put 29 = .ok (.iaload, 1) := by decide +kernel
theorem dX10_put_30 : decode cX10_put 30 = .ok (.iconst 1, 1) := by decide +kernel
theorem dX10_put_31 : decode cX10_put 31 = .ok (.isub, 1) := by decide +kernel
theorem dX10_put_32 : decode cX10_put 32 = .ok (.invokestatic 113, 3) := by decide +kernel
theorem dX10_put_35 : decode cX10_put 35 = .ok (.ifCond .ne 6, 3) := by decide +kernel
theorem dX10_put_38 : decode cX10_put 38 = .ok (.bipush (-12), 2) := by decide +kernel
theorem dX10_put_40 : decode cX10_put 40 = .ok (.ireturn, 1) := by decide +kernel
theorem dX10_put_41 : decode cX10_put 41 = .ok (.aload_n 0, 1) := by decide +kernel
theorem dX10_put_42 : decode cX10_put 42 = .ok (.getfield 103, 3) := by decide +kernel
theorem dX10_put_45 : decode cX10_put 45 = .ok (.iload_n 1, 1) := by decide +kernel
theorem dX10_put_46 : decode cX10_put 46 = .ok (.aaload, 1) := by decide +kernel
theorem dX10_put_47 : decode cX10_put 47 = .ok (.iload_n 2, 1) := by decide +kernel
theorem dX10_put_48 : decode cX10_put 48 = .ok (.aload_n 0, 1) := by decide +kernel
theorem dX10_put_49 : decode cX10_put 49 = .ok (.getfield 97, 3) := by decide +kernel
theorem dX10_put_52 : decode cX10_put 52 = .ok (.iload_n 1, 1) := by decide +kernel
theorem dX10_put_53 : decode cX10_put 53 = .ok (.iaload, 1) := by decide +kernel
theorem dX10_put_54 : decode cX10_put 54 = .ok (.ifCond .ne 8, 3) := by decide +kernel
theorem dX10_put_57 : decode cX10_put 57 = .ok (.iload_n 3, 1) := by decide +kernel
theorem dX10_put_58 : decode cX10_put 58 = .ok (.i2b, 1) := by decide +kernel
theorem dX10_put_59 : decode cX10_put 59 = .ok (.goto 4, 3) := by decide +kernel
theorem dX10_put_62 : decode cX10_put 62 = .ok (.iload_n 3, 1) := by decide +kernel
theorem dX10_put_63 : decode cX10_put 63 = .ok (.iastore, 1) := by decide +kernel
theorem dX10_put_64 : decode cX10_put 64 = .ok (.iconst 1, 1) := by decide +kernel
theorem dX10_put_65 : decode cX10_put 65 = .ok (.ireturn, 1) := by decide +kernel
theorem dX10_copy_0 : decode cX10_copy 0 = .ok (.iload_n 1, 1) := by decide +kernel
theorem dX10_copy_1 : decode cX10_copy 1 = .ok (.invokestatic 392, 3) := by decide +kernel
theorem dX10_copy_4 : decode cX10_copy 4 = .ok (.ifCond .eq 10, 3) := by decide +kernel
theorem dX10_copy_7 : decode cX10_copy 7 = .ok (.iload_n 3, 1) := by decide +kernel
theorem dX10_copy_8 : decode cX10_copy 8 = .ok (.invokestatic 392, 3) := by decide +kernel
theorem dX10_copy_11 : decode cX10_copy 11 = .ok (.ifCond .ne 6, 3) := by decide +kernel
theorem dX10_copy_14 : decode cX10_copy 14 = .ok (.bipush (-2), 2) := by decide +kernel
theorem dX10_copy_16 : decode cX10_copy 16 = .ok (.ireturn, 1) := by decide +kernel
theorem dX10_copy_17 : decode cX10_copy 17 = .ok (.aload_n 0, 1) := by decide +kernel
theorem dX10_copy_18 : decode cX10_copy 18 = .ok (.getfield 97, 3) := by decide +kernel
theorem dX10_copy_21 : decode cX10_copy 21 = .ok (.iload_n 1, 1) := by decide +kernel
theorem dX10_copy_22 : decode cX10_copy 22 = .ok (.iaload, 1) := by decide +kernel
theorem dX10_copy_23 : decode cX10_copy 23 = .ok (.ifCond .lt 12, 3) := by decide +kernel
theorem dX10_copy_26 : decode cX10_copy 26 = .ok (.aload_n 0, 1) := by decide +kernel
theorem dX10_copy_27 : decode cX10_copy 27 = .ok (.getfield 97, 3) := by decide +kernel
theorem dX10_copy_30 : decode cX10_copy 30 = .ok (.iload_n 3, 1) := by decide +kernel
theorem dX10_copy_31 : decode cX10_copy 31 = .ok (.iaload, 1) := by decide +kernel
theorem dX10_copy_32 : decode cX10_copy 32 = .ok (.ifCond .ge 6, 3) := by decide +kernel
theorem dX10_copy_35 : decode cX10_copy 35 = .ok (.bipush (-11), 2) := by decide +kernel
theorem dX10_copy_37 : decode cX10_copy 37 = .ok (.ireturn, 1) := by decide +kernel
theorem dX10_copy_38 : decode cX10_copy 38 = .ok (.aload_n 0, 1) := by decide +kernel
theorem dX10_copy_39 : decode cX10_copy 39 = .ok (.getfield 97, 3) := by decide +kernel
theorem dX10_copy_42 : decode cX10_copy 42 = .ok (.iload_n 1, 1) := by decide +kernel
theorem dX10_copy_43 : decode cX10_copy 43 = .ok (.iaload, 1) := by decide +kernel
theorem dX10_copy_44 : decode cX10_copy 44 = .ok (.aload_n 0, 1) := by decide +kernel
theorem dX10_copy_45 : decode cX10_copy 45 = .ok (.getfield 97, 3) := by decide +kernel
theorem dX10_copy_48 : decode cX10_copy 48 = .ok (.iload_n 3, 1) := by decide +kernel
theorem dX10_copy_49 : decode cX10_copy 49 = .ok (.iaload, 1) := by decide +kernel
theorem dX10_copy_50 : decode cX10_copy 50 = .ok (.if_icmp .eq 6, 3) := by decide +kernel
theorem dX10_copy_53 : decode cX10_copy 53 = .ok (.bipush (-13), 2) := by decide +kernel
theorem dX10_copy_55 : decode cX10_copy 55 = .ok (.ireturn, 1) := by decide +kernel
theorem dX10_copy_56 : decode cX10_copy 56 = .ok (.iload 5, 2) := by decide +kernel
theorem dX10_copy_58 : decode cX10_copy 58 = .ok (.ifCond .lt 39, 3) := by decide +kernel
theorem dX10_copy_61 : decode cX10_copy 61 = .ok (.iload_n 2, 1) := by decide +kernel
theorem dX10_copy_62 : decode cX10_copy 62 = .ok (.ifCond .lt 35, 3) := by decide +kernel
theorem dX10_copy_65 : decode cX10_copy 65 = .ok (.iload 4, 2) := by decide +kernel
theorem dX10_copy_67 : decode cX10_copy 67 = .ok (.ifCond .lt 30, 3) := by decide +kernel
theorem dX10_copy_70 : decode cX10_copy 70 = .ok (.iload_n 2, 1) := by decide +kernel
theorem dX10_copy_71 : decode cX10_copy 71 = .ok (.aload_n 0, 1) := by decide +kernel
theorem dX10_copy_72 : decode cX10_copy 72 = .ok (.getfield 100, 3) := by decide +kernel
theorem dX10_copy_75 : decode cX10_copy 75 = .ok (.iload_n 1, 1) := by decide +kernel
theorem dX10_copy_76 : decode cX10_copy 76 = .ok (.iaload, 1) := by decide +kernel
theorem dX10_copy_77 : decode cX10_copy 77 = .ok (.iload 5, 2) := by decide +kernel
theorem dX10_copy_79 : decode cX10_copy 79 = .ok (.isub, 1) := by decide +kernel
theorem dX10_copy_80 : decode cX10_copy 80 = .ok (.if_icmp .gt 17, 3) := by decide +kernel
theorem dX10_copy_83 : decode cX10_copy 83 = .ok (.iload 4, 2) := by decide +kernel
theorem dX10_copy_85 : decode cX10_copy 85 = .ok (.aload_n 0, 1) := by decide +kernel
theorem dX10_copy_86 : decode cX10_copy 86 = .ok (.getfield 100, 3) := by decide +kernel
theorem dX10_copy_89 : decode cX10_copy 89 = .ok (.iload_n 3, 1) := by decide +kernel
theorem dX10_copy_90 : decode cX10_copy 90 = .ok (.iaload, 1) := by decide +kernel
theorem dX10_copy_91 : decode cX10_copy 91 = .ok (.iload 5, 2) := by decide +kernel
theorem dX10_copy_93 : decode cX10_copy 93 = .ok (.isub, 1) := by decide +kernel
theorem dX10_copy_94 : decode cX10_copy 94 = .ok (.if_icmp .le 6, 3) := by decide +kernel
theorem dX10_copy_97 : decode cX10_copy 97 = .ok (.bipush (-12), 2) := by decide +kernel
theorem dX10_copy_99 : decode cX10_copy 99 = .ok (.ireturn, 1) := by decide +kernel
theorem dX10_copy_100 : decode cX10_copy 100 = .ok (.aload_n 0, 1) := by decide +kernel
theorem dX10_copy_101 : decode cX10_copy 101 = .ok (.getfield 103, 3) := by decide +kernel
theorem dX10_copy_104 : decode cX10_copy 104 = .ok (.iload_n 1, 1) := by decide +kernel
theorem dX10_copy_105 : decode cX10_copy 105 = .ok (.aaload, 1) := by decide +kernel
theorem dX10_copy_106 : decode cX10_copy 106 = .ok (.iload_n 2, 1) := by decide +kernel
theorem dX10_copy_107 : decode cX10_copy 107 = .ok (.aload_n 0, 1) := by decide +kernel
theorem dX10_copy_108 : decode cX10_copy 108 = .ok (.getfield 106, 3) := by decide +kernel
theorem dX10_copy_111 : decode cX10_copy 111 = .ok (.iconst 0, 1) := by decide +kernel
theorem dX10_copy_112 : decode cX10_copy 112 = .ok (.iload 5, 2) := by decide +kernel
theorem dX10_copy_114 : decode cX10_copy 114 = .ok (.invokestatic 361, 3) := by decide +kernel
theorem dX10_copy_117 : decode cX10_copy 117 = .ok (.aload_n 0, 1) := by decide +kernel
theorem dX10_copy_118 : decode cX10_copy 118 = .ok (.getfield 106, 3) := by decide +kernel
theorem dX10_copy_121 : decode cX10_copy 121 = .ok (.iconst 0, 1) := by decide +kernel
theorem dX10_copy_122 : decode cX10_copy 122 = .ok (.aload_n 0, 1) := by decide +kernel
theorem dX10_copy_123 : decode cX10_copy 123 = .ok (.getfield 103, 3) := by decide +kernel
theorem dX10_copy_126 : decode cX10_copy 126 = .ok (.iload_n 3, 1) := by decide +kernel
theorem dX10_copy_127 : decode cX10_copy 127 = .ok (.aaload, 1) := by decide +kernel
theorem dX10_copy_128 : decode cX10_copy 128 = .ok (.iload 4, 2) := by decide +kernel
theorem dX10_copy_130 : decode cX10_copy 130 = .ok (.iload 5, 2) := by decide +kernel
theorem dX10_copy_132 : decode cX10_copy 132 = .ok (.invokestatic 361, 3) := by decide +kernel
theorem dX10_copy_135 : decode cX10_copy 135 = .ok (.iload 5, 2) := by decide +kernel
theorem dX10_copy_137 : decode cX10_copy 137 = .ok (.ireturn, 1) := by decide +kernel
theorem dX10_load_0 : decode cX10_load 0 = .ok (.iload_n 1, 1) := by decide +kernel
theorem dX10_load_1 : decode cX10_load 1 = .ok (.invokestatic 392, 3) := by decide +kernel
theorem dX10_load_4 : decode cX10_load 4 = .ok (.ifCond .eq 22, 3) := by decide +kernel
theorem dX10_load_7 : decode cX10_load 7 = .ok (.iload_n 2, 1) := by decide +kernel
theorem dX10_load_8 : decode cX10_load 8 = .ok (.iconst 0, 1) := by decide +kernel
theorem dX10_load_9 : decode cX10_load 9 = .ok (.iconst 1, 1) := by decide +kernel
theorem dX10_load_10 : decode cX10_load 10 = .ok (.invokestatic 113, 3) := by decide +kernel
theorem dX10_load_13 : decode cX10_load 13 = .ok (.ifCond .eq 13, 3) := by decide +kernel
theorem dX10_load_16 : decode cX10_load 16 = .ok (.iload 4, 2) := by decide +kernel
theorem dX10_load_18 : decode cX10_load 18 = .ok (.iconst 0, 1) := by decide +kernel
theorem dX10_load_19 : decode cX10_load 19 = .ok (.iconst 5, 1) := by decide +kernel
theorem dX10_load_20 : decode cX10_load 20 = .ok (.invokestatic 113, 3) := by decide +kernel
theorem dX10_load_23 : decode cX10_load 23 = .ok (.ifCond .ne 6, 3) := by decide +kernel
theorem dX10_load_26 : decode cX10_load 26 = .ok (.bipush (-2), 2) := by decide +kernel
theorem dX10_load_28 : decode cX10_load 28 = .ok (.ireturn, 1) := by decide +kernel
theorem dX10_load_29 : decode cX10_load 29 = .ok (.aload_n 0, 1) := by decide +kernel
theorem dX10_load_30 : decode cX10_load 30 = .ok (.getfield 97, 3) := by decide +kernel
theorem dX10_load_33 : decode cX10_load 33 = .ok (.iload_n 1, 1) := by decide +kernel
theorem dX10_load_34 : decode cX10_load 34 = .ok (.iaload, 1) := by decide +kernel
theorem dX10_load_35 : decode cX10_load 35 = .ok (.ifCond .lt 16, 3) := by decide +kernel
theorem dX10_load_38 : decode cX10_load 38 = .ok (.aload_n 0, 1) := by decide +kernel
theorem dX10_load_39 : decode cX10_load 39 = .ok (.getfield 97, 3) := by decide +kernel
theorem dX10_load_42 : decode cX10_load 42 = .ok (.iload_n 1, 1) := by decide +kernel
theorem dX10_load_43 : decode cX10_load 43 = .ok (.iaload, 1) := by decide +kernel
theorem dX10_load_44 : decode cX10_load 44 = .ok (.iload_n 2, 1) := by decide +kernel
theorem dX10_load_45 : decode cX10_load 45 = .ok (.if_icmp .eq 6, 3) := by decide +kernel
theorem dX10_load_48 : decode cX10_load 48 = .ok (.bipush (-13), 2) := by decide +kernel
theorem dX10_load_50 : decode cX10_load 50 = .ok (.ireturn, 1) := by decide +kernel
theorem dX10_load_51 : decode cX10_load 51 = .ok (.aload_n 0, 1) := by decide +kernel
theorem dX10_load_52 : decode cX10_load 52 = .ok (.getfield 97, 3) := by decide +kernel
theorem dX10_load_55 : decode cX10_load 55 = .ok (.iload_n 1, 1) := by decide +kernel
theorem dX10_load_56 : decode cX10_load 56 = .ok (.iaload, 1) := by decide +kernel
theorem dX10_load_57 : decode cX10_load 57 = .ok (.ifCond .ge 6, 3) := by decide +kernel
theorem dX10_load_60 : decode cX10_load 60 = .ok (.bipush (-11), 2) := by decide +kernel
theorem dX10_load_62 : decode cX10_load 62 = .ok (.ireturn, 1) := by decide +kernel
theorem dX10_load_63 : decode cX10_load 63 = .ok (.iconst 0, 1) := by decide +kernel
theorem dX10_load_64 : decode cX10_load 64 = .ok (.istore 5, 2) := by decide +kernel
theorem dX10_load_66 : decode cX10_load 66 = .ok (.iconst 0, 1) := by decide +kernel
theorem dX10_load_67 : decode cX10_load 67 = .ok (.istore 6, 2) := by decide +kernel
theorem dX10_load_69 : decode cX10_load 69 = .ok (.iload 6, 2) := by decide +kernel
theorem dX10_load_71 : decode cX10_load 71 = .ok (.iload 4, 2) := by decide +kernel
theorem dX10_load_73 : decode cX10_load 73 = .ok (.if_icmp .ge 89, 3) := by decide +kernel
theorem dX10_load_76 : decode cX10_load 76 = .ok (.iload_n 3, 1) := by decide +kernel
theorem dX10_load_77 : decode cX10_load 77 = .ok (.iconst 4, 1) := by decide +kernel
theorem dX10_load_78 : decode cX10_load 78 = .ok (.iload 6, 2) := by decide +kernel
theorem dX10_load_80 : decode cX10_load 80 = .ok (.imul, 1) := by decide +kernel
theorem dX10_load_81 : decode cX10_load 81 = .ok (.iadd, 1) := by decide +kernel
theorem dX10_load_82 : decode cX10_load 82 = .ok (.istore 7, 2) := by decide +kernel
theorem dX10_load_84 : decode cX10_load 84 = .ok (.iload 7, 2) := by decide +kernel
theorem dX10_load_86 : decode cX10_load 86 = .ok (.iconst 0, 1) := by decide +kernel
theorem dX10_load_87 : decode cX10_load 87 = .ok (.aload_n 0, 1) := by decide +kernel
theorem dX10_load_88 : decode cX10_load 88 = .ok (.getfield 100, 3) := by decide +kernel
theorem dX10_load_91 : decode cX10_load 91 = .ok (.iload_n 1, 1) := by decide +kernel
theorem dX10_load_92 : decode cX10_load 92 = .ok (.iaload, 1) := by decide +kernel
theorem dX10_load_93 : decode cX10_load 93 = .ok (.iconst 4, 1) := by decide +kernel
theorem dX10_load_94 : decode cX10_load 94 = .ok (.isub, 1) := by decide +kernel
theorem dX10_load_95 : decode cX10_load 95 = .ok (.invokestatic 113, 3) := by decide +kernel
theorem dX10_load_98 : decode cX10_load 98 = .ok (.ifCond .ne 6, 3) := by decide +kernel
theorem dX10_load_101 : decode cX10_load 101 = .ok (.bipush (-12), 2) := by decide +kernel
theorem dX10_load_103 : decode cX10_load 103 = .ok (.ireturn, 1) := by decide +kernel
theorem dX10_load_104 : decode cX10_load 104 = .ok (.aload_n 0, 1) := by decide +kernel
theorem dX10_load_105 : decode cX10_load 105 = .ok (.aload_n 0, 1) := by decide +kernel
theorem dX10_load_106 : decode cX10_load 106 = .ok (.getfield 103, 3) := by decide +kernel
theorem dX10_load_109 : decode cX10_load 109 = .ok (.iload_n 1, 1) := by decide +kernel
theorem dX10_load_110 : decode cX10_load 110 = .ok (.aaload, 1) := by decide +kernel
theorem dX10_load_111 : decode cX10_load 111 = .ok (.iload 7, 2) := by decide +kernel
theorem dX10_load_113 : decode cX10_load 113 = .ok (.iaload, 1) := by decide +kernel
theorem dX10_load_114 : decode cX10_load 114 = .ok (.aload_n 0, 1) := by decide +kernel
theorem dX10_load_115 : decode cX10_load 115 = .ok (.getfield 103, 3) := by decide +kernel
theorem dX10_load_118 : decode cX10_load 118 = .ok (.iload_n 1, 1) := by decide +kernel
theorem dX10_load_119 : decode cX10_load 119 = .ok (.aaload, 1) := by decide +kernel
theorem dX10_load_120 : decode cX10_load 120 = .ok (.iload 7, 2) := by decide +kernel
theorem dX10_load_122 : decode cX10_load 122 = .ok (.iconst 1, 1) := by decide +kernel
theorem dX10_load_123 : decode cX10_load 123 = .ok (.iadd, 1) := by decide +kernel
theorem dX10_load_124 : decode cX10_load 124 = .ok (.iaload, 1) := by decide +kernel
theorem dX10_load_125 : decode cX10_load 125 = .ok (.aload_n 0, 1) := by decide +kernel
theorem dX10_load_126 : decode cX10_load 126 = .ok (.getfield 103, 3) := by decide +kernel
theorem dX10_load_129 : decode cX10_load 129 = .ok (.iload_n 1, 1) := by decide +kernel
theorem dX10_load_130 : decode cX10_load 130 = .ok (.aaload, 1) := by decide +kernel
theorem dX10_load_131 : decode cX10_load 131 = .ok (.iload 7, 2) := by decide +kernel
theorem dX10_load_133 : decode cX10_load 133 = .ok (.iconst 2, 1) := by decide +kernel
theorem dX10_load_134 : decode cX10_load 134 = .ok (.iadd, 1) := by decide +kernel
theorem dX10_load_135 : decode cX10_load 135 = .ok (.iaload, 1) := by decide +kernel
theorem dX10_load_136 : decode cX10_load 136 = .ok (.aload_n 0, 1) := by decide +kernel
theorem dX10_load_137 : decode cX10_load 137 = .ok (.getfield 103, 3) := by decide +kernel
theorem dX10_load_140 : decode cX10_load 140 = .ok (.iload_n 1, 1) := by decide +kernel
theorem dX10_load_141 : decode cX10_load 141 = .ok (.aaload, 1) := by decide +kernel
theorem dX10_load_142 : decode cX10_load 142 = .ok (.iload 7, 2) := by decide +kernel
theorem dX10_load_144 : decode cX10_load 144 = .ok (.iconst 3, 1) := by decide +kernel
theorem dX10_load_145 : decode cX10_load 145 = .ok (.iadd, 1) := by decide +kernel
theorem dX10_load_146 : decode cX10_load 146 = .ok (.iaload, 1) := by decide +kernel
theorem dX10_load_147 : decode cX10_load 147 = .ok (.invokevirtual 386, 3) := by decide +kernel
theorem dX10_load_150 : decode cX10_load 150 = .ok (.ifCond .lt 6, 3) := by decide +kernel
theorem dX10_load_153 : decode cX10_load 153 = .ok (.iinc 5 1, 3) := by decide +kernel
theorem dX10_load_156 : decode cX10_load 156 = .ok (.iinc 6 1, 3) := by decide +kernel
theorem dX10_load_159 : decode cX10_load 159 = .ok (.goto (-90), 3) := by decide +kernel
theorem dX10_load_162 : decode cX10_load 162 = .ok (.iload 5, 2) := by decide +kernel
theorem dX10_load_164 : decode cX10_load 164 = .ok (.ireturn, 1) := by decide +kernel
theorem dJ6_numberOfTrailingZeros_0f7a4_0 : decode cJ6_numberOfTrailingZeros_0f7a4 0 = .ok (.iload_n 0, 1) := by decide +kernel
theorem dJ6_numberOfTrailingZeros_0f7a4_1 : decode cJ6_numberOfTrailingZeros_0f7a4 1 = .ok (.iconst (-1), 1) := by decide +kernel
theorem dJ6_numberOfTrailingZeros_0f7a4_2 : decode cJ6_numberOfTrailingZeros_0f7a4 2 = .ok (.ixor, 1) := by decide +kernel
theorem dJ6_numberOfTrailingZeros_0f7a4_3 : decode cJ6_numberOfTrailingZeros_0f7a4 3 = .ok (.iload_n 0, 1) := by decide +kernel
theorem dJ6_numberOfTrailingZeros_0f7a4_4 : decode cJ6_numberOfTrailingZeros_0f7a4 4 = .ok (.iconst 1, 1) := by decide +kernel
theorem dJ6_numberOfTrailingZeros_0f7a4_5 : decode cJ6_numberOfTrailingZeros_0f7a4 5 = .ok (.isub, 1) := by decide +kernel
theorem dJ6_numberOfTrailingZeros_0f7a4_6 : decode cJ6_numberOfTrailingZeros_0f7a4 6 = .ok (.iand, 1) := by decide +kernel
theorem dJ6_numberOfTrailingZeros_0f7a4_7 : decode cJ6_numberOfTrailingZeros_0f7a4 7 = .ok (.istore_n 0, 1) := by decide +kernel
theorem dJ6_numberOfTrailingZeros_0f7a4_8 : decode cJ6_numberOfTrailingZeros_0f7a4 8 = .ok (.iload_n 0, 1) := by decide +kernel
theorem dJ6_numberOfTrailingZeros_0f7a4_9 : decode cJ6_numberOfTrailingZeros_0f7a4 9 = .ok (.ifCond .gt 8, 3) := by decide +kernel
theorem dJ6_numberOfTrailingZeros_0f7a4_12 : decode cJ6_numberOfTrailingZeros_0f7a4 12 = .ok (.iload_n 0, 1) := by decide +kernel
theorem dJ6_numberOfTrailingZeros_0f7a4_13 : decode cJ6_numberOfTrailingZeros_0f7a4 13 = .ok (.bipush 32, 2) := by decide +kernel
theorem dJ6_numberOfTrailingZeros_0f7a4_15 : decode cJ6_numberOfTrailingZeros_0f7a4 15 = .ok (.iand, 1) := by decide +kernel
theorem dJ6_numberOfTrailingZeros_0f7a4_16 : decode cJ6_numberOfTrailingZeros_0f7a4 16 = .ok (.ireturn, 1) := by decide +kernel
theorem dJ6_numberOfTrailingZeros_0f7a4_17 : decode cJ6_numberOfTrailingZeros_0f7a4 17 = .ok (.iconst 1, 1) := by decide +kernel
theorem dJ6_numberOfTrailingZeros_0f7a4_18 : decode cJ6_numberOfTrailingZeros_0f7a4 18 = .ok (.istore_n 1, 1) := by decide +kernel
theorem dJ6_numberOfTrailingZeros_0f7a4_19 : decode cJ6_numberOfTrailingZeros_0f7a4 19 = .ok (.iload_n 0, 1) := by decide +kernel
theorem dJ6_numberOfTrailingZeros_0f7a4_20 : decode cJ6_numberOfTrailingZeros_0f7a4 20 = .ok (.ldc_w 264, 3) := by decide +kernel
theorem dJ6_numberOfTrailingZeros_0f7a4_23 : decode cJ6_numberOfTrailingZeros_0f7a4 23 = .ok (.if_icmp .le 11, 3) := by decide +kernel
theorem dJ6_numberOfTrailingZeros_0f7a4_26 : decode cJ6_numberOfTrailingZeros_0f7a4 26 = .ok (.iinc 1 16, 3) := by decide +kernel
theorem dJ6_numberOfTrailingZeros_0f7a4_29 : decode cJ6_numberOfTrailingZeros_0f7a4 29 = .ok (.iload_n 0, 1) := by decide +kernel
theorem dJ6_numberOfTrailingZeros_0f7a4_30 : decode cJ6_numberOfTrailingZeros_0f7a4 30 = .ok (.bipush 16, 2) := by decide +kernel
theorem dJ6_numberOfTrailingZeros_0f7a4_32 : decode cJ6_numberOfTrailingZeros_0f7a4 32 = .ok (.iushr, 1) := by decide +kernel
theorem dJ6_numberOfTrailingZeros_0f7a4_33 : decode cJ6_numberOfTrailingZeros_0f7a4 33 = .ok (.istore_n 0, 1) := by decide +kernel
theorem dJ6_numberOfTrailingZeros_0f7a4_34 : decode cJ6_numberOfTrailingZeros_0f7a4 34 = .ok (.iload_n 0, 1) := by decide +kernel
theorem dJ6_numberOfTrailingZeros_0f7a4_35 : decode cJ6_numberOfTrailingZeros_0f7a4 35 = .ok (.sipush 256, 3) := by decide +kernel
theorem dJ6_numberOfTrailingZeros_0f7a4_38 : decode cJ6_numberOfTrailingZeros_0f7a4 38 = .ok (.if_icmp .le 11, 3) := by decide +kernel
theorem dJ6_numberOfTrailingZeros_0f7a4_41 : decode cJ6_numberOfTrailingZeros_0f7a4 41 = .ok (.iinc 1 8, 3) := by decide +kernel
theorem dJ6_numberOfTrailingZeros_0f7a4_44 : decode cJ6_numberOfTrailingZeros_0f7a4 44 = .ok (.iload_n 0, 1) := by decide +kernel
theorem dJ6_numberOfTrailingZeros_0f7a4_45 : decode cJ6_numberOfTrailingZeros_0f7a4 45 = .ok (.bipush 8, 2) := by decide +kernel
theorem dJ6_numberOfTrailingZeros_0f7a4_47 : decode cJ6_numberOfTrailingZeros_0f7a4 47 = .ok (.iushr, 1) := by decide +kernel
theorem dJ6_numberOfTrailingZeros_0f7a4_48 : decode cJ6_numberOfTrailingZeros_0f7a4 48 = .ok (.istore_n 0, 1) := by decide +kernel
theorem dJ6_numberOfTrailingZeros_0f7a4_49 : decode cJ6_numberOfTrailingZeros_0f7a4 49 = .ok (.iload_n 0, 1) := by decide +kernel
theorem dJ6_numberOfTrailingZeros_0f7a4_50 : decode cJ6_numberOfTrailingZeros_0f7a4 50 = .ok (.bipush 16, 2) := by decide +kernel
theorem dJ6_numberOfTrailingZeros_0f7a4_52 : decode cJ6_numberOfTrailingZeros_0f7a4 52 = .ok (.if_icmp .le 10, 3) := by decide +kernel
theorem dJ6_numberOfTrailingZeros_0f7a4_55 : decode cJ6_numberOfTrailingZeros_0f7a4 55 = .ok (.iinc 1 4, 3) := by decide +kernel
theorem dJ6_numberOfTrailingZeros_0f7a4_58 : decode cJ6_numberOfTrailingZeros_0f7a4 58 = .ok (.iload_n 0, 1) := by decide +kernel
theorem dJ6_numberOfTrailingZeros_0f7a4_59 : decode cJ6_numberOfTrailingZeros_0f7a4 59 = .ok (.iconst 4, 1) := by decide +kernel
theorem dJ6_numberOfTrailingZeros_0f7a4_60 : decode cJ6_numberOfTrailingZeros_0f7a4 60 = .ok (.iushr, 1) := by decide +kernel
theorem dJ6_numberOfTrailingZeros_0f7a4_61 : decode cJ6_numberOfTrailingZeros_0f7a4 61 = .ok (.istore_n 0, 1) := by decide +kernel
theorem dJ6_numberOfTrailingZeros_0f7a4_62 : decode cJ6_numberOfTrailingZeros_0f7a4 62 = .ok (.iload_n 0, 1) := by decide +kernel
theorem dJ6_numberOfTrailingZeros_0f7a4_63 : decode cJ6_numberOfTrailingZeros_0f7a4 63 = .ok (.iconst 4, 1) := by decide +kernel
theorem dJ6_numberOfTrailingZeros_0f7a4_64 : decode cJ6_numberOfTrailingZeros_0f7a4 64 = .ok (.if_icmp .le 10, 3) := by decide +kernel
theorem dJ6_numberOfTrailingZeros_0f7a4_67 : decode cJ6_numberOfTrailingZeros_0f7a4 67 = .ok (.iinc 1 2, 3) := by decide +kernel
theorem dJ6_numberOfTrailingZeros_0f7a4_70 : decode cJ6_numberOfTrailingZeros_0f7a4 70 = .ok (.iload_n 0, 1) := by decide +kernel
theorem dJ6_numberOfTrailingZeros_0f7a4_71 : decode cJ6_numberOfTrailingZeros_0f7a4 71 = .ok (.iconst 2, 1) := by decide +kernel
theorem dJ6_numberOfTrailingZeros_0f7a4_72 : decode cJ6_numberOfTrailingZeros_0f7a4 72 = .ok (.iushr, 1) := by decide +kernel
theorem dJ6_numberOfTrailingZeros_0f7a4_73 : decode cJ6_numberOfTrailingZeros_0f7a4 73 = .ok (.istore_n 0, 1) := by decide +kernel
theorem dJ6_numberOfTrailingZeros_0f7a4_74 : decode cJ6_numberOfTrailingZeros_0f7a4 74 = .ok (.iload_n 1, 1) := by decide +kernel
theorem dJ6_numberOfTrailingZeros_0f7a4_75 : decode cJ6_numberOfTrailingZeros_0f7a4 75 = .ok (.iload_n 0, 1) := by decide +kernel
theorem dJ6_numberOfTrailingZeros_0f7a4_76 : decode cJ6_numberOfTrailingZeros_0f7a4 76 = .ok (.iconst 1, 1) := by decide +kernel
theorem dJ6_numberOfTrailingZeros_0f7a4_77 : decode cJ6_numberOfTrailingZeros_0f7a4 77 = .ok (.iushr, 1) := by decide +kernel
theorem dJ6_numberOfTrailingZeros_0f7a4_78 : decode cJ6_numberOfTrailingZeros_0f7a4 78 = .ok (.iadd, 1) := by decide +kernel
theorem dJ6_numberOfTrailingZeros_0f7a4_79 : decode cJ6_numberOfTrailingZeros_0f7a4 79 = .ok (.ireturn, 1) := by decide +kernel
theorem dJ13_bitCount_95d88_0 : decode cJ13_bitCount_95d88 0 = .ok (.lload_n 0, 1) := by decide +kernel
theorem dJ13_bitCount_95d88_1 : decode cJ13_bitCount_95d88 1 = .ok (.lload_n 0, 1) := by decide +kernel
theorem dJ13_bitCount_95d88_2 : decode cJ13_bitCount_95d88 2 = .ok (.iconst 1, 1) := by decide +kernel
theorem dJ13_bitCount_95d88_3 : decode cJ13_bitCount_95d88 3 = .ok (.lushr, 1) := by decide +kernel
theorem dJ13_bitCount_95d88_4 : decode cJ13_bitCount_95d88 4 = .ok (.ldc2_w 314, 3) := by decide +kernel
theorem dJ13_bitCount_95d88_7 : decode cJ13_bitCount_95d88 7 = .ok (.land, 1) := by decide +kernel
theorem dJ13_bitCount_95d88_8 : decode cJ13_bitCount_95d88 8 = .ok (.lsub, 1) := by decide +kernel
theorem dJ13_bitCount_95d88_9 : decode cJ13_bitCount_95d88 9 = .ok (.lstore_n 0, 1) := by decide +kernel
theorem dJ13_bitCount_95d88_10 : decode cJ13_bitCount_95d88 10 = .ok (.lload_n 0, 1) := by decide +kernel
theorem dJ13_bitCount_95d88_11 : decode cJ13_bitCount_95d88 11 = .ok (.ldc2_w 316, 3) := by decide +kernel
theorem dJ13_bitCount_95d88_14 : decode cJ13_bitCount_95d88 14 = .ok (.land, 1) := by decide +kernel
theorem dJ13_bitCount_95d88_15 : decode cJ13_bitCount_95d88 15 = .ok (.lload_n 0, 1) := by decide +kernel
theorem dJ13_bitCount_95d88_16 : decode cJ13_bitCount_95d88 16 = .ok (.iconst 2, 1) := by decide +kernel
theorem dJ13_bitCount_95d88_17 : decode cJ13_bitCount_95d88 17 = .ok (.lushr, 1) := by decide +kernel
theorem dJ13_bitCount_95d88_18 : decode cJ13_bitCount_95d88 18 = .ok (.ldc2_w 316, 3) := by decide +kernel
theorem dJ13_bitCount_95d88_21 : decode cJ13_bitCount_95d88 21 = .ok (.land, 1) := by decide +kernel
theorem dJ13_bitCount_95d88_22 : decode cJ13_bitCount_95d88 22 = .ok (.ladd, 1) := by decide +kernel
theorem dJ13_bitCount_95d88_23 : decode cJ13_bitCount_95d88 23 = .ok (.lstore_n 0, 1) := by decide +kernel
theorem dJ13_bitCount_95d88_24 : decode cJ13_bitCount_95d88 24 = .ok (.lload_n 0, 1) := by decide +kernel
theorem dJ13_bitCount_95d88_25 : decode cJ13_bitCount_95d88 25 = .ok (.lload_n 0, 1) := by decide +kernel
theorem dJ13_bitCount_95d88_26 : decode cJ13_bitCount_95d88 26 = .ok (.iconst 4, 1) := by decide +kernel
theorem dJ13_bitCount_95d88_27 : decode cJ13_bitCount_95d88 27 = .ok (.lushr, 1) := by decide +kernel
theorem dJ13_bitCount_95d88_28 : decode cJ13_bitCount_95d88 28 = .ok (.ladd, 1) := by decide +kernel
theorem dJ13_bitCount_95d88_29 : decode cJ13_bitCount_95d88 29 = .ok (.ldc2_w 318, 3) := by decide +kernel
theorem dJ13_bitCount_95d88_32 : decode cJ13_bitCount_95d88 32 = .ok (.land, 1) := by decide +kernel
theorem dJ13_bitCount_95d88_33 : decode cJ13_bitCount_95d88 33 = .ok (.lstore_n 0, 1) := by decide +kernel
theorem dJ13_bitCount_95d88_34 : decode cJ13_bitCount_95d88 34 = .ok (.lload_n 0, 1) := by decide +kernel
theorem dJ13_bitCount_95d88_35 : decode cJ13_bitCount_95d88 35 = .ok (.lload_n 0, 1) := by decide +kernel
theorem dJ13_bitCount_95d88_36 : decode cJ13_bitCount_95d88 36 = .ok (.bipush 8, 2) := by decide +kernel
theorem dJ13_bitCount_95d88_38 : decode cJ13_bitCount_95d88 38 = .ok (.lushr, 1) := by decide +kernel
theorem dJ13_bitCount_95d88_39 : decode cJ13_bitCount_95d88 39 = .ok (.ladd, 1) := by decide +kernel
theorem dJ13_bitCount_95d88_40 : decode cJ13_bitCount_95d88 40 = .ok (.lstore_n 0, 1) := by decide +kernel
theorem dJ13_bitCount_95d88_41 : decode cJ13_bitCount_95d88 41 = .ok (.lload_n 0, 1) := by decide +kernel
theorem dJ13_bitCount_95d88_42 : decode cJ13_bitCount_95d88 42 = .ok (.lload_n 0, 1) := by decide +kernel
theorem dJ13_bitCount_95d88_43 : decode cJ13_bitCount_95d88 43 = .ok (.bipush 16, 2) := by decide +kernel
theorem dJ13_bitCount_95d88_45 : decode cJ13_bitCount_95d88 45 = .ok (.lushr, 1) := by decide +kernel
theorem dJ13_bitCount_95d88_46 : decode cJ13_bitCount_95d88 46 = .ok (.ladd, 1) := by decide +kernel
theorem dJ13_bitCount_95d88_47 : decode cJ13_bitCount_95d88 47 = .ok (.lstore_n 0, 1) := by decide +kernel
theorem dJ13_bitCount_95d88_48 : decode cJ13_bitCount_95d88 48 = .ok (.lload_n 0, 1) := by decide +kernel
theorem dJ13_bitCount_95d88_49 : decode cJ13_bitCount_95d88 49 = .ok (.lload_n 0, 1) := by decide +kernel
theorem dJ13_bitCount_95d88_50 : decode cJ13_bitCount_95d88 50 = .ok (.bipush 32, 2) := by decide +kernel
theorem dJ13_bitCount_95d88_52 : decode cJ13_bitCount_95d88 52 = .ok (.lushr, 1) := by decide +kernel
theorem dJ13_bitCount_95d88_53 : decode cJ13_bitCount_95d88 53 = .ok (.ladd, 1) := by decide +kernel
theorem dJ13_bitCount_95d88_54 : decode cJ13_bitCount_95d88 54 = .ok (.lstore_n 0, 1) := by decide +kernel
theorem dJ13_bitCount_95d88_55 : decode cJ13_bitCount_95d88 55 = .ok (.lload_n 0, 1) := by decide +kernel
theorem dJ13_bitCount_95d88_56 : decode cJ13_bitCount_95d88 56 = .ok (.l2i, 1) := by decide +kernel
theorem dJ13_bitCount_95d88_57 : decode cJ13_bitCount_95d88 57 = .ok (.bipush 127, 2) := by decide +kernel
theorem dJ13_bitCount_95d88_59 : decode cJ13_bitCount_95d88 59 = .ok (.iand, 1) := by decide +kernel
theorem dJ13_bitCount_95d88_60 : decode cJ13_bitCount_95d88 60 = .ok (.ireturn, 1) := by decide +kernel
theorem dL_law_0 : decode cL_law 0 = .ok (.new 7, 3) := by decide +kernel
theorem dL_law_3 : decode cL_law 3 = .ok (.dup, 1) := by decide +kernel
theorem dL_law_4 : decode cL_law 4 = .ok (.invokespecial 9, 3) := by decide +kernel
theorem dL_law_7 : decode cL_law 7 = .ok (.astore_n 1, 1) := by decide +kernel
theorem dL_law_8 : decode cL_law 8 = .ok (.new 10, 3) := by decide +kernel
theorem dL_law_11 : decode cL_law 11 = .ok (.dup, 1) := by decide +kernel
theorem dL_law_12 : decode cL_law 12 = .ok (.invokespecial 12, 3) := by decide +kernel
theorem dL_law_15 : decode cL_law 15 = .ok (.astore_n 2, 1) := by decide +kernel
theorem dL_law_16 : decode cL_law 16 = .ok (.iconst 0, 1) := by decide +kernel
theorem dL_law_17 : decode cL_law 17 = .ok (.istore_n 3, 1) := by decide +kernel
theorem dL_law_18 : decode cL_law 18 = .ok (.iload_n 3, 1) := by decide +kernel
theorem dL_law_19 : decode cL_law 19 = .ok (.aload_n 0, 1) := by decide +kernel
theorem dL_law_20 : decode cL_law 20 = .ok (.arraylength, 1) := by decide +kernel
theorem dL_law_21 : decode cL_law 21 = .ok (.bipush 6, 2) := by decide +kernel
theorem dL_law_23 : decode cL_law 23 = .ok (.isub, 1) := by decide +kernel
theorem dL_law_24 : decode cL_law 24 = .ok (.if_icmp .gt 1129, 3) := by decide +kernel
theorem dL_law_27 : decode cL_law 27 = .ok (.aload_n 0, 1) := by decide +kernel
theorem dL_law_28 : decode cL_law 28 = .ok (.iload_n 3, 1) := by decide +kernel
theorem dL_law_29 : decode cL_law 29 = .ok (.iaload, 1) := by decide +kernel
theorem dL_law_30 : decode cL_law 30 = .ok (.bipush 31, 2) := by decide +kernel
theorem dL_law_32 : decode cL_law 32 = .ok (.iand, 1) := by decide +kernel
theorem dL_law_33 : decode cL_law 33 = .ok (.tableswitch 1114 0 26 #[123, 176, 199, 252, 285, 318, 361, 394, 437, 470, 503, 536, 579, 622, 655, 678, 701, 724, 757, 810, 853, 886, 899, 912, 955, 998, 1061], 123) := by decide +kernel
theorem dL_law_156 : decode cL_law 156 = .ok (.aload_n 1, 1) := by decide +kernel
theorem dL_law_157 : decode cL_law 157 = .ok (.aload_n 0, 1) := by decide +kernel
theorem dL_law_158 : decode cL_law 158 = .ok (.iload_n 3, 1) := by decide +kernel
theorem dL_law_159 : decode cL_law 159 = .ok (.iconst 1, 1) := by decide +kernel
theorem dL_law_160 : decode cL_law 160 = .ok (.iadd, 1) := by decide +kernel
theorem dL_law_161 : decode cL_law 161 = .ok (.iaload, 1) := by decide +kernel
theorem dL_law_162 : decode cL_law 162 = .ok (.aload_n 0, 1) := by decide +kernel
theorem dL_law_163 : decode cL_law 163 = .ok (.iload_n 3, 1) := by decide +kernel
theorem dL_law_164 : decode cL_law 164 = .ok (.iconst 2, 1) := by decide +kernel
theorem dL_law_165 : decode cL_law 165 = .ok (.iadd, 1) := by decide +kernel
theorem dL_law_166 : decode cL_law 166 = .ok (.iaload, 1) := by decide +kernel
theorem dL_law_167 : decode cL_law 167 = .ok (.aload_n 0, 1) := by decide +kernel
theorem dL_law_168 : decode cL_law 168 = .ok (.iload_n 3, 1) := by decide +kernel
theorem dL_law_169 : decode cL_law 169 = .ok (.iconst 3, 1) := by decide +kernel
theorem dL_law_170 : decode cL_law 170 = .ok (.iadd, 1) := by decide +kernel
theorem dL_law_171 : decode cL_law 171 = .ok (.iaload, 1) := by decide +kernel
theorem dL_law_172 : decode cL_law 172 = .ok (.aload_n 0, 1) := by decide +kernel
theorem dL_law_173 : decode cL_law 173 = .ok (.iload_n 3, 1) := by decide +kernel
theorem dL_law_174 : decode cL_law 174 = .ok (.iconst 4, 1) := by decide +kernel
theorem dL_law_175 : decode cL_law 175 = .ok (.iadd, 1) := by decide +kernel
theorem dL_law_176 : decode cL_law 176 = .ok (.iaload, 1) := by decide +kernel
theorem dL_law_177 : decode cL_law 177 = .ok (.invokevirtual 13, 3) := by decide +kernel
theorem dL_law_180 : decode cL_law 180 = .ok (.aload_n 2, 1) := by decide +kernel
theorem dL_law_181 : decode cL_law 181 = .ok (.aload_n 0, 1) := by decide +kernel
theorem dL_law_182 : decode cL_law 182 = .ok (.iload_n 3, 1) := by decide +kernel
theorem dL_law_183 : decode cL_law 183 = .ok (.iconst 1, 1) := by decide +kernel
theorem dL_law_184 : decode cL_law 184 = .ok (.iadd, 1) := by decide +kernel
theorem dL_law_185 : decode cL_law 185 = .ok (.iaload, 1) := by decide +kernel
theorem dL_law_186 : decode cL_law 186 = .ok (.aload_n 0, 1) := by decide +kernel
theorem dL_law_187 : decode cL_law 187 = .ok (.iload_n 3, 1) := by decide +kernel
theorem dL_law_188 : decode cL_law 188 = .ok (.iconst 2, 1) := by decide +kernel
theorem dL_law_189 : decode cL_law 189 = .ok (.iadd, 1) := by decide +kernel
theorem dL_law_190 : decode cL_law 190 = .ok (.iaload, 1) := by decide +kernel
theorem dL_law_191 : decode cL_law 191 = .ok (.aload_n 0, 1) := by decide +kernel
theorem dL_law_192 : decode cL_law 192 = .ok (.iload_n 3, 1) := by decide +kernel
theorem dL_law_193 : decode cL_law 193 = .ok (.iconst 3, 1) := by decide +kernel
theorem dL_law_194 : decode cL_law 194 = .ok (.iadd, 1) := by decide +kernel
theorem dL_law_195 : decode cL_law 195 = .ok (.iaload, 1) := by decide +kernel
theorem dL_law_196 : decode cL_law 196 = .ok (.aload_n 0, 1) := by decide +kernel
theorem dL_law_197 : decode cL_law 197 = .ok (.iload_n 3, 1) := by decide +kernel
theorem dL_law_198 : decode cL_law 198 = .ok (.iconst 4, 1) := by decide +kernel
theorem dL_law_199 : decode cL_law 199 = .ok (.iadd, 1) := by decide +kernel
theorem dL_law_200 : decode cL_law 200 = .ok (.iaload, 1) := by decide +kernel
theorem dL_law_201 : decode cL_law 201 = .ok (.invokevirtual 17, 3) := by decide +kernel
theorem dL_law_204 : decode cL_law 204 = .ok (.if_icmp .eq 943, 3) := by decide +kernel
theorem dL_law_207 : decode cL_law 207 = .ok (.iconst 0, 1) := by decide +kernel
theorem dL_law_208 : decode cL_law 208 = .ok (.ireturn, 1) := by decide +kernel
theorem dL_law_209 : decode cL_law 209 = .ok (.aload_n 1, 1) := by decide +kernel
theorem dL_law_210 : decode cL_law 210 = .ok (.aload_n 0, 1) := by decide +kernel
theorem dL_law_211 : decode cL_law 211 = .ok (.iload_n 3, 1) := by decide +kernel
theorem dL_law_212 : decode cL_law 212 = .ok (.iconst 1, 1) := by decide +kernel
theorem dL_law_213 : decode cL_law 213 = .ok (.iadd, 1) := by decide +kernel
theorem dL_law_214 : decode cL_law 214 = .ok (.iaload, 1) := by decide +kernel
theorem dL_law_215 : decode cL_law 215 = .ok (.invokevirtual 18, 3) := by decide +kernel
theorem dL_law_218 : decode cL_law 218 = .ok (.aload_n 2, 1) := by decide +kernel
theorem dL_law_219 : decode cL_law 219 = .ok (.aload_n 0, 1) := by decide +kernel
theorem dL_law_220 : decode cL_law 220 = .ok (.iload_n 3, 1) := by decide +kernel
theorem dL_law_221 : decode cL_law 221 = .ok (.iconst 1, 1) := by decide +kernel
theorem dL_law_222 : decode cL_law 222 = .ok (.iadd, 1) := by decide +kernel
theorem dL_law_223 : decode cL_law 223 = .ok (.iaload, 1) := by decide +kernel
theorem dL_law_224 : decode cL_law 224 = .ok (.invokevirtual 22, 3) := by decide +kernel
theorem dL_law_227 : decode cL_law 227 = .ok (.if_icmp .eq 920, 3) := by decide +kernel
theorem dL_law_230 : decode cL_law 230 = .ok (.iconst 0, 1) := by decide +kernel
theorem dL_law_231 : decode cL_law 231 = .ok (.ireturn, 1) := by decide +kernel
theorem dL_law_232 : decode cL_law 232 = .ok (.aload_n 1, 1) := by decide +kernel
theorem dL_law_233 : decode cL_law 233 = .ok (.aload_n 0, 1) := by decide +kernel
theorem dL_law_234 : decode cL_law 234 = .ok (.iload_n 3, 1) := by decide +kernel
theorem dL_law_235 : decode cL_law 235 = .ok (.iconst 1, 1) := by decide +kernel
theorem dL_law_236 : decode cL_law 236 = .ok (.iadd, 1) := by decide +kernel
theorem dL_law_237 : decode cL_law 237 = .ok (.iaload, 1) := by decide +kernel
theorem dL_law_238 : decode cL_law 238 = .ok (.aload_n 0, 1) := by decide +kernel
theorem dL_law_239 : decode cL_law 239 = .ok (.iload_n 3, 1) := by decide +kernel
theorem dL_law_240 : decode cL_law 240 = .ok (.iconst 2, 1) := by decide +kernel
theorem dL_law_241 : decode cL_law 241 = .ok (.iadd, 1) := by decide +kernel
theorem dL_law_242 : decode cL_law 242 = .ok (.iaload, 1) := by decide +kernel
theorem dL_law_243 : decode cL_law 243 = .ok (.aload_n 0, 1) := by decide +kernel
theorem dL_law_244 : decode cL_law 244 = .ok (.iload_n 3, 1) := by decide +kernel
theorem dL_law_245 : decode cL_law 245 = .ok (.iconst 3, 1) := by decide +kernel
theorem dL_law_246 : decode cL_law 246 = .ok (.iadd, 1) := by decide +kernel
theorem dL_law_247 : decode cL_law 247 = .ok (.iaload, 1) := by decide +kernel
theorem dL_law_248 : decode cL_law 248 = .ok (.aload_n 0, 1) := by decide +kernel
theorem dL_law_249 : decode cL_law 249 = .ok (.iload_n 3, 1) := by decide +kernel
theorem dL_law_250 : decode cL_law 250 = .ok (.iconst 4, 1) := by decide +kernel
theorem dL_law_251 : decode cL_law 251 = .ok (.iadd, 1) := by decide +kernel
theorem dL_law_252 : decode cL_law 252 = .ok (.iaload, 1) := by decide +kernel
theorem dL_law_253 : decode cL_law 253 = .ok (.invokevirtual 23, 3) := by decide +kernel
theorem dL_law_256 : decode cL_law 256 = .ok (.aload_n 2, 1) := by decide +kernel
theorem dL_law_257 : decode cL_law 257 = .ok (.aload_n 0, 1) := by decide +kernel
theorem dL_law_258 : decode cL_law 258 = .ok (.iload_n 3, 1) := by decide +kernel
theorem dL_law_259 : decode cL_law 259 = .ok (.iconst 1, 1) := by decide +kernel
theorem dL_law_260 : decode cL_law 260 = .ok (.iadd, 1) := by decide +kernel
theorem dL_law_261 : decode cL_law 261 = .ok (.iaload, 1) := by decide +kernel
theorem dL_law_262 : decode cL_law 262 = .ok (.aload_n 0, 1) := by decide +kernel
theorem dL_law_263 : decode cL_law 263 = .ok (.iload_n 3, 1) := by decide +kernel
theorem dL_law_264 : decode cL_law 264 = .ok (.iconst 2, 1) := by decide +kernel
theorem dL_law_265 : decode cL_law 265 = .ok (.iadd, 1) := by decide +kernel
theorem dL_law_266 : decode cL_law 266 = .ok (.iaload, 1) := by decide +kernel
theorem dL_law_267 : decode cL_law 267 = .ok (.aload_n 0, 1) := by decide +kernel
theorem dL_law_268 : decode cL_law 268 = .ok (.iload_n 3, 1) := by decide +kernel
theorem dL_law_269 : decode cL_law 269 = .ok (.iconst 3, 1) := by decide +kernel
theorem dL_law_270 : decode cL_law 270 = .ok (.iadd, 1) := by decide +kernel
theorem dL_law_271 : decode cL_law 271 = .ok (.iaload, 1) := by decide +kernel
theorem dL_law_272 : decode cL_law 272 = .ok (.aload_n 0, 1) := by decide +kernel
theorem dL_law_273 : decode cL_law 273 = .ok (.iload_n 3, 1) := by decide +kernel
theorem dL_law_274 : decode cL_law 274 = .ok (.iconst 4, 1) := by decide +kernel
theorem dL_law_275 : decode cL_law 275 = .ok (.iadd, 1) := by decide +kernel
theorem dL_law_276 : decode cL_law 276 = .ok (.iaload, 1) := by decide +kernel
theorem dL_law_277 : decode cL_law 277 = .ok (.invokevirtual 26, 3) := by decide +kernel
theorem dL_law_280 : decode cL_law 280 = .ok (.if_icmp .eq 867, 3) := by decide +kernel
theorem dL_law_283 : decode cL_law 283 = .ok (.iconst 0, 1) := by decide +kernel
theorem dL_law_284 : decode cL_law 284 = .ok (.ireturn, 1) := by decide +kernel
theorem dL_law_285 : decode cL_law 285 = .ok (.aload_n 1, 1) := by decide +kernel
theorem dL_law_286 : decode cL_law 286 = .ok (.aload_n 0, 1) := by decide +kernel
theorem dL_law_287 : decode cL_law 287 = .ok (.iload_n 3, 1) := by decide +kernel
theorem dL_law_288 : decode cL_law 288 = .ok (.iconst 1, 1) := by decide +kernel
theorem dL_law_289 : decode cL_law 289 = .ok (.iadd, 1) := by decide +kernel
theorem dL_law_290 : decode cL_law 290 = .ok (.iaload, 1) := by decide +kernel
theorem dL_law_291 : decode cL_law 291 = .ok (.aload_n 0, 1) := by decide +kernel
theorem dL_law_292 : decode cL_law 292 = .ok (.iload_n 3, 1) := by decide +kernel
theorem dL_law_293 : decode cL_law 293 = .ok (.iconst 2, 1) := by decide +kernel
theorem dL_law_294 : decode cL_law 294 = .ok (.iadd, 1) := by decide +kernel
theorem dL_law_295 : decode cL_law 295 = .ok (.iaload, 1) := by decide +kernel
theorem dL_law_296 : decode cL_law 296 = .ok (.invokevirtual 27, 3) := by decide +kernel
theorem dL_law_299 : decode cL_law 299 = .ok (.aload_n 2, 1) := by decide +kernel
theorem dL_law_300 : decode cL_law 300 = .ok (.aload_n 0, 1) := by decide +kernel
theorem dL_law_301 : decode cL_law 301 = .ok (.iload_n 3, 1) := by decide +kernel
theorem dL_law_302 : decode cL_law 302 = .ok (.iconst 1, 1) := by decide +kernel
theorem dL_law_303 : decode cL_law 303 = .ok (.iadd, 1) := by decide +kernel
theorem dL_law_304 : decode cL_law 304 = .ok (.iaload, 1) := by decide +kernel
theorem dL_law_305 : decode cL_law 305 = .ok (.aload_n 0, 1) := by decide +kernel
theorem dL_law_306 : decode cL_law 306 = .ok (.iload_n 3, 1) := by decide +kernel
theorem dL_law_307 : decode cL_law 307 = .ok (.iconst 2, 1) := by decide +kernel
theorem dL_law_308 : decode cL_law 308 = .ok (.iadd, 1) := by decide +kernel
theorem dL_law_309 : decode cL_law 309 = .ok (.iaload, 1) := by decide +kernel
theorem dL_law_310 : decode cL_law 310 = .ok (.invokevirtual 31, 3) := by decide +kernel
theorem dL_law_313 : decode cL_law 313 = .ok (.if_icmp .eq 834, 3) := by decide +kernel
theorem dL_law_316 : decode cL_law 316 = .ok (.iconst 0, 1) := by decide +kernel
theorem dL_law_317 : decode cL_law 317 = .ok (.ireturn, 1) := by decide +kernel
theorem dL_law_318 : decode cL_law 318 = .ok (.aload_n 1, 1) := by decide +kernel
theorem dL_law_319 : decode cL_law 319 = .ok (.aload_n 0, 1) := by decide +kernel
theorem dL_law_320 : decode cL_law 320 = .ok (.iload_n 3, 1) := by decide +kernel
theorem dL_law_321 : decode cL_law 321 = .ok (.iconst 1, 1) := by decide +kernel
theorem dL_law_322 : decode cL_law 322 = .ok (.iadd, 1) := by decide +kernel
theorem dL_law_323 : decode cL_law 323 = .ok (.iaload, 1) := by decide +kernel
theorem dL_law_324 : decode cL_law 324 = .ok (.aload_n 0, 1) := by decide +kernel
theorem dL_law_325 : decode cL_law 325 = .ok (.iload_n 3, 1) := by decide +kernel
theorem dL_law_326 : decode cL_law 326 = .ok (.iconst 2, 1) := by decide +kernel
theorem dL_law_327 : decode cL_law 327 = .ok (.iadd, 1) := by decide +kernel
theorem dL_law_328 : decode cL_law 328 = .ok (.iaload, 1) := by decide +kernel
theorem dL_law_329 : decode cL_law 329 = .ok (.invokevirtual 32, 3) := by decide +kernel
theorem dL_law_332 : decode cL_law 332 = .ok (.aload_n 2, 1) := by decide +kernel
theorem dL_law_333 : decode cL_law 333 = .ok (.aload_n 0, 1) := by decide +kernel
theorem dL_law_334 : decode cL_law 334 = .ok (.iload_n 3, 1) := by decide +kernel
theorem dL_law_335 : decode cL_law 335 = .ok (.iconst 1, 1) := by decide +kernel
theorem dL_law_336 : decode cL_law 336 = .ok (.iadd, 1) := by decide +kernel
theorem dL_law_337 : decode cL_law 337 = .ok (.iaload, 1) := by decide +kernel
theorem dL_law_338 : decode cL_law 338 = .ok (.aload_n 0, 1) := by decide +kernel
theorem dL_law_339 : decode cL_law 339 = .ok (.iload_n 3, 1) := by decide +kernel
theorem dL_law_340 : decode cL_law 340 = .ok (.iconst 2, 1) := by decide +kernel
theorem dL_law_341 : decode cL_law 341 = .ok (.iadd, 1) := by decide +kernel
theorem dL_law_342 : decode cL_law 342 = .ok (.iaload, 1) := by decide +kernel
theorem dL_law_343 : decode cL_law 343 = .ok (.invokevirtual 35, 3) := by decide +kernel
theorem dL_law_346 : decode cL_law 346 = .ok (.if_icmp .eq 801, 3) := by decide +kernel
theorem dL_law_349 : decode cL_law 349 = .ok (.iconst 0, 1) := by decide +kernel
theorem dL_law_350 : decode cL_law 350 = .ok (.ireturn, 1) := by decide +kernel
theorem dL_law_351 : decode cL_law 351 = .ok (.aload_n 1, 1) := by decide +kernel
theorem dL_law_352 : decode cL_law 352 = .ok (.aload_n 0, 1) := by decide +kernel
theorem dL_law_353 : decode cL_law 353 = .ok (.iload_n 3, 1) := by decide +kernel
theorem dL_law_354 : decode cL_law 354 = .ok (.iconst 1, 1) := by decide +kernel
theorem dL_law_355 : decode cL_law 355 = .ok (.iadd, 1) := by decide +kernel
theorem dL_law_356 : decode cL_law 356 = .ok (.iaload, 1) := by decide +kernel
theorem dL_law_357 : decode cL_law 357 = .ok (.aload_n 0, 1) := by decide +kernel
theorem dL_law_358 : decode cL_law 358 = .ok (.iload_n 3, 1) := by decide +kernel
theorem dL_law_359 : decode cL_law 359 = .ok (.iconst 2, 1) := by decide +kernel
theorem dL_law_360 : decode cL_law 360 = .ok (.iadd, 1) := by decide +kernel
theorem dL_law_361 : decode cL_law 361 = .ok (.iaload, 1) := by decide +kernel
theorem dL_law_362 : decode cL_law 362 = .ok (.aload_n 0, 1) := by decide +kernel
theorem dL_law_363 : decode cL_law 363 = .ok (.iload_n 3, 1) := by decide +kernel
theorem dL_law_364 : decode cL_law 364 = .ok (.iconst 3, 1) := by decide +kernel
theorem dL_law_365 : decode cL_law 365 = .ok (.iadd, 1) := by decide +kernel
theorem dL_law_366 : decode cL_law 366 = .ok (.iaload, 1) := by decide +kernel
theorem dL_law_367 : decode cL_law 367 = .ok (.invokevirtual 36, 3) := by decide +kernel
theorem dL_law_370 : decode cL_law 370 = .ok (.aload_n 2, 1) := by decide +kernel
theorem dL_law_371 : decode cL_law 371 = .ok (.aload_n 0, 1) := by decide +kernel
theorem dL_law_372 : decode cL_law 372 = .ok (.iload_n 3, 1) := by decide +kernel
theorem dL_law_373 : decode cL_law 373 = .ok (.iconst 1, 1) := by decide +kernel
theorem dL_law_374 : decode cL_law 374 = .ok (.iadd, 1) := by decide +kernel
theorem dL_law_375 : decode cL_law 375 = .ok (.iaload, 1) := by decide +kernel
theorem dL_law_376 : decode cL_law 376 = .ok (.aload_n 0, 1) := by decide +kernel
theorem dL_law_377 : decode cL_law 377 = .ok (.iload_n 3, 1) := by decide +kernel
theorem dL_law_378 : decode cL_law 378 = .ok (.iconst 2, 1) := by decide +kernel
theorem dL_law_379 : decode cL_law 379 = .ok (.iadd, 1) := by decide +kernel
theorem dL_law_380 : decode cL_law 380 = .ok (.iaload, 1) := by decide +kernel
theorem dL_law_381 : decode cL_law 381 = .ok (.aload_n 0, 1) := by decide +kernel
theorem dL_law_382 : decode cL_law 382 = .ok (.iload_n 3, 1) := by decide +kernel
theorem dL_law_383 : decode cL_law 383 = .ok (.iconst 3, 1) := by decide +kernel
theorem dL_law_384 : decode cL_law 384 = .ok (.iadd, 1) := by decide +kernel
theorem dL_law_385 : decode cL_law 385 = .ok (.iaload, 1) := by decide +kernel
theorem dL_law_386 : decode cL_law 386 = .ok (.invokevirtual 40, 3) := by decide +kernel
theorem dL_law_389 : decode cL_law 389 = .ok (.if_icmp .eq 758, 3) := by decide +kernel
theorem dL_law_392 : decode cL_law 392 = .ok (.iconst 0, 1) := by decide +kernel
theorem dL_law_393 : decode cL_law 393 = .ok (.ireturn, 1) := by decide +kernel
theorem dL_law_394 : decode cL_law 394 = .ok (.aload_n 1, 1) := by decide +kernel
theorem dL_law_395 : decode cL_law 395 = .ok (.aload_n 0, 1) := by decide +kernel
theorem dL_law_396 : decode cL_law 396 = .ok (.iload_n 3, 1) := by decide +kernel
theorem dL_law_397 : decode cL_law 397 = .ok (.iconst 1, 1) := by decide +kernel
theorem dL_law_398 : decode cL_law 398 = .ok (.iadd, 1) := by decide +kernel
theorem dL_law_399 : decode cL_law 399 = .ok (.iaload, 1) := by decide +kernel
theorem dL_law_400 : decode cL_law 400 = .ok (.aload_n 0, 1) := by decide +kernel
theorem dL_law_401 : decode cL_law 401 = .ok (.iload_n 3, 1) := by decide +kernel
theorem dL_law_402 : decode cL_law 402 = .ok (.iconst 2, 1) := by decide +kernel
theorem dL_law_403 : decode cL_law 403 = .ok (.iadd, 1) := by decide +kernel
theorem dL_law_404 : decode cL_law 404 = .ok (.iaload, 1) := by decide +kernel
theorem dL_law_405 : decode cL_law 405 = .ok (.invokevirtual 41, 3) := by decide +kernel
theorem dL_law_408 : decode cL_law 408 = .ok (.aload_n 2, 1) := by decide +kernel
theorem dL_law_409 : decode cL_law 409 = .ok (.aload_n 0, 1) := by decide +kernel
theorem dL_law_410 : decode cL_law 410 = .ok (.iload_n 3, 1) := by decide +kernel
theorem dL_law_411 : decode cL_law 411 = .ok (.iconst 1, 1) := by decide +kernel
theorem dL_law_412 : decode cL_law 412 = .ok (.iadd, 1) := by decide +kernel
theorem dL_law_413 : decode cL_law 413 = .ok (.iaload, 1) := by decide +kernel
theorem dL_law_414 : decode cL_law 414 = .ok (.aload_n 0, 1) := by decide +kernel
theorem dL_law_415 : decode cL_law 415 = .ok (.iload_n 3, 1) := by decide +kernel
theorem dL_law_416 : decode cL_law 416 = .ok (.iconst 2, 1) := by decide +kernel
theorem dL_law_417 : decode cL_law 417 = .ok (.iadd, 1) := by decide +kernel
theorem dL_law_418 : decode cL_law 418 = .ok (.iaload, 1) := by decide +kernel
theorem dL_law_419 : decode cL_law 419 = .ok (.invokevirtual 44, 3) := by decide +kernel
theorem dL_law_422 : decode cL_law 422 = .ok (.if_icmp .eq 725, 3) := by decide +kernel
theorem dL_law_425 : decode cL_law 425 = .ok (.iconst 0, 1) := by decide +kernel
theorem dL_law_426 : decode cL_law 426 = .ok (.ireturn, 1) := by decide +kernel
theorem dL_law_427 : decode cL_law 427 = .ok (.aload_n 1, 1) := by decide +kernel
theorem dL_law_428 : decode cL_law 428 = .ok (.aload_n 0, 1) := by decide +kernel
theorem dL_law_429 : decode cL_law 429 = .ok (.iload_n 3, 1) := by decide +kernel
theorem dL_law_430 : decode cL_law 430 = .ok (.iconst 1, 1) := by decide +kernel
theorem dL_law_431 : decode cL_law 431 = .ok (.iadd, 1) := by decide +kernel
theorem dL_law_432 : decode cL_law 432 = .ok (.iaload, 1) := by decide +kernel
theorem dL_law_433 : decode cL_law 433 = .ok (.aload_n 0, 1) := by decide +kernel
theorem dL_law_434 : decode cL_law 434 = .ok (.iload_n 3, 1) := by decide +kernel
theorem dL_law_435 : decode cL_law 435 = .ok (.iconst 2, 1) := by decide +kernel
theorem dL_law_436 : decode cL_law 436 = .ok (.iadd, 1) := by decide +kernel
theorem dL_law_437 : decode cL_law 437 = .ok (.iaload, 1) := by decide +kernel
theorem dL_law_438 : decode cL_law 438 = .ok (.aload_n 0, 1) := by decide +kernel
theorem dL_law_439 : decode cL_law 439 = .ok (.iload_n 3, 1) := by decide +kernel
theorem dL_law_440 : decode cL_law 440 = .ok (.iconst 3, 1) := by decide +kernel
theorem dL_law_441 : decode cL_law 441 = .ok (.iadd, 1) := by decide +kernel
theorem dL_law_442 : decode cL_law 442 = .ok (.iaload, 1) := by decide +kernel
theorem dL_law_443 : decode cL_law 443 = .ok (.invokevirtual 45, 3) := by decide +kernel
theorem dL_law_446 : decode cL_law 446 = .ok (.aload_n 2, 1) := by decide +kernel
theorem dL_law_447 : decode cL_law 447 = .ok (.aload_n 0, 1) := by decide +kernel
theorem dL_law_448 : decode cL_law 448 = .ok (.iload_n 3, 1) := by decide +kernel
theorem dL_law_449 : decode cL_law 449 = .ok (.iconst 1, 1) := by decide +kernel
theorem dL_law_450 : decode cL_law 450 = .ok (.iadd, 1) := by decide +kernel
theorem dL_law_451 : decode cL_law 451 = .ok (.iaload, 1) := by decide +kernel
theorem dL_law_452 : decode cL_law 452 = .ok (.aload_n 0, 1) := by decide +kernel
theorem dL_law_453 : decode cL_law 453 = .ok (.iload_n 3, 1) := by decide +kernel
theorem dL_law_454 : decode cL_law 454 = .ok (.iconst 2, 1) := by decide +kernel
theorem dL_law_455 : decode cL_law 455 = .ok (.iadd, 1) := by decide +kernel
theorem dL_law_456 : decode cL_law 456 = .ok (.iaload, 1) := by decide +kernel
theorem dL_law_457 : decode cL_law 457 = .ok (.aload_n 0, 1) := by decide +kernel
theorem dL_law_458 : decode cL_law 458 = .ok (.iload_n 3, 1) := by decide +kernel
theorem dL_law_459 : decode cL_law 459 = .ok (.iconst 3, 1) := by decide +kernel
theorem dL_law_460 : decode cL_law 460 = .ok (.iadd, 1) := by decide +kernel
theorem dL_law_461 : decode cL_law 461 = .ok (.iaload, 1) := by decide +kernel
theorem dL_law_462 : decode cL_law 462 = .ok (.invokevirtual 48, 3) := by decide +kernel
theorem dL_law_465 : decode cL_law 465 = .ok (.if_icmp .eq 682, 3) := by decide +kernel
theorem dL_law_468 : decode cL_law 468 = .ok (.iconst 0, 1) := by decide +kernel
theorem dL_law_469 : decode cL_law 469 = .ok (.ireturn, 1) := by decide +kernel
theorem dL_law_470 : decode cL_law 470 = .ok (.aload_n 1, 1) := by decide +kernel
theorem dL_law_471 : decode cL_law 471 = .ok (.aload_n 0, 1) := by decide +kernel
theorem dL_law_472 : decode cL_law 472 = .ok (.iload_n 3, 1) := by decide +kernel
theorem dL_law_473 : decode cL_law 473 = .ok (.iconst 1, 1) := by decide +kernel
theorem dL_law_474 : decode cL_law 474 = .ok (.iadd, 1) := by decide +kernel
theorem dL_law_475 : decode cL_law 475 = .ok (.iaload, 1) := by decide +kernel
theorem dL_law_476 : decode cL_law 476 = .ok (.aload_n 0, 1) := by decide +kernel
theorem dL_law_477 : decode cL_law 477 = .ok (.iload_n 3, 1) := by decide +kernel
theorem dL_law_478 : decode cL_law 478 = .ok (.iconst 2, 1) := by decide +kernel
theorem dL_law_479 : decode cL_law 479 = .ok (.iadd, 1) := by decide +kernel
theorem dL_law_480 : decode cL_law 480 = .ok (.iaload, 1) := by decide +kernel
theorem dL_law_481 : decode cL_law 481 = .ok (.invokevirtual 49, 3) := by decide +kernel
theorem dL_law_484 : decode cL_law 484 = .ok (.aload_n 2, 1) := by decide +kernel
theorem dL_law_485 : decode cL_law 485 = .ok (.aload_n 0, 1) := by decide +kernel
theorem dL_law_486 : decode cL_law 486 = .ok (.iload_n 3, 1) := by decide +kernel
theorem dL_law_487 : decode cL_law 487 = .ok (.iconst 1, 1) := by decide +kernel
theorem dL_law_488 : decode cL_law 488 = .ok (.iadd, 1) := by decide +kernel
theorem dL_law_489 : decode cL_law 489 = .ok (.iaload, 1) := by decide +kernel
theorem dL_law_490 : decode cL_law 490 = .ok (.aload_n 0, 1) := by decide +kernel
theorem dL_law_491 : decode cL_law 491 = .ok (.iload_n 3, 1) := by decide +kernel
theorem dL_law_492 : decode cL_law 492 = .ok (.iconst 2, 1) := by decide +kernel
theorem dL_law_493 : decode cL_law 493 = .ok (.iadd, 1) := by decide +kernel
theorem dL_law_494 : decode cL_law 494 = .ok (.iaload, 1) := by decide +kernel
theorem dL_law_495 : decode cL_law 495 = .ok (.invokevirtual 52, 3) := by decide +kernel
theorem dL_law_498 : decode cL_law 498 = .ok (.if_icmp .eq 649, 3) := by decide +kernel
theorem dL_law_501 : decode cL_law 501 = .ok (.iconst 0, 1) := by decide +kernel
theorem dL_law_502 : decode cL_law 502 = .ok (.ireturn, 1) := by decide +kernel
theorem dL_law_503 : decode cL_law 503 = .ok (.aload_n 1, 1) := by decide +kernel
theorem dL_law_504 : decode cL_law 504 = .ok (.aload_n 0, 1) := by decide +kernel
theorem dL_law_505 : decode cL_law 505 = .ok (.iload_n 3, 1) := by decide +kernel
theorem dL_law_506 : decode cL_law 506 = .ok (.iconst 1, 1) := by decide +kernel
theorem dL_law_507 : decode cL_law 507 = .ok (.iadd, 1) := by decide +kernel
theorem dL_law_508 : decode cL_law 508 = .ok (.iaload, 1) := by decide +kernel
theorem dL_law_509 : decode cL_law 509 = .ok (.aload_n 0, 1) := by decide +kernel
theorem dL_law_510 : decode cL_law 510 = .ok (.iload_n 3, 1) := by decide +kernel
theorem dL_law_511 : decode cL_law 511 = .ok (.iconst 2, 1) := by decide +kernel
theorem dL_law_512 : decode cL_law 512 = .ok (.iadd, 1) := by decide +kernel
theorem dL_law_513 : decode cL_law 513 = .ok (.iaload, 1) := by decide +kernel
theorem dL_law_514 : decode cL_law 514 = .ok (.invokevirtual 53, 3) := by decide +kernel
theorem dL_law_517 : decode cL_law 517 = .ok (.aload_n 2, 1) := by decide +kernel
theorem dL_law_518 : decode cL_law 518 = .ok (.aload_n 0, 1) := by decide +kernel
theorem dL_law_519 : decode cL_law 519 = .ok (.iload_n 3, 1) := by decide +kernel
theorem dL_law_520 : decode cL_law 520 = .ok (.iconst 1, 1) := by decide +kernel
theorem dL_law_521 : decode cL_law 521 = .ok (.iadd, 1) := by decide +kernel
theorem dL_law_522 : decode cL_law 522 = .ok (.iaload, 1) := by decide +kernel
theorem dL_law_523 : decode cL_law 523 = .ok (.aload_n 0, 1) := by decide +kernel
theorem dL_law_524 : decode cL_law 524 = .ok (.iload_n 3, 1) := by decide +kernel
theorem dL_law_525 : decode cL_law 525 = .ok (.iconst 2, 1) := by decide +kernel
theorem dL_law_526 : decode cL_law 526 = .ok (.iadd, 1) := by decide +kernel
theorem dL_law_527 : decode cL_law 527 = .ok (.iaload, 1) := by decide +kernel
theorem dL_law_528 : decode cL_law 528 = .ok (.invokevirtual 56, 3) := by decide +kernel
theorem dL_law_531 : decode cL_law 531 = .ok (.if_icmp .eq 616, 3) := by decide +kernel
theorem dL_law_534 : decode cL_law 534 = .ok (.iconst 0, 1) := by decide +kernel
theorem dL_law_535 : decode cL_law 535 = .ok (.ireturn, 1) := by decide +kernel
theorem dL_law_536 : decode cL_law 536 = .ok (.aload_n 1, 1) := by decide +kernel
theorem dL_law_537 : decode cL_law 537 = .ok (.aload_n 0, 1) := by decide +kernel
theorem dL_law_538 : decode cL_law 538 = .ok (.iload_n 3, 1) := by decide +kernel
theorem dL_law_539 : decode cL_law 539 = .ok (.iconst 1, 1) := by decide +kernel
theorem dL_law_540 : decode cL_law 540 = .ok (.iadd, 1) := by decide +kernel
theorem dL_law_541 : decode cL_law 541 = .ok (.iaload, 1) := by decide +kernel
theorem dL_law_542 : decode cL_law 542 = .ok (.aload_n 0, 1) := by decide +kernel
theorem dL_law_543 : decode cL_law 543 = .ok (.iload_n 3, 1) := by decide +kernel
theorem dL_law_544 : decode cL_law 544 = .ok (.iconst 2, 1) := by decide +kernel
theorem dL_law_545 : decode cL_law 545 = .ok (.iadd, 1) := by decide +kernel
theorem dL_law_546 : decode cL_law 546 = .ok (.iaload, 1) := by decide +kernel
theorem dL_law_547 : decode cL_law 547 = .ok (.invokevirtual 57, 3) := by decide +kernel
theorem dL_law_550 : decode cL_law 550 = .ok (.aload_n 2, 1) := by decide +kernel
theorem dL_law_551 : decode cL_law 551 = .ok (.aload_n 0, 1) := by decide +kernel
theorem dL_law_552 : decode cL_law 552 = .ok (.iload_n 3, 1) := by decide +kernel
theorem dL_law_553 : decode cL_law 553 = .ok (.iconst 1, 1) := by decide +kernel
theorem dL_law_554 : decode cL_law 554 = .ok (.iadd, 1) := by decide +kernel
theorem dL_law_555 : decode cL_law 555 = .ok (.iaload, 1) := by decide +kernel
theorem dL_law_556 : decode cL_law 556 = .ok (.aload_n 0, 1) := by decide +kernel
theorem dL_law_557 : decode cL_law 557 = .ok (.iload_n 3, 1) := by decide +kernel
theorem dL_law_558 : decode cL_law 558 = .ok (.iconst 2, 1) := by decide +kernel
theorem dL_law_559 : decode cL_law 559 = .ok (.iadd, 1) := by decide +kernel
theorem dL_law_560 : decode cL_law 560 = .ok (.iaload, 1) := by decide +kernel
theorem dL_law_561 : decode cL_law 561 = .ok (.invokevirtual 60, 3) := by decide +kernel
theorem dL_law_564 : decode cL_law 564 = .ok (.if_icmp .eq 583, 3) := by decide +kernel
theorem dL_law_567 : decode cL_law 567 = .ok (.iconst 0, 1) := by decide +kernel
theorem dL_law_568 : decode cL_law 568 = .ok (.ireturn, 1) := by decide +kernel
theorem dL_law_569 : decode cL_law 569 = .ok (.aload_n 1, 1) := by decide +kernel
theorem dL_law_570 : decode cL_law 570 = .ok (.aload_n 0, 1) := by decide +kernel
theorem dL_law_571 : decode cL_law 571 = .ok (.iload_n 3, 1) := by decide +kernel
theorem dL_law_572 : decode cL_law 572 = .ok (.iconst 1, 1) := by decide +kernel
theorem dL_law_573 : decode cL_law 573 = .ok (.iadd, 1) := by decide +kernel
theorem dL_law_574 : decode cL_law 574 = .ok (.iaload, 1) := by decide +kernel
theorem dL_law_575 : decode cL_law 575 = .ok (.aload_n 0, 1) := by decide +kernel
theorem dL_law_576 : decode cL_law 576 = .ok (.iload_n 3, 1) := by decide +kernel
theorem dL_law_577 : decode cL_law 577 = .ok (.iconst 2, 1) := by decide +kernel
theorem dL_law_578 : decode cL_law 578 = .ok (.iadd, 1) := by decide +kernel
theorem dL_law_579 : decode cL_law 579 = .ok (.iaload, 1) := by decide +kernel
theorem dL_law_580 : decode cL_law 580 = .ok (.aload_n 0, 1) := by decide +kernel
theorem dL_law_581 : decode cL_law 581 = .ok (.iload_n 3, 1) := by decide +kernel
theorem dL_law_582 : decode cL_law 582 = .ok (.iconst 3, 1) := by decide +kernel
theorem dL_law_583 : decode cL_law 583 = .ok (.iadd, 1) := by decide +kernel
theorem dL_law_584 : decode cL_law 584 = .ok (.iaload, 1) := by decide +kernel
theorem dL_law_585 : decode cL_law 585 = .ok (.invokevirtual 61, 3) := by decide +kernel
theorem dL_law_588 : decode cL_law 588 = .ok (.aload_n 2, 1) := by decide +kernel
theorem dL_law_589 : decode cL_law 589 = .ok (.aload_n 0, 1) := by decide +kernel
theorem dL_law_590 : decode cL_law 590 = .ok (.iload_n 3, 1) := by decide +kernel
theorem dL_law_591 : decode cL_law 591 = .ok (.iconst 1, 1) := by decide +kernel
theorem dL_law_592 : decode cL_law 592 = .ok (.iadd, 1) := by decide +kernel
theorem dL_law_593 : decode cL_law 593 = .ok (.iaload, 1) := by decide +kernel
theorem dL_law_594 : decode cL_law 594 = .ok (.aload_n 0, 1) := by decide +kernel
theorem dL_law_595 : decode cL_law 595 = .ok (.iload_n 3, 1) := by decide +kernel
theorem dL_law_596 : decode cL_law 596 = .ok (.iconst 2, 1) := by decide +kernel
theorem dL_law_597 : decode cL_law 597 = .ok (.iadd, 1) := by decide +kernel
theorem dL_law_598 : decode cL_law 598 = .ok (.iaload, 1) := by decide +kernel
theorem dL_law_599 : decode cL_law 599 = .ok (.aload_n 0, 1) := by decide +kernel
theorem dL_law_600 : decode cL_law 600 = .ok (.iload_n 3, 1) := by decide +kernel
theorem dL_law_601 : decode cL_law 601 = .ok (.iconst 3, 1) := by decide +kernel
theorem dL_law_602 : decode cL_law 602 = .ok (.iadd, 1) := by decide +kernel
theorem dL_law_603 : decode cL_law 603 = .ok (.iaload, 1) := by decide +kernel
theorem dL_law_604 : decode cL_law 604 = .ok (.invokevirtual 64, 3) := by decide +kernel
theorem dL_law_607 : decode cL_law 607 = .ok (.if_icmp .eq 540, 3) := by decide +kernel
theorem dL_law_610 : decode cL_law 610 = .ok (.iconst 0, 1) := by decide +kernel
theorem dL_law_611 : decode cL_law 611 = .ok (.ireturn, 1) := by decide +kernel
theorem dL_law_612 : decode cL_law 612 = .ok (.aload_n 1, 1) := by decide +kernel
theorem dL_law_613 : decode cL_law 613 = .ok (.aload_n 0, 1) := by decide +kernel
theorem dL_law_614 : decode cL_law 614 = .ok (.iload_n 3, 1) := by decide +kernel
theorem dL_law_615 : decode cL_law 615 = .ok (.iconst 1, 1) := by decide +kernel
theorem dL_law_616 : decode cL_law 616 = .ok (.iadd, 1) := by decide +kernel
theorem dL_law_617 : decode cL_law 617 = .ok (.iaload, 1) := by decide +kernel
theorem dL_law_618 : decode cL_law 618 = .ok (.aload_n 0, 1) := by decide +kernel
theorem dL_law_619 : decode cL_law 619 = .ok (.iload_n 3, 1) := by decide +kernel
theorem dL_law_620 : decode cL_law 620 = .ok (.iconst 2, 1) := by decide +kernel
theorem dL_law_621 : decode cL_law 621 = .ok (.iadd, 1) := by decide +kernel
theorem dL_law_622 : decode cL_law 622 = .ok (.iaload, 1) := by decide +kernel
theorem dL_law_623 : decode cL_law 623 = .ok (.aload_n 0, 1) := by decide +kernel
theorem dL_law_624 : decode cL_law 624 = .ok (.iload_n 3, 1) := by decide +kernel
theorem dL_law_625 : decode cL_law 625 = .ok (.iconst 3, 1) := by decide +kernel
theorem dL_law_626 : decode cL_law 626 = .ok (.iadd, 1) := by decide +kernel
theorem dL_law_627 : decode cL_law 627 = .ok (.iaload, 1) := by decide +kernel
theorem dL_law_628 : decode cL_law 628 = .ok (.invokevirtual 65, 3) := by decide +kernel
theorem dL_law_631 : decode cL_law 631 = .ok (.aload_n 2, 1) := by decide +kernel
theorem dL_law_632 : decode cL_law 632 = .ok (.aload_n 0, 1) := by decide +kernel
theorem dL_law_633 : decode cL_law 633 = .ok (.iload_n 3, 1) := by decide +kernel
theorem dL_law_634 : decode cL_law 634 = .ok (.iconst 1, 1) := by decide +kernel
theorem dL_law_635 : decode cL_law 635 = .ok (.iadd, 1) := by decide +kernel
theorem dL_law_636 : decode cL_law 636 = .ok (.iaload, 1) := by decide +kernel
theorem dL_law_637 : decode cL_law 637 = .ok (.aload_n 0, 1) := by decide +kernel
theorem dL_law_638 : decode cL_law 638 = .ok (.iload_n 3, 1) := by decide +kernel
theorem dL_law_639 : decode cL_law 639 = .ok (.iconst 2, 1) := by decide +kernel
theorem dL_law_640 : decode cL_law 640 = .ok (.iadd, 1) := by decide +kernel
theorem dL_law_641 : decode cL_law 641 = .ok (.iaload, 1) := by decide +kernel
theorem dL_law_642 : decode cL_law 642 = .ok (.aload_n 0, 1) := by decide +kernel
theorem dL_law_643 : decode cL_law 643 = .ok (.iload_n 3, 1) := by decide +kernel
theorem dL_law_644 : decode cL_law 644 = .ok (.iconst 3, 1) := by decide +kernel
theorem dL_law_645 : decode cL_law 645 = .ok (.iadd, 1) := by decide +kernel
theorem dL_law_646 : decode cL_law 646 = .ok (.iaload, 1) := by decide +kernel
theorem dL_law_647 : decode cL_law 647 = .ok (.invokevirtual 68, 3) := by decide +kernel
theorem dL_law_650 : decode cL_law 650 = .ok (.if_icmp .eq 497, 3) := by decide +kernel
theorem dL_law_653 : decode cL_law 653 = .ok (.iconst 0, 1) := by decide +kernel
theorem dL_law_654 : decode cL_law 654 = .ok (.ireturn, 1) := by decide +kernel
theorem dL_law_655 : decode cL_law 655 = .ok (.aload_n 1, 1) := by decide +kernel
theorem dL_law_656 : decode cL_law 656 = .ok (.aload_n 0, 1) := by decide +kernel
theorem dL_law_657 : decode cL_law 657 = .ok (.iload_n 3, 1) := by decide +kernel
theorem dL_law_658 : decode cL_law 658 = .ok (.iconst 1, 1) := by decide +kernel
theorem dL_law_659 : decode cL_law 659 = .ok (.iadd, 1) := by decide +kernel
theorem dL_law_660 : decode cL_law 660 = .ok (.iaload, 1) := by decide +kernel
theorem dL_law_661 : decode cL_law 661 = .ok (.aload_n 0, 1) := by decide +kernel
theorem dL_law_662 : decode cL_law 662 = .ok (.iload_n 3, 1) := by decide +kernel
theorem dL_law_663 : decode cL_law 663 = .ok (.iconst 2, 1) := by decide +kernel
theorem dL_law_664 : decode cL_law 664 = .ok (.iadd, 1) := by decide +kernel
theorem dL_law_665 : decode cL_law 665 = .ok (.iaload, 1) := by decide +kernel
theorem dL_law_666 : decode cL_law 666 = .ok (.invokevirtual 69, 3) := by decide +kernel
theorem dL_law_669 : decode cL_law 669 = .ok (.aload_n 2, 1) := by decide +kernel
theorem dL_law_670 : decode cL_law 670 = .ok (.aload_n 0, 1) := by decide +kernel
theorem dL_law_671 : decode cL_law 671 = .ok (.iload_n 3, 1) := by decide +kernel
theorem dL_law_672 : decode cL_law 672 = .ok (.iconst 1, 1) := by decide +kernel
theorem dL_law_673 : decode cL_law 673 = .ok (.iadd, 1) := by decide +kernel
theorem dL_law_674 : decode cL_law 674 = .ok (.iaload, 1) := by decide +kernel
theorem dL_law_675 : decode cL_law 675 = .ok (.aload_n 0, 1) := by decide +kernel
theorem dL_law_676 : decode cL_law 676 = .ok (.iload_n 3, 1) := by decide +kernel
theorem dL_law_677 : decode cL_law 677 = .ok (.iconst 2, 1) := by decide +kernel
theorem dL_law_678 : decode cL_law 678 = .ok (.iadd, 1) := by decide +kernel
theorem dL_law_679 : decode cL_law 679 = .ok (.iaload, 1) := by decide +kernel
theorem dL_law_680 : decode cL_law 680 = .ok (.invokevirtual 72, 3) := by decide +kernel
theorem dL_law_683 : decode cL_law 683 = .ok (.if_icmp .eq 464, 3) := by decide +kernel
theorem dL_law_686 : decode cL_law 686 = .ok (.iconst 0, 1) := by decide +kernel
theorem dL_law_687 : decode cL_law 687 = .ok (.ireturn, 1) := by decide +kernel
theorem dL_law_688 : decode cL_law 688 = .ok (.aload_n 1, 1) := by decide +kernel
theorem dL_law_689 : decode cL_law 689 = .ok (.aload_n 0, 1) := by decide +kernel
theorem dL_law_690 : decode cL_law 690 = .ok (.iload_n 3, 1) := by decide +kernel
theorem dL_law_691 : decode cL_law 691 = .ok (.iconst 1, 1) := by decide +kernel
theorem dL_law_692 : decode cL_law 692 = .ok (.iadd, 1) := by decide +kernel
theorem dL_law_693 : decode cL_law 693 = .ok (.iaload, 1) := by decide +kernel
theorem dL_law_694 : decode cL_law 694 = .ok (.invokevirtual 73, 3) := by decide +kernel
theorem dL_law_697 : decode cL_law 697 = .ok (.aload_n 2, 1) := by decide +kernel
theorem dL_law_698 : decode cL_law 698 = .ok (.aload_n 0, 1) := by decide +kernel
theorem dL_law_699 : decode cL_law 699 = .ok (.iload_n 3, 1) := by decide +kernel
theorem dL_law_700 : decode cL_law 700 = .ok (.iconst 1, 1) := by decide +kernel
theorem dL_law_701 : decode cL_law 701 = .ok (.iadd, 1) := by decide +kernel
theorem dL_law_702 : decode cL_law 702 = .ok (.iaload, 1) := by decide +kernel
theorem dL_law_703 : decode cL_law 703 = .ok (.invokevirtual 76, 3) := by decide +kernel
theorem dL_law_706 : decode cL_law 706 = .ok (.if_icmp .eq 441, 3) := by decide +kernel
theorem dL_law_709 : decode cL_law 709 = .ok (.iconst 0, 1) := by decide +kernel
theorem dL_law_710 : decode cL_law 710 = .ok (.ireturn, 1) := by decide +kernel
theorem dL_law_711 : decode cL_law 711 = .ok (.aload_n 1, 1) := by decide +kernel
theorem dL_law_712 : decode cL_law 712 = .ok (.aload_n 0, 1) := by decide +kernel
theorem dL_law_713 : decode cL_law 713 = .ok (.iload_n 3, 1) := by decide +kernel
theorem dL_law_714 : decode cL_law 714 = .ok (.iconst 1, 1) := by decide +kernel
theorem dL_law_715 : decode cL_law 715 = .ok (.iadd, 1) := by decide +kernel
theorem dL_law_716 : decode cL_law 716 = .ok (.iaload, 1) := by decide +kernel
theorem dL_law_717 : decode cL_law 717 = .ok (.invokevirtual 77, 3) := by decide +kernel
theorem dL_law_720 : decode cL_law 720 = .ok (.aload_n 2, 1) := by decide +kernel
theorem dL_law_721 : decode cL_law 721 = .ok (.aload_n 0, 1) := by decide +kernel
theorem dL_law_722 : decode cL_law 722 = .ok (.iload_n 3, 1) := by decide +kernel
theorem dL_law_723 : decode cL_law 723 = .ok (.iconst 1, 1) := by decide +kernel
theorem dL_law_724 : decode cL_law 724 = .ok (.iadd, 1) := by decide +kernel
theorem dL_law_725 : decode cL_law 725 = .ok (.iaload, 1) := by decide +kernel
theorem dL_law_726 : decode cL_law 726 = .ok (.invokevirtual 80, 3) := by decide +kernel
theorem dL_law_729 : decode cL_law 729 = .ok (.if_icmp .eq 418, 3) := by decide +kernel
theorem dL_law_732 : decode cL_law 732 = .ok (.iconst 0, 1) := by decide +kernel
theorem dL_law_733 : decode cL_law 733 = .ok (.ireturn, 1) := by decide +kernel
theorem dL_law_734 : decode cL_law 734 = .ok (.aload_n 1, 1) := by decide +kernel
theorem dL_law_735 : decode cL_law 735 = .ok (.aload_n 0, 1) := by decide +kernel
theorem dL_law_736 : decode cL_law 736 = .ok (.iload_n 3, 1) := by decide +kernel
theorem dL_law_737 : decode cL_law 737 = .ok (.iconst 1, 1) := by decide +kernel
theorem dL_law_738 : decode cL_law 738 = .ok (.iadd, 1) := by decide +kernel
theorem dL_law_739 : decode cL_law 739 = .ok (.iaload, 1) := by decide +kernel
theorem dL_law_740 : decode cL_law 740 = .ok (.invokevirtual 81, 3) := by decide +kernel
theorem dL_law_743 : decode cL_law 743 = .ok (.aload_n 2, 1) := by decide +kernel
theorem dL_law_744 : decode cL_law 744 = .ok (.aload_n 0, 1) := by decide +kernel
theorem dL_law_745 : decode cL_law 745 = .ok (.iload_n 3, 1) := by decide +kernel
theorem dL_law_746 : decode cL_law 746 = .ok (.iconst 1, 1) := by decide +kernel
theorem dL_law_747 : decode cL_law 747 = .ok (.iadd, 1) := by decide +kernel
theorem dL_law_748 : decode cL_law 748 = .ok (.iaload, 1) := by decide +kernel
theorem dL_law_749 : decode cL_law 749 = .ok (.invokevirtual 84, 3) := by decide +kernel
theorem dL_law_752 : decode cL_law 752 = .ok (.if_icmp .eq 395, 3) := by decide +kernel
theorem dL_law_755 : decode cL_law 755 = .ok (.iconst 0, 1) := by decide +kernel
theorem dL_law_756 : decode cL_law 756 = .ok (.ireturn, 1) := by decide +kernel
theorem dL_law_757 : decode cL_law 757 = .ok (.aload_n 1, 1) := by decide +kernel
theorem dL_law_758 : decode cL_law 758 = .ok (.aload_n 0, 1) := by decide +kernel
theorem dL_law_759 : decode cL_law 759 = .ok (.iload_n 3, 1) := by decide +kernel
theorem dL_law_760 : decode cL_law 760 = .ok (.iconst 1, 1) := by decide +kernel
theorem dL_law_761 : decode cL_law 761 = .ok (.iadd, 1) := by decide +kernel
theorem dL_law_762 : decode cL_law 762 = .ok (.iaload, 1) := by decide +kernel
theorem dL_law_763 : decode cL_law 763 = .ok (.aload_n 0, 1) := by decide +kernel
theorem dL_law_764 : decode cL_law 764 = .ok (.iload_n 3, 1) := by decide +kernel
theorem dL_law_765 : decode cL_law 765 = .ok (.iconst 2, 1) := by decide +kernel
theorem dL_law_766 : decode cL_law 766 = .ok (.iadd, 1) := by decide +kernel
theorem dL_law_767 : decode cL_law 767 = .ok (.iaload, 1) := by decide +kernel
theorem dL_law_768 : decode cL_law 768 = .ok (.invokevirtual 85, 3) := by decide +kernel
theorem dL_law_771 : decode cL_law 771 = .ok (.aload_n 2, 1) := by decide +kernel
theorem dL_law_772 : decode cL_law 772 = .ok (.aload_n 0, 1) := by decide +kernel
theorem dL_law_773 : decode cL_law 773 = .ok (.iload_n 3, 1) := by decide +kernel
theorem dL_law_774 : decode cL_law 774 = .ok (.iconst 1, 1) := by decide +kernel
theorem dL_law_775 : decode cL_law 775 = .ok (.iadd, 1) := by decide +kernel
theorem dL_law_776 : decode cL_law 776 = .ok (.iaload, 1) := by decide +kernel
theorem dL_law_777 : decode cL_law 777 = .ok (.aload_n 0, 1) := by decide +kernel
theorem dL_law_778 : decode cL_law 778 = .ok (.iload_n 3, 1) := by decide +kernel
theorem dL_law_779 : decode cL_law 779 = .ok (.iconst 2, 1) := by decide +kernel
theorem dL_law_780 : decode cL_law 780 = .ok (.iadd, 1) := by decide +kernel
theorem dL_law_781 : decode cL_law 781 = .ok (.iaload, 1) := by decide +kernel
theorem dL_law_782 : decode cL_law 782 = .ok (.invokevirtual 88, 3) := by decide +kernel
theorem dL_law_785 : decode cL_law 785 = .ok (.if_icmp .eq 362, 3) := by decide +kernel
theorem dL_law_788 : decode cL_law 788 = .ok (.iconst 0, 1) := by decide +kernel
theorem dL_law_789 : decode cL_law 789 = .ok (.ireturn, 1) := by decide +kernel
theorem dL_law_790 : decode cL_law 790 = .ok (.aload_n 1, 1) := by decide +kernel
theorem dL_law_791 : decode cL_law 791 = .ok (.aload_n 0, 1) := by decide +kernel
theorem dL_law_792 : decode cL_law 792 = .ok (.iload_n 3, 1) := by decide +kernel
theorem dL_law_793 : decode cL_law 793 = .ok (.iconst 1, 1) := by decide +kernel
theorem dL_law_794 : decode cL_law 794 = .ok (.iadd, 1) := by decide +kernel
theorem dL_law_795 : decode cL_law 795 = .ok (.iaload, 1) := by decide +kernel
theorem dL_law_796 : decode cL_law 796 = .ok (.aload_n 0, 1) := by decide +kernel
theorem dL_law_797 : decode cL_law 797 = .ok (.iload_n 3, 1) := by decide +kernel
theorem dL_law_798 : decode cL_law 798 = .ok (.iconst 2, 1) := by decide +kernel
theorem dL_law_799 : decode cL_law 799 = .ok (.iadd, 1) := by decide +kernel
theorem dL_law_800 : decode cL_law 800 = .ok (.iaload, 1) := by decide +kernel
theorem dL_law_801 : decode cL_law 801 = .ok (.aload_n 0, 1) := by decide +kernel
theorem dL_law_802 : decode cL_law 802 = .ok (.iload_n 3, 1) := by decide +kernel
theorem dL_law_803 : decode cL_law 803 = .ok (.iconst 3, 1) := by decide +kernel
theorem dL_law_804 : decode cL_law 804 = .ok (.iadd, 1) := by decide +kernel
theorem dL_law_805 : decode cL_law 805 = .ok (.iaload, 1) := by decide +kernel
theorem dL_law_806 : decode cL_law 806 = .ok (.aload_n 0, 1) := by decide +kernel
theorem dL_law_807 : decode cL_law 807 = .ok (.iload_n 3, 1) := by decide +kernel
theorem dL_law_808 : decode cL_law 808 = .ok (.iconst 4, 1) := by decide +kernel
theorem dL_law_809 : decode cL_law 809 = .ok (.iadd, 1) := by decide +kernel
theorem dL_law_810 : decode cL_law 810 = .ok (.iaload, 1) := by decide +kernel
theorem dL_law_811 : decode cL_law 811 = .ok (.invokevirtual 89, 3) := by decide +kernel
theorem dL_law_814 : decode cL_law 814 = .ok (.aload_n 2, 1) := by decide +kernel
theorem dL_law_815 : decode cL_law 815 = .ok (.aload_n 0, 1) := by decide +kernel
theorem dL_law_816 : decode cL_law 816 = .ok (.iload_n 3, 1) := by decide +kernel
theorem dL_law_817 : decode cL_law 817 = .ok (.iconst 1, 1) := by decide +kernel
theorem dL_law_818 : decode cL_law 818 = .ok (.iadd, 1) := by decide +kernel
theorem dL_law_819 : decode cL_law 819 = .ok (.iaload, 1) := by decide +kernel
theorem dL_law_820 : decode cL_law 820 = .ok (.aload_n 0, 1) := by decide +kernel
theorem dL_law_821 : decode cL_law 821 = .ok (.iload_n 3, 1) := by decide +kernel
theorem dL_law_822 : decode cL_law 822 = .ok (.iconst 2, 1) := by decide +kernel
theorem dL_law_823 : decode cL_law 823 = .ok (.iadd, 1) := by decide +kernel
theorem dL_law_824 : decode cL_law 824 = .ok (.iaload, 1) := by decide +kernel
theorem dL_law_825 : decode cL_law 825 = .ok (.aload_n 0, 1) := by decide +kernel
theorem dL_law_826 : decode cL_law 826 = .ok (.iload_n 3, 1) := by decide +kernel
theorem dL_law_827 : decode cL_law 827 = .ok (.iconst 3, 1) := by decide +kernel
theorem dL_law_828 : decode cL_law 828 = .ok (.iadd, 1) := by decide +kernel
theorem dL_law_829 : decode cL_law 829 = .ok (.iaload, 1) := by decide +kernel
theorem dL_law_830 : decode cL_law 830 = .ok (.aload_n 0, 1) := by decide +kernel
theorem dL_law_831 : decode cL_law 831 = .ok (.iload_n 3, 1) := by decide +kernel
theorem dL_law_832 : decode cL_law 832 = .ok (.iconst 4, 1) := by decide +kernel
theorem dL_law_833 : decode cL_law 833 = .ok (.iadd, 1) := by decide +kernel
theorem dL_law_834 : decode cL_law 834 = .ok (.iaload, 1) := by decide +kernel
theorem dL_law_835 : decode cL_law 835 = .ok (.invokevirtual 92, 3) := by decide +kernel
theorem dL_law_838 : decode cL_law 838 = .ok (.if_icmp .eq 309, 3) := by decide +kernel
theorem dL_law_841 : decode cL_law 841 = .ok (.iconst 0, 1) := by decide +kernel
theorem dL_law_842 : decode cL_law 842 = .ok (.ireturn, 1) := by decide +kernel
theorem dL_law_843 : decode cL_law 843 = .ok (.aload_n 1, 1) := by decide +kernel
theorem dL_law_844 : decode cL_law 844 = .ok (.aload_n 0, 1) := by decide +kernel
theorem dL_law_845 : decode cL_law 845 = .ok (.iload_n 3, 1) := by decide +kernel
theorem dL_law_846 : decode cL_law 846 = .ok (.iconst 1, 1) := by decide +kernel
theorem dL_law_847 : decode cL_law 847 = .ok (.iadd, 1) := by decide +kernel
theorem dL_law_848 : decode cL_law 848 = .ok (.iaload, 1) := by decide +kernel
theorem dL_law_849 : decode cL_law 849 = .ok (.aload_n 0, 1) := by decide +kernel
theorem dL_law_850 : decode cL_law 850 = .ok (.iload_n 3, 1) := by decide +kernel
theorem dL_law_851 : decode cL_law 851 = .ok (.iconst 2, 1) := by decide +kernel
theorem dL_law_852 : decode cL_law 852 = .ok (.iadd, 1) := by decide +kernel
theorem dL_law_853 : decode cL_law 853 = .ok (.iaload, 1) := by decide +kernel
theorem dL_law_854 : decode cL_law 854 = .ok (.aload_n 0, 1) := by decide +kernel
theorem dL_law_855 : decode cL_law 855 = .ok (.iload_n 3, 1) := by decide +kernel
theorem dL_law_856 : decode cL_law 856 = .ok (.iconst 3, 1) := by decide +kernel
theorem dL_law_857 : decode cL_law 857 = .ok (.iadd, 1) := by decide +kernel
theorem dL_law_858 : decode cL_law 858 = .ok (.iaload, 1) := by decide +kernel
theorem dL_law_859 : decode cL_law 859 = .ok (.invokevirtual 93, 3) := by decide +kernel
theorem dL_law_862 : decode cL_law 862 = .ok (.aload_n 2, 1) := by decide +kernel
theorem dL_law_863 : decode cL_law 863 = .ok (.aload_n 0, 1) := by decide +kernel
theorem dL_law_864 : decode cL_law 864 = .ok (.iload_n 3, 1) := by decide +kernel
theorem dL_law_865 : decode cL_law 865 = .ok (.iconst 1, 1) := by decide +kernel
theorem dL_law_866 : decode cL_law 866 = .ok (.iadd, 1) := by decide +kernel
theorem dL_law_867 : decode cL_law 867 = .ok (.iaload, 1) := by decide +kernel
theorem dL_law_868 : decode cL_law 868 = .ok (.aload_n 0, 1) := by decide +kernel
theorem dL_law_869 : decode cL_law 869 = .ok (.iload_n 3, 1) := by decide +kernel
theorem dL_law_870 : decode cL_law 870 = .ok (.iconst 2, 1) := by decide +kernel
theorem dL_law_871 : decode cL_law 871 = .ok (.iadd, 1) := by decide +kernel
theorem dL_law_872 : decode cL_law 872 = .ok (.iaload, 1) := by decide +kernel
theorem dL_law_873 : decode cL_law 873 = .ok (.aload_n 0, 1) := by decide +kernel
theorem dL_law_874 : decode cL_law 874 = .ok (.iload_n 3, 1) := by decide +kernel
theorem dL_law_875 : decode cL_law 875 = .ok (.iconst 3, 1) := by decide +kernel
theorem dL_law_876 : decode cL_law 876 = .ok (.iadd, 1) := by decide +kernel
theorem dL_law_877 : decode cL_law 877 = .ok (.iaload, 1) := by decide +kernel
theorem dL_law_878 : decode cL_law 878 = .ok (.invokevirtual 96, 3) := by decide +kernel
theorem dL_law_881 : decode cL_law 881 = .ok (.if_icmp .eq 266, 3) := by decide +kernel
theorem dL_law_884 : decode cL_law 884 = .ok (.iconst 0, 1) := by decide +kernel
theorem dL_law_885 : decode cL_law 885 = .ok (.ireturn, 1) := by decide +kernel
theorem dL_law_886 : decode cL_law 886 = .ok (.aload_n 1, 1) := by decide +kernel
theorem dL_law_887 : decode cL_law 887 = .ok (.aload_n 0, 1) := by decide +kernel
theorem dL_law_888 : decode cL_law 888 = .ok (.iload_n 3, 1) := by decide +kernel
theorem dL_law_889 : decode cL_law 889 = .ok (.iconst 1, 1) := by decide +kernel
theorem dL_law_890 : decode cL_law 890 = .ok (.iadd, 1) := by decide +kernel
theorem dL_law_891 : decode cL_law 891 = .ok (.iaload, 1) := by decide +kernel
theorem dL_law_892 : decode cL_law 892 = .ok (.aload_n 0, 1) := by decide +kernel
theorem dL_law_893 : decode cL_law 893 = .ok (.iload_n 3, 1) := by decide +kernel
theorem dL_law_894 : decode cL_law 894 = .ok (.iconst 2, 1) := by decide +kernel
theorem dL_law_895 : decode cL_law 895 = .ok (.iadd, 1) := by decide +kernel
theorem dL_law_896 : decode cL_law 896 = .ok (.iaload, 1) := by decide +kernel
theorem dL_law_897 : decode cL_law 897 = .ok (.invokevirtual 97, 3) := by decide +kernel
theorem dL_law_900 : decode cL_law 900 = .ok (.aload_n 2, 1) := by decide +kernel
theorem dL_law_901 : decode cL_law 901 = .ok (.aload_n 0, 1) := by decide +kernel
theorem dL_law_902 : decode cL_law 902 = .ok (.iload_n 3, 1) := by decide +kernel
theorem dL_law_903 : decode cL_law 903 = .ok (.iconst 1, 1) := by decide +kernel
theorem dL_law_904 : decode cL_law 904 = .ok (.iadd, 1) := by decide +kernel
theorem dL_law_905 : decode cL_law 905 = .ok (.iaload, 1) := by decide +kernel
theorem dL_law_906 : decode cL_law 906 = .ok (.aload_n 0, 1) := by decide +kernel
theorem dL_law_907 : decode cL_law 907 = .ok (.iload_n 3, 1) := by decide +kernel
theorem dL_law_908 : decode cL_law 908 = .ok (.iconst 2, 1) := by decide +kernel
theorem dL_law_909 : decode cL_law 909 = .ok (.iadd, 1) := by decide +kernel
theorem dL_law_910 : decode cL_law 910 = .ok (.iaload, 1) := by decide +kernel
theorem dL_law_911 : decode cL_law 911 = .ok (.invokevirtual 100, 3) := by decide +kernel
theorem dL_law_914 : decode cL_law 914 = .ok (.if_icmp .eq 233, 3) := by decide +kernel
theorem dL_law_917 : decode cL_law 917 = .ok (.iconst 0, 1) := by decide +kernel
theorem dL_law_918 : decode cL_law 918 = .ok (.ireturn, 1) := by decide +kernel
theorem dL_law_919 : decode cL_law 919 = .ok (.aload_n 1, 1) := by decide +kernel
theorem dL_law_920 : decode cL_law 920 = .ok (.invokevirtual 101, 3) := by decide +kernel
theorem dL_law_923 : decode cL_law 923 = .ok (.aload_n 2, 1) := by decide +kernel
theorem dL_law_924 : decode cL_law 924 = .ok (.invokevirtual 105, 3) := by decide +kernel
theorem dL_law_927 : decode cL_law 927 = .ok (.if_icmp .eq 220, 3) := by decide +kernel
theorem dL_law_930 : decode cL_law 930 = .ok (.iconst 0, 1) := by decide +kernel
theorem dL_law_931 : decode cL_law 931 = .ok (.ireturn, 1) := by decide +kernel
theorem dL_law_932 : decode cL_law 932 = .ok (.aload_n 1, 1) := by decide +kernel
theorem dL_law_933 : decode cL_law 933 = .ok (.invokevirtual 106, 3) := by decide +kernel
theorem dL_law_936 : decode cL_law 936 = .ok (.aload_n 2, 1) := by decide +kernel
theorem dL_law_937 : decode cL_law 937 = .ok (.invokevirtual 109, 3) := by decide +kernel
theorem dL_law_940 : decode cL_law 940 = .ok (.if_icmp .eq 207, 3) := by decide +kernel
theorem dL_law_943 : decode cL_law 943 = .ok (.iconst 0, 1) := by decide +kernel
theorem dL_law_944 : decode cL_law 944 = .ok (.ireturn, 1) := by decide +kernel
theorem dL_law_945 : decode cL_law 945 = .ok (.aload_n 1, 1) := by decide +kernel
theorem dL_law_946 : decode cL_law 946 = .ok (.aload_n 0, 1) := by decide +kernel
theorem dL_law_947 : decode cL_law 947 = .ok (.iload_n 3, 1) := by decide +kernel
theorem dL_law_948 : decode cL_law 948 = .ok (.iconst 1, 1) := by decide +kernel
theorem dL_law_949 : decode cL_law 949 = .ok (.iadd, 1) := by decide +kernel
theorem dL_law_950 : decode cL_law 950 = .ok (.iaload, 1) := by decide +kernel
theorem dL_law_951 : decode cL_law 951 = .ok (.aload_n 0, 1) := by decide +kernel
theorem dL_law_952 : decode cL_law 952 = .ok (.iload_n 3, 1) := by decide +kernel
theorem dL_law_953 : decode cL_law 953 = .ok (.iconst 2, 1) := by decide +kernel
theorem dL_law_954 : decode cL_law 954 = .ok (.iadd, 1) := by decide +kernel
theorem dL_law_955 : decode cL_law 955 = .ok (.iaload, 1) := by decide +kernel
theorem dL_law_956 : decode cL_law 956 = .ok (.aload_n 0, 1) := by decide +kernel
theorem dL_law_957 : decode cL_law 957 = .ok (.iload_n 3, 1) := by decide +kernel
theorem dL_law_958 : decode cL_law 958 = .ok (.iconst 3, 1) := by decide +kernel
theorem dL_law_959 : decode cL_law 959 = .ok (.iadd, 1) := by decide +kernel
theorem dL_law_960 : decode cL_law 960 = .ok (.iaload, 1) := by decide +kernel
theorem dL_law_961 : decode cL_law 961 = .ok (.invokevirtual 110, 3) := by decide +kernel
theorem dL_law_964 : decode cL_law 964 = .ok (.aload_n 2, 1) := by decide +kernel
theorem dL_law_965 : decode cL_law 965 = .ok (.aload_n 0, 1) := by decide +kernel
theorem dL_law_966 : decode cL_law 966 = .ok (.iload_n 3, 1) := by decide +kernel
theorem dL_law_967 : decode cL_law 967 = .ok (.iconst 1, 1) := by decide +kernel
theorem dL_law_968 : decode cL_law 968 = .ok (.iadd, 1) := by decide +kernel
theorem dL_law_969 : decode cL_law 969 = .ok (.iaload, 1) := by decide +kernel
theorem dL_law_970 : decode cL_law 970 = .ok (.aload_n 0, 1) := by decide +kernel
theorem dL_law_971 : decode cL_law 971 = .ok (.iload_n 3, 1) := by decide +kernel
theorem dL_law_972 : decode cL_law 972 = .ok (.iconst 2, 1) := by decide +kernel
theorem dL_law_973 : decode cL_law 973 = .ok (.iadd, 1) := by decide +kernel
theorem dL_law_974 : decode cL_law 974 = .ok (.iaload, 1) := by decide +kernel
theorem dL_law_975 : decode cL_law 975 = .ok (.aload_n 0, 1) := by decide +kernel
theorem dL_law_976 : decode cL_law 976 = .ok (.iload_n 3, 1) := by decide +kernel
theorem dL_law_977 : decode cL_law 977 = .ok (.iconst 3, 1) := by decide +kernel
theorem dL_law_978 : decode cL_law 978 = .ok (.iadd, 1) := by decide +kernel
theorem dL_law_979 : decode cL_law 979 = .ok (.iaload, 1) := by decide +kernel
theorem dL_law_980 : decode cL_law 980 = .ok (.invokevirtual 113, 3) := by decide +kernel
theorem dL_law_983 : decode cL_law 983 = .ok (.if_icmp .eq 164, 3) := by decide +kernel
theorem dL_law_986 : decode cL_law 986 = .ok (.iconst 0, 1) := by decide +kernel
theorem dL_law_987 : decode cL_law 987 = .ok (.ireturn, 1) := by decide +kernel
theorem dL_law_988 : decode cL_law 988 = .ok (.aload_n 1, 1) := by decide +kernel
theorem dL_law_989 : decode cL_law 989 = .ok (.aload_n 0, 1) := by decide +kernel
theorem dL_law_990 : decode cL_law 990 = .ok (.iload_n 3, 1) := by decide +kernel
theorem dL_law_991 : decode cL_law 991 = .ok (.iconst 1, 1) := by decide +kernel
theorem dL_law_992 : decode cL_law 992 = .ok (.iadd, 1) := by decide +kernel
theorem dL_law_993 : decode cL_law 993 = .ok (.iaload, 1) := by decide +kernel
theorem dL_law_994 : decode cL_law 994 = .ok (.aload_n 0, 1) := by decide +kernel
theorem dL_law_995 : decode cL_law 995 = .ok (.iload_n 3, 1) := by decide +kernel
theorem dL_law_996 : decode cL_law 996 = .ok (.iconst 2, 1) := by decide +kernel
theorem dL_law_997 : decode cL_law 997 = .ok (.iadd, 1) := by decide +kernel
theorem dL_law_998 : decode cL_law 998 = .ok (.iaload, 1) := by decide +kernel
theorem dL_law_999 : decode cL_law 999 = .ok (.aload_n 0, 1) := by decide +kernel
theorem dL_law_1000 : decode cL_law 1000 = .ok (.iload_n 3, 1) := by decide +kernel
theorem dL_law_1001 : decode cL_law 1001 = .ok (.iconst 3, 1) := by decide +kernel
theorem dL_law_1002 : decode cL_law 1002 = .ok (.iadd, 1) := by decide +kernel
theorem dL_law_1003 : decode cL_law 1003 = .ok (.iaload, 1) := by decide +kernel
theorem dL_law_1004 : decode cL_law 1004 = .ok (.invokevirtual 114, 3) := by decide +kernel
theorem dL_law_1007 : decode cL_law 1007 = .ok (.aload_n 2, 1) := by decide +kernel
theorem dL_law_1008 : decode cL_law 1008 = .ok (.aload_n 0, 1) := by decide +kernel
theorem dL_law_1009 : decode cL_law 1009 = .ok (.iload_n 3, 1) := by decide +kernel
theorem dL_law_1010 : decode cL_law 1010 = .ok (.iconst 1, 1) := by decide +kernel
theorem dL_law_1011 : decode cL_law 1011 = .ok (.iadd, 1) := by decide +kernel
theorem dL_law_1012 : decode cL_law 1012 = .ok (.iaload, 1) := by decide +kernel
theorem dL_law_1013 : decode cL_law 1013 = .ok (.aload_n 0, 1) := by decide +kernel
theorem dL_law_1014 : decode cL_law 1014 = .ok (.iload_n 3, 1) := by decide +kernel
theorem dL_law_1015 : decode cL_law 1015 = .ok (.iconst 2, 1) := by decide +kernel
theorem dL_law_1016 : decode cL_law 1016 = .ok (.iadd, 1) := by decide +kernel
theorem dL_law_1017 : decode cL_law 1017 = .ok (.iaload, 1) := by decide +kernel
theorem dL_law_1018 : decode cL_law 1018 = .ok (.aload_n 0, 1) := by decide +kernel
theorem dL_law_1019 : decode cL_law 1019 = .ok (.iload_n 3, 1) := by decide +kernel
theorem dL_law_1020 : decode cL_law 1020 = .ok (.iconst 3, 1) := by decide +kernel
theorem dL_law_1021 : decode cL_law 1021 = .ok (.iadd, 1) := by decide +kernel
theorem dL_law_1022 : decode cL_law 1022 = .ok (.iaload, 1) := by decide +kernel
theorem dL_law_1023 : decode cL_law 1023 = .ok (.invokevirtual 117, 3) := by decide +kernel
theorem dL_law_1026 : decode cL_law 1026 = .ok (.if_icmp .eq 121, 3) := by decide +kernel
theorem dL_law_1029 : decode cL_law 1029 = .ok (.iconst 0, 1) := by decide +kernel
theorem dL_law_1030 : decode cL_law 1030 = .ok (.ireturn, 1) := by decide +kernel
theorem dL_law_1031 : decode cL_law 1031 = .ok (.aload_n 1, 1) := by decide +kernel
theorem dL_law_1032 : decode cL_law 1032 = .ok (.aload_n 0, 1) := by decide +kernel
theorem dL_law_1033 : decode cL_law 1033 = .ok (.iload_n 3, 1) := by decide +kernel
theorem dL_law_1034 : decode cL_law 1034 = .ok (.iconst 1, 1) := by decide +kernel
theorem dL_law_1035 : decode cL_law 1035 = .ok (.iadd, 1) := by decide +kernel
theorem dL_law_1036 : decode cL_law 1036 = .ok (.iaload, 1) := by decide +kernel
theorem dL_law_1037 : decode cL_law 1037 = .ok (.aload_n 0, 1) := by decide +kernel
theorem dL_law_1038 : decode cL_law 1038 = .ok (.iload_n 3, 1) := by decide +kernel
theorem dL_law_1039 : decode cL_law 1039 = .ok (.iconst 2, 1) := by decide +kernel
theorem dL_law_1040 : decode cL_law 1040 = .ok (.iadd, 1) := by decide +kernel
theorem dL_law_1041 : decode cL_law 1041 = .ok (.iaload, 1) := by decide +kernel
theorem dL_law_1042 : decode cL_law 1042 = .ok (.aload_n 0, 1) := by decide +kernel
theorem dL_law_1043 : decode cL_law 1043 = .ok (.iload_n 3, 1) := by decide +kernel
theorem dL_law_1044 : decode cL_law 1044 = .ok (.iconst 3, 1) := by decide +kernel
theorem dL_law_1045 : decode cL_law 1045 = .ok (.iadd, 1) := by decide +kernel
theorem dL_law_1046 : decode cL_law 1046 = .ok (.iaload, 1) := by decide +kernel
theorem dL_law_1047 : decode cL_law 1047 = .ok (.aload_n 0, 1) := by decide +kernel
theorem dL_law_1048 : decode cL_law 1048 = .ok (.iload_n 3, 1) := by decide +kernel
theorem dL_law_1049 : decode cL_law 1049 = .ok (.iconst 4, 1) := by decide +kernel
theorem dL_law_1050 : decode cL_law 1050 = .ok (.iadd, 1) := by decide +kernel
theorem dL_law_1051 : decode cL_law 1051 = .ok (.iaload, 1) := by decide +kernel
theorem dL_law_1052 : decode cL_law 1052 = .ok (.aload_n 0, 1) := by decide +kernel
theorem dL_law_1053 : decode cL_law 1053 = .ok (.iload_n 3, 1) := by decide +kernel
theorem dL_law_1054 : decode cL_law 1054 = .ok (.iconst 5, 1) := by decide +kernel
theorem dL_law_1055 : decode cL_law 1055 = .ok (.iadd, 1) := by decide +kernel
theorem dL_law_1056 : decode cL_law 1056 = .ok (.iaload, 1) := by decide +kernel
theorem dL_law_1057 : decode cL_law 1057 = .ok (.invokevirtual 118, 3) := by decide +kernel
theorem dL_law_1060 : decode cL_law 1060 = .ok (.aload_n 2, 1) := by decide +kernel
theorem dL_law_1061 : decode cL_law 1061 = .ok (.aload_n 0, 1) := by decide +kernel
theorem dL_law_1062 : decode cL_law 1062 = .ok (.iload_n 3, 1) := by decide +kernel
theorem dL_law_1063 : decode cL_law 1063 = .ok (.iconst 1, 1) := by decide +kernel
theorem dL_law_1064 : decode cL_law 1064 = .ok (.iadd, 1) := by decide +kernel
theorem dL_law_1065 : decode cL_law 1065 = .ok (.iaload, 1) := by decide +kernel
theorem dL_law_1066 : decode cL_law 1066 = .ok (.aload_n 0, 1) := by decide +kernel
theorem dL_law_1067 : decode cL_law 1067 = .ok (.iload_n 3, 1) := by decide +kernel
theorem dL_law_1068 : decode cL_law 1068 = .ok (.iconst 2, 1) := by decide +kernel
theorem dL_law_1069 : decode cL_law 1069 = .ok (.iadd, 1) := by decide +kernel
theorem dL_law_1070 : decode cL_law 1070 = .ok (.iaload, 1) := by decide +kernel
theorem dL_law_1071 : decode cL_law 1071 = .ok (.aload_n 0, 1) := by decide +kernel
theorem dL_law_1072 : decode cL_law 1072 = .ok (.iload_n 3, 1) := by decide +kernel
theorem dL_law_1073 : decode cL_law 1073 = .ok (.iconst 3, 1) := by decide +kernel
theorem dL_law_1074 : decode cL_law 1074 = .ok (.iadd, 1) := by decide +kernel
theorem dL_law_1075 : decode cL_law 1075 = .ok (.iaload, 1) := by decide +kernel
theorem dL_law_1076 : decode cL_law 1076 = .ok (.aload_n 0, 1) := by decide +kernel
theorem dL_law_1077 : decode cL_law 1077 = .ok (.iload_n 3, 1) := by decide +kernel
theorem dL_law_1078 : decode cL_law 1078 = .ok (.iconst 4, 1) := by decide +kernel
theorem dL_law_1079 : decode cL_law 1079 = .ok (.iadd, 1) := by decide +kernel
theorem dL_law_1080 : decode cL_law 1080 = .ok (.iaload, 1) := by decide +kernel
theorem dL_law_1081 : decode cL_law 1081 = .ok (.aload_n 0, 1) := by decide +kernel
theorem dL_law_1082 : decode cL_law 1082 = .ok (.iload_n 3, 1) := by decide +kernel
theorem dL_law_1083 : decode cL_law 1083 = .ok (.iconst 5, 1) := by decide +kernel
theorem dL_law_1084 : decode cL_law 1084 = .ok (.iadd, 1) := by decide +kernel
theorem dL_law_1085 : decode cL_law 1085 = .ok (.iaload, 1) := by decide +kernel
theorem dL_law_1086 : decode cL_law 1086 = .ok (.invokevirtual 122, 3) := by decide +kernel
theorem dL_law_1089 : decode cL_law 1089 = .ok (.if_icmp .eq 58, 3) := by decide +kernel
theorem dL_law_1092 : decode cL_law 1092 = .ok (.iconst 0, 1) := by decide +kernel
theorem dL_law_1093 : decode cL_law 1093 = .ok (.ireturn, 1) := by decide +kernel
theorem dL_law_1094 : decode cL_law 1094 = .ok (.aload_n 1, 1) := by decide +kernel
theorem dL_law_1095 : decode cL_law 1095 = .ok (.aload_n 0, 1) := by decide +kernel
theorem dL_law_1096 : decode cL_law 1096 = .ok (.iload_n 3, 1) := by decide +kernel
theorem dL_law_1097 : decode cL_law 1097 = .ok (.iconst 1, 1) := by decide +kernel
theorem dL_law_1098 : decode cL_law 1098 = .ok (.iadd, 1) := by decide +kernel
theorem dL_law_1099 : decode cL_law 1099 = .ok (.iaload, 1) := by decide +kernel
theorem dL_law_1100 : decode cL_law 1100 = .ok (.aload_n 0, 1) := by decide +kernel
theorem dL_law_1101 : decode cL_law 1101 = .ok (.iload_n 3, 1) := by decide +kernel
theorem dL_law_1102 : decode cL_law 1102 = .ok (.iconst 2, 1) := by decide +kernel
theorem dL_law_1103 : decode cL_law 1103 = .ok (.iadd, 1) := by decide +kernel
theorem dL_law_1104 : decode cL_law 1104 = .ok (.iaload, 1) := by decide +kernel
theorem dL_law_1105 : decode cL_law 1105 = .ok (.aload_n 0, 1) := by decide +kernel
theorem dL_law_1106 : decode cL_law 1106 = .ok (.iload_n 3, 1) := by decide +kernel
theorem dL_law_1107 : decode cL_law 1107 = .ok (.iconst 3, 1) := by decide +kernel
theorem dL_law_1108 : decode cL_law 1108 = .ok (.iadd, 1) := by decide +kernel
theorem dL_law_1109 : decode cL_law 1109 = .ok (.iaload, 1) := by decide +kernel
theorem dL_law_1110 : decode cL_law 1110 = .ok (.aload_n 0, 1) := by decide +kernel
theorem dL_law_1111 : decode cL_law 1111 = .ok (.iload_n 3, 1) := by decide +kernel
theorem dL_law_1112 : decode cL_law 1112 = .ok (.iconst 4, 1) := by decide +kernel
theorem dL_law_1113 : decode cL_law 1113 = .ok (.iadd, 1) := by decide +kernel
theorem dL_law_1114 : decode cL_law 1114 = .ok (.iaload, 1) := by decide +kernel
theorem dL_law_1115 : decode cL_law 1115 = .ok (.invokevirtual 123, 3) := by decide +kernel
theorem dL_law_1118 : decode cL_law 1118 = .ok (.aload_n 2, 1) := by decide +kernel
theorem dL_law_1119 : decode cL_law 1119 = .ok (.aload_n 0, 1) := by decide +kernel
theorem dL_law_1120 : decode cL_law 1120 = .ok (.iload_n 3, 1) := by decide +kernel
theorem dL_law_1121 : decode cL_law 1121 = .ok (.iconst 1, 1) := by decide +kernel
theorem dL_law_1122 : decode cL_law 1122 = .ok (.iadd, 1) := by decide +kernel
theorem dL_law_1123 : decode cL_law 1123 = .ok (.iaload, 1) := by decide +kernel
theorem dL_law_1124 : decode cL_law 1124 = .ok (.aload_n 0, 1) := by decide +kernel
theorem dL_law_1125 : decode cL_law 1125 = .ok (.iload_n 3, 1) := by decide +kernel
theorem dL_law_1126 : decode cL_law 1126 = .ok (.iconst 2, 1) := by decide +kernel
theorem dL_law_1127 : decode cL_law 1127 = .ok (.iadd, 1) := by decide +kernel
theorem dL_law_1128 : decode cL_law 1128 = .ok (.iaload, 1) := by decide +kernel
theorem dL_law_1129 : decode cL_law 1129 = .ok (.aload_n 0, 1) := by decide +kernel
theorem dL_law_1130 : decode cL_law 1130 = .ok (.iload_n 3, 1) := by decide +kernel
theorem dL_law_1131 : decode cL_law 1131 = .ok (.iconst 3, 1) := by decide +kernel
theorem dL_law_1132 : decode cL_law 1132 = .ok (.iadd, 1) := by decide +kernel
theorem dL_law_1133 : decode cL_law 1133 = .ok (.iaload, 1) := by decide +kernel
theorem dL_law_1134 : decode cL_law 1134 = .ok (.aload_n 0, 1) := by decide +kernel
theorem dL_law_1135 : decode cL_law 1135 = .ok (.iload_n 3, 1) := by decide +kernel
theorem dL_law_1136 : decode cL_law 1136 = .ok (.iconst 4, 1) := by decide +kernel
theorem dL_law_1137 : decode cL_law 1137 = .ok (.iadd, 1) := by decide +kernel
theorem dL_law_1138 : decode cL_law 1138 = .ok (.iaload, 1) := by decide +kernel
theorem dL_law_1139 : decode cL_law 1139 = .ok (.invokevirtual 126, 3) := by decide +kernel
theorem dL_law_1142 : decode cL_law 1142 = .ok (.if_icmp .eq 5, 3) := by decide +kernel
theorem dL_law_1145 : decode cL_law 1145 = .ok (.iconst 0, 1) := by decide +kernel
theorem dL_law_1146 : decode cL_law 1146 = .ok (.ireturn, 1) := by decide +kernel
theorem dL_law_1147 : decode cL_law 1147 = .ok (.iinc 3 6, 3) := by decide +kernel
theorem dL_law_1150 : decode cL_law 1150 = .ok (.goto (-1132), 3) := by decide +kernel
theorem dL_law_1153 : decode cL_law 1153 = .ok (.iconst 1, 1) := by decide +kernel
theorem dL_law_1154 : decode cL_law 1154 = .ok (.ireturn, 1) := by decide +kernel
