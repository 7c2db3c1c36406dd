theorem dX9_groupAll_70 : decode cX9_groupAll 70 = .ok (.iinc 5 1, 3) := by decide +kernel
theorem dX9_groupAll_73 : decode cX9_groupAll 73 = .ok (.goto (-57), 3) := by decide +kernel
theorem dX9_groupAll_76 : decode cX9_groupAll 76 = .ok (.iload 4, 2) := by decide +kernel
theorem dX9_groupAll_78 : decode cX9_groupAll 78 = .ok (.ifCond .lt (-73), 3) := by decide +kernel
theorem dX9_groupAll_81 : decode cX9_groupAll 81 = .ok (.aload_n 0, 1) := by decide +kernel
theorem dX9_groupAll_82 : decode cX9_groupAll 82 = .ok (.getfield 54, 3) := by decide +kernel
theorem dX9_groupAll_85 : decode cX9_groupAll 85 = .ok (.iload 4, 2) := by decide +kernel
theorem dX9_groupAll_87 : decode cX9_groupAll 87 = .ok (.iload_n 3, 1) := by decide +kernel
theorem dX9_groupAll_88 : decode cX9_groupAll 88 = .ok (.iastore, 1) := by decide +kernel
theorem dX9_groupAll_89 : decode cX9_groupAll 89 = .ok (.aload_n 0, 1) := by decide +kernel
theorem dX9_groupAll_90 : decode cX9_groupAll 90 = .ok (.iload_n 1, 1) := by decide +kernel
theorem dX9_groupAll_91 : decode cX9_groupAll 91 = .ok (.iload_n 3, 1) := by decide +kernel
theorem dX9_groupAll_92 : decode cX9_groupAll 92 = .ok (.iload_n 2, 1) := by decide +kernel
theorem dX9_groupAll_93 : decode cX9_groupAll 93 = .ok (.invokevirtual 165, 3) := by decide +kernel
theorem dX9_groupAll_96 : decode cX9_groupAll 96 = .ok (.iinc 3 1, 3) := by decide +kernel
theorem dX9_groupAll_99 : decode cX9_groupAll 99 = .ok (.goto (-94), 3) := by decide +kernel
theorem dX9_groupAll_102 : decode cX9_groupAll 102 = .ok (.return_, 1) := by decide +kernel
theorem dX9_sort_0 : decode cX9_sort 0 = .ok (.aload_n 0, 1) := by decide +kernel
theorem dX9_sort_1 : decode cX9_sort 1 = .ok (.iload_n 1, 1) := by decide +kernel
theorem dX9_sort_2 : decode cX9_sort 2 = .ok (.ifCond .lt 18, 3) := by decide +kernel
theorem dX9_sort_5 : decode cX9_sort 5 = .ok (.iload_n 1, 1) := by decide +kernel
theorem dX9_sort_6 : decode cX9_sort 6 = .ok (.bipush 12, 2) := by decide +kernel
theorem dX9_sort_8 : decode cX9_sort 8 = .ok (.if_icmp .gt 12, 3) := by decide +kernel
theorem dX9_sort_11 : decode cX9_sort 11 = .ok (.iload_n 2, 1) := by decide +kernel
theorem dX9_sort_12 : decode cX9_sort 12 = .ok (.ifCond .lt 8, 3) := by decide +kernel
theorem dX9_sort_15 : decode cX9_sort 15 = .ok (.iload_n 2, 1) := by decide +kernel
theorem dX9_sort_16 : decode cX9_sort 16 = .ok (.iconst 1, 1) := by decide +kernel
theorem dX9_sort_17 : decode cX9_sort 17 = .ok (.if_icmp .le 7, 3) := by decide +kernel
theorem dX9_sort_20 : decode cX9_sort 20 = .ok (.iconst 1, 1) := by decide +kernel
theorem dX9_sort_21 : decode cX9_sort 21 = .ok (.goto 4, 3) := by decide +kernel
theorem dX9_sort_24 : decode cX9_sort 24 = .ok (.iconst 0, 1) := by decide +kernel
theorem dX9_sort_25 : decode cX9_sort 25 = .ok (.putfield 66, 3) := by decide +kernel
theorem dX9_sort_28 : decode cX9_sort 28 = .ok (.aload_n 0, 1) := by decide +kernel
theorem dX9_sort_29 : decode cX9_sort 29 = .ok (.getfield 66, 3) := by decide +kernel
theorem dX9_sort_32 : decode cX9_sort 32 = .ok (.ifCond .le 5, 3) := by decide +kernel
theorem dX9_sort_35 : decode cX9_sort 35 = .ok (.iconst 0, 1) := by decide +kernel
theorem dX9_sort_36 : decode cX9_sort 36 = .ok (.ireturn, 1) := by decide +kernel
theorem dX9_sort_37 : decode cX9_sort 37 = .ok (.aload_n 0, 1) := by decide +kernel
theorem dX9_sort_38 : decode cX9_sort 38 = .ok (.iconst 1, 1) := by decide +kernel
theorem dX9_sort_39 : decode cX9_sort 39 = .ok (.putfield 114, 3) := by decide +kernel
theorem dX9_sort_42 : decode cX9_sort 42 = .ok (.aload_n 0, 1) := by decide +kernel
theorem dX9_sort_43 : decode cX9_sort 43 = .ok (.aload_n 0, 1) := by decide +kernel
theorem dX9_sort_44 : decode cX9_sort 44 = .ok (.getfield 118, 3) := by decide +kernel
theorem dX9_sort_47 : decode cX9_sort 47 = .ok (.putfield 169, 3) := by decide +kernel
theorem dX9_sort_50 : decode cX9_sort 50 = .ok (.aload_n 0, 1) := by decide +kernel
theorem dX9_sort_51 : decode cX9_sort 51 = .ok (.iload_n 1, 1) := by decide +kernel
theorem dX9_sort_52 : decode cX9_sort 52 = .ok (.putfield 146, 3) := by decide +kernel
theorem dX9_sort_55 : decode cX9_sort 55 = .ok (.aload_n 0, 1) := by decide +kernel
theorem dX9_sort_56 : decode cX9_sort 56 = .ok (.aload_n 0, 1) := by decide +kernel
theorem dX9_sort_57 : decode cX9_sort 57 = .ok (.getfield 121, 3) := by decide +kernel
theorem dX9_sort_60 : decode cX9_sort 60 = .ok (.putfield 143, 3) := by decide +kernel
theorem dX9_sort_63 : decode cX9_sort 63 = .ok (.aload_n 0, 1) := by decide +kernel
theorem dX9_sort_64 : decode cX9_sort 64 = .ok (.invokevirtual 140, 3) := by decide +kernel
theorem dX9_sort_67 : decode cX9_sort 67 = .ok (.iconst 1, 1) := by decide +kernel
theorem dX9_sort_68 : decode cX9_sort 68 = .ok (.isub, 1) := by decide +kernel
theorem dX9_sort_69 : decode cX9_sort 69 = .ok (.iconst 2, 1) := by decide +kernel
theorem dX9_sort_70 : decode cX9_sort 70 = .ok (.idiv, 1) := by decide +kernel
theorem dX9_sort_71 : decode cX9_sort 71 = .ok (.istore_n 3, 1) := by decide +kernel
theorem dX9_sort_72 : decode cX9_sort 72 = .ok (.iconst 0, 1) := by decide +kernel
theorem dX9_sort_73 : decode cX9_sort 73 = .ok (.istore 4, 2) := by decide +kernel
theorem dX9_sort_75 : decode cX9_sort 75 = .ok (.iconst 0, 1) := by decide +kernel
theorem dX9_sort_76 : decode cX9_sort 76 = .ok (.istore 5, 2) := by decide +kernel
theorem dX9_sort_78 : decode cX9_sort 78 = .ok (.iload 5, 2) := by decide +kernel
theorem dX9_sort_80 : decode cX9_sort 80 = .ok (.aload_n 0, 1) := by decide +kernel
theorem dX9_sort_81 : decode cX9_sort 81 = .ok (.getfield 63, 3) := by decide +kernel
theorem dX9_sort_84 : decode cX9_sort 84 = .ok (.if_icmp .ge 156, 3) := by decide +kernel
theorem dX9_sort_87 : decode cX9_sort 87 = .ok (.aload_n 0, 1) := by decide +kernel
theorem dX9_sort_88 : decode cX9_sort 88 = .ok (.getfield 41, 3) := by decide +kernel
theorem dX9_sort_91 : decode cX9_sort 91 = .ok (.iload 5, 2) := by decide +kernel
theorem dX9_sort_93 : decode cX9_sort 93 = .ok (.aload_n 0, 1) := by decide +kernel
theorem dX9_sort_94 : decode cX9_sort 94 = .ok (.getfield 118, 3) := by decide +kernel
theorem dX9_sort_97 : decode cX9_sort 97 = .ok (.ifCond .ne 7, 3) := by decide +kernel
theorem dX9_sort_100 : decode cX9_sort 100 = .ok (.iconst (-1), 1) := by decide +kernel
theorem dX9_sort_101 : decode cX9_sort 101 = .ok (.goto 11, 3) := by decide +kernel
theorem dX9_sort_104 : decode cX9_sort 104 = .ok (.aload_n 0, 1) := by decide +kernel
theorem dX9_sort_105 : decode cX9_sort 105 = .ok (.iload 5, 2) := by decide +kernel
theorem dX9_sort_107 : decode cX9_sort 107 = .ok (.iload_n 1, 1) := by decide +kernel
theorem dX9_sort_108 : decode cX9_sort 108 = .ok (.iload_n 3, 1) := by decide +kernel
theorem dX9_sort_109 : decode cX9_sort 109 = .ok (.invokevirtual 172, 3) := by decide +kernel
theorem dX9_sort_112 : decode cX9_sort 112 = .ok (.iastore, 1) := by decide +kernel
theorem dX9_sort_113 : decode cX9_sort 113 = .ok (.iload 4, 2) := by decide +kernel
theorem dX9_sort_115 : decode cX9_sort 115 = .ok (.aload_n 0, 1) := by decide +kernel
theorem dX9_sort_116 : decode cX9_sort 116 = .ok (.getfield 41, 3) := by decide +kernel
theorem dX9_sort_119 : decode cX9_sort 119 = .ok (.iload 5, 2) := by decide +kernel
theorem dX9_sort_121 : decode cX9_sort 121 = .ok (.iaload, 1) := by decide +kernel
theorem dX9_sort_122 : decode cX9_sort 122 = .ok (.ifCond .ge 7, 3) := by decide +kernel
theorem dX9_sort_125 : decode cX9_sort 125 = .ok (.iconst 1, 1) := by decide +kernel
theorem dX9_sort_126 : decode cX9_sort 126 = .ok (.goto 4, 3) := by decide +kernel
theorem dX9_sort_129 : decode cX9_sort 129 = .ok (.iconst 0, 1) := by decide +kernel
theorem dX9_sort_130 : decode cX9_sort 130 = .ok (.iadd, 1) := by decide +kernel
theorem dX9_sort_131 : decode cX9_sort 131 = .ok (.istore 4, 2) := by decide +kernel
theorem dX9_sort_133 : decode cX9_sort 133 = .ok (.aload_n 0, 1) := by decide +kernel
theorem dX9_sort_134 : decode cX9_sort 134 = .ok (.getfield 44, 3) := by decide +kernel
theorem dX9_sort_137 : decode cX9_sort 137 = .ok (.iload 5, 2) := by decide +kernel
theorem dX9_sort_139 : decode cX9_sort 139 = .ok (.aload_n 0, 1) := by decide +kernel
theorem dX9_sort_140 : decode cX9_sort 140 = .ok (.getfield 41, 3) := by decide +kernel
theorem dX9_sort_143 : decode cX9_sort 143 = .ok (.iload 5, 2) := by decide +kernel
theorem dX9_sort_145 : decode cX9_sort 145 = .ok (.iaload, 1) := by decide +kernel
theorem dX9_sort_146 : decode cX9_sort 146 = .ok (.ifCond .ge 7, 3) := by decide +kernel
theorem dX9_sort_149 : decode cX9_sort 149 = .ok (.iconst 0, 1) := by decide +kernel
theorem dX9_sort_150 : decode cX9_sort 150 = .ok (.goto 9, 3) := by decide +kernel
theorem dX9_sort_153 : decode cX9_sort 153 = .ok (.aload_n 0, 1) := by decide +kernel
theorem dX9_sort_154 : decode cX9_sort 154 = .ok (.getfield 121, 3) := by decide +kernel
theorem dX9_sort_157 : decode cX9_sort 157 = .ok (.iload_n 1, 1) := by decide +kernel
theorem dX9_sort_158 : decode cX9_sort 158 = .ok (.iadd, 1) := by decide +kernel
theorem dX9_sort_159 : decode cX9_sort 159 = .ok (.iastore, 1) := by decide +kernel
theorem dX9_sort_160 : decode cX9_sort 160 = .ok (.aload_n 0, 1) := by decide +kernel
theorem dX9_sort_161 : decode cX9_sort 161 = .ok (.getfield 47, 3) := by decide +kernel
theorem dX9_sort_164 : decode cX9_sort 164 = .ok (.iload 5, 2) := by decide +kernel
theorem dX9_sort_166 : decode cX9_sort 166 = .ok (.aload_n 0, 1) := by decide +kernel
theorem dX9_sort_167 : decode cX9_sort 167 = .ok (.getfield 23, 3) := by decide +kernel
theorem dX9_sort_170 : decode cX9_sort 170 = .ok (.iload 5, 2) := by decide +kernel
theorem dX9_sort_172 : decode cX9_sort 172 = .ok (.iaload, 1) := by decide +kernel
theorem dX9_sort_173 : decode cX9_sort 173 = .ok (.iastore, 1) := by decide +kernel
theorem dX9_sort_174 : decode cX9_sort 174 = .ok (.aload_n 0, 1) := by decide +kernel
theorem dX9_sort_175 : decode cX9_sort 175 = .ok (.iload 5, 2) := by decide +kernel
theorem dX9_sort_177 : decode cX9_sort 177 = .ok (.invokevirtual 176, 3) := by decide +kernel
theorem dX9_sort_180 : decode cX9_sort 180 = .ok (.aload_n 0, 1) := by decide +kernel
theorem dX9_sort_181 : decode cX9_sort 181 = .ok (.iload 5, 2) := by decide +kernel
theorem dX9_sort_183 : decode cX9_sort 183 = .ok (.invokevirtual 180, 3) := by decide +kernel
theorem dX9_sort_186 : decode cX9_sort 186 = .ok (.aload_n 0, 1) := by decide +kernel
theorem dX9_sort_187 : decode cX9_sort 187 = .ok (.iload 5, 2) := by decide +kernel
theorem dX9_sort_189 : decode cX9_sort 189 = .ok (.invokevirtual 183, 3) := by decide +kernel
theorem dX9_sort_192 : decode cX9_sort 192 = .ok (.aload_n 0, 1) := by decide +kernel
theorem dX9_sort_193 : decode cX9_sort 193 = .ok (.getfield 50, 3) := by decide +kernel
theorem dX9_sort_196 : decode cX9_sort 196 = .ok (.iload 5, 2) := by decide +kernel
theorem dX9_sort_198 : decode cX9_sort 198 = .ok (.aload_n 0, 1) := by decide +kernel
theorem dX9_sort_199 : decode cX9_sort 199 = .ok (.getfield 47, 3) := by decide +kernel
theorem dX9_sort_202 : decode cX9_sort 202 = .ok (.iload 5, 2) := by decide +kernel
theorem dX9_sort_204 : decode cX9_sort 204 = .ok (.iaload, 1) := by decide +kernel
theorem dX9_sort_205 : decode cX9_sort 205 = .ok (.aload_n 0, 1) := by decide +kernel
theorem dX9_sort_206 : decode cX9_sort 206 = .ok (.getfield 44, 3) := by decide +kernel
theorem dX9_sort_209 : decode cX9_sort 209 = .ok (.iload 5, 2) := by decide +kernel
theorem dX9_sort_211 : decode cX9_sort 211 = .ok (.iaload, 1) := by decide +kernel
theorem dX9_sort_212 : decode cX9_sort 212 = .ok (.isub, 1) := by decide +kernel
theorem dX9_sort_213 : decode cX9_sort 213 = .ok (.aload_n 0, 1) := by decide +kernel
theorem dX9_sort_214 : decode cX9_sort 214 = .ok (.getfield 38, 3) := by decide +kernel
theorem dX9_sort_217 : decode cX9_sort 217 = .ok (.if_icmp .ge 7, 3) := by decide +kernel
theorem dX9_sort_220 : decode cX9_sort 220 = .ok (.iconst 1, 1) := by decide +kernel
theorem dX9_sort_221 : decode cX9_sort 221 = .ok (.goto 4, 3) := by decide +kernel
theorem dX9_sort_224 : decode cX9_sort 224 = .ok (.iconst 0, 1) := by decide +kernel
theorem dX9_sort_225 : decode cX9_sort 225 = .ok (.bastore, 1) := by decide +kernel
theorem dX9_sort_226 : decode cX9_sort 226 = .ok (.aload_n 0, 1) := by decide +kernel
theorem dX9_sort_227 : decode cX9_sort 227 = .ok (.getfield 54, 3) := by decide +kernel
theorem dX9_sort_230 : decode cX9_sort 230 = .ok (.iload 5, 2) := by decide +kernel
theorem dX9_sort_232 : decode cX9_sort 232 = .ok (.iconst (-1), 1) := by decide +kernel
theorem dX9_sort_233 : decode cX9_sort 233 = .ok (.iastore, 1) := by decide +kernel
theorem dX9_sort_234 : decode cX9_sort 234 = .ok (.iinc 5 1, 3) := by decide +kernel
theorem dX9_sort_237 : decode cX9_sort 237 = .ok (.goto (-159), 3) := by decide +kernel
theorem dX9_sort_240 : decode cX9_sort 240 = .ok (.iconst 0, 1) := by decide +kernel
theorem dX9_sort_241 : decode cX9_sort 241 = .ok (.istore 5, 2) := by decide +kernel
theorem dX9_sort_243 : decode cX9_sort 243 = .ok (.iload 5, 2) := by decide +kernel
theorem dX9_sort_245 : decode cX9_sort 245 = .ok (.aload_n 0, 1) := by decide +kernel
theorem dX9_sort_246 : decode cX9_sort 246 = .ok (.getfield 169, 3) := by decide +kernel
theorem dX9_sort_249 : decode cX9_sort 249 = .ok (.if_icmp .ge 16, 3) := by decide +kernel
theorem dX9_sort_252 : decode cX9_sort 252 = .ok (.aload_n 0, 1) := by decide +kernel
theorem dX9_sort_253 : decode cX9_sort 253 = .ok (.iload 5, 2) := by decide +kernel
theorem dX9_sort_255 : decode cX9_sort 255 = .ok (.iload_n 2, 1) := by decide +kernel
theorem dX9_sort_256 : decode cX9_sort 256 = .ok (.invokevirtual 186, 3) := by decide +kernel
theorem dX9_sort_259 : decode cX9_sort 259 = .ok (.iinc 5 1, 3) := by decide +kernel
theorem dX9_sort_262 : decode cX9_sort 262 = .ok (.goto (-19), 3) := by decide +kernel
theorem dX9_sort_265 : decode cX9_sort 265 = .ok (.iload 4, 2) := by decide +kernel
theorem dX9_sort_267 : decode cX9_sort 267 = .ok (.ireturn, 1) := by decide +kernel
theorem dX9_noRead_0 : decode cX9_noRead 0 = .ok (.iload_n 1, 1) := by decide +kernel
theorem dX9_noRead_1 : decode cX9_noRead 1 = .ok (.ifCond .lt 11, 3) := by decide +kernel
theorem dX9_noRead_4 : decode cX9_noRead 4 = .ok (.iload_n 1, 1) := by decide +kernel
theorem dX9_noRead_5 : decode cX9_noRead 5 = .ok (.aload_n 0, 1) := by decide +kernel
theorem dX9_noRead_6 : decode cX9_noRead 6 = .ok (.getfield 63, 3) := by decide +kernel
theorem dX9_noRead_9 : decode cX9_noRead 9 = .ok (.if_icmp .lt 7, 3) := by decide +kernel
theorem dX9_noRead_12 : decode cX9_noRead 12 = .ok (.iconst 1, 1) := by decide +kernel
theorem dX9_noRead_13 : decode cX9_noRead 13 = .ok (.goto 4, 3) := by decide +kernel
theorem dX9_noRead_16 : decode cX9_noRead 16 = .ok (.iconst 0, 1) := by decide +kernel
theorem dX9_noRead_17 : decode cX9_noRead 17 = .ok (.ireturn, 1) := by decide +kernel
theorem dX9_about_0 : decode cX9_about 0 = .ok (.aload_n 0, 1) := by decide +kernel
theorem dX9_about_1 : decode cX9_about 1 = .ok (.aload_n 0, 1) := by decide +kernel
theorem dX9_about_2 : decode cX9_about 2 = .ok (.iload_n 1, 1) := by decide +kernel
theorem dX9_about_3 : decode cX9_about 3 = .ok (.invokevirtual 190, 3) := by decide +kernel
theorem dX9_about_6 : decode cX9_about 6 = .ok (.ifCond .ne 13, 3) := by decide +kernel
theorem dX9_about_9 : decode cX9_about 9 = .ok (.iload_n 2, 1) := by decide +kernel
theorem dX9_about_10 : decode cX9_about 10 = .ok (.ifCond .lt 9, 3) := by decide +kernel
theorem dX9_about_13 : decode cX9_about 13 = .ok (.iload_n 2, 1) := by decide +kernel
theorem dX9_about_14 : decode cX9_about 14 = .ok (.bipush 6, 2) := by decide +kernel
theorem dX9_about_16 : decode cX9_about 16 = .ok (.if_icmp .le 7, 3) := by decide +kernel
theorem dX9_about_19 : decode cX9_about 19 = .ok (.iconst 1, 1) := by decide +kernel
theorem dX9_about_20 : decode cX9_about 20 = .ok (.goto 4, 3) := by decide +kernel
theorem dX9_about_23 : decode cX9_about 23 = .ok (.iconst 0, 1) := by decide +kernel
theorem dX9_about_24 : decode cX9_about 24 = .ok (.putfield 66, 3) := by decide +kernel
theorem dX9_about_27 : decode cX9_about 27 = .ok (.aload_n 0, 1) := by decide +kernel
theorem dX9_about_28 : decode cX9_about 28 = .ok (.getfield 66, 3) := by decide +kernel
theorem dX9_about_31 : decode cX9_about 31 = .ok (.ifCond .le 5, 3) := by decide +kernel
theorem dX9_about_34 : decode cX9_about 34 = .ok (.iconst 0, 1) := by decide +kernel
theorem dX9_about_35 : decode cX9_about 35 = .ok (.ireturn, 1) := by decide +kernel
theorem dX9_about_36 : decode cX9_about 36 = .ok (.iload_n 2, 1) := by decide +kernel
theorem dX9_about_37 : decode cX9_about 37 = .ok (.iconst 2, 1) := by decide +kernel
theorem dX9_about_38 : decode cX9_about 38 = .ok (.if_icmp .ge 23, 3) := by decide +kernel
theorem dX9_about_41 : decode cX9_about 41 = .ok (.iload_n 2, 1) := by decide +kernel
theorem dX9_about_42 : decode cX9_about 42 = .ok (.ifCond .ne 12, 3) := by decide +kernel
theorem dX9_about_45 : decode cX9_about 45 = .ok (.aload_n 0, 1) := by decide +kernel
theorem dX9_about_46 : decode cX9_about 46 = .ok (.getfield 17, 3) := by decide +kernel
theorem dX9_about_49 : decode cX9_about 49 = .ok (.iload_n 1, 1) := by decide +kernel
theorem dX9_about_50 : decode cX9_about 50 = .ok (.iaload, 1) := by decide +kernel
theorem dX9_about_51 : decode cX9_about 51 = .ok (.goto 9, 3) := by decide +kernel
theorem dX9_about_54 : decode cX9_about 54 = .ok (.aload_n 0, 1) := by decide +kernel
theorem dX9_about_55 : decode cX9_about 55 = .ok (.getfield 23, 3) := by decide +kernel
theorem dX9_about_58 : decode cX9_about 58 = .ok (.iload_n 1, 1) := by decide +kernel
theorem dX9_about_59 : decode cX9_about 59 = .ok (.iaload, 1) := by decide +kernel
theorem dX9_about_60 : decode cX9_about 60 = .ok (.ireturn, 1) := by decide +kernel
theorem dX9_about_61 : decode cX9_about 61 = .ok (.aload_n 0, 1) := by decide +kernel
theorem dX9_about_62 : decode cX9_about 62 = .ok (.getfield 114, 3) := by decide +kernel
theorem dX9_about_65 : decode cX9_about 65 = .ok (.ifCond .ne 5, 3) := by decide +kernel
theorem dX9_about_68 : decode cX9_about 68 = .ok (.iconst (-1), 1) := by decide +kernel
theorem dX9_about_69 : decode cX9_about 69 = .ok (.ireturn, 1) := by decide +kernel
theorem dX9_about_70 : decode cX9_about 70 = .ok (.iload_n 2, 1) := by decide +kernel
theorem dX9_about_71 : decode cX9_about 71 = .ok (.iconst 2, 1) := by decide +kernel
theorem dX9_about_72 : decode cX9_about 72 = .ok (.if_icmp .ne 12, 3) := by decide +kernel
theorem dX9_about_75 : decode cX9_about 75 = .ok (.aload_n 0, 1) := by decide +kernel
theorem dX9_about_76 : decode cX9_about 76 = .ok (.getfield 41, 3) := by decide +kernel
theorem dX9_about_79 : decode cX9_about 79 = .ok (.iload_n 1, 1) := by decide +kernel
theorem dX9_about_80 : decode cX9_about 80 = .ok (.iaload, 1) := by decide +kernel
theorem dX9_about_81 : decode cX9_about 81 = .ok (.goto 59, 3) := by decide +kernel
theorem dX9_about_84 : decode cX9_about 84 = .ok (.iload_n 2, 1) := by decide +kernel
theorem dX9_about_85 : decode cX9_about 85 = .ok (.iconst 3, 1) := by decide +kernel
theorem dX9_about_86 : decode cX9_about 86 = .ok (.if_icmp .ne 12, 3) := by decide +kernel
theorem dX9_about_89 : decode cX9_about 89 = .ok (.aload_n 0, 1) := by decide +kernel
theorem dX9_about_90 : decode cX9_about 90 = .ok (.getfield 44, 3) := by decide +kernel
theorem dX9_about_93 : decode cX9_about 93 = .ok (.iload_n 1, 1) := by decide +kernel
theorem dX9_about_94 : decode cX9_about 94 = .ok (.iaload, 1) := by decide +kernel
theorem dX9_about_95 : decode cX9_about 95 = .ok (.goto 45, 3) := by decide +kernel
theorem dX9_about_98 : decode cX9_about 98 = .ok (.iload_n 2, 1) := by decide +kernel
theorem dX9_about_99 : decode cX9_about 99 = .ok (.iconst 4, 1) := by decide +kernel
theorem dX9_about_100 : decode cX9_about 100 = .ok (.if_icmp .ne 12, 3) := by decide +kernel
theorem dX9_about_103 : decode cX9_about 103 = .ok (.aload_n 0, 1) := by decide +kernel
theorem dX9_about_104 : decode cX9_about 104 = .ok (.getfield 47, 3) := by decide +kernel
theorem dX9_about_107 : decode cX9_about 107 = .ok (.iload_n 1, 1) := by decide +kernel
theorem dX9_about_108 : decode cX9_about 108 = .ok (.iaload, 1) := by decide +kernel
theorem dX9_about_109 : decode cX9_about 109 = .ok (.goto 31, 3) := by decide +kernel
theorem dX9_about_112 : decode cX9_about 112 = .ok (.iload_n 2, 1) := by decide +kernel
theorem dX9_about_113 : decode cX9_about 113 = .ok (.iconst 5, 1) := by decide +kernel
theorem dX9_about_114 : decode cX9_about 114 = .ok (.if_icmp .ne 20, 3) := by decide +kernel
theorem dX9_about_117 : decode cX9_about 117 = .ok (.aload_n 0, 1) := by decide +kernel
theorem dX9_about_118 : decode cX9_about 118 = .ok (.getfield 50, 3) := by decide +kernel
theorem dX9_about_121 : decode cX9_about 121 = .ok (.iload_n 1, 1) := by decide +kernel
theorem dX9_about_122 : decode cX9_about 122 = .ok (.baload, 1) := by decide +kernel
theorem dX9_about_123 : decode cX9_about 123 = .ok (.ifCond .eq 7, 3) := by decide +kernel
theorem dX9_about_126 : decode cX9_about 126 = .ok (.iconst 1, 1) := by decide +kernel
theorem dX9_about_127 : decode cX9_about 127 = .ok (.goto 13, 3) := by decide +kernel
theorem dX9_about_130 : decode cX9_about 130 = .ok (.iconst 0, 1) := by decide +kernel
theorem dX9_about_131 : decode cX9_about 131 = .ok (.goto 9, 3) := by decide +kernel
theorem dX9_about_134 : decode cX9_about 134 = .ok (.aload_n 0, 1) := by decide +kernel
theorem dX9_about_135 : decode cX9_about 135 = .ok (.getfield 54, 3) := by decide +kernel
theorem dX9_about_138 : decode cX9_about 138 = .ok (.iload_n 1, 1) := by decide +kernel
theorem dX9_about_139 : decode cX9_about 139 = .ok (.iaload, 1) := by decide +kernel
theorem dX9_about_140 : decode cX9_about 140 = .ok (.ireturn, 1) := by decide +kernel
theorem dX9_letter_0 : decode cX9_letter 0 = .ok (.aload_n 0, 1) := by decide +kernel
theorem dX9_letter_1 : decode cX9_letter 1 = .ok (.aload_n 0, 1) := by decide +kernel
theorem dX9_letter_2 : decode cX9_letter 2 = .ok (.iload_n 1, 1) := by decide +kernel
theorem dX9_letter_3 : decode cX9_letter 3 = .ok (.invokevirtual 190, 3) := by decide +kernel
theorem dX9_letter_6 : decode cX9_letter 6 = .ok (.ifCond .ne 39, 3) := by decide +kernel
theorem dX9_letter_9 : decode cX9_letter 9 = .ok (.iload_n 2, 1) := by decide +kernel
theorem dX9_letter_10 : decode cX9_letter 10 = .ok (.ifCond .lt 35, 3) := by decide +kernel
theorem dX9_letter_13 : decode cX9_letter 13 = .ok (.iload_n 2, 1) := by decide +kernel
theorem dX9_letter_14 : decode cX9_letter 14 = .ok (.iconst 2, 1) := by decide +kernel
theorem dX9_letter_15 : decode cX9_letter 15 = .ok (.if_icmp .gt 30, 3) := by decide +kernel
theorem dX9_letter_18 : decode cX9_letter 18 = .ok (.iload_n 3, 1) := by decide +kernel
theorem dX9_letter_19 : decode cX9_letter 19 = .ok (.ifCond .lt 26, 3) := by decide +kernel
theorem dX9_letter_22 : decode cX9_letter 22 = .ok (.iload_n 3, 1) := by decide +kernel
theorem dX9_letter_23 : decode cX9_letter 23 = .ok (.iload_n 2, 1) := by decide +kernel
theorem dX9_letter_24 : decode cX9_letter 24 = .ok (.ifCond .ne 12, 3) := by decide +kernel
theorem dX9_letter_27 : decode cX9_letter 27 = .ok (.aload_n 0, 1) := by decide +kernel
theorem dX9_letter_28 : decode cX9_letter 28 = .ok (.getfield 17, 3) := by decide +kernel
theorem dX9_letter_31 : decode cX9_letter 31 = .ok (.iload_n 1, 1) := by decide +kernel
theorem dX9_letter_32 : decode cX9_letter 32 = .ok (.iaload, 1) := by decide +kernel
theorem dX9_letter_33 : decode cX9_letter 33 = .ok (.goto 9, 3) := by decide +kernel
theorem dX9_letter_36 : decode cX9_letter 36 = .ok (.aload_n 0, 1) := by decide +kernel
theorem dX9_letter_37 : decode cX9_letter 37 = .ok (.getfield 23, 3) := by decide +kernel
theorem dX9_letter_40 : decode cX9_letter 40 = .ok (.iload_n 1, 1) := by decide +kernel
theorem dX9_letter_41 : decode cX9_letter 41 = .ok (.iaload, 1) := by decide +kernel
theorem dX9_letter_42 : decode cX9_letter 42 = .ok (.if_icmp .lt 7, 3) := by decide +kernel
theorem dX9_letter_45 : decode cX9_letter 45 = .ok (.iconst 1, 1) := by decide +kernel
theorem dX9_letter_46 : decode cX9_letter 46 = .ok (.goto 4, 3) := by decide +kernel
theorem dX9_letter_49 : decode cX9_letter 49 = .ok (.iconst 0, 1) := by decide +kernel
theorem dX9_letter_50 : decode cX9_letter 50 = .ok (.putfield 66, 3) := by decide +kernel
theorem dX9_letter_53 : decode cX9_letter 53 = .ok (.aload_n 0, 1) := by decide +kernel
theorem dX9_letter_54 : decode cX9_letter 54 = .ok (.getfield 66, 3) := by decide +kernel
theorem dX9_letter_57 : decode cX9_letter 57 = .ok (.ifCond .le 5, 3) := by decide +kernel
theorem dX9_letter_60 : decode cX9_letter 60 = .ok (.iconst 0, 1) := by decide +kernel
theorem dX9_letter_61 : decode cX9_letter 61 = .ok (.ireturn, 1) := by decide +kernel
theorem dX9_letter_62 : decode cX9_letter 62 = .ok (.iload_n 2, 1) := by decide +kernel
theorem dX9_letter_63 : decode cX9_letter 63 = .ok (.ifCond .ne 17, 3) := by decide +kernel
theorem dX9_letter_66 : decode cX9_letter 66 = .ok (.aload_n 0, 1) := by decide +kernel
theorem dX9_letter_67 : decode cX9_letter 67 = .ok (.getfield 20, 3) := by decide +kernel
theorem dX9_letter_70 : decode cX9_letter 70 = .ok (.bipush 40, 2) := by decide +kernel
theorem dX9_letter_72 : decode cX9_letter 72 = .ok (.iload_n 1, 1) := by decide +kernel
theorem dX9_letter_73 : decode cX9_letter 73 = .ok (.imul, 1) := by decide +kernel
theorem dX9_letter_74 : decode cX9_letter 74 = .ok (.iload_n 3, 1) := by decide +kernel
theorem dX9_letter_75 : decode cX9_letter 75 = .ok (.iadd, 1) := by decide +kernel
theorem dX9_letter_76 : decode cX9_letter 76 = .ok (.iaload, 1) := by decide +kernel
theorem dX9_letter_77 : decode cX9_letter 77 = .ok (.goto 33, 3) := by decide +kernel
theorem dX9_letter_80 : decode cX9_letter 80 = .ok (.iload_n 2, 1) := by decide +kernel
theorem dX9_letter_81 : decode cX9_letter 81 = .ok (.iconst 1, 1) := by decide +kernel
theorem dX9_letter_82 : decode cX9_letter 82 = .ok (.if_icmp .ne 17, 3) := by decide +kernel
theorem dX9_letter_85 : decode cX9_letter 85 = .ok (.aload_n 0, 1) := by decide +kernel
theorem dX9_letter_86 : decode cX9_letter 86 = .ok (.getfield 26, 3) := by decide +kernel
theorem dX9_letter_89 : decode cX9_letter 89 = .ok (.bipush 120, 2) := by decide +kernel
theorem dX9_letter_91 : decode cX9_letter 91 = .ok (.iload_n 1, 1) := by decide +kernel
theorem dX9_letter_92 : decode cX9_letter 92 = .ok (.imul, 1) := by decide +kernel
theorem dX9_letter_93 : decode cX9_letter 93 = .ok (.iload_n 3, 1) := by decide +kernel
theorem dX9_letter_94 : decode cX9_letter 94 = .ok (.iadd, 1) := by decide +kernel
theorem dX9_letter_95 : decode cX9_letter 95 = .ok (.iaload, 1) := by decide +kernel
theorem dX9_letter_96 : decode cX9_letter 96 = .ok (.goto 14, 3) := by decide +kernel
theorem dX9_letter_99 : decode cX9_letter 99 = .ok (.aload_n 0, 1) := by decide +kernel
theorem dX9_letter_100 : decode cX9_letter 100 = .ok (.getfield 29, 3) := by decide +kernel
theorem dX9_letter_103 : decode cX9_letter 103 = .ok (.bipush 120, 2) := by decide +kernel
theorem dX9_letter_105 : decode cX9_letter 105 = .ok (.iload_n 1, 1) := by decide +kernel
theorem dX9_letter_106 : decode cX9_letter 106 = .ok (.imul, 1) := by decide +kernel
theorem dX9_letter_107 : decode cX9_letter 107 = .ok (.iload_n 3, 1) := by decide +kernel
theorem dX9_letter_108 : decode cX9_letter 108 = .ok (.iadd, 1) := by decide +kernel
theorem dX9_letter_109 : decode cX9_letter 109 = .ok (.iaload, 1) := by decide +kernel
theorem dX9_letter_110 : decode cX9_letter 110 = .ok (.ireturn, 1) := by decide +kernel
theorem dX9_noBin_0 : decode cX9_noBin 0 = .ok (.iload_n 1, 1) := by decide +kernel
theorem dX9_noBin_1 : decode cX9_noBin 1 = .ok (.iconst (-1), 1) := by decide +kernel
theorem dX9_noBin_2 : decode cX9_noBin 2 = .ok (.if_icmp .lt 25, 3) := by decide +kernel
theorem dX9_noBin_5 : decode cX9_noBin 5 = .ok (.iload_n 1, 1) := by decide +kernel
theorem dX9_noBin_6 : decode cX9_noBin 6 = .ok (.aload_n 0, 1) := by decide +kernel
theorem dX9_noBin_7 : decode cX9_noBin 7 = .ok (.getfield 114, 3) := by decide +kernel
theorem dX9_noBin_10 : decode cX9_noBin 10 = .ok (.ifCond .eq 10, 3) := by decide +kernel
theorem dX9_noBin_13 : decode cX9_noBin 13 = .ok (.aload_n 0, 1) := by decide +kernel
theorem dX9_noBin_14 : decode cX9_noBin 14 = .ok (.getfield 169, 3) := by decide +kernel
theorem dX9_noBin_17 : decode cX9_noBin 17 = .ok (.goto 7, 3) := by decide +kernel
theorem dX9_noBin_20 : decode cX9_noBin 20 = .ok (.aload_n 0, 1) := by decide +kernel
theorem dX9_noBin_21 : decode cX9_noBin 21 = .ok (.getfield 118, 3) := by decide +kernel
theorem dX9_noBin_24 : decode cX9_noBin 24 = .ok (.if_icmp .lt 7, 3) := by decide +kernel
theorem dX9_noBin_27 : decode cX9_noBin 27 = .ok (.iconst 1, 1) := by decide +kernel
theorem dX9_noBin_28 : decode cX9_noBin 28 = .ok (.goto 4, 3) := by decide +kernel
theorem dX9_noBin_31 : decode cX9_noBin 31 = .ok (.iconst 0, 1) := by decide +kernel
theorem dX9_noBin_32 : decode cX9_noBin 32 = .ok (.ireturn, 1) := by decide +kernel
theorem dX9_groupsOf_0 : decode cX9_groupsOf 0 = .ok (.iconst 0, 1) := by decide +kernel
theorem dX9_groupsOf_1 : decode cX9_groupsOf 1 = .ok (.istore_n 2, 1) := by decide +kernel
theorem dX9_groupsOf_2 : decode cX9_groupsOf 2 = .ok (.iconst 0, 1) := by decide +kernel
theorem dX9_groupsOf_3 : decode cX9_groupsOf 3 = .ok (.istore_n 3, 1) := by decide +kernel
theorem dX9_groupsOf_4 : decode cX9_groupsOf 4 = .ok (.iload_n 3, 1) := by decide +kernel
theorem dX9_groupsOf_5 : decode cX9_groupsOf 5 = .ok (.aload_n 0, 1) := by decide +kernel
theorem dX9_groupsOf_6 : decode cX9_groupsOf 6 = .ok (.getfield 63, 3) := by decide +kernel
theorem dX9_groupsOf_9 : decode cX9_groupsOf 9 = .ok (.if_icmp .ge 42, 3) := by decide +kernel
theorem dX9_groupsOf_12 : decode cX9_groupsOf 12 = .ok (.aload_n 0, 1) := by decide +kernel
theorem dX9_groupsOf_13 : decode cX9_groupsOf 13 = .ok (.getfield 41, 3) := by decide +kernel
theorem dX9_groupsOf_16 : decode cX9_groupsOf 16 = .ok (.iload_n 3, 1) := by decide +kernel
theorem dX9_groupsOf_17 : decode cX9_groupsOf 17 = .ok (.iaload, 1) := by decide +kernel
theorem dX9_groupsOf_18 : decode cX9_groupsOf 18 = .ok (.iload_n 1, 1) := by decide +kernel
theorem dX9_groupsOf_19 : decode cX9_groupsOf 19 = .ok (.if_icmp .ne 24, 3) := by decide +kernel
theorem dX9_groupsOf_22 : decode cX9_groupsOf 22 = .ok (.aload_n 0, 1) := by decide +kernel
theorem dX9_groupsOf_23 : decode cX9_groupsOf 23 = .ok (.getfield 54, 3) := by decide +kernel
theorem dX9_groupsOf_26 : decode cX9_groupsOf 26 = .ok (.iload_n 3, 1) := by decide +kernel
theorem dX9_groupsOf_27 : decode cX9_groupsOf 27 = .ok (.iaload, 1) := by decide +kernel
theorem dX9_groupsOf_28 : decode cX9_groupsOf 28 = .ok (.iload_n 2, 1) := by decide +kernel
theorem dX9_groupsOf_29 : decode cX9_groupsOf 29 = .ok (.if_icmp .lt 14, 3) := by decide +kernel
theorem dX9_groupsOf_32 : decode cX9_groupsOf 32 = .ok (.aload_n 0, 1) := by decide +kernel
theorem dX9_groupsOf_33 : decode cX9_groupsOf 33 = .ok (.getfield 54, 3) := by decide +kernel
theorem dX9_groupsOf_36 : decode cX9_groupsOf 36 = .ok (.iload_n 3, 1) := by decide +kernel
theorem dX9_groupsOf_37 : decode cX9_groupsOf 37 = .ok (.iaload, 1) := by decide +kernel
theorem dX9_groupsOf_38 : decode cX9_groupsOf 38 = .ok (.iconst 1, 1) := by decide +kernel
theorem dX9_groupsOf_39 : decode cX9_groupsOf 39 = .ok (.iadd, 1) := by decide +kernel
theorem dX9_groupsOf_40 : decode cX9_groupsOf 40 = .ok (.goto 4, 3) := by decide +kernel
theorem dX9_groupsOf_43 : decode cX9_groupsOf 43 = .ok (.iload_n 2, 1) := by decide +kernel
theorem dX9_groupsOf_44 : decode cX9_groupsOf 44 = .ok (.istore_n 2, 1) := by decide +kernel
theorem dX9_groupsOf_45 : decode cX9_groupsOf 45 = .ok (.iinc 3 1, 3) := by decide +kernel
theorem dX9_groupsOf_48 : decode cX9_groupsOf 48 = .ok (.goto (-44), 3) := by decide +kernel
theorem dX9_groupsOf_51 : decode cX9_groupsOf 51 = .ok (.iload_n 2, 1) := by decide +kernel
theorem dX9_groupsOf_52 : decode cX9_groupsOf 52 = .ok (.ireturn, 1) := by decide +kernel
theorem dX9_bin_0 : decode cX9_bin 0 = .ok (.aload_n 0, 1) := by decide +kernel
theorem dX9_bin_1 : decode cX9_bin 1 = .ok (.aload_n 0, 1) := by decide +kernel
theorem dX9_bin_2 : decode cX9_bin 2 = .ok (.iload_n 1, 1) := by decide +kernel
theorem dX9_bin_3 : decode cX9_bin 3 = .ok (.invokevirtual 193, 3) := by decide +kernel
theorem dX9_bin_6 : decode cX9_bin 6 = .ok (.ifCond .ne 12, 3) := by decide +kernel
theorem dX9_bin_9 : decode cX9_bin 9 = .ok (.iload_n 2, 1) := by decide +kernel
theorem dX9_bin_10 : decode cX9_bin 10 = .ok (.ifCond .lt 8, 3) := by decide +kernel
theorem dX9_bin_13 : decode cX9_bin 13 = .ok (.iload_n 2, 1) := by decide +kernel
theorem dX9_bin_14 : decode cX9_bin 14 = .ok (.iconst 2, 1) := by decide +kernel
theorem dX9_bin_15 : decode cX9_bin 15 = .ok (.if_icmp .le 7, 3) := by decide +kernel
theorem dX9_bin_18 : decode cX9_bin 18 = .ok (.iconst 1, 1) := by decide +kernel
theorem dX9_bin_19 : decode cX9_bin 19 = .ok (.goto 15, 3) := by decide +kernel
theorem dX9_bin_22 : decode cX9_bin 22 = .ok (.aload_n 0, 1) := by decide +kernel
theorem dX9_bin_23 : decode cX9_bin 23 = .ok (.getfield 114, 3) := by decide +kernel
theorem dX9_bin_26 : decode cX9_bin 26 = .ok (.ifCond .ne 7, 3) := by decide +kernel
theorem dX9_bin_29 : decode cX9_bin 29 = .ok (.iconst 2, 1) := by decide +kernel
theorem dX9_bin_30 : decode cX9_bin 30 = .ok (.goto 4, 3) := by decide +kernel
theorem dX9_bin_33 : decode cX9_bin 33 = .ok (.iconst 0, 1) := by decide +kernel
theorem dX9_bin_34 : decode cX9_bin 34 = .ok (.putfield 66, 3) := by decide +kernel
theorem dX9_bin_37 : decode cX9_bin 37 = .ok (.aload_n 0, 1) := by decide +kernel
theorem dX9_bin_38 : decode cX9_bin 38 = .ok (.getfield 66, 3) := by decide +kernel
theorem dX9_bin_41 : decode cX9_bin 41 = .ok (.ifCond .le 5, 3) := by decide +kernel
theorem dX9_bin_44 : decode cX9_bin 44 = .ok (.iconst 0, 1) := by decide +kernel
theorem dX9_bin_45 : decode cX9_bin 45 = .ok (.ireturn, 1) := by decide +kernel
theorem dX9_bin_46 : decode cX9_bin 46 = .ok (.iconst 0, 1) := by decide +kernel
theorem dX9_bin_47 : decode cX9_bin 47 = .ok (.istore_n 3, 1) := by decide +kernel
theorem dX9_bin_48 : decode cX9_bin 48 = .ok (.iconst 0, 1) := by decide +kernel
theorem dX9_bin_49 : decode cX9_bin 49 = .ok (.istore 4, 2) := by decide +kernel
theorem dX9_bin_51 : decode cX9_bin 51 = .ok (.iconst 0, 1) := by decide +kernel
theorem dX9_bin_52 : decode cX9_bin 52 = .ok (.istore 5, 2) := by decide +kernel
theorem dX9_bin_54 : decode cX9_bin 54 = .ok (.iload 5, 2) := by decide +kernel
theorem dX9_bin_56 : decode cX9_bin 56 = .ok (.aload_n 0, 1) := by decide +kernel
theorem dX9_bin_57 : decode cX9_bin 57 = .ok (.getfield 63, 3) := by decide +kernel
theorem dX9_bin_60 : decode cX9_bin 60 = .ok (.if_icmp .ge 59, 3) := by decide +kernel
theorem dX9_bin_63 : decode cX9_bin 63 = .ok (.iload_n 3, 1) := by decide +kernel
theorem dX9_bin_64 : decode cX9_bin 64 = .ok (.aload_n 0, 1) := by decide +kernel
theorem dX9_bin_65 : decode cX9_bin 65 = .ok (.getfield 41, 3) := by decide +kernel
theorem dX9_bin_68 : decode cX9_bin 68 = .ok (.iload 5, 2) := by decide +kernel
theorem dX9_bin_70 : decode cX9_bin 70 = .ok (.iaload, 1) := by decide +kernel
theorem dX9_bin_71 : decode cX9_bin 71 = .ok (.iload_n 1, 1) := by decide +kernel
theorem dX9_bin_72 : decode cX9_bin 72 = .ok (.if_icmp .ne 7, 3) := by decide +kernel
theorem dX9_bin_75 : decode cX9_bin 75 = .ok (.iconst 1, 1) := by decide +kernel
theorem dX9_bin_76 : decode cX9_bin 76 = .ok (.goto 4, 3) := by decide +kernel
theorem dX9_bin_79 : decode cX9_bin 79 = .ok (.iconst 0, 1) := by decide +kernel
theorem dX9_bin_80 : decode cX9_bin 80 = .ok (.iadd, 1) := by decide +kernel
theorem dX9_bin_81 : decode cX9_bin 81 = .ok (.istore_n 3, 1) := by decide +kernel
theorem dX9_bin_82 : decode cX9_bin 82 = .ok (.iload 4, 2) := by decide +kernel
theorem dX9_bin_84 : decode cX9_bin 84 = .ok (.aload_n 0, 1) := by decide +kernel
theorem dX9_bin_85 : decode cX9_bin 85 = .ok (.getfield 41, 3) := by decide +kernel
theorem dX9_bin_88 : decode cX9_bin 88 = .ok (.iload 5, 2) := by decide +kernel
theorem dX9_bin_90 : decode cX9_bin 90 = .ok (.iaload, 1) := by decide +kernel
theorem dX9_bin_91 : decode cX9_bin 91 = .ok (.iload_n 1, 1) := by decide +kernel
theorem dX9_bin_92 : decode cX9_bin 92 = .ok (.if_icmp .ne 17, 3) := by decide +kernel
theorem dX9_bin_95 : decode cX9_bin 95 = .ok (.aload_n 0, 1) := by decide +kernel
theorem dX9_bin_96 : decode cX9_bin 96 = .ok (.getfield 50, 3) := by decide +kernel
theorem dX9_bin_99 : decode cX9_bin 99 = .ok (.iload 5, 2) := by decide +kernel
theorem dX9_bin_101 : decode cX9_bin 101 = .ok (.baload, 1) := by decide +kernel
theorem dX9_bin_102 : decode cX9_bin 102 = .ok (.ifCond .eq 7, 3) := by decide +kernel
theorem dX9_bin_105 : decode cX9_bin 105 = .ok (.iconst 1, 1) := by decide +kernel
theorem dX9_bin_106 : decode cX9_bin 106 = .ok (.goto 4, 3) := by decide +kernel
theorem dX9_bin_109 : decode cX9_bin 109 = .ok (.iconst 0, 1) := by decide +kernel
theorem dX9_bin_110 : decode cX9_bin 110 = .ok (.iadd, 1) := by decide +kernel
theorem dX9_bin_111 : decode cX9_bin 111 = .ok (.istore 4, 2) := by decide +kernel
theorem dX9_bin_113 : decode cX9_bin 113 = .ok (.iinc 5 1, 3) := by decide +kernel
theorem dX9_bin_116 : decode cX9_bin 116 = .ok (.goto (-62), 3) := by decide +kernel
theorem dX9_bin_119 : decode cX9_bin 119 = .ok (.iload_n 2, 1) := by decide +kernel
theorem dX9_bin_120 : decode cX9_bin 120 = .ok (.ifCond .ne 7, 3) := by decide +kernel
theorem dX9_bin_123 : decode cX9_bin 123 = .ok (.iload_n 3, 1) := by decide +kernel
theorem dX9_bin_124 : decode cX9_bin 124 = .ok (.goto 18, 3) := by decide +kernel
theorem dX9_bin_127 : decode cX9_bin 127 = .ok (.iload_n 2, 1) := by decide +kernel
theorem dX9_bin_128 : decode cX9_bin 128 = .ok (.iconst 1, 1) := by decide +kernel
theorem dX9_bin_129 : decode cX9_bin 129 = .ok (.if_icmp .ne 8, 3) := by decide +kernel
theorem dX9_bin_132 : decode cX9_bin 132 = .ok (.iload 4, 2) := by decide +kernel
theorem dX9_bin_134 : decode cX9_bin 134 = .ok (.goto 8, 3) := by decide +kernel
theorem dX9_bin_137 : decode cX9_bin 137 = .ok (.aload_n 0, 1) := by decide +kernel
theorem dX9_bin_138 : decode cX9_bin 138 = .ok (.iload_n 1, 1) := by decide +kernel
theorem dX9_bin_139 : decode cX9_bin 139 = .ok (.invokevirtual 196, 3) := by decide +kernel
theorem dX9_bin_142 : decode cX9_bin 142 = .ok (.ireturn, 1) := by decide +kernel
theorem dX9_bestOf_0 : decode cX9_bestOf 0 = .ok (.iconst (-1), 1) := by decide +kernel
theorem dX9_bestOf_1 : decode cX9_bestOf 1 = .ok (.istore_n 3, 1) := by decide +kernel
theorem dX9_bestOf_2 : decode cX9_bestOf 2 = .ok (.iconst (-1), 1) := by decide +kernel
theorem dX9_bestOf_3 : decode cX9_bestOf 3 = .ok (.istore 4, 2) := by decide +kernel
theorem dX9_bestOf_5 : decode cX9_bestOf 5 = .ok (.iconst 0, 1) := by decide +kernel
theorem dX9_bestOf_6 : decode cX9_bestOf 6 = .ok (.istore 5, 2) := by decide +kernel
theorem dX9_bestOf_8 : decode cX9_bestOf 8 = .ok (.iload 5, 2) := by decide +kernel
theorem dX9_bestOf_10 : decode cX9_bestOf 10 = .ok (.aload_n 0, 1) := by decide +kernel
theorem dX9_bestOf_11 : decode cX9_bestOf 11 = .ok (.getfield 63, 3) := by decide +kernel
theorem dX9_bestOf_14 : decode cX9_bestOf 14 = .ok (.if_icmp .ge 109, 3) := by decide +kernel
theorem dX9_bestOf_17 : decode cX9_bestOf 17 = .ok (.aload_n 0, 1) := by decide +kernel
theorem dX9_bestOf_18 : decode cX9_bestOf 18 = .ok (.getfield 41, 3) := by decide +kernel
theorem dX9_bestOf_21 : decode cX9_bestOf 21 = .ok (.iload 5, 2) := by decide +kernel
theorem dX9_bestOf_23 : decode cX9_bestOf 23 = .ok (.iaload, 1) := by decide +kernel
theorem dX9_bestOf_24 : decode cX9_bestOf 24 = .ok (.iload_n 1, 1) := by decide +kernel
theorem dX9_bestOf_25 : decode cX9_bestOf 25 = .ok (.if_icmp .ne 92, 3) := by decide +kernel
theorem dX9_bestOf_28 : decode cX9_bestOf 28 = .ok (.aload_n 0, 1) := by decide +kernel
theorem dX9_bestOf_29 : decode cX9_bestOf 29 = .ok (.getfield 54, 3) := by decide +kernel
theorem dX9_bestOf_32 : decode cX9_bestOf 32 = .ok (.iload 5, 2) := by decide +kernel
theorem dX9_bestOf_34 : decode cX9_bestOf 34 = .ok (.iaload, 1) := by decide +kernel
theorem dX9_bestOf_35 : decode cX9_bestOf 35 = .ok (.iload_n 2, 1) := by decide +kernel
theorem dX9_bestOf_36 : decode cX9_bestOf 36 = .ok (.if_icmp .ne 81, 3) := by decide +kernel
theorem dX9_bestOf_39 : decode cX9_bestOf 39 = .ok (.iconst 0, 1) := by decide +kernel
theorem dX9_bestOf_40 : decode cX9_bestOf 40 = .ok (.istore 6, 2) := by decide +kernel
theorem dX9_bestOf_42 : decode cX9_bestOf 42 = .ok (.aload_n 0, 1) := by decide +kernel
theorem dX9_bestOf_43 : decode cX9_bestOf 43 = .ok (.getfield 44, 3) := by decide +kernel
theorem dX9_bestOf_46 : decode cX9_bestOf 46 = .ok (.iload 5, 2) := by decide +kernel
theorem dX9_bestOf_48 : decode cX9_bestOf 48 = .ok (.iaload, 1) := by decide +kernel
theorem dX9_bestOf_49 : decode cX9_bestOf 49 = .ok (.istore 7, 2) := by decide +kernel
theorem dX9_bestOf_51 : decode cX9_bestOf 51 = .ok (.iload 7, 2) := by decide +kernel
theorem dX9_bestOf_53 : decode cX9_bestOf 53 = .ok (.aload_n 0, 1) := by decide +kernel
theorem dX9_bestOf_54 : decode cX9_bestOf 54 = .ok (.getfield 47, 3) := by decide +kernel
theorem dX9_bestOf_57 : decode cX9_bestOf 57 = .ok (.iload 5, 2) := by decide +kernel
theorem dX9_bestOf_59 : decode cX9_bestOf 59 = .ok (.iaload, 1) := by decide +kernel
theorem dX9_bestOf_60 : decode cX9_bestOf 60 = .ok (.if_icmp .ge 27, 3) := by decide +kernel
theorem dX9_bestOf_63 : decode cX9_bestOf 63 = .ok (.iload 6, 2) := by decide +kernel
theorem dX9_bestOf_65 : decode cX9_bestOf 65 = .ok (.aload_n 0, 1) := by decide +kernel
theorem dX9_bestOf_66 : decode cX9_bestOf 66 = .ok (.getfield 29, 3) := by decide +kernel
theorem dX9_bestOf_69 : decode cX9_bestOf 69 = .ok (.bipush 120, 2) := by decide +kernel
theorem dX9_bestOf_71 : decode cX9_bestOf 71 = .ok (.iload 5, 2) := by decide +kernel
theorem dX9_bestOf_73 : decode cX9_bestOf 73 = .ok (.imul, 1) := by decide +kernel
theorem dX9_bestOf_74 : decode cX9_bestOf 74 = .ok (.iload 7, 2) := by decide +kernel
theorem dX9_bestOf_76 : decode cX9_bestOf 76 = .ok (.iadd, 1) := by decide +kernel
theorem dX9_bestOf_77 : decode cX9_bestOf 77 = .ok (.iaload, 1) := by decide +kernel
theorem dX9_bestOf_78 : decode cX9_bestOf 78 = .ok (.iadd, 1) := by decide +kernel
theorem dX9_bestOf_79 : decode cX9_bestOf 79 = .ok (.istore 6, 2) := by decide +kernel
theorem dX9_bestOf_81 : decode cX9_bestOf 81 = .ok (.iinc 7 1, 3) := by decide +kernel
theorem dX9_bestOf_84 : decode cX9_bestOf 84 = .ok (.goto (-33), 3) := by decide +kernel
theorem dX9_bestOf_87 : decode cX9_bestOf 87 = .ok (.iload 6, 2) := by decide +kernel
theorem dX9_bestOf_89 : decode cX9_bestOf 89 = .ok (.iload 4, 2) := by decide +kernel
theorem dX9_bestOf_91 : decode cX9_bestOf 91 = .ok (.if_icmp .le 8, 3) := by decide +kernel
theorem dX9_bestOf_94 : decode cX9_bestOf 94 = .ok (.iload 5, 2) := by decide +kernel
theorem dX9_bestOf_96 : decode cX9_bestOf 96 = .ok (.goto 4, 3) := by decide +kernel
theorem dX9_bestOf_99 : decode cX9_bestOf 99 = .ok (.iload_n 3, 1) := by decide +kernel
theorem dX9_bestOf_100 : decode cX9_bestOf 100 = .ok (.istore_n 3, 1) := by decide +kernel
theorem dX9_bestOf_101 : decode cX9_bestOf 101 = .ok (.iload 6, 2) := by decide +kernel
theorem dX9_bestOf_103 : decode cX9_bestOf 103 = .ok (.iload 4, 2) := by decide +kernel
theorem dX9_bestOf_105 : decode cX9_bestOf 105 = .ok (.if_icmp .le 8, 3) := by decide +kernel
theorem dX9_bestOf_108 : decode cX9_bestOf 108 = .ok (.iload 6, 2) := by decide +kernel
theorem dX9_bestOf_110 : decode cX9_bestOf 110 = .ok (.goto 5, 3) := by decide +kernel
theorem dX9_bestOf_113 : decode cX9_bestOf 113 = .ok (.iload 4, 2) := by decide +kernel
theorem dX9_bestOf_115 : decode cX9_bestOf 115 = .ok (.istore 4, 2) := by decide +kernel
theorem dX9_bestOf_117 : decode cX9_bestOf 117 = .ok (.iinc 5 1, 3) := by decide +kernel
theorem dX9_bestOf_120 : decode cX9_bestOf 120 = .ok (.goto (-112), 3) := by decide +kernel
theorem dX9_bestOf_123 : decode cX9_bestOf 123 = .ok (.iload_n 3, 1) := by decide +kernel
theorem dX9_bestOf_124 : decode cX9_bestOf 124 = .ok (.ireturn, 1) := by decide +kernel
theorem dX9_group_0 : decode cX9_group 0 = .ok (.aload_n 0, 1) := by decide +kernel
theorem dX9_group_1 : decode cX9_group 1 = .ok (.aload_n 0, 1) := by decide +kernel
theorem dX9_group_2 : decode cX9_group 2 = .ok (.iload_n 1, 1) := by decide +kernel
theorem dX9_group_3 : decode cX9_group 3 = .ok (.invokevirtual 193, 3) := by decide +kernel
theorem dX9_group_6 : decode cX9_group 6 = .ok (.ifCond .ne 12, 3) := by decide +kernel
theorem dX9_group_9 : decode cX9_group 9 = .ok (.iload_n 3, 1) := by decide +kernel
theorem dX9_group_10 : decode cX9_group 10 = .ok (.ifCond .lt 8, 3) := by decide +kernel
theorem dX9_group_13 : decode cX9_group 13 = .ok (.iload_n 3, 1) := by decide +kernel
theorem dX9_group_14 : decode cX9_group 14 = .ok (.iconst 2, 1) := by decide +kernel
theorem dX9_group_15 : decode cX9_group 15 = .ok (.if_icmp .le 7, 3) := by decide +kernel
theorem dX9_group_18 : decode cX9_group 18 = .ok (.iconst 1, 1) := by decide +kernel
theorem dX9_group_19 : decode cX9_group 19 = .ok (.goto 32, 3) := by decide +kernel
theorem dX9_group_22 : decode cX9_group 22 = .ok (.aload_n 0, 1) := by decide +kernel
theorem dX9_group_23 : decode cX9_group 23 = .ok (.getfield 114, 3) := by decide +kernel
theorem dX9_group_26 : decode cX9_group 26 = .ok (.ifCond .ne 7, 3) := by decide +kernel
theorem dX9_group_29 : decode cX9_group 29 = .ok (.iconst 2, 1) := by decide +kernel
theorem dX9_group_30 : decode cX9_group 30 = .ok (.goto 21, 3) := by decide +kernel
theorem dX9_group_33 : decode cX9_group 33 = .ok (.iload_n 2, 1) := by decide +kernel
theorem dX9_group_34 : decode cX9_group 34 = .ok (.ifCond .lt 12, 3) := by decide +kernel
theorem dX9_group_37 : decode cX9_group 37 = .ok (.iload_n 2, 1) := by decide +kernel
theorem dX9_group_38 : decode cX9_group 38 = .ok (.aload_n 0, 1) := by decide +kernel
theorem dX9_group_39 : decode cX9_group 39 = .ok (.iload_n 1, 1) := by decide +kernel
theorem dX9_group_40 : decode cX9_group 40 = .ok (.invokevirtual 196, 3) := by decide +kernel
theorem dX9_group_43 : decode cX9_group 43 = .ok (.if_icmp .lt 7, 3) := by decide +kernel
theorem dX9_group_46 : decode cX9_group 46 = .ok (.iconst 1, 1) := by decide +kernel
theorem dX9_group_47 : decode cX9_group 47 = .ok (.goto 4, 3) := by decide +kernel
theorem dX9_group_50 : decode cX9_group 50 = .ok (.iconst 0, 1) := by decide +kernel
theorem dX9_group_51 : decode cX9_group 51 = .ok (.putfield 66, 3) := by decide +kernel
theorem dX9_group_54 : decode cX9_group 54 = .ok (.aload_n 0, 1) := by decide +kernel
theorem dX9_group_55 : decode cX9_group 55 = .ok (.getfield 66, 3) := by decide +kernel
theorem dX9_group_58 : decode cX9_group 58 = .ok (.ifCond .le 5, 3) := by decide +kernel
theorem dX9_group_61 : decode cX9_group 61 = .ok (.iconst 0, 1) := by decide +kernel
theorem dX9_group_62 : decode cX9_group 62 = .ok (.ireturn, 1) := by decide +kernel
theorem dX9_group_63 : decode cX9_group 63 = .ok (.iload_n 3, 1) := by decide +kernel
theorem dX9_group_64 : decode cX9_group 64 = .ok (.iconst 1, 1) := by decide +kernel
theorem dX9_group_65 : decode cX9_group 65 = .ok (.if_icmp .ne 10, 3) := by decide +kernel
theorem dX9_group_68 : decode cX9_group 68 = .ok (.aload_n 0, 1) := by decide +kernel
theorem dX9_group_69 : decode cX9_group 69 = .ok (.iload_n 1, 1) := by decide +kernel
theorem dX9_group_70 : decode cX9_group 70 = .ok (.iload_n 2, 1) := by decide +kernel
theorem dX9_group_71 : decode cX9_group 71 = .ok (.invokevirtual 199, 3) := by decide +kernel
theorem dX9_group_74 : decode cX9_group 74 = .ok (.ireturn, 1) := by decide +kernel
theorem dX9_group_75 : decode cX9_group 75 = .ok (.iconst 0, 1) := by decide +kernel
theorem dX9_group_76 : decode cX9_group 76 = .ok (.istore 4, 2) := by decide +kernel
theorem dX9_group_78 : decode cX9_group 78 = .ok (.iconst 0, 1) := by decide +kernel
theorem dX9_group_79 : decode cX9_group 79 = .ok (.istore 5, 2) := by decide +kernel
theorem dX9_group_81 : decode cX9_group 81 = .ok (.iload 5, 2) := by decide +kernel
theorem dX9_group_83 : decode cX9_group 83 = .ok (.aload_n 0, 1) := by decide +kernel
theorem dX9_group_84 : decode cX9_group 84 = .ok (.getfield 63, 3) := by decide +kernel
theorem dX9_group_87 : decode cX9_group 87 = .ok (.if_icmp .ge 117, 3) := by decide +kernel
theorem dX9_group_90 : decode cX9_group 90 = .ok (.aload_n 0, 1) := by decide +kernel
theorem dX9_group_91 : decode cX9_group 91 = .ok (.getfield 41, 3) := by decide +kernel
theorem dX9_group_94 : decode cX9_group 94 = .ok (.iload 5, 2) := by decide +kernel
theorem dX9_group_96 : decode cX9_group 96 = .ok (.iaload, 1) := by decide +kernel
theorem dX9_group_97 : decode cX9_group 97 = .ok (.iload_n 1, 1) := by decide +kernel
theorem dX9_group_98 : decode cX9_group 98 = .ok (.if_icmp .ne 18, 3) := by decide +kernel
theorem dX9_group_101 : decode cX9_group 101 = .ok (.aload_n 0, 1) := by decide +kernel
theorem dX9_group_102 : decode cX9_group 102 = .ok (.getfield 54, 3) := by decide +kernel
theorem dX9_group_105 : decode cX9_group 105 = .ok (.iload 5, 2) := by decide +kernel
theorem dX9_group_107 : decode cX9_group 107 = .ok (.iaload, 1) := by decide +kernel
theorem dX9_group_108 : decode cX9_group 108 = .ok (.iload_n 2, 1) := by decide +kernel
theorem dX9_group_109 : decode cX9_group 109 = .ok (.if_icmp .ne 7, 3) := by decide +kernel
theorem dX9_group_112 : decode cX9_group 112 = .ok (.iconst 1, 1) := by decide +kernel
theorem dX9_group_113 : decode cX9_group 113 = .ok (.goto 4, 3) := by decide +kernel
theorem dX9_group_116 : decode cX9_group 116 = .ok (.iconst 0, 1) := by decide +kernel
theorem dX9_group_117 : decode cX9_group 117 = .ok (.istore 6, 2) := by decide +kernel
theorem dX9_group_119 : decode cX9_group 119 = .ok (.iconst 0, 1) := by decide +kernel
theorem dX9_group_120 : decode cX9_group 120 = .ok (.istore 7, 2) := by decide +kernel
theorem dX9_group_122 : decode cX9_group 122 = .ok (.iload 7, 2) := by decide +kernel
theorem dX9_group_124 : decode cX9_group 124 = .ok (.iload 5, 2) := by decide +kernel
theorem dX9_group_126 : decode cX9_group 126 = .ok (.if_icmp .ge 57, 3) := by decide +kernel
theorem dX9_group_129 : decode cX9_group 129 = .ok (.iload_n 3, 1) := by decide +kernel
theorem dX9_group_130 : decode cX9_group 130 = .ok (.iconst 2, 1) := by decide +kernel
theorem dX9_group_131 : decode cX9_group 131 = .ok (.if_icmp .ne 52, 3) := by decide +kernel
theorem dX9_group_134 : decode cX9_group 134 = .ok (.iload 6, 2) := by decide +kernel
theorem dX9_group_136 : decode cX9_group 136 = .ok (.aload_n 0, 1) := by decide +kernel
theorem dX9_group_137 : decode cX9_group 137 = .ok (.getfield 41, 3) := by decide +kernel
theorem dX9_group_140 : decode cX9_group 140 = .ok (.iload 7, 2) := by decide +kernel
theorem dX9_group_142 : decode cX9_group 142 = .ok (.iaload, 1) := by decide +kernel
theorem dX9_group_143 : decode cX9_group 143 = .ok (.iload_n 1, 1) := by decide +kernel
theorem dX9_group_144 : decode cX9_group 144 = .ok (.if_icmp .ne 25, 3) := by decide +kernel
theorem dX9_group_147 : decode cX9_group 147 = .ok (.aload_n 0, 1) := by decide +kernel
theorem dX9_group_148 : decode cX9_group 148 = .ok (.getfield 54, 3) := by decide +kernel
theorem dX9_group_151 : decode cX9_group 151 = .ok (.iload 7, 2) := by decide +kernel
theorem dX9_group_153 : decode cX9_group 153 = .ok (.iaload, 1) := by decide +kernel
theorem dX9_group_154 : decode cX9_group 154 = .ok (.iload_n 2, 1) := by decide +kernel
theorem dX9_group_155 : decode cX9_group 155 = .ok (.if_icmp .ne 14, 3) := by decide +kernel
theorem dX9_group_158 : decode cX9_group 158 = .ok (.aload_n 0, 1) := by decide +kernel
theorem dX9_group_159 : decode cX9_group 159 = .ok (.iload 5, 2) := by decide +kernel
theorem dX9_group_161 : decode cX9_group 161 = .ok (.iload 7, 2) := by decide +kernel
theorem dX9_group_163 : decode cX9_group 163 = .ok (.invokevirtual 156, 3) := by decide +kernel
theorem dX9_group_166 : decode cX9_group 166 = .ok (.ifCond .eq 7, 3) := by decide +kernel
theorem dX9_group_169 : decode cX9_group 169 = .ok (.iconst 1, 1) := by decide +kernel
theorem dX9_group_170 : decode cX9_group 170 = .ok (.goto 4, 3) := by decide +kernel
theorem dX9_group_173 : decode cX9_group 173 = .ok (.iconst 0, 1) := by decide +kernel
theorem dX9_group_174 : decode cX9_group 174 = .ok (.iand, 1) := by decide +kernel
theorem dX9_group_175 : decode cX9_group 175 = .ok (.istore 6, 2) := by decide +kernel
theorem dX9_group_177 : decode cX9_group 177 = .ok (.iinc 7 1, 3) := by decide +kernel
theorem dX9_group_180 : decode cX9_group 180 = .ok (.goto (-58), 3) := by decide +kernel
theorem dX9_group_183 : decode cX9_group 183 = .ok (.iload 4, 2) := by decide +kernel
theorem dX9_group_185 : decode cX9_group 185 = .ok (.iload 6, 2) := by decide +kernel
theorem dX9_group_187 : decode cX9_group 187 = .ok (.ifCond .eq 7, 3) := by decide +kernel
theorem dX9_group_190 : decode cX9_group 190 = .ok (.iconst 1, 1) := by decide +kernel
theorem dX9_group_191 : decode cX9_group 191 = .ok (.goto 4, 3) := by decide +kernel
theorem dX9_group_194 : decode cX9_group 194 = .ok (.iconst 0, 1) := by decide +kernel
theorem dX9_group_195 : decode cX9_group 195 = .ok (.iadd, 1) := by decide +kernel
theorem dX9_group_196 : decode cX9_group 196 = .ok (.istore 4, 2) := by decide +kernel
theorem dX9_group_198 : decode cX9_group 198 = .ok (.iinc 5 1, 3) := by decide +kernel
theorem dX9_group_201 : decode cX9_group 201 = .ok (.goto (-120), 3) := by decide +kernel
theorem dX9_group_204 : decode cX9_group 204 = .ok (.iload 4, 2) := by decide +kernel
theorem dX9_group_206 : decode cX9_group 206 = .ok (.ireturn, 1) := by decide +kernel
theorem dX9_put_0 : decode cX9_put 0 = .ok (.aload_n 0, 1) := by decide +kernel
theorem dX9_put_1 : decode cX9_put 1 = .ok (.getfield 202, 3) := by decide +kernel
theorem dX9_put_4 : decode cX9_put 4 = .ok (.sipush 12000, 3) := by decide +kernel
theorem dX9_put_7 : decode cX9_put 7 = .ok (.if_icmp .ge 13, 3) := by decide +kernel
theorem dX9_put_10 : decode cX9_put 10 = .ok (.aload_n 0, 1) := by decide +kernel
theorem dX9_put_11 : decode cX9_put 11 = .ok (.getfield 60, 3) := by decide +kernel
theorem dX9_put_14 : decode cX9_put 14 = .ok (.aload_n 0, 1) := by decide +kernel
theorem dX9_put_15 : decode cX9_put 15 = .ok (.getfield 202, 3) := by decide +kernel
theorem dX9_put_18 : decode cX9_put 18 = .ok (.iload_n 1, 1) := by decide +kernel
theorem dX9_put_19 : decode cX9_put 19 = .ok (.iastore, 1) := by decide +kernel
theorem dX9_put_20 : decode cX9_put 20 = .ok (.aload_n 0, 1) := by decide +kernel
theorem dX9_put_21 : decode cX9_put 21 = .ok (.dup, 1) := by decide +kernel
theorem dX9_put_22 : decode cX9_put 22 = .ok (.getfield 202, 3) := by decide +kernel
theorem dX9_put_25 : decode cX9_put 25 = .ok (.iconst 1, 1) := by decide +kernel
theorem dX9_put_26 : decode cX9_put 26 = .ok (.iadd, 1) := by decide +kernel
theorem dX9_put_27 : decode cX9_put 27 = .ok (.putfield 202, 3) := by decide +kernel
theorem dX9_put_30 : decode cX9_put 30 = .ok (.return_, 1) := by decide +kernel
theorem dX9_putRead_0 : decode cX9_putRead 0 = .ok (.aload_n 0, 1) := by decide +kernel
theorem dX9_putRead_1 : decode cX9_putRead 1 = .ok (.iload_n 1, 1) := by decide +kernel
theorem dX9_putRead_2 : decode cX9_putRead 2 = .ok (.ifCond .ne 8, 3) := by decide +kernel
theorem dX9_putRead_5 : decode cX9_putRead 5 = .ok (.bipush 64, 2) := by decide +kernel
theorem dX9_putRead_7 : decode cX9_putRead 7 = .ok (.goto 5, 3) := by decide +kernel
theorem dX9_putRead_10 : decode cX9_putRead 10 = .ok (.bipush 62, 2) := by decide +kernel
theorem dX9_putRead_12 : decode cX9_putRead 12 = .ok (.invokevirtual 205, 3) := by decide +kernel
theorem dX9_putRead_15 : decode cX9_putRead 15 = .ok (.iconst 0, 1) := by decide +kernel
theorem dX9_putRead_16 : decode cX9_putRead 16 = .ok (.istore 5, 2) := by decide +kernel
theorem dX9_putRead_18 : decode cX9_putRead 18 = .ok (.iload 5, 2) := by decide +kernel
theorem dX9_putRead_20 : decode cX9_putRead 20 = .ok (.aload_n 0, 1) := by decide +kernel
theorem dX9_putRead_21 : decode cX9_putRead 21 = .ok (.getfield 17, 3) := by decide +kernel
theorem dX9_putRead_24 : decode cX9_putRead 24 = .ok (.iload_n 2, 1) := by decide +kernel
theorem dX9_putRead_25 : decode cX9_putRead 25 = .ok (.iaload, 1) := by decide +kernel
theorem dX9_putRead_26 : decode cX9_putRead 26 = .ok (.if_icmp .ge 25, 3) := by decide +kernel
theorem dX9_putRead_29 : decode cX9_putRead 29 = .ok (.aload_n 0, 1) := by decide +kernel
theorem dX9_putRead_30 : decode cX9_putRead 30 = .ok (.aload_n 0, 1) := by decide +kernel
theorem dX9_putRead_31 : decode cX9_putRead 31 = .ok (.getfield 20, 3) := by decide +kernel
theorem dX9_putRead_34 : decode cX9_putRead 34 = .ok (.bipush 40, 2) := by decide +kernel
theorem dX9_putRead_36 : decode cX9_putRead 36 = .ok (.iload_n 2, 1) := by decide +kernel
theorem dX9_putRead_37 : decode cX9_putRead 37 = .ok (.imul, 1) := by decide +kernel
theorem dX9_putRead_38 : decode cX9_putRead 38 = .ok (.iload 5, 2) := by decide +kernel
theorem dX9_putRead_40 : decode cX9_putRead 40 = .ok (.iadd, 1) := by decide +kernel
theorem dX9_putRead_41 : decode cX9_putRead 41 = .ok (.iaload, 1) := by decide +kernel
theorem dX9_putRead_42 : decode cX9_putRead 42 = .ok (.invokevirtual 205, 3) := by decide +kernel
theorem dX9_putRead_45 : decode cX9_putRead 45 = .ok (.iinc 5 1, 3) := by decide +kernel
theorem dX9_putRead_48 : decode cX9_putRead 48 = .ok (.goto (-30), 3) := by decide +kernel
theorem dX9_putRead_51 : decode cX9_putRead 51 = .ok (.aload_n 0, 1) := by decide +kernel
theorem dX9_putRead_52 : decode cX9_putRead 52 = .ok (.bipush 10, 2) := by decide +kernel
theorem dX9_putRead_54 : decode cX9_putRead 54 = .ok (.invokevirtual 205, 3) := by decide +kernel
theorem dX9_putRead_57 : decode cX9_putRead 57 = .ok (.iload_n 3, 1) := by decide +kernel
theorem dX9_putRead_58 : decode cX9_putRead 58 = .ok (.istore 5, 2) := by decide +kernel
theorem dX9_putRead_60 : decode cX9_putRead 60 = .ok (.iload 5, 2) := by decide +kernel
theorem dX9_putRead_62 : decode cX9_putRead 62 = .ok (.iload 4, 2) := by decide +kernel
theorem dX9_putRead_64 : decode cX9_putRead 64 = .ok (.if_icmp .ge 57, 3) := by decide +kernel
theorem dX9_putRead_67 : decode cX9_putRead 67 = .ok (.aload_n 0, 1) := by decide +kernel
theorem dX9_putRead_68 : decode cX9_putRead 68 = .ok (.aload_n 0, 1) := by decide +kernel
theorem dX9_putRead_69 : decode cX9_putRead 69 = .ok (.getfield 26, 3) := by decide +kernel
theorem dX9_putRead_72 : decode cX9_putRead 72 = .ok (.bipush 120, 2) := by decide +kernel
theorem dX9_putRead_74 : decode cX9_putRead 74 = .ok (.iload_n 2, 1) := by decide +kernel
theorem dX9_putRead_75 : decode cX9_putRead 75 = .ok (.imul, 1) := by decide +kernel
theorem dX9_putRead_76 : decode cX9_putRead 76 = .ok (.iload 5, 2) := by decide +kernel
theorem dX9_putRead_78 : decode cX9_putRead 78 = .ok (.iadd, 1) := by decide +kernel
theorem dX9_putRead_79 : decode cX9_putRead 79 = .ok (.iaload, 1) := by decide +kernel
theorem dX9_putRead_80 : decode cX9_putRead 80 = .ok (.invokevirtual 205, 3) := by decide +kernel
theorem dX9_putRead_83 : decode cX9_putRead 83 = .ok (.iload_n 1, 1) := by decide +kernel
theorem dX9_putRead_84 : decode cX9_putRead 84 = .ok (.iconst 1, 1) := by decide +kernel
theorem dX9_putRead_85 : decode cX9_putRead 85 = .ok (.if_icmp .ne 30, 3) := by decide +kernel
theorem dX9_putRead_88 : decode cX9_putRead 88 = .ok (.iload 5, 2) := by decide +kernel
theorem dX9_putRead_90 : decode cX9_putRead 90 = .ok (.iload_n 3, 1) := by decide +kernel
theorem dX9_putRead_91 : decode cX9_putRead 91 = .ok (.isub, 1) := by decide +kernel
theorem dX9_putRead_92 : decode cX9_putRead 92 = .ok (.bipush 60, 2) := by decide +kernel
theorem dX9_putRead_94 : decode cX9_putRead 94 = .ok (.irem, 1) := by decide +kernel
theorem dX9_putRead_95 : decode cX9_putRead 95 = .ok (.bipush 59, 2) := by decide +kernel
theorem dX9_putRead_97 : decode cX9_putRead 97 = .ok (.if_icmp .ne 18, 3) := by decide +kernel
theorem dX9_putRead_100 : decode cX9_putRead 100 = .ok (.iload 5, 2) := by decide +kernel
theorem dX9_putRead_102 : decode cX9_putRead 102 = .ok (.iconst 1, 1) := by decide +kernel
theorem dX9_putRead_103 : decode cX9_putRead 103 = .ok (.iadd, 1) := by decide +kernel
theorem dX9_putRead_104 : decode cX9_putRead 104 = .ok (.iload 4, 2) := by decide +kernel
theorem dX9_putRead_106 : decode cX9_putRead 106 = .ok (.if_icmp .ge 9, 3) := by decide +kernel
theorem dX9_putRead_109 : decode cX9_putRead 109 = .ok (.aload_n 0, 1) := by decide +kernel
theorem dX9_putRead_110 : decode cX9_putRead 110 = .ok (.bipush 10, 2) := by decide +kernel
theorem dX9_putRead_112 : decode cX9_putRead 112 = .ok (.invokevirtual 205, 3) := by decide +kernel
theorem dX9_putRead_115 : decode cX9_putRead 115 = .ok (.iinc 5 1, 3) := by decide +kernel
theorem dX9_putRead_118 : decode cX9_putRead 118 = .ok (.goto (-58), 3) := by decide +kernel
theorem dX9_putRead_121 : decode cX9_putRead 121 = .ok (.aload_n 0, 1) := by decide +kernel
theorem dX9_putRead_122 : decode cX9_putRead 122 = .ok (.bipush 10, 2) := by decide +kernel
theorem dX9_putRead_124 : decode cX9_putRead 124 = .ok (.invokevirtual 205, 3) := by decide +kernel
theorem dX9_putRead_127 : decode cX9_putRead 127 = .ok (.iload_n 1, 1) := by decide +kernel
theorem dX9_putRead_128 : decode cX9_putRead 128 = .ok (.ifCond .ne 56, 3) := by decide +kernel
theorem dX9_putRead_131 : decode cX9_putRead 131 = .ok (.aload_n 0, 1) := by decide +kernel
theorem dX9_putRead_132 : decode cX9_putRead 132 = .ok (.bipush 43, 2) := by decide +kernel
theorem dX9_putRead_134 : decode cX9_putRead 134 = .ok (.invokevirtual 205, 3) := by decide +kernel
theorem dX9_putRead_137 : decode cX9_putRead 137 = .ok (.aload_n 0, 1) := by decide +kernel
theorem dX9_putRead_138 : decode cX9_putRead 138 = .ok (.bipush 10, 2) := by decide +kernel
theorem dX9_putRead_140 : decode cX9_putRead 140 = .ok (.invokevirtual 205, 3) := by decide +kernel
theorem dX9_putRead_143 : decode cX9_putRead 143 = .ok (.iload_n 3, 1) := by decide +kernel
theorem dX9_putRead_144 : decode cX9_putRead 144 = .ok (.istore 5, 2) := by decide +kernel
theorem dX9_putRead_146 : decode cX9_putRead 146 = .ok (.iload 5, 2) := by decide +kernel
theorem dX9_putRead_148 : decode cX9_putRead 148 = .ok (.iload 4, 2) := by decide +kernel
theorem dX9_putRead_150 : decode cX9_putRead 150 = .ok (.if_icmp .ge 28, 3) := by decide +kernel
theorem dX9_putRead_153 : decode cX9_putRead 153 = .ok (.aload_n 0, 1) := by decide +kernel
theorem dX9_putRead_154 : decode cX9_putRead 154 = .ok (.bipush 33, 2) := by decide +kernel
theorem dX9_putRead_156 : decode cX9_putRead 156 = .ok (.aload_n 0, 1) := by decide +kernel
theorem dX9_putRead_157 : decode cX9_putRead 157 = .ok (.getfield 29, 3) := by decide +kernel
theorem dX9_putRead_160 : decode cX9_putRead 160 = .ok (.bipush 120, 2) := by decide +kernel
theorem dX9_putRead_162 : decode cX9_putRead 162 = .ok (.iload_n 2, 1) := by decide +kernel
theorem dX9_putRead_163 : decode cX9_putRead 163 = .ok (.imul, 1) := by decide +kernel
theorem dX9_putRead_164 : decode cX9_putRead 164 = .ok (.iload 5, 2) := by decide +kernel
theorem dX9_putRead_166 : decode cX9_putRead 166 = .ok (.iadd, 1) := by decide +kernel
theorem dX9_putRead_167 : decode cX9_putRead 167 = .ok (.iaload, 1) := by decide +kernel
theorem dX9_putRead_168 : decode cX9_putRead 168 = .ok (.iadd, 1) := by decide +kernel
theorem dX9_putRead_169 : decode cX9_putRead 169 = .ok (.invokevirtual 205, 3) := by decide +kernel
theorem dX9_putRead_172 : decode cX9_putRead 172 = .ok (.iinc 5 1, 3) := by decide +kernel
theorem dX9_putRead_175 : decode cX9_putRead 175 = .ok (.goto (-29), 3) := by decide +kernel
theorem dX9_putRead_178 : decode cX9_putRead 178 = .ok (.aload_n 0, 1) := by decide +kernel
theorem dX9_putRead_179 : decode cX9_putRead 179 = .ok (.bipush 10, 2) := by decide +kernel
theorem dX9_putRead_181 : decode cX9_putRead 181 = .ok (.invokevirtual 205, 3) := by decide +kernel
theorem dX9_putRead_184 : decode cX9_putRead 184 = .ok (.return_, 1) := by decide +kernel
theorem dX9_write_0 : decode cX9_write 0 = .ok (.aload_n 0, 1) := by decide +kernel
theorem dX9_write_1 : decode cX9_write 1 = .ok (.iload_n 1, 1) := by decide +kernel
theorem dX9_write_2 : decode cX9_write 2 = .ok (.ifCond .lt 8, 3) := by decide +kernel
theorem dX9_write_5 : decode cX9_write 5 = .ok (.iload_n 1, 1) := by decide +kernel
theorem dX9_write_6 : decode cX9_write 6 = .ok (.iconst 1, 1) := by decide +kernel
theorem dX9_write_7 : decode cX9_write 7 = .ok (.if_icmp .le 7, 3) := by decide +kernel
theorem dX9_write_10 : decode cX9_write 10 = .ok (.iconst 1, 1) := by decide +kernel
theorem dX9_write_11 : decode cX9_write 11 = .ok (.goto 39, 3) := by decide +kernel
theorem dX9_write_14 : decode cX9_write 14 = .ok (.iload_n 2, 1) := by decide +kernel
theorem dX9_write_15 : decode cX9_write 15 = .ok (.bipush (-2), 2) := by decide +kernel
theorem dX9_write_17 : decode cX9_write 17 = .ok (.if_icmp .eq 15, 3) := by decide +kernel
theorem dX9_write_20 : decode cX9_write 20 = .ok (.aload_n 0, 1) := by decide +kernel
theorem dX9_write_21 : decode cX9_write 21 = .ok (.iload_n 2, 1) := by decide +kernel
theorem dX9_write_22 : decode cX9_write 22 = .ok (.invokevirtual 193, 3) := by decide +kernel
theorem dX9_write_25 : decode cX9_write 25 = .ok (.ifCond .eq 7, 3) := by decide +kernel
theorem dX9_write_28 : decode cX9_write 28 = .ok (.iconst 2, 1) := by decide +kernel
theorem dX9_write_29 : decode cX9_write 29 = .ok (.goto 21, 3) := by decide +kernel
theorem dX9_write_32 : decode cX9_write 32 = .ok (.iload_n 2, 1) := by decide +kernel
theorem dX9_write_33 : decode cX9_write 33 = .ok (.bipush (-2), 2) := by decide +kernel
theorem dX9_write_35 : decode cX9_write 35 = .ok (.if_icmp .eq 14, 3) := by decide +kernel
theorem dX9_write_38 : decode cX9_write 38 = .ok (.aload_n 0, 1) := by decide +kernel
theorem dX9_write_39 : decode cX9_write 39 = .ok (.getfield 114, 3) := by decide +kernel
theorem dX9_write_42 : decode cX9_write 42 = .ok (.ifCond .ne 7, 3) := by decide +kernel
theorem dX9_write_45 : decode cX9_write 45 = .ok (.iconst 3, 1) := by decide +kernel
theorem dX9_write_46 : decode cX9_write 46 = .ok (.goto 4, 3) := by decide +kernel
theorem dX9_write_49 : decode cX9_write 49 = .ok (.iconst 0, 1) := by decide +kernel
theorem dX9_write_50 : decode cX9_write 50 = .ok (.putfield 66, 3) := by decide +kernel
theorem dX9_write_53 : decode cX9_write 53 = .ok (.aload_n 0, 1) := by decide +kernel
theorem dX9_write_54 : decode cX9_write 54 = .ok (.getfield 66, 3) := by decide +kernel
theorem dX9_write_57 : decode cX9_write 57 = .ok (.ifCond .le 5, 3) := by decide +kernel
theorem dX9_write_60 : decode cX9_write 60 = .ok (.iconst 0, 1) := by decide +kernel
theorem dX9_write_61 : decode cX9_write 61 = .ok (.ireturn, 1) := by decide +kernel
theorem dX9_write_62 : decode cX9_write 62 = .ok (.aload_n 0, 1) := by decide +kernel
theorem dX9_write_63 : decode cX9_write 63 = .ok (.iconst 0, 1) := by decide +kernel
theorem dX9_write_64 : decode cX9_write 64 = .ok (.putfield 202, 3) := by decide +kernel
theorem dX9_write_67 : decode cX9_write 67 = .ok (.iconst 0, 1) := by decide +kernel
theorem dX9_write_68 : decode cX9_write 68 = .ok (.istore 4, 2) := by decide +kernel
theorem dX9_write_70 : decode cX9_write 70 = .ok (.iload 4, 2) := by decide +kernel
theorem dX9_write_72 : decode cX9_write 72 = .ok (.aload_n 0, 1) := by decide +kernel
theorem dX9_write_73 : decode cX9_write 73 = .ok (.getfield 63, 3) := by decide +kernel
theorem dX9_write_76 : decode cX9_write 76 = .ok (.if_icmp .ge 124, 3) := by decide +kernel
theorem dX9_write_79 : decode cX9_write 79 = .ok (.iload_n 2, 1) := by decide +kernel
theorem dX9_write_80 : decode cX9_write 80 = .ok (.bipush (-2), 2) := by decide +kernel
theorem dX9_write_82 : decode cX9_write 82 = .ok (.if_icmp .ne 21, 3) := by decide +kernel
theorem dX9_write_85 : decode cX9_write 85 = .ok (.aload_n 0, 1) := by decide +kernel
theorem dX9_write_86 : decode cX9_write 86 = .ok (.iload_n 1, 1) := by decide +kernel
theorem dX9_write_87 : decode cX9_write 87 = .ok (.iload 4, 2) := by decide +kernel
theorem dX9_write_89 : decode cX9_write 89 = .ok (.iconst 0, 1) := by decide +kernel
theorem dX9_write_90 : decode cX9_write 90 = .ok (.aload_n 0, 1) := by decide +kernel
theorem dX9_write_91 : decode cX9_write 91 = .ok (.getfield 23, 3) := by decide +kernel
theorem dX9_write_94 : decode cX9_write 94 = .ok (.iload 4, 2) := by decide +kernel
theorem dX9_write_96 : decode cX9_write 96 = .ok (.iaload, 1) := by decide +kernel
theorem dX9_write_97 : decode cX9_write 97 = .ok (.invokevirtual 208, 3) := by decide +kernel
theorem dX9_write_100 : decode cX9_write 100 = .ok (.goto 94, 3) := by decide +kernel
theorem dX9_write_103 : decode cX9_write 103 = .ok (.aload_n 0, 1) := by decide +kernel
theorem dX9_write_104 : decode cX9_write 104 = .ok (.iload 4, 2) := by decide +kernel
theorem dX9_write_106 : decode cX9_write 106 = .ok (.iload_n 2, 1) := by decide +kernel
theorem dX9_write_107 : decode cX9_write 107 = .ok (.invokevirtual 153, 3) := by decide +kernel
theorem dX9_write_110 : decode cX9_write 110 = .ok (.ifCond .eq 24, 3) := by decide +kernel
theorem dX9_write_113 : decode cX9_write 113 = .ok (.aload_n 0, 1) := by decide +kernel
theorem dX9_write_114 : decode cX9_write 114 = .ok (.getfield 44, 3) := by decide +kernel
theorem dX9_write_117 : decode cX9_write 117 = .ok (.iload 4, 2) := by decide +kernel
theorem dX9_write_119 : decode cX9_write 119 = .ok (.iaload, 1) := by decide +kernel
theorem dX9_write_120 : decode cX9_write 120 = .ok (.aload_n 0, 1) := by decide +kernel
theorem dX9_write_121 : decode cX9_write 121 = .ok (.getfield 47, 3) := by decide +kernel
theorem dX9_write_124 : decode cX9_write 124 = .ok (.iload 4, 2) := by decide +kernel
theorem dX9_write_126 : decode cX9_write 126 = .ok (.iaload, 1) := by decide +kernel
theorem dX9_write_127 : decode cX9_write 127 = .ok (.if_icmp .ge 7, 3) := by decide +kernel
theorem dX9_write_130 : decode cX9_write 130 = .ok (.iconst 1, 1) := by decide +kernel
theorem dX9_write_131 : decode cX9_write 131 = .ok (.goto 4, 3) := by decide +kernel
theorem dX9_write_134 : decode cX9_write 134 = .ok (.iconst 0, 1) := by decide +kernel
theorem dX9_write_135 : decode cX9_write 135 = .ok (.istore 5, 2) := by decide +kernel
theorem dX9_write_137 : decode cX9_write 137 = .ok (.iload 5, 2) := by decide +kernel
theorem dX9_write_139 : decode cX9_write 139 = .ok (.ifCond .eq 55, 3) := by decide +kernel
theorem dX9_write_142 : decode cX9_write 142 = .ok (.iload_n 3, 1) := by decide +kernel
theorem dX9_write_143 : decode cX9_write 143 = .ok (.ifCond .eq 30, 3) := by decide +kernel
theorem dX9_write_146 : decode cX9_write 146 = .ok (.aload_n 0, 1) := by decide +kernel
theorem dX9_write_147 : decode cX9_write 147 = .ok (.getfield 54, 3) := by decide +kernel
theorem dX9_write_150 : decode cX9_write 150 = .ok (.iload 4, 2) := by decide +kernel
theorem dX9_write_152 : decode cX9_write 152 = .ok (.iaload, 1) := by decide +kernel
theorem dX9_write_153 : decode cX9_write 153 = .ok (.ifCond .lt 41, 3) := by decide +kernel
theorem dX9_write_156 : decode cX9_write 156 = .ok (.aload_n 0, 1) := by decide +kernel
theorem dX9_write_157 : decode cX9_write 157 = .ok (.iload_n 2, 1) := by decide +kernel
theorem dX9_write_158 : decode cX9_write 158 = .ok (.aload_n 0, 1) := by decide +kernel
theorem dX9_write_159 : decode cX9_write 159 = .ok (.getfield 54, 3) := by decide +kernel
theorem dX9_write_162 : decode cX9_write 162 = .ok (.iload 4, 2) := by decide +kernel
theorem dX9_write_164 : decode cX9_write 164 = .ok (.iaload, 1) := by decide +kernel
theorem dX9_write_165 : decode cX9_write 165 = .ok (.invokevirtual 199, 3) := by decide +kernel
theorem dX9_write_168 : decode cX9_write 168 = .ok (.iload 4, 2) := by decide +kernel
theorem dX9_write_170 : decode cX9_write 170 = .ok (.if_icmp .ne 24, 3) := by decide +kernel
theorem dX9_write_173 : decode cX9_write 173 = .ok (.aload_n 0, 1) := by decide +kernel
theorem dX9_write_174 : decode cX9_write 174 = .ok (.iload_n 1, 1) := by decide +kernel
theorem dX9_write_175 : decode cX9_write 175 = .ok (.iload 4, 2) := by decide +kernel
theorem dX9_write_177 : decode cX9_write 177 = .ok (.aload_n 0, 1) := by decide +kernel
theorem dX9_write_178 : decode cX9_write 178 = .ok (.getfield 44, 3) := by decide +kernel
theorem dX9_write_181 : decode cX9_write 181 = .ok (.iload 4, 2) := by decide +kernel
theorem dX9_write_183 : decode cX9_write 183 = .ok (.iaload, 1) := by decide +kernel
theorem dX9_write_184 : decode cX9_write 184 = .ok (.aload_n 0, 1) := by decide +kernel
theorem dX9_write_185 : decode cX9_write 185 = .ok (.getfield 47, 3) := by decide +kernel
theorem dX9_write_188 : decode cX9_write 188 = .ok (.iload 4, 2) := by decide +kernel
theorem dX9_write_190 : decode cX9_write 190 = .ok (.iaload, 1) := by decide +kernel
theorem dX9_write_191 : decode cX9_write 191 = .ok (.invokevirtual 208, 3) := by decide +kernel
theorem dX9_write_194 : decode cX9_write 194 = .ok (.iinc 4 1, 3) := by decide +kernel
theorem dX9_write_197 : decode cX9_write 197 = .ok (.goto (-127), 3) := by decide +kernel
theorem dX9_write_200 : decode cX9_write 200 = .ok (.aload_n 0, 1) := by decide +kernel
theorem dX9_write_201 : decode cX9_write 201 = .ok (.getfield 202, 3) := by decide +kernel
theorem dX9_write_204 : decode cX9_write 204 = .ok (.sipush 12000, 3) := by decide +kernel
theorem dX9_write_207 : decode cX9_write 207 = .ok (.if_icmp .le 5, 3) := by decide +kernel
theorem dX9_write_210 : decode cX9_write 210 = .ok (.iconst (-1), 1) := by decide +kernel
theorem dX9_write_211 : decode cX9_write 211 = .ok (.ireturn, 1) := by decide +kernel
theorem dX9_write_212 : decode cX9_write 212 = .ok (.iconst 0, 1) := by decide +kernel
theorem dX9_write_213 : decode cX9_write 213 = .ok (.istore 4, 2) := by decide +kernel
theorem dX9_write_215 : decode cX9_write 215 = .ok (.iload 4, 2) := by decide +kernel
theorem dX9_write_217 : decode cX9_write 217 = .ok (.aload_n 0, 1) := by decide +kernel
theorem dX9_write_218 : decode cX9_write 218 = .ok (.getfield 202, 3) := by decide +kernel
theorem dX9_write_221 : decode cX9_write 221 = .ok (.if_icmp .ge 23, 3) := by decide +kernel
theorem dX9_write_224 : decode cX9_write 224 = .ok (.aload_n 0, 1) := by decide +kernel
theorem dX9_write_225 : decode cX9_write 225 = .ok (.getfield 57, 3) := by decide +kernel
theorem dX9_write_228 : decode cX9_write 228 = .ok (.iload 4, 2) := by decide +kernel
theorem dX9_write_230 : decode cX9_write 230 = .ok (.aload_n 0, 1) := by decide +kernel
theorem dX9_write_231 : decode cX9_write 231 = .ok (.getfield 60, 3) := by decide +kernel
theorem dX9_write_234 : decode cX9_write 234 = .ok (.iload 4, 2) := by decide +kernel
theorem dX9_write_236 : decode cX9_write 236 = .ok (.iaload, 1) := by decide +kernel
theorem dX9_write_237 : decode cX9_write 237 = .ok (.iastore, 1) := by decide +kernel
theorem dX9_write_238 : decode cX9_write 238 = .ok (.iinc 4 1, 3) := by decide +kernel
theorem dX9_write_241 : decode cX9_write 241 = .ok (.goto (-26), 3) := by decide +kernel
theorem dX9_write_244 : decode cX9_write 244 = .ok (.aload_n 0, 1) := by decide +kernel
theorem dX9_write_245 : decode cX9_write 245 = .ok (.aload_n 0, 1) := by decide +kernel
theorem dX9_write_246 : decode cX9_write 246 = .ok (.getfield 202, 3) := by decide +kernel
theorem dX9_write_249 : decode cX9_write 249 = .ok (.putfield 212, 3) := by decide +kernel
theorem dX9_write_252 : decode cX9_write 252 = .ok (.aload_n 0, 1) := by decide +kernel
theorem dX9_write_253 : decode cX9_write 253 = .ok (.getfield 212, 3) := by decide +kernel
theorem dX9_write_256 : decode cX9_write 256 = .ok (.ireturn, 1) := by decide +kernel
theorem dX9_out_0 : decode cX9_out 0 = .ok (.aload_n 0, 1) := by decide +kernel
theorem dX9_out_1 : decode cX9_out 1 = .ok (.iload_n 1, 1) := by decide +kernel
theorem dX9_out_2 : decode cX9_out 2 = .ok (.ifCond .lt 11, 3) := by decide +kernel
theorem dX9_out_5 : decode cX9_out 5 = .ok (.iload_n 1, 1) := by decide +kernel
theorem dX9_out_6 : decode cX9_out 6 = .ok (.aload_n 0, 1) := by decide +kernel
theorem dX9_out_7 : decode cX9_out 7 = .ok (.getfield 212, 3) := by decide +kernel
theorem dX9_out_10 : decode cX9_out 10 = .ok (.if_icmp .lt 7, 3) := by decide +kernel
theorem dX9_out_13 : decode cX9_out 13 = .ok (.iconst 1, 1) := by decide +kernel
theorem dX9_out_14 : decode cX9_out 14 = .ok (.goto 4, 3) := by decide +kernel
theorem dX9_out_17 : decode cX9_out 17 = .ok (.iconst 0, 1) := by decide +kernel
theorem dX9_out_18 : decode cX9_out 18 = .ok (.putfield 66, 3) := by decide +kernel
theorem dX9_out_21 : decode cX9_out 21 = .ok (.aload_n 0, 1) := by decide +kernel
theorem dX9_out_22 : decode cX9_out 22 = .ok (.getfield 66, 3) := by decide +kernel
theorem dX9_out_25 : decode cX9_out 25 = .ok (.ifCond .le 7, 3) := by decide +kernel
theorem dX9_out_28 : decode cX9_out 28 = .ok (.iconst 0, 1) := by decide +kernel
theorem dX9_out_29 : decode cX9_out 29 = .ok (.goto 9, 3) := by decide +kernel
theorem dX9_out_32 : decode cX9_out 32 = .ok (.aload_n 0, 1) := by decide +kernel
theorem dX9_out_33 : decode cX9_out 33 = .ok (.getfield 57, 3) := by decide +kernel
theorem dX9_out_36 : decode cX9_out 36 = .ok (.iload_n 1, 1) := by decide +kernel
theorem dX9_out_37 : decode cX9_out 37 = .ok (.iaload, 1) := by decide +kernel
theorem dX9_out_38 : decode cX9_out 38 = .ok (.ireturn, 1) := by decide +kernel
theorem dX9_again_0 : decode cX9_again 0 = .ok (.aload_n 0, 1) := by decide +kernel
theorem dX9_again_1 : decode cX9_again 1 = .ok (.iconst 0, 1) := by decide +kernel
theorem dX9_again_2 : decode cX9_again 2 = .ok (.putfield 66, 3) := by decide +kernel
theorem dX9_again_5 : decode cX9_again 5 = .ok (.aload_n 0, 1) := by decide +kernel
theorem dX9_again_6 : decode cX9_again 6 = .ok (.getfield 212, 3) := by decide +kernel
theorem dX9_again_9 : decode cX9_again 9 = .ok (.sipush 6000, 3) := by decide +kernel
theorem dX9_again_12 : decode cX9_again 12 = .ok (.if_icmp .le 5, 3) := by decide +kernel
theorem dX9_again_15 : decode cX9_again 15 = .ok (.iconst (-1), 1) := by decide +kernel
theorem dX9_again_16 : decode cX9_again 16 = .ok (.ireturn, 1) := by decide +kernel
theorem dX9_again_17 : decode cX9_again 17 = .ok (.iconst 0, 1) := by decide +kernel
theorem dX9_again_18 : decode cX9_again 18 = .ok (.istore_n 1, 1) := by decide +kernel
theorem dX9_again_19 : decode cX9_again 19 = .ok (.iload_n 1, 1) := by decide +kernel
theorem dX9_again_20 : decode cX9_again 20 = .ok (.aload_n 0, 1) := by decide +kernel
theorem dX9_again_21 : decode cX9_again 21 = .ok (.getfield 212, 3) := by decide +kernel
theorem dX9_again_24 : decode cX9_again 24 = .ok (.if_icmp .ge 21, 3) := by decide +kernel
theorem dX9_again_27 : decode cX9_again 27 = .ok (.aload_n 0, 1) := by decide +kernel
theorem dX9_again_28 : decode cX9_again 28 = .ok (.getfield 7, 3) := by decide +kernel
theorem dX9_again_31 : decode cX9_again 31 = .ok (.iload_n 1, 1) := by decide +kernel
theorem dX9_again_32 : decode cX9_again 32 = .ok (.aload_n 0, 1) := by decide +kernel
theorem dX9_again_33 : decode cX9_again 33 = .ok (.getfield 57, 3) := by decide +kernel
theorem dX9_again_36 : decode cX9_again 36 = .ok (.iload_n 1, 1) := by decide +kernel
theorem dX9_again_37 : decode cX9_again 37 = .ok (.iaload, 1) := by decide +kernel
theorem dX9_again_38 : decode cX9_again 38 = .ok (.iastore, 1) := by decide +kernel
theorem dX9_again_39 : decode cX9_again 39 = .ok (.iinc 1 1, 3) := by decide +kernel
theorem dX9_again_42 : decode cX9_again 42 = .ok (.goto (-23), 3) := by decide +kernel
theorem dX9_again_45 : decode cX9_again 45 = .ok (.aload_n 0, 1) := by decide +kernel
theorem dX9_again_46 : decode cX9_again 46 = .ok (.aload_n 0, 1) := by decide +kernel
theorem dX9_again_47 : decode cX9_again 47 = .ok (.getfield 212, 3) := by decide +kernel
theorem dX9_again_50 : decode cX9_again 50 = .ok (.putfield 69, 3) := by decide +kernel
theorem dX9_again_53 : decode cX9_again 53 = .ok (.aload_n 0, 1) := by decide +kernel
theorem dX9_again_54 : decode cX9_again 54 = .ok (.getfield 69, 3) := by decide +kernel
theorem dX9_again_57 : decode cX9_again 57 = .ok (.ireturn, 1) := by decide +kernel
