theorem d_Mo_meets_105 : decode b_Mo_meets 105 = .ok (.getfield 37, 3) := by decide +kernel
theorem d_Mo_meets_108 : decode b_Mo_meets 108 = .ok (.iload_n 2, 1) := by decide +kernel
theorem d_Mo_meets_109 : decode b_Mo_meets 109 = .ok (.aload_n 0, 1) := by decide +kernel
theorem d_Mo_meets_110 : decode b_Mo_meets 110 = .ok (.getfield 37, 3) := by decide +kernel
theorem d_Mo_meets_113 : decode b_Mo_meets 113 = .ok (.iload_n 3, 1) := by decide +kernel
theorem d_Mo_meets_114 : decode b_Mo_meets 114 = .ok (.baload, 1) := by decide +kernel
theorem d_Mo_meets_115 : decode b_Mo_meets 115 = .ok (.ifCond .eq 13, 3) := by decide +kernel
theorem d_Mo_meets_118 : decode b_Mo_meets 118 = .ok (.aload_n 0, 1) := by decide +kernel
theorem d_Mo_meets_119 : decode b_Mo_meets 119 = .ok (.getfield 37, 3) := by decide +kernel
theorem d_Mo_meets_122 : decode b_Mo_meets 122 = .ok (.iload 4, 2) := by decide +kernel
theorem d_Mo_meets_124 : decode b_Mo_meets 124 = .ok (.baload, 1) := by decide +kernel
theorem d_Mo_meets_125 : decode b_Mo_meets 125 = .ok (.ifCond .eq 7, 3) := by decide +kernel
theorem d_Mo_meets_128 : decode b_Mo_meets 128 = .ok (.iconst 1, 1) := by decide +kernel
theorem d_Mo_meets_129 : decode b_Mo_meets 129 = .ok (.goto 4, 3) := by decide +kernel
theorem d_Mo_meets_132 : decode b_Mo_meets 132 = .ok (.iconst 0, 1) := by decide +kernel
theorem d_Mo_meets_133 : decode b_Mo_meets 133 = .ok (.bastore, 1) := by decide +kernel
theorem d_Mo_meets_134 : decode b_Mo_meets 134 = .ok (.goto 69, 3) := by decide +kernel
theorem d_Mo_meets_137 : decode b_Mo_meets 137 = .ok (.aload_n 0, 1) := by decide +kernel
theorem d_Mo_meets_138 : decode b_Mo_meets 138 = .ok (.getfield 37, 3) := by decide +kernel
theorem d_Mo_meets_141 : decode b_Mo_meets 141 = .ok (.iload_n 2, 1) := by decide +kernel
theorem d_Mo_meets_142 : decode b_Mo_meets 142 = .ok (.aload_n 0, 1) := by decide +kernel
theorem d_Mo_meets_143 : decode b_Mo_meets 143 = .ok (.getfield 23, 3) := by decide +kernel
theorem d_Mo_meets_146 : decode b_Mo_meets 146 = .ok (.iload_n 2, 1) := by decide +kernel
theorem d_Mo_meets_147 : decode b_Mo_meets 147 = .ok (.baload, 1) := by decide +kernel
theorem d_Mo_meets_148 : decode b_Mo_meets 148 = .ok (.ifCond .ne 30, 3) := by decide +kernel
theorem d_Mo_meets_151 : decode b_Mo_meets 151 = .ok (.aload_n 0, 1) := by decide +kernel
theorem d_Mo_meets_152 : decode b_Mo_meets 152 = .ok (.getfield 37, 3) := by decide +kernel
theorem d_Mo_meets_155 : decode b_Mo_meets 155 = .ok (.iload_n 3, 1) := by decide +kernel
theorem d_Mo_meets_156 : decode b_Mo_meets 156 = .ok (.baload, 1) := by decide +kernel
theorem d_Mo_meets_157 : decode b_Mo_meets 157 = .ok (.ifCond .eq 17, 3) := by decide +kernel
theorem d_Mo_meets_160 : decode b_Mo_meets 160 = .ok (.aload_n 0, 1) := by decide +kernel
theorem d_Mo_meets_161 : decode b_Mo_meets 161 = .ok (.getfield 37, 3) := by decide +kernel
theorem d_Mo_meets_164 : decode b_Mo_meets 164 = .ok (.iload 4, 2) := by decide +kernel
theorem d_Mo_meets_166 : decode b_Mo_meets 166 = .ok (.baload, 1) := by decide +kernel
theorem d_Mo_meets_167 : decode b_Mo_meets 167 = .ok (.ifCond .eq 7, 3) := by decide +kernel
theorem d_Mo_meets_170 : decode b_Mo_meets 170 = .ok (.iconst 1, 1) := by decide +kernel
theorem d_Mo_meets_171 : decode b_Mo_meets 171 = .ok (.goto 31, 3) := by decide +kernel
theorem d_Mo_meets_174 : decode b_Mo_meets 174 = .ok (.iconst 0, 1) := by decide +kernel
theorem d_Mo_meets_175 : decode b_Mo_meets 175 = .ok (.goto 27, 3) := by decide +kernel
theorem d_Mo_meets_178 : decode b_Mo_meets 178 = .ok (.aload_n 0, 1) := by decide +kernel
theorem d_Mo_meets_179 : decode b_Mo_meets 179 = .ok (.getfield 37, 3) := by decide +kernel
theorem d_Mo_meets_182 : decode b_Mo_meets 182 = .ok (.iload_n 3, 1) := by decide +kernel
theorem d_Mo_meets_183 : decode b_Mo_meets 183 = .ok (.baload, 1) := by decide +kernel
theorem d_Mo_meets_184 : decode b_Mo_meets 184 = .ok (.ifCond .ne 13, 3) := by decide +kernel
theorem d_Mo_meets_187 : decode b_Mo_meets 187 = .ok (.aload_n 0, 1) := by decide +kernel
theorem d_Mo_meets_188 : decode b_Mo_meets 188 = .ok (.getfield 37, 3) := by decide +kernel
theorem d_Mo_meets_191 : decode b_Mo_meets 191 = .ok (.iload 4, 2) := by decide +kernel
theorem d_Mo_meets_193 : decode b_Mo_meets 193 = .ok (.baload, 1) := by decide +kernel
theorem d_Mo_meets_194 : decode b_Mo_meets 194 = .ok (.ifCond .eq 7, 3) := by decide +kernel
theorem d_Mo_meets_197 : decode b_Mo_meets 197 = .ok (.iconst 1, 1) := by decide +kernel
theorem d_Mo_meets_198 : decode b_Mo_meets 198 = .ok (.goto 4, 3) := by decide +kernel
theorem d_Mo_meets_201 : decode b_Mo_meets 201 = .ok (.iconst 0, 1) := by decide +kernel
theorem d_Mo_meets_202 : decode b_Mo_meets 202 = .ok (.bastore, 1) := by decide +kernel
theorem d_Mo_meets_203 : decode b_Mo_meets 203 = .ok (.iinc 2 1, 3) := by decide +kernel
theorem d_Mo_meets_206 : decode b_Mo_meets 206 = .ok (.goto (-204), 3) := by decide +kernel
theorem d_Mo_meets_209 : decode b_Mo_meets 209 = .ok (.iconst 1, 1) := by decide +kernel
theorem d_Mo_meets_210 : decode b_Mo_meets 210 = .ok (.istore_n 2, 1) := by decide +kernel
theorem d_Mo_meets_211 : decode b_Mo_meets 211 = .ok (.iconst 0, 1) := by decide +kernel
theorem d_Mo_meets_212 : decode b_Mo_meets 212 = .ok (.istore_n 3, 1) := by decide +kernel
theorem d_Mo_meets_213 : decode b_Mo_meets 213 = .ok (.iload_n 3, 1) := by decide +kernel
theorem d_Mo_meets_214 : decode b_Mo_meets 214 = .ok (.aload_n 0, 1) := by decide +kernel
theorem d_Mo_meets_215 : decode b_Mo_meets 215 = .ok (.getfield 99, 3) := by decide +kernel
theorem d_Mo_meets_218 : decode b_Mo_meets 218 = .ok (.if_icmp .ge 33, 3) := by decide +kernel
theorem d_Mo_meets_221 : decode b_Mo_meets 221 = .ok (.iload_n 2, 1) := by decide +kernel
theorem d_Mo_meets_222 : decode b_Mo_meets 222 = .ok (.ifCond .eq 21, 3) := by decide +kernel
theorem d_Mo_meets_225 : decode b_Mo_meets 225 = .ok (.aload_n 0, 1) := by decide +kernel
theorem d_Mo_meets_226 : decode b_Mo_meets 226 = .ok (.getfield 37, 3) := by decide +kernel
theorem d_Mo_meets_229 : decode b_Mo_meets 229 = .ok (.aload_n 0, 1) := by decide +kernel
theorem d_Mo_meets_230 : decode b_Mo_meets 230 = .ok (.getfield 43, 3) := by decide +kernel
theorem d_Mo_meets_233 : decode b_Mo_meets 233 = .ok (.iload_n 3, 1) := by decide +kernel
theorem d_Mo_meets_234 : decode b_Mo_meets 234 = .ok (.iaload, 1) := by decide +kernel
theorem d_Mo_meets_235 : decode b_Mo_meets 235 = .ok (.baload, 1) := by decide +kernel
theorem d_Mo_meets_236 : decode b_Mo_meets 236 = .ok (.ifCond .eq 7, 3) := by decide +kernel
theorem d_Mo_meets_239 : decode b_Mo_meets 239 = .ok (.iconst 1, 1) := by decide +kernel
theorem d_Mo_meets_240 : decode b_Mo_meets 240 = .ok (.goto 4, 3) := by decide +kernel
theorem d_Mo_meets_243 : decode b_Mo_meets 243 = .ok (.iconst 0, 1) := by decide +kernel
theorem d_Mo_meets_244 : decode b_Mo_meets 244 = .ok (.istore_n 2, 1) := by decide +kernel
theorem d_Mo_meets_245 : decode b_Mo_meets 245 = .ok (.iinc 3 1, 3) := by decide +kernel
theorem d_Mo_meets_248 : decode b_Mo_meets 248 = .ok (.goto (-35), 3) := by decide +kernel
theorem d_Mo_meets_251 : decode b_Mo_meets 251 = .ok (.iload_n 2, 1) := by decide +kernel
theorem d_Mo_meets_252 : decode b_Mo_meets 252 = .ok (.ireturn, 1) := by decide +kernel
theorem d_Mo_place_0 : decode b_Mo_place 0 = .ok (.iconst 0, 1) := by decide +kernel
theorem d_Mo_place_1 : decode b_Mo_place 1 = .ok (.istore_n 3, 1) := by decide +kernel
theorem d_Mo_place_2 : decode b_Mo_place 2 = .ok (.iconst 0, 1) := by decide +kernel
theorem d_Mo_place_3 : decode b_Mo_place 3 = .ok (.istore 4, 2) := by decide +kernel
theorem d_Mo_place_5 : decode b_Mo_place 5 = .ok (.iconst 0, 1) := by decide +kernel
theorem d_Mo_place_6 : decode b_Mo_place 6 = .ok (.istore 5, 2) := by decide +kernel
theorem d_Mo_place_8 : decode b_Mo_place 8 = .ok (.iload 5, 2) := by decide +kernel
theorem d_Mo_place_10 : decode b_Mo_place 10 = .ok (.bipush 6, 2) := by decide +kernel
theorem d_Mo_place_12 : decode b_Mo_place 12 = .ok (.if_icmp .ge 39, 3) := by decide +kernel
theorem d_Mo_place_15 : decode b_Mo_place 15 = .ok (.iload_n 2, 1) := by decide +kernel
theorem d_Mo_place_16 : decode b_Mo_place 16 = .ok (.iload 5, 2) := by decide +kernel
theorem d_Mo_place_18 : decode b_Mo_place 18 = .ok (.ishr, 1) := by decide +kernel
theorem d_Mo_place_19 : decode b_Mo_place 19 = .ok (.iconst 1, 1) := by decide +kernel
theorem d_Mo_place_20 : decode b_Mo_place 20 = .ok (.iand, 1) := by decide +kernel
theorem d_Mo_place_21 : decode b_Mo_place 21 = .ok (.iconst 1, 1) := by decide +kernel
theorem d_Mo_place_22 : decode b_Mo_place 22 = .ok (.if_icmp .ne 23, 3) := by decide +kernel
theorem d_Mo_place_25 : decode b_Mo_place 25 = .ok (.iload_n 3, 1) := by decide +kernel
theorem d_Mo_place_26 : decode b_Mo_place 26 = .ok (.iload_n 1, 1) := by decide +kernel
theorem d_Mo_place_27 : decode b_Mo_place 27 = .ok (.iconst 2, 1) := by decide +kernel
theorem d_Mo_place_28 : decode b_Mo_place 28 = .ok (.iload 5, 2) := by decide +kernel
theorem d_Mo_place_30 : decode b_Mo_place 30 = .ok (.imul, 1) := by decide +kernel
theorem d_Mo_place_31 : decode b_Mo_place 31 = .ok (.ishr, 1) := by decide +kernel
theorem d_Mo_place_32 : decode b_Mo_place 32 = .ok (.iconst 3, 1) := by decide +kernel
theorem d_Mo_place_33 : decode b_Mo_place 33 = .ok (.iand, 1) := by decide +kernel
theorem d_Mo_place_34 : decode b_Mo_place 34 = .ok (.iload 4, 2) := by decide +kernel
theorem d_Mo_place_36 : decode b_Mo_place 36 = .ok (.ishl, 1) := by decide +kernel
theorem d_Mo_place_37 : decode b_Mo_place 37 = .ok (.ior, 1) := by decide +kernel
theorem d_Mo_place_38 : decode b_Mo_place 38 = .ok (.istore_n 3, 1) := by decide +kernel
theorem d_Mo_place_39 : decode b_Mo_place 39 = .ok (.iload 4, 2) := by decide +kernel
theorem d_Mo_place_41 : decode b_Mo_place 41 = .ok (.iconst 2, 1) := by decide +kernel
theorem d_Mo_place_42 : decode b_Mo_place 42 = .ok (.iadd, 1) := by decide +kernel
theorem d_Mo_place_43 : decode b_Mo_place 43 = .ok (.istore 4, 2) := by decide +kernel
theorem d_Mo_place_45 : decode b_Mo_place 45 = .ok (.iinc 5 1, 3) := by decide +kernel
theorem d_Mo_place_48 : decode b_Mo_place 48 = .ok (.goto (-40), 3) := by decide +kernel
theorem d_Mo_place_51 : decode b_Mo_place 51 = .ok (.bipush 64, 2) := by decide +kernel
theorem d_Mo_place_53 : decode b_Mo_place 53 = .ok (.iload_n 2, 1) := by decide +kernel
theorem d_Mo_place_54 : decode b_Mo_place 54 = .ok (.imul, 1) := by decide +kernel
theorem d_Mo_place_55 : decode b_Mo_place 55 = .ok (.iload_n 3, 1) := by decide +kernel
theorem d_Mo_place_56 : decode b_Mo_place 56 = .ok (.iadd, 1) := by decide +kernel
theorem d_Mo_place_57 : decode b_Mo_place 57 = .ok (.ireturn, 1) := by decide +kernel
theorem d_Mo_asked_0 : decode b_Mo_asked 0 = .ok (.iconst 0, 1) := by decide +kernel
theorem d_Mo_asked_1 : decode b_Mo_asked 1 = .ok (.istore_n 2, 1) := by decide +kernel
theorem d_Mo_asked_2 : decode b_Mo_asked 2 = .ok (.iconst 0, 1) := by decide +kernel
theorem d_Mo_asked_3 : decode b_Mo_asked 3 = .ok (.istore_n 3, 1) := by decide +kernel
theorem d_Mo_asked_4 : decode b_Mo_asked 4 = .ok (.iload_n 3, 1) := by decide +kernel
theorem d_Mo_asked_5 : decode b_Mo_asked 5 = .ok (.aload_n 0, 1) := by decide +kernel
theorem d_Mo_asked_6 : decode b_Mo_asked 6 = .ok (.getfield 86, 3) := by decide +kernel
theorem d_Mo_asked_9 : decode b_Mo_asked 9 = .ok (.if_icmp .ge 46, 3) := by decide +kernel
theorem d_Mo_asked_12 : decode b_Mo_asked 12 = .ok (.iload_n 2, 1) := by decide +kernel
theorem d_Mo_asked_13 : decode b_Mo_asked 13 = .ok (.ifCond .ne 30, 3) := by decide +kernel
theorem d_Mo_asked_16 : decode b_Mo_asked 16 = .ok (.iload_n 1, 1) := by decide +kernel
theorem d_Mo_asked_17 : decode b_Mo_asked 17 = .ok (.aload_n 0, 1) := by decide +kernel
theorem d_Mo_asked_18 : decode b_Mo_asked 18 = .ok (.getfield 17, 3) := by decide +kernel
theorem d_Mo_asked_21 : decode b_Mo_asked 21 = .ok (.iload_n 3, 1) := by decide +kernel
theorem d_Mo_asked_22 : decode b_Mo_asked 22 = .ok (.iaload, 1) := by decide +kernel
theorem d_Mo_asked_23 : decode b_Mo_asked 23 = .ok (.iconst (-1), 1) := by decide +kernel
theorem d_Mo_asked_24 : decode b_Mo_asked 24 = .ok (.ixor, 1) := by decide +kernel
theorem d_Mo_asked_25 : decode b_Mo_asked 25 = .ok (.iand, 1) := by decide +kernel
theorem d_Mo_asked_26 : decode b_Mo_asked 26 = .ok (.ifCond .ne 21, 3) := by decide +kernel
theorem d_Mo_asked_29 : decode b_Mo_asked 29 = .ok (.aload_n 0, 1) := by decide +kernel
theorem d_Mo_asked_30 : decode b_Mo_asked 30 = .ok (.iload_n 1, 1) := by decide +kernel
theorem d_Mo_asked_31 : decode b_Mo_asked 31 = .ok (.invokevirtual 82, 3) := by decide +kernel
theorem d_Mo_asked_34 : decode b_Mo_asked 34 = .ok (.aload_n 0, 1) := by decide +kernel
theorem d_Mo_asked_35 : decode b_Mo_asked 35 = .ok (.getfield 20, 3) := by decide +kernel
theorem d_Mo_asked_38 : decode b_Mo_asked 38 = .ok (.iload_n 3, 1) := by decide +kernel
theorem d_Mo_asked_39 : decode b_Mo_asked 39 = .ok (.iaload, 1) := by decide +kernel
theorem d_Mo_asked_40 : decode b_Mo_asked 40 = .ok (.if_icmp .ne 7, 3) := by decide +kernel
theorem d_Mo_asked_43 : decode b_Mo_asked 43 = .ok (.iconst 1, 1) := by decide +kernel
theorem d_Mo_asked_44 : decode b_Mo_asked 44 = .ok (.goto 4, 3) := by decide +kernel
theorem d_Mo_asked_47 : decode b_Mo_asked 47 = .ok (.iconst 0, 1) := by decide +kernel
theorem d_Mo_asked_48 : decode b_Mo_asked 48 = .ok (.istore_n 2, 1) := by decide +kernel
theorem d_Mo_asked_49 : decode b_Mo_asked 49 = .ok (.iinc 3 1, 3) := by decide +kernel
theorem d_Mo_asked_52 : decode b_Mo_asked 52 = .ok (.goto (-48), 3) := by decide +kernel
theorem d_Mo_asked_55 : decode b_Mo_asked 55 = .ok (.iload_n 2, 1) := by decide +kernel
theorem d_Mo_asked_56 : decode b_Mo_asked 56 = .ok (.ireturn, 1) := by decide +kernel
theorem d_Mo_wrong_0 : decode b_Mo_wrong 0 = .ok (.iload_n 1, 1) := by decide +kernel
theorem d_Mo_wrong_1 : decode b_Mo_wrong 1 = .ok (.bipush 64, 2) := by decide +kernel
theorem d_Mo_wrong_3 : decode b_Mo_wrong 3 = .ok (.idiv, 1) := by decide +kernel
theorem d_Mo_wrong_4 : decode b_Mo_wrong 4 = .ok (.istore_n 2, 1) := by decide +kernel
theorem d_Mo_wrong_5 : decode b_Mo_wrong 5 = .ok (.iload_n 1, 1) := by decide +kernel
theorem d_Mo_wrong_6 : decode b_Mo_wrong 6 = .ok (.bipush 64, 2) := by decide +kernel
theorem d_Mo_wrong_8 : decode b_Mo_wrong 8 = .ok (.irem, 1) := by decide +kernel
theorem d_Mo_wrong_9 : decode b_Mo_wrong 9 = .ok (.istore_n 3, 1) := by decide +kernel
theorem d_Mo_wrong_10 : decode b_Mo_wrong 10 = .ok (.iconst 0, 1) := by decide +kernel
theorem d_Mo_wrong_11 : decode b_Mo_wrong 11 = .ok (.istore 4, 2) := by decide +kernel
theorem d_Mo_wrong_13 : decode b_Mo_wrong 13 = .ok (.iconst 0, 1) := by decide +kernel
theorem d_Mo_wrong_14 : decode b_Mo_wrong 14 = .ok (.istore 5, 2) := by decide +kernel
theorem d_Mo_wrong_16 : decode b_Mo_wrong 16 = .ok (.iload 5, 2) := by decide +kernel
theorem d_Mo_wrong_18 : decode b_Mo_wrong 18 = .ok (.bipush 6, 2) := by decide +kernel
theorem d_Mo_wrong_20 : decode b_Mo_wrong 20 = .ok (.if_icmp .ge 67, 3) := by decide +kernel
theorem d_Mo_wrong_23 : decode b_Mo_wrong 23 = .ok (.iload_n 2, 1) := by decide +kernel
theorem d_Mo_wrong_24 : decode b_Mo_wrong 24 = .ok (.iload 5, 2) := by decide +kernel
theorem d_Mo_wrong_26 : decode b_Mo_wrong 26 = .ok (.ishr, 1) := by decide +kernel
theorem d_Mo_wrong_27 : decode b_Mo_wrong 27 = .ok (.iconst 1, 1) := by decide +kernel
theorem d_Mo_wrong_28 : decode b_Mo_wrong 28 = .ok (.iand, 1) := by decide +kernel
theorem d_Mo_wrong_29 : decode b_Mo_wrong 29 = .ok (.iconst 1, 1) := by decide +kernel
theorem d_Mo_wrong_30 : decode b_Mo_wrong 30 = .ok (.if_icmp .ne 51, 3) := by decide +kernel
theorem d_Mo_wrong_33 : decode b_Mo_wrong 33 = .ok (.iload_n 3, 1) := by decide +kernel
theorem d_Mo_wrong_34 : decode b_Mo_wrong 34 = .ok (.iconst 3, 1) := by decide +kernel
theorem d_Mo_wrong_35 : decode b_Mo_wrong 35 = .ok (.iand, 1) := by decide +kernel
theorem d_Mo_wrong_36 : decode b_Mo_wrong 36 = .ok (.istore 6, 2) := by decide +kernel
theorem d_Mo_wrong_38 : decode b_Mo_wrong 38 = .ok (.iload_n 3, 1) := by decide +kernel
theorem d_Mo_wrong_39 : decode b_Mo_wrong 39 = .ok (.iconst 2, 1) := by decide +kernel
theorem d_Mo_wrong_40 : decode b_Mo_wrong 40 = .ok (.ishr, 1) := by decide +kernel
theorem d_Mo_wrong_41 : decode b_Mo_wrong 41 = .ok (.istore_n 3, 1) := by decide +kernel
theorem d_Mo_wrong_42 : decode b_Mo_wrong 42 = .ok (.iload 6, 2) := by decide +kernel
theorem d_Mo_wrong_44 : decode b_Mo_wrong 44 = .ok (.aload_n 0, 1) := by decide +kernel
theorem d_Mo_wrong_45 : decode b_Mo_wrong 45 = .ok (.getfield 7, 3) := by decide +kernel
theorem d_Mo_wrong_48 : decode b_Mo_wrong 48 = .ok (.iload 5, 2) := by decide +kernel
theorem d_Mo_wrong_50 : decode b_Mo_wrong 50 = .ok (.iaload, 1) := by decide +kernel
theorem d_Mo_wrong_51 : decode b_Mo_wrong 51 = .ok (.if_icmp .lt 5, 3) := by decide +kernel
theorem d_Mo_wrong_54 : decode b_Mo_wrong 54 = .ok (.iconst (-1), 1) := by decide +kernel
theorem d_Mo_wrong_55 : decode b_Mo_wrong 55 = .ok (.ireturn, 1) := by decide +kernel
theorem d_Mo_wrong_56 : decode b_Mo_wrong 56 = .ok (.iload 4, 2) := by decide +kernel
theorem d_Mo_wrong_58 : decode b_Mo_wrong 58 = .ok (.aload_n 0, 1) := by decide +kernel
theorem d_Mo_wrong_59 : decode b_Mo_wrong 59 = .ok (.getfield 13, 3) := by decide +kernel
theorem d_Mo_wrong_62 : decode b_Mo_wrong 62 = .ok (.iconst 4, 1) := by decide +kernel
theorem d_Mo_wrong_63 : decode b_Mo_wrong 63 = .ok (.iload 5, 2) := by decide +kernel
theorem d_Mo_wrong_65 : decode b_Mo_wrong 65 = .ok (.imul, 1) := by decide +kernel
theorem d_Mo_wrong_66 : decode b_Mo_wrong 66 = .ok (.iload 6, 2) := by decide +kernel
theorem d_Mo_wrong_68 : decode b_Mo_wrong 68 = .ok (.iadd, 1) := by decide +kernel
theorem d_Mo_wrong_69 : decode b_Mo_wrong 69 = .ok (.baload, 1) := by decide +kernel
theorem d_Mo_wrong_70 : decode b_Mo_wrong 70 = .ok (.ifCond .eq 7, 3) := by decide +kernel
theorem d_Mo_wrong_73 : decode b_Mo_wrong 73 = .ok (.iconst 1, 1) := by decide +kernel
theorem d_Mo_wrong_74 : decode b_Mo_wrong 74 = .ok (.goto 4, 3) := by decide +kernel
theorem d_Mo_wrong_77 : decode b_Mo_wrong 77 = .ok (.iconst 0, 1) := by decide +kernel
theorem d_Mo_wrong_78 : decode b_Mo_wrong 78 = .ok (.iadd, 1) := by decide +kernel
theorem d_Mo_wrong_79 : decode b_Mo_wrong 79 = .ok (.istore 4, 2) := by decide +kernel
theorem d_Mo_wrong_81 : decode b_Mo_wrong 81 = .ok (.iinc 5 1, 3) := by decide +kernel
theorem d_Mo_wrong_84 : decode b_Mo_wrong 84 = .ok (.goto (-68), 3) := by decide +kernel
theorem d_Mo_wrong_87 : decode b_Mo_wrong 87 = .ok (.iload_n 3, 1) := by decide +kernel
theorem d_Mo_wrong_88 : decode b_Mo_wrong 88 = .ok (.ifCond .le 7, 3) := by decide +kernel
theorem d_Mo_wrong_91 : decode b_Mo_wrong 91 = .ok (.iconst (-1), 1) := by decide +kernel
theorem d_Mo_wrong_92 : decode b_Mo_wrong 92 = .ok (.goto 5, 3) := by decide +kernel
theorem d_Mo_wrong_95 : decode b_Mo_wrong 95 = .ok (.iload 4, 2) := by decide +kernel
theorem d_Mo_wrong_97 : decode b_Mo_wrong 97 = .ok (.ireturn, 1) := by decide +kernel
theorem d_Mo_take_0 : decode b_Mo_take 0 = .ok (.aload_n 0, 1) := by decide +kernel
theorem d_Mo_take_1 : decode b_Mo_take 1 = .ok (.getfield 61, 3) := by decide +kernel
theorem d_Mo_take_4 : decode b_Mo_take 4 = .ok (.aload_n 0, 1) := by decide +kernel
theorem d_Mo_take_5 : decode b_Mo_take 5 = .ok (.getfield 119, 3) := by decide +kernel
theorem d_Mo_take_8 : decode b_Mo_take 8 = .ok (.iload_n 1, 1) := by decide +kernel
theorem d_Mo_take_9 : decode b_Mo_take 9 = .ok (.i2s, 1) := by decide +kernel
theorem d_Mo_take_10 : decode b_Mo_take 10 = .ok (.sastore, 1) := by decide +kernel
theorem d_Mo_take_11 : decode b_Mo_take 11 = .ok (.aload_n 0, 1) := by decide +kernel
theorem d_Mo_take_12 : decode b_Mo_take 12 = .ok (.getfield 64, 3) := by decide +kernel
theorem d_Mo_take_15 : decode b_Mo_take 15 = .ok (.aload_n 0, 1) := by decide +kernel
theorem d_Mo_take_16 : decode b_Mo_take 16 = .ok (.getfield 119, 3) := by decide +kernel
theorem d_Mo_take_19 : decode b_Mo_take 19 = .ok (.aload_n 0, 1) := by decide +kernel
theorem d_Mo_take_20 : decode b_Mo_take 20 = .ok (.iload_n 1, 1) := by decide +kernel
theorem d_Mo_take_21 : decode b_Mo_take 21 = .ok (.iconst 1, 1) := by decide +kernel
theorem d_Mo_take_22 : decode b_Mo_take 22 = .ok (.invokevirtual 138, 3) := by decide +kernel
theorem d_Mo_take_25 : decode b_Mo_take 25 = .ok (.i2s, 1) := by decide +kernel
theorem d_Mo_take_26 : decode b_Mo_take 26 = .ok (.sastore, 1) := by decide +kernel
theorem d_Mo_take_27 : decode b_Mo_take 27 = .ok (.aload_n 0, 1) := by decide +kernel
theorem d_Mo_take_28 : decode b_Mo_take 28 = .ok (.dup, 1) := by decide +kernel
theorem d_Mo_take_29 : decode b_Mo_take 29 = .ok (.getfield 119, 3) := by decide +kernel
theorem d_Mo_take_32 : decode b_Mo_take 32 = .ok (.iconst 1, 1) := by decide +kernel
theorem d_Mo_take_33 : decode b_Mo_take 33 = .ok (.iadd, 1) := by decide +kernel
theorem d_Mo_take_34 : decode b_Mo_take 34 = .ok (.putfield 119, 3) := by decide +kernel
theorem d_Mo_take_37 : decode b_Mo_take 37 = .ok (.return_, 1) := by decide +kernel
theorem d_Mo_count_0 : decode b_Mo_count 0 = .ok (.iconst 0, 1) := by decide +kernel
theorem d_Mo_count_1 : decode b_Mo_count 1 = .ok (.istore_n 3, 1) := by decide +kernel
theorem d_Mo_count_2 : decode b_Mo_count 2 = .ok (.iconst 1, 1) := by decide +kernel
theorem d_Mo_count_3 : decode b_Mo_count 3 = .ok (.istore 4, 2) := by decide +kernel
theorem d_Mo_count_5 : decode b_Mo_count 5 = .ok (.iload 4, 2) := by decide +kernel
theorem d_Mo_count_7 : decode b_Mo_count 7 = .ok (.iconst 1, 1) := by decide +kernel
theorem d_Mo_count_8 : decode b_Mo_count 8 = .ok (.aload_n 0, 1) := by decide +kernel
theorem d_Mo_count_9 : decode b_Mo_count 9 = .ok (.getfield 71, 3) := by decide +kernel
theorem d_Mo_count_12 : decode b_Mo_count 12 = .ok (.ishl, 1) := by decide +kernel
theorem d_Mo_count_13 : decode b_Mo_count 13 = .ok (.if_icmp .ge 110, 3) := by decide +kernel
theorem d_Mo_count_16 : decode b_Mo_count 16 = .ok (.aload_n 0, 1) := by decide +kernel
theorem d_Mo_count_17 : decode b_Mo_count 17 = .ok (.iload 4, 2) := by decide +kernel
theorem d_Mo_count_19 : decode b_Mo_count 19 = .ok (.invokevirtual 82, 3) := by decide +kernel
theorem d_Mo_count_22 : decode b_Mo_count 22 = .ok (.iconst 3, 1) := by decide +kernel
theorem d_Mo_count_23 : decode b_Mo_count 23 = .ok (.if_icmp .gt 13, 3) := by decide +kernel
theorem d_Mo_count_26 : decode b_Mo_count 26 = .ok (.aload_n 0, 1) := by decide +kernel
theorem d_Mo_count_27 : decode b_Mo_count 27 = .ok (.iload_n 1, 1) := by decide +kernel
theorem d_Mo_count_28 : decode b_Mo_count 28 = .ok (.iload 4, 2) := by decide +kernel
theorem d_Mo_count_30 : decode b_Mo_count 30 = .ok (.invokevirtual 112, 3) := by decide +kernel
theorem d_Mo_count_33 : decode b_Mo_count 33 = .ok (.goto 4, 3) := by decide +kernel
theorem d_Mo_count_36 : decode b_Mo_count 36 = .ok (.iconst 0, 1) := by decide +kernel
theorem d_Mo_count_37 : decode b_Mo_count 37 = .ok (.istore 5, 2) := by decide +kernel
theorem d_Mo_count_39 : decode b_Mo_count 39 = .ok (.aload_n 0, 1) := by decide +kernel
theorem d_Mo_count_40 : decode b_Mo_count 40 = .ok (.getfield 58, 3) := by decide +kernel
theorem d_Mo_count_43 : decode b_Mo_count 43 = .ok (.iload 5, 2) := by decide +kernel
theorem d_Mo_count_45 : decode b_Mo_count 45 = .ok (.baload, 1) := by decide +kernel
theorem d_Mo_count_46 : decode b_Mo_count 46 = .ok (.ifCond .eq 71, 3) := by decide +kernel
theorem d_Mo_count_49 : decode b_Mo_count 49 = .ok (.aload_n 0, 1) := by decide +kernel
theorem d_Mo_count_50 : decode b_Mo_count 50 = .ok (.iload 5, 2) := by decide +kernel
theorem d_Mo_count_52 : decode b_Mo_count 52 = .ok (.invokevirtual 131, 3) := by decide +kernel
theorem d_Mo_count_55 : decode b_Mo_count 55 = .ok (.istore 6, 2) := by decide +kernel
theorem d_Mo_count_57 : decode b_Mo_count 57 = .ok (.aload_n 0, 1) := by decide +kernel
theorem d_Mo_count_58 : decode b_Mo_count 58 = .ok (.getfield 49, 3) := by decide +kernel
theorem d_Mo_count_61 : decode b_Mo_count 61 = .ok (.iload_n 1, 1) := by decide +kernel
theorem d_Mo_count_62 : decode b_Mo_count 62 = .ok (.baload, 1) := by decide +kernel
theorem d_Mo_count_63 : decode b_Mo_count 63 = .ok (.iconst 2, 1) := by decide +kernel
theorem d_Mo_count_64 : decode b_Mo_count 64 = .ok (.if_icmp .eq 9, 3) := by decide +kernel
theorem d_Mo_count_67 : decode b_Mo_count 67 = .ok (.iload 6, 2) := by decide +kernel
theorem d_Mo_count_69 : decode b_Mo_count 69 = .ok (.iconst 1, 1) := by decide +kernel
theorem d_Mo_count_70 : decode b_Mo_count 70 = .ok (.if_icmp .ne 47, 3) := by decide +kernel
theorem d_Mo_count_73 : decode b_Mo_count 73 = .ok (.iinc 3 1, 3) := by decide +kernel
theorem d_Mo_count_76 : decode b_Mo_count 76 = .ok (.iload_n 2, 1) := by decide +kernel
theorem d_Mo_count_77 : decode b_Mo_count 77 = .ok (.ifCond .eq 40, 3) := by decide +kernel
theorem d_Mo_count_80 : decode b_Mo_count 80 = .ok (.aload_n 0, 1) := by decide +kernel
theorem d_Mo_count_81 : decode b_Mo_count 81 = .ok (.getfield 58, 3) := by decide +kernel
theorem d_Mo_count_84 : decode b_Mo_count 84 = .ok (.iload 5, 2) := by decide +kernel
theorem d_Mo_count_86 : decode b_Mo_count 86 = .ok (.iconst 0, 1) := by decide +kernel
theorem d_Mo_count_87 : decode b_Mo_count 87 = .ok (.bastore, 1) := by decide +kernel
theorem d_Mo_count_88 : decode b_Mo_count 88 = .ok (.aload_n 0, 1) := by decide +kernel
theorem d_Mo_count_89 : decode b_Mo_count 89 = .ok (.dup, 1) := by decide +kernel
theorem d_Mo_count_90 : decode b_Mo_count 90 = .ok (.getfield 122, 3) := by decide +kernel
theorem d_Mo_count_93 : decode b_Mo_count 93 = .ok (.iconst 1, 1) := by decide +kernel
theorem d_Mo_count_94 : decode b_Mo_count 94 = .ok (.isub, 1) := by decide +kernel
theorem d_Mo_count_95 : decode b_Mo_count 95 = .ok (.putfield 122, 3) := by decide +kernel
theorem d_Mo_count_98 : decode b_Mo_count 98 = .ok (.aload_n 0, 1) := by decide +kernel
theorem d_Mo_count_99 : decode b_Mo_count 99 = .ok (.aload_n 0, 1) := by decide +kernel
theorem d_Mo_count_100 : decode b_Mo_count 100 = .ok (.getfield 125, 3) := by decide +kernel
theorem d_Mo_count_103 : decode b_Mo_count 103 = .ok (.iload 6, 2) := by decide +kernel
theorem d_Mo_count_105 : decode b_Mo_count 105 = .ok (.ifCond .ne 7, 3) := by decide +kernel
theorem d_Mo_count_108 : decode b_Mo_count 108 = .ok (.iconst 1, 1) := by decide +kernel
theorem d_Mo_count_109 : decode b_Mo_count 109 = .ok (.goto 4, 3) := by decide +kernel
theorem d_Mo_count_112 : decode b_Mo_count 112 = .ok (.iconst 0, 1) := by decide +kernel
theorem d_Mo_count_113 : decode b_Mo_count 113 = .ok (.isub, 1) := by decide +kernel
theorem d_Mo_count_114 : decode b_Mo_count 114 = .ok (.putfield 125, 3) := by decide +kernel
theorem d_Mo_count_117 : decode b_Mo_count 117 = .ok (.iinc 4 1, 3) := by decide +kernel
theorem d_Mo_count_120 : decode b_Mo_count 120 = .ok (.goto (-115), 3) := by decide +kernel
theorem d_Mo_count_123 : decode b_Mo_count 123 = .ok (.iload_n 3, 1) := by decide +kernel
theorem d_Mo_count_124 : decode b_Mo_count 124 = .ok (.ireturn, 1) := by decide +kernel
theorem d_Mo_next_0 : decode b_Mo_next 0 = .ok (.aload_n 0, 1) := by decide +kernel
theorem d_Mo_next_1 : decode b_Mo_next 1 = .ok (.getfield 67, 3) := by decide +kernel
theorem d_Mo_next_4 : decode b_Mo_next 4 = .ok (.ifCond .ne 5, 3) := by decide +kernel
theorem d_Mo_next_7 : decode b_Mo_next 7 = .ok (.iconst (-1), 1) := by decide +kernel
theorem d_Mo_next_8 : decode b_Mo_next 8 = .ok (.ireturn, 1) := by decide +kernel
theorem d_Mo_next_9 : decode b_Mo_next 9 = .ok (.aload_n 0, 1) := by decide +kernel
theorem d_Mo_next_10 : decode b_Mo_next 10 = .ok (.getfield 122, 3) := by decide +kernel
theorem d_Mo_next_13 : decode b_Mo_next 13 = .ok (.ifCond .ne 6, 3) := by decide +kernel
theorem d_Mo_next_16 : decode b_Mo_next 16 = .ok (.bipush (-2), 2) := by decide +kernel
theorem d_Mo_next_18 : decode b_Mo_next 18 = .ok (.ireturn, 1) := by decide +kernel
theorem d_Mo_next_19 : decode b_Mo_next 19 = .ok (.aload_n 0, 1) := by decide +kernel
theorem d_Mo_next_20 : decode b_Mo_next 20 = .ok (.getfield 125, 3) := by decide +kernel
theorem d_Mo_next_23 : decode b_Mo_next 23 = .ok (.ifCond .le 7, 3) := by decide +kernel
theorem d_Mo_next_26 : decode b_Mo_next 26 = .ok (.iconst 2, 1) := by decide +kernel
theorem d_Mo_next_27 : decode b_Mo_next 27 = .ok (.goto 4, 3) := by decide +kernel
theorem d_Mo_next_30 : decode b_Mo_next 30 = .ok (.iconst 1, 1) := by decide +kernel
theorem d_Mo_next_31 : decode b_Mo_next 31 = .ok (.istore_n 1, 1) := by decide +kernel
theorem d_Mo_next_32 : decode b_Mo_next 32 = .ok (.iconst (-1), 1) := by decide +kernel
theorem d_Mo_next_33 : decode b_Mo_next 33 = .ok (.istore_n 2, 1) := by decide +kernel
theorem d_Mo_next_34 : decode b_Mo_next 34 = .ok (.iconst (-1), 1) := by decide +kernel
theorem d_Mo_next_35 : decode b_Mo_next 35 = .ok (.istore_n 3, 1) := by decide +kernel
theorem d_Mo_next_36 : decode b_Mo_next 36 = .ok (.iconst 0, 1) := by decide +kernel
theorem d_Mo_next_37 : decode b_Mo_next 37 = .ok (.istore 4, 2) := by decide +kernel
theorem d_Mo_next_39 : decode b_Mo_next 39 = .ok (.iload 4, 2) := by decide +kernel
theorem d_Mo_next_41 : decode b_Mo_next 41 = .ok (.sipush 4096, 3) := by decide +kernel
theorem d_Mo_next_44 : decode b_Mo_next 44 = .ok (.if_icmp .ge 41, 3) := by decide +kernel
theorem d_Mo_next_47 : decode b_Mo_next 47 = .ok (.aload_n 0, 1) := by decide +kernel
theorem d_Mo_next_48 : decode b_Mo_next 48 = .ok (.getfield 49, 3) := by decide +kernel
theorem d_Mo_next_51 : decode b_Mo_next 51 = .ok (.iload 4, 2) := by decide +kernel
theorem d_Mo_next_53 : decode b_Mo_next 53 = .ok (.baload, 1) := by decide +kernel
theorem d_Mo_next_54 : decode b_Mo_next 54 = .ok (.iload_n 1, 1) := by decide +kernel
theorem d_Mo_next_55 : decode b_Mo_next 55 = .ok (.if_icmp .ne 24, 3) := by decide +kernel
theorem d_Mo_next_58 : decode b_Mo_next 58 = .ok (.aload_n 0, 1) := by decide +kernel
theorem d_Mo_next_59 : decode b_Mo_next 59 = .ok (.iload 4, 2) := by decide +kernel
theorem d_Mo_next_61 : decode b_Mo_next 61 = .ok (.iconst 0, 1) := by decide +kernel
theorem d_Mo_next_62 : decode b_Mo_next 62 = .ok (.invokevirtual 138, 3) := by decide +kernel
theorem d_Mo_next_65 : decode b_Mo_next 65 = .ok (.istore 5, 2) := by decide +kernel
theorem d_Mo_next_67 : decode b_Mo_next 67 = .ok (.iload 5, 2) := by decide +kernel
theorem d_Mo_next_69 : decode b_Mo_next 69 = .ok (.iload_n 3, 1) := by decide +kernel
theorem d_Mo_next_70 : decode b_Mo_next 70 = .ok (.if_icmp .le 9, 3) := by decide +kernel
theorem d_Mo_next_73 : decode b_Mo_next 73 = .ok (.iload 5, 2) := by decide +kernel
theorem d_Mo_next_75 : decode b_Mo_next 75 = .ok (.istore_n 3, 1) := by decide +kernel
theorem d_Mo_next_76 : decode b_Mo_next 76 = .ok (.iload 4, 2) := by decide +kernel
theorem d_Mo_next_78 : decode b_Mo_next 78 = .ok (.istore_n 2, 1) := by decide +kernel
theorem d_Mo_next_79 : decode b_Mo_next 79 = .ok (.iinc 4 1, 3) := by decide +kernel
theorem d_Mo_next_82 : decode b_Mo_next 82 = .ok (.goto (-43), 3) := by decide +kernel
theorem d_Mo_next_85 : decode b_Mo_next 85 = .ok (.aload_n 0, 1) := by decide +kernel
theorem d_Mo_next_86 : decode b_Mo_next 86 = .ok (.iload_n 2, 1) := by decide +kernel
theorem d_Mo_next_87 : decode b_Mo_next 87 = .ok (.invokevirtual 134, 3) := by decide +kernel
theorem d_Mo_next_90 : decode b_Mo_next 90 = .ok (.iload_n 2, 1) := by decide +kernel
theorem d_Mo_next_91 : decode b_Mo_next 91 = .ok (.ireturn, 1) := by decide +kernel
theorem d_Mo_end_0 : decode b_Mo_end 0 = .ok (.aload_n 0, 1) := by decide +kernel
theorem d_Mo_end_1 : decode b_Mo_end 1 = .ok (.getfield 67, 3) := by decide +kernel
theorem d_Mo_end_4 : decode b_Mo_end 4 = .ok (.istore_n 1, 1) := by decide +kernel
theorem d_Mo_end_5 : decode b_Mo_end 5 = .ok (.aload_n 0, 1) := by decide +kernel
theorem d_Mo_end_6 : decode b_Mo_end 6 = .ok (.iconst 0, 1) := by decide +kernel
theorem d_Mo_end_7 : decode b_Mo_end 7 = .ok (.putfield 67, 3) := by decide +kernel
theorem d_Mo_end_10 : decode b_Mo_end 10 = .ok (.iload_n 1, 1) := by decide +kernel
theorem d_Mo_end_11 : decode b_Mo_end 11 = .ok (.ireturn, 1) := by decide +kernel
theorem d_Mo_rows_0 : decode b_Mo_rows 0 = .ok (.aload_n 0, 1) := by decide +kernel
theorem d_Mo_rows_1 : decode b_Mo_rows 1 = .ok (.getfield 67, 3) := by decide +kernel
theorem d_Mo_rows_4 : decode b_Mo_rows 4 = .ok (.ifCond .eq 10, 3) := by decide +kernel
theorem d_Mo_rows_7 : decode b_Mo_rows 7 = .ok (.aload_n 0, 1) := by decide +kernel
theorem d_Mo_rows_8 : decode b_Mo_rows 8 = .ok (.getfield 119, 3) := by decide +kernel
theorem d_Mo_rows_11 : decode b_Mo_rows 11 = .ok (.goto 4, 3) := by decide +kernel
theorem d_Mo_rows_14 : decode b_Mo_rows 14 = .ok (.iconst 0, 1) := by decide +kernel
theorem d_Mo_rows_15 : decode b_Mo_rows 15 = .ok (.ireturn, 1) := by decide +kernel
theorem d_Mo_row_0 : decode b_Mo_row 0 = .ok (.aload_n 0, 1) := by decide +kernel
theorem d_Mo_row_1 : decode b_Mo_row 1 = .ok (.iload_n 1, 1) := by decide +kernel
theorem d_Mo_row_2 : decode b_Mo_row 2 = .ok (.invokevirtual 142, 3) := by decide +kernel
theorem d_Mo_row_5 : decode b_Mo_row 5 = .ok (.ifCond .eq 7, 3) := by decide +kernel
theorem d_Mo_row_8 : decode b_Mo_row 8 = .ok (.iconst (-1), 1) := by decide +kernel
theorem d_Mo_row_9 : decode b_Mo_row 9 = .ok (.goto 9, 3) := by decide +kernel
theorem d_Mo_row_12 : decode b_Mo_row 12 = .ok (.aload_n 0, 1) := by decide +kernel
theorem d_Mo_row_13 : decode b_Mo_row 13 = .ok (.getfield 61, 3) := by decide +kernel
theorem d_Mo_row_16 : decode b_Mo_row 16 = .ok (.iload_n 1, 1) := by decide +kernel
theorem d_Mo_row_17 : decode b_Mo_row 17 = .ok (.saload, 1) := by decide +kernel
theorem d_Mo_row_18 : decode b_Mo_row 18 = .ok (.ireturn, 1) := by decide +kernel
theorem d_Mo_noRow_0 : decode b_Mo_noRow 0 = .ok (.aload_n 0, 1) := by decide +kernel
theorem d_Mo_noRow_1 : decode b_Mo_noRow 1 = .ok (.getfield 67, 3) := by decide +kernel
theorem d_Mo_noRow_4 : decode b_Mo_noRow 4 = .ok (.ifCond .eq 15, 3) := by decide +kernel
theorem d_Mo_noRow_7 : decode b_Mo_noRow 7 = .ok (.iload_n 1, 1) := by decide +kernel
theorem d_Mo_noRow_8 : decode b_Mo_noRow 8 = .ok (.ifCond .lt 11, 3) := by decide +kernel
theorem d_Mo_noRow_11 : decode b_Mo_noRow 11 = .ok (.iload_n 1, 1) := by decide +kernel
theorem d_Mo_noRow_12 : decode b_Mo_noRow 12 = .ok (.aload_n 0, 1) := by decide +kernel
theorem d_Mo_noRow_13 : decode b_Mo_noRow 13 = .ok (.getfield 119, 3) := by decide +kernel
theorem d_Mo_noRow_16 : decode b_Mo_noRow 16 = .ok (.if_icmp .lt 7, 3) := by decide +kernel
theorem d_Mo_noRow_19 : decode b_Mo_noRow 19 = .ok (.iconst 1, 1) := by decide +kernel
theorem d_Mo_noRow_20 : decode b_Mo_noRow 20 = .ok (.goto 4, 3) := by decide +kernel
theorem d_Mo_noRow_23 : decode b_Mo_noRow 23 = .ok (.iconst 0, 1) := by decide +kernel
theorem d_Mo_noRow_24 : decode b_Mo_noRow 24 = .ok (.ireturn, 1) := by decide +kernel
theorem d_Mo_gained_0 : decode b_Mo_gained 0 = .ok (.aload_n 0, 1) := by decide +kernel
theorem d_Mo_gained_1 : decode b_Mo_gained 1 = .ok (.iload_n 1, 1) := by decide +kernel
theorem d_Mo_gained_2 : decode b_Mo_gained 2 = .ok (.invokevirtual 142, 3) := by decide +kernel
theorem d_Mo_gained_5 : decode b_Mo_gained 5 = .ok (.ifCond .eq 7, 3) := by decide +kernel
theorem d_Mo_gained_8 : decode b_Mo_gained 8 = .ok (.iconst (-1), 1) := by decide +kernel
theorem d_Mo_gained_9 : decode b_Mo_gained 9 = .ok (.goto 9, 3) := by decide +kernel
theorem d_Mo_gained_12 : decode b_Mo_gained 12 = .ok (.aload_n 0, 1) := by decide +kernel
theorem d_Mo_gained_13 : decode b_Mo_gained 13 = .ok (.getfield 64, 3) := by decide +kernel
theorem d_Mo_gained_16 : decode b_Mo_gained 16 = .ok (.iload_n 1, 1) := by decide +kernel
theorem d_Mo_gained_17 : decode b_Mo_gained 17 = .ok (.saload, 1) := by decide +kernel
theorem d_Mo_gained_18 : decode b_Mo_gained 18 = .ok (.ireturn, 1) := by decide +kernel
theorem d_Mo_left_0 : decode b_Mo_left 0 = .ok (.aload_n 0, 1) := by decide +kernel
theorem d_Mo_left_1 : decode b_Mo_left 1 = .ok (.getfield 67, 3) := by decide +kernel
theorem d_Mo_left_4 : decode b_Mo_left 4 = .ok (.ifCond .eq 10, 3) := by decide +kernel
theorem d_Mo_left_7 : decode b_Mo_left 7 = .ok (.aload_n 0, 1) := by decide +kernel
theorem d_Mo_left_8 : decode b_Mo_left 8 = .ok (.getfield 122, 3) := by decide +kernel
theorem d_Mo_left_11 : decode b_Mo_left 11 = .ok (.goto 4, 3) := by decide +kernel
theorem d_Mo_left_14 : decode b_Mo_left 14 = .ok (.iconst (-1), 1) := by decide +kernel
theorem d_Mo_left_15 : decode b_Mo_left 15 = .ok (.ireturn, 1) := by decide +kernel
theorem d_Mo_gain_0 : decode b_Mo_gain 0 = .ok (.aload_n 0, 1) := by decide +kernel
theorem d_Mo_gain_1 : decode b_Mo_gain 1 = .ok (.getfield 67, 3) := by decide +kernel
theorem d_Mo_gain_4 : decode b_Mo_gain 4 = .ok (.ifCond .ne 5, 3) := by decide +kernel
theorem d_Mo_gain_7 : decode b_Mo_gain 7 = .ok (.iconst (-1), 1) := by decide +kernel
theorem d_Mo_gain_8 : decode b_Mo_gain 8 = .ok (.ireturn, 1) := by decide +kernel
theorem d_Mo_gain_9 : decode b_Mo_gain 9 = .ok (.iload_n 1, 1) := by decide +kernel
theorem d_Mo_gain_10 : decode b_Mo_gain 10 = .ok (.ifCond .lt 19, 3) := by decide +kernel
theorem d_Mo_gain_13 : decode b_Mo_gain 13 = .ok (.iload_n 1, 1) := by decide +kernel
theorem d_Mo_gain_14 : decode b_Mo_gain 14 = .ok (.sipush 4095, 3) := by decide +kernel
theorem d_Mo_gain_17 : decode b_Mo_gain 17 = .ok (.if_icmp .gt 12, 3) := by decide +kernel
theorem d_Mo_gain_20 : decode b_Mo_gain 20 = .ok (.aload_n 0, 1) := by decide +kernel
theorem d_Mo_gain_21 : decode b_Mo_gain 21 = .ok (.getfield 49, 3) := by decide +kernel
theorem d_Mo_gain_24 : decode b_Mo_gain 24 = .ok (.iload_n 1, 1) := by decide +kernel
theorem d_Mo_gain_25 : decode b_Mo_gain 25 = .ok (.baload, 1) := by decide +kernel
theorem d_Mo_gain_26 : decode b_Mo_gain 26 = .ok (.ifCond .gt 8, 3) := by decide +kernel
theorem d_Mo_gain_29 : decode b_Mo_gain 29 = .ok (.bipush (-2), 2) := by decide +kernel
theorem d_Mo_gain_31 : decode b_Mo_gain 31 = .ok (.goto 9, 3) := by decide +kernel
theorem d_Mo_gain_34 : decode b_Mo_gain 34 = .ok (.aload_n 0, 1) := by decide +kernel
theorem d_Mo_gain_35 : decode b_Mo_gain 35 = .ok (.iload_n 1, 1) := by decide +kernel
theorem d_Mo_gain_36 : decode b_Mo_gain 36 = .ok (.iconst 0, 1) := by decide +kernel
theorem d_Mo_gain_37 : decode b_Mo_gain 37 = .ok (.invokevirtual 138, 3) := by decide +kernel
theorem d_Mo_gain_40 : decode b_Mo_gain 40 = .ok (.ireturn, 1) := by decide +kernel
theorem d_Mo_kind_0 : decode b_Mo_kind 0 = .ok (.aload_n 0, 1) := by decide +kernel
theorem d_Mo_kind_1 : decode b_Mo_kind 1 = .ok (.invokevirtual 116, 3) := by decide +kernel
theorem d_Mo_kind_4 : decode b_Mo_kind 4 = .ok (.iload_n 1, 1) := by decide +kernel
theorem d_Mo_kind_5 : decode b_Mo_kind 5 = .ok (.ifCond .lt 10, 3) := by decide +kernel
theorem d_Mo_kind_8 : decode b_Mo_kind 8 = .ok (.iload_n 1, 1) := by decide +kernel
theorem d_Mo_kind_9 : decode b_Mo_kind 9 = .ok (.sipush 4095, 3) := by decide +kernel
theorem d_Mo_kind_12 : decode b_Mo_kind 12 = .ok (.if_icmp .le 7, 3) := by decide +kernel
theorem d_Mo_kind_15 : decode b_Mo_kind 15 = .ok (.iconst (-1), 1) := by decide +kernel
theorem d_Mo_kind_16 : decode b_Mo_kind 16 = .ok (.goto 9, 3) := by decide +kernel
theorem d_Mo_kind_19 : decode b_Mo_kind 19 = .ok (.aload_n 0, 1) := by decide +kernel
theorem d_Mo_kind_20 : decode b_Mo_kind 20 = .ok (.getfield 49, 3) := by decide +kernel
theorem d_Mo_kind_23 : decode b_Mo_kind 23 = .ok (.iload_n 1, 1) := by decide +kernel
theorem d_Mo_kind_24 : decode b_Mo_kind 24 = .ok (.baload, 1) := by decide +kernel
theorem d_Mo_kind_25 : decode b_Mo_kind 25 = .ok (.ireturn, 1) := by decide +kernel
theorem d_Mo_extendable_0 : decode b_Mo_extendable 0 = .ok (.aload_n 0, 1) := by decide +kernel
theorem d_Mo_extendable_1 : decode b_Mo_extendable 1 = .ok (.getfield 71, 3) := by decide +kernel
theorem d_Mo_extendable_4 : decode b_Mo_extendable 4 = .ok (.ifCond .eq 19, 3) := by decide +kernel
theorem d_Mo_extendable_7 : decode b_Mo_extendable 7 = .ok (.iload_n 1, 1) := by decide +kernel
theorem d_Mo_extendable_8 : decode b_Mo_extendable 8 = .ok (.ifCond .lt 15, 3) := by decide +kernel
theorem d_Mo_extendable_11 : decode b_Mo_extendable 11 = .ok (.iload_n 1, 1) := by decide +kernel
theorem d_Mo_extendable_12 : decode b_Mo_extendable 12 = .ok (.iconst 1, 1) := by decide +kernel
theorem d_Mo_extendable_13 : decode b_Mo_extendable 13 = .ok (.iconst 3, 1) := by decide +kernel
theorem d_Mo_extendable_14 : decode b_Mo_extendable 14 = .ok (.aload_n 0, 1) := by decide +kernel
theorem d_Mo_extendable_15 : decode b_Mo_extendable 15 = .ok (.getfield 71, 3) := by decide +kernel
theorem d_Mo_extendable_18 : decode b_Mo_extendable 18 = .ok (.imul, 1) := by decide +kernel
theorem d_Mo_extendable_19 : decode b_Mo_extendable 19 = .ok (.ishl, 1) := by decide +kernel
theorem d_Mo_extendable_20 : decode b_Mo_extendable 20 = .ok (.if_icmp .lt 5, 3) := by decide +kernel
theorem d_Mo_extendable_23 : decode b_Mo_extendable 23 = .ok (.iconst (-1), 1) := by decide +kernel
theorem d_Mo_extendable_24 : decode b_Mo_extendable 24 = .ok (.ireturn, 1) := by decide +kernel
theorem d_Mo_extendable_25 : decode b_Mo_extendable 25 = .ok (.iconst 0, 1) := by decide +kernel
theorem d_Mo_extendable_26 : decode b_Mo_extendable 26 = .ok (.istore_n 2, 1) := by decide +kernel
theorem d_Mo_extendable_27 : decode b_Mo_extendable 27 = .ok (.iload_n 2, 1) := by decide +kernel
theorem d_Mo_extendable_28 : decode b_Mo_extendable 28 = .ok (.aload_n 0, 1) := by decide +kernel
theorem d_Mo_extendable_29 : decode b_Mo_extendable 29 = .ok (.getfield 71, 3) := by decide +kernel
theorem d_Mo_extendable_32 : decode b_Mo_extendable 32 = .ok (.if_icmp .ge 36, 3) := by decide +kernel
theorem d_Mo_extendable_35 : decode b_Mo_extendable 35 = .ok (.iload_n 1, 1) := by decide +kernel
theorem d_Mo_extendable_36 : decode b_Mo_extendable 36 = .ok (.iconst 3, 1) := by decide +kernel
theorem d_Mo_extendable_37 : decode b_Mo_extendable 37 = .ok (.iload_n 2, 1) := by decide +kernel
theorem d_Mo_extendable_38 : decode b_Mo_extendable 38 = .ok (.imul, 1) := by decide +kernel
theorem d_Mo_extendable_39 : decode b_Mo_extendable 39 = .ok (.ishr, 1) := by decide +kernel
theorem d_Mo_extendable_40 : decode b_Mo_extendable 40 = .ok (.bipush 7, 2) := by decide +kernel
theorem d_Mo_extendable_42 : decode b_Mo_extendable 42 = .ok (.iand, 1) := by decide +kernel
theorem d_Mo_extendable_43 : decode b_Mo_extendable 43 = .ok (.istore_n 3, 1) := by decide +kernel
theorem d_Mo_extendable_44 : decode b_Mo_extendable 44 = .ok (.iload_n 3, 1) := by decide +kernel
theorem d_Mo_extendable_45 : decode b_Mo_extendable 45 = .ok (.bipush 7, 2) := by decide +kernel
theorem d_Mo_extendable_47 : decode b_Mo_extendable 47 = .ok (.if_icmp .eq 15, 3) := by decide +kernel
theorem d_Mo_extendable_50 : decode b_Mo_extendable 50 = .ok (.iload_n 3, 1) := by decide +kernel
theorem d_Mo_extendable_51 : decode b_Mo_extendable 51 = .ok (.aload_n 0, 1) := by decide +kernel
theorem d_Mo_extendable_52 : decode b_Mo_extendable 52 = .ok (.getfield 7, 3) := by decide +kernel
theorem d_Mo_extendable_55 : decode b_Mo_extendable 55 = .ok (.iload_n 2, 1) := by decide +kernel
theorem d_Mo_extendable_56 : decode b_Mo_extendable 56 = .ok (.iaload, 1) := by decide +kernel
theorem d_Mo_extendable_57 : decode b_Mo_extendable 57 = .ok (.if_icmp .lt 5, 3) := by decide +kernel
theorem d_Mo_extendable_60 : decode b_Mo_extendable 60 = .ok (.iconst (-1), 1) := by decide +kernel
theorem d_Mo_extendable_61 : decode b_Mo_extendable 61 = .ok (.ireturn, 1) := by decide +kernel
theorem d_Mo_extendable_62 : decode b_Mo_extendable 62 = .ok (.iinc 2 1, 3) := by decide +kernel
theorem d_Mo_extendable_65 : decode b_Mo_extendable 65 = .ok (.goto (-38), 3) := by decide +kernel
theorem d_Mo_extendable_68 : decode b_Mo_extendable 68 = .ok (.aload_n 0, 1) := by decide +kernel
theorem d_Mo_extendable_69 : decode b_Mo_extendable 69 = .ok (.invokevirtual 116, 3) := by decide +kernel
theorem d_Mo_extendable_72 : decode b_Mo_extendable 72 = .ok (.iconst 0, 1) := by decide +kernel
theorem d_Mo_extendable_73 : decode b_Mo_extendable 73 = .ok (.istore_n 2, 1) := by decide +kernel
theorem d_Mo_extendable_74 : decode b_Mo_extendable 74 = .ok (.iconst 0, 1) := by decide +kernel
theorem d_Mo_extendable_75 : decode b_Mo_extendable 75 = .ok (.istore_n 3, 1) := by decide +kernel
theorem d_Mo_extendable_76 : decode b_Mo_extendable 76 = .ok (.iload_n 3, 1) := by decide +kernel
theorem d_Mo_extendable_77 : decode b_Mo_extendable 77 = .ok (.sipush 4096, 3) := by decide +kernel
theorem d_Mo_extendable_80 : decode b_Mo_extendable 80 = .ok (.if_icmp .ge 99, 3) := by decide +kernel
theorem d_Mo_extendable_83 : decode b_Mo_extendable 83 = .ok (.iconst 1, 1) := by decide +kernel
theorem d_Mo_extendable_84 : decode b_Mo_extendable 84 = .ok (.istore 4, 2) := by decide +kernel
theorem d_Mo_extendable_86 : decode b_Mo_extendable 86 = .ok (.iconst 0, 1) := by decide +kernel
theorem d_Mo_extendable_87 : decode b_Mo_extendable 87 = .ok (.istore 5, 2) := by decide +kernel
theorem d_Mo_extendable_89 : decode b_Mo_extendable 89 = .ok (.iload 5, 2) := by decide +kernel
theorem d_Mo_extendable_91 : decode b_Mo_extendable 91 = .ok (.aload_n 0, 1) := by decide +kernel
theorem d_Mo_extendable_92 : decode b_Mo_extendable 92 = .ok (.getfield 71, 3) := by decide +kernel
theorem d_Mo_extendable_95 : decode b_Mo_extendable 95 = .ok (.if_icmp .ge 52, 3) := by decide +kernel
theorem d_Mo_extendable_98 : decode b_Mo_extendable 98 = .ok (.iload_n 1, 1) := by decide +kernel
theorem d_Mo_extendable_99 : decode b_Mo_extendable 99 = .ok (.iconst 3, 1) := by decide +kernel
theorem d_Mo_extendable_100 : decode b_Mo_extendable 100 = .ok (.iload 5, 2) := by decide +kernel
theorem d_Mo_extendable_102 : decode b_Mo_extendable 102 = .ok (.imul, 1) := by decide +kernel
theorem d_Mo_extendable_103 : decode b_Mo_extendable 103 = .ok (.ishr, 1) := by decide +kernel
theorem d_Mo_extendable_104 : decode b_Mo_extendable 104 = .ok (.bipush 7, 2) := by decide +kernel
theorem d_Mo_extendable_106 : decode b_Mo_extendable 106 = .ok (.iand, 1) := by decide +kernel
theorem d_Mo_extendable_107 : decode b_Mo_extendable 107 = .ok (.istore 6, 2) := by decide +kernel
theorem d_Mo_extendable_109 : decode b_Mo_extendable 109 = .ok (.iload 4, 2) := by decide +kernel
theorem d_Mo_extendable_111 : decode b_Mo_extendable 111 = .ok (.ifCond .eq 27, 3) := by decide +kernel
theorem d_Mo_extendable_114 : decode b_Mo_extendable 114 = .ok (.iload 6, 2) := by decide +kernel
theorem d_Mo_extendable_116 : decode b_Mo_extendable 116 = .ok (.bipush 7, 2) := by decide +kernel
theorem d_Mo_extendable_118 : decode b_Mo_extendable 118 = .ok (.if_icmp .eq 16, 3) := by decide +kernel
theorem d_Mo_extendable_121 : decode b_Mo_extendable 121 = .ok (.iload_n 3, 1) := by decide +kernel
theorem d_Mo_extendable_122 : decode b_Mo_extendable 122 = .ok (.iconst 2, 1) := by decide +kernel
theorem d_Mo_extendable_123 : decode b_Mo_extendable 123 = .ok (.iload 5, 2) := by decide +kernel
theorem d_Mo_extendable_125 : decode b_Mo_extendable 125 = .ok (.imul, 1) := by decide +kernel
theorem d_Mo_extendable_126 : decode b_Mo_extendable 126 = .ok (.ishr, 1) := by decide +kernel
theorem d_Mo_extendable_127 : decode b_Mo_extendable 127 = .ok (.iconst 3, 1) := by decide +kernel
theorem d_Mo_extendable_128 : decode b_Mo_extendable 128 = .ok (.iand, 1) := by decide +kernel
theorem d_Mo_extendable_129 : decode b_Mo_extendable 129 = .ok (.iload 6, 2) := by decide +kernel
theorem d_Mo_extendable_131 : decode b_Mo_extendable 131 = .ok (.if_icmp .ne 7, 3) := by decide +kernel
theorem d_Mo_extendable_134 : decode b_Mo_extendable 134 = .ok (.iconst 1, 1) := by decide +kernel
theorem d_Mo_extendable_135 : decode b_Mo_extendable 135 = .ok (.goto 4, 3) := by decide +kernel
theorem d_Mo_extendable_138 : decode b_Mo_extendable 138 = .ok (.iconst 0, 1) := by decide +kernel
theorem d_Mo_extendable_139 : decode b_Mo_extendable 139 = .ok (.istore 4, 2) := by decide +kernel
theorem d_Mo_extendable_141 : decode b_Mo_extendable 141 = .ok (.iinc 5 1, 3) := by decide +kernel
theorem d_Mo_extendable_144 : decode b_Mo_extendable 144 = .ok (.goto (-55), 3) := by decide +kernel
theorem d_Mo_extendable_147 : decode b_Mo_extendable 147 = .ok (.iload 4, 2) := by decide +kernel
theorem d_Mo_extendable_149 : decode b_Mo_extendable 149 = .ok (.ifCond .eq 22, 3) := by decide +kernel
theorem d_Mo_extendable_152 : decode b_Mo_extendable 152 = .ok (.aload_n 0, 1) := by decide +kernel
theorem d_Mo_extendable_153 : decode b_Mo_extendable 153 = .ok (.getfield 49, 3) := by decide +kernel
theorem d_Mo_extendable_156 : decode b_Mo_extendable 156 = .ok (.iload_n 3, 1) := by decide +kernel
theorem d_Mo_extendable_157 : decode b_Mo_extendable 157 = .ok (.baload, 1) := by decide +kernel
theorem d_Mo_extendable_158 : decode b_Mo_extendable 158 = .ok (.iload_n 2, 1) := by decide +kernel
theorem d_Mo_extendable_159 : decode b_Mo_extendable 159 = .ok (.if_icmp .le 12, 3) := by decide +kernel
theorem d_Mo_extendable_162 : decode b_Mo_extendable 162 = .ok (.aload_n 0, 1) := by decide +kernel
theorem d_Mo_extendable_163 : decode b_Mo_extendable 163 = .ok (.getfield 49, 3) := by decide +kernel
theorem d_Mo_extendable_166 : decode b_Mo_extendable 166 = .ok (.iload_n 3, 1) := by decide +kernel
theorem d_Mo_extendable_167 : decode b_Mo_extendable 167 = .ok (.baload, 1) := by decide +kernel
theorem d_Mo_extendable_168 : decode b_Mo_extendable 168 = .ok (.goto 4, 3) := by decide +kernel
theorem d_Mo_extendable_171 : decode b_Mo_extendable 171 = .ok (.iload_n 2, 1) := by decide +kernel
theorem d_Mo_extendable_172 : decode b_Mo_extendable 172 = .ok (.istore_n 2, 1) := by decide +kernel
theorem d_Mo_extendable_173 : decode b_Mo_extendable 173 = .ok (.iinc 3 1, 3) := by decide +kernel
theorem d_Mo_extendable_176 : decode b_Mo_extendable 176 = .ok (.goto (-100), 3) := by decide +kernel
theorem d_Mo_extendable_179 : decode b_Mo_extendable 179 = .ok (.iload_n 2, 1) := by decide +kernel
theorem d_Mo_extendable_180 : decode b_Mo_extendable 180 = .ok (.ireturn, 1) := by decide +kernel
theorem d_Mo_forbidden_0 : decode b_Mo_forbidden 0 = .ok (.iload_n 1, 1) := by decide +kernel
theorem d_Mo_forbidden_1 : decode b_Mo_forbidden 1 = .ok (.iconst 1, 1) := by decide +kernel
theorem d_Mo_forbidden_2 : decode b_Mo_forbidden 2 = .ok (.if_icmp .lt 8, 3) := by decide +kernel
theorem d_Mo_forbidden_5 : decode b_Mo_forbidden 5 = .ok (.iload_n 1, 1) := by decide +kernel
theorem d_Mo_forbidden_6 : decode b_Mo_forbidden 6 = .ok (.iconst 3, 1) := by decide +kernel
theorem d_Mo_forbidden_7 : decode b_Mo_forbidden 7 = .ok (.if_icmp .le 5, 3) := by decide +kernel
theorem d_Mo_forbidden_10 : decode b_Mo_forbidden 10 = .ok (.iconst (-1), 1) := by decide +kernel
theorem d_Mo_forbidden_11 : decode b_Mo_forbidden 11 = .ok (.ireturn, 1) := by decide +kernel
theorem d_Mo_forbidden_12 : decode b_Mo_forbidden 12 = .ok (.aload_n 0, 1) := by decide +kernel
theorem d_Mo_forbidden_13 : decode b_Mo_forbidden 13 = .ok (.invokevirtual 116, 3) := by decide +kernel
theorem d_Mo_forbidden_16 : decode b_Mo_forbidden 16 = .ok (.iconst 0, 1) := by decide +kernel
theorem d_Mo_forbidden_17 : decode b_Mo_forbidden 17 = .ok (.istore_n 2, 1) := by decide +kernel
theorem d_Mo_forbidden_18 : decode b_Mo_forbidden 18 = .ok (.bipush 64, 2) := by decide +kernel
theorem d_Mo_forbidden_20 : decode b_Mo_forbidden 20 = .ok (.istore_n 3, 1) := by decide +kernel
theorem d_Mo_forbidden_21 : decode b_Mo_forbidden 21 = .ok (.iload_n 3, 1) := by decide +kernel
theorem d_Mo_forbidden_22 : decode b_Mo_forbidden 22 = .ok (.bipush 64, 2) := by decide +kernel
theorem d_Mo_forbidden_24 : decode b_Mo_forbidden 24 = .ok (.aload_n 0, 1) := by decide +kernel
theorem d_Mo_forbidden_25 : decode b_Mo_forbidden 25 = .ok (.getfield 71, 3) := by decide +kernel
theorem d_Mo_forbidden_28 : decode b_Mo_forbidden 28 = .ok (.ishl, 1) := by decide +kernel
theorem d_Mo_forbidden_29 : decode b_Mo_forbidden 29 = .ok (.if_icmp .ge 58, 3) := by decide +kernel
theorem d_Mo_forbidden_32 : decode b_Mo_forbidden 32 = .ok (.aload_n 0, 1) := by decide +kernel
theorem d_Mo_forbidden_33 : decode b_Mo_forbidden 33 = .ok (.iload_n 3, 1) := by decide +kernel
theorem d_Mo_forbidden_34 : decode b_Mo_forbidden 34 = .ok (.bipush 64, 2) := by decide +kernel
theorem d_Mo_forbidden_36 : decode b_Mo_forbidden 36 = .ok (.idiv, 1) := by decide +kernel
theorem d_Mo_forbidden_37 : decode b_Mo_forbidden 37 = .ok (.invokevirtual 82, 3) := by decide +kernel
theorem d_Mo_forbidden_40 : decode b_Mo_forbidden 40 = .ok (.iload_n 1, 1) := by decide +kernel
theorem d_Mo_forbidden_41 : decode b_Mo_forbidden 41 = .ok (.if_icmp .ne 40, 3) := by decide +kernel
theorem d_Mo_forbidden_44 : decode b_Mo_forbidden 44 = .ok (.aload_n 0, 1) := by decide +kernel
theorem d_Mo_forbidden_45 : decode b_Mo_forbidden 45 = .ok (.iload_n 3, 1) := by decide +kernel
theorem d_Mo_forbidden_46 : decode b_Mo_forbidden 46 = .ok (.invokevirtual 131, 3) := by decide +kernel
theorem d_Mo_forbidden_49 : decode b_Mo_forbidden 49 = .ok (.ifCond .ne 32, 3) := by decide +kernel
theorem d_Mo_forbidden_52 : decode b_Mo_forbidden 52 = .ok (.aload_n 0, 1) := by decide +kernel
theorem d_Mo_forbidden_53 : decode b_Mo_forbidden 53 = .ok (.getfield 52, 3) := by decide +kernel
theorem d_Mo_forbidden_56 : decode b_Mo_forbidden 56 = .ok (.iload_n 3, 1) := by decide +kernel
theorem d_Mo_forbidden_57 : decode b_Mo_forbidden 57 = .ok (.baload, 1) := by decide +kernel
theorem d_Mo_forbidden_58 : decode b_Mo_forbidden 58 = .ok (.ifCond .ne 23, 3) := by decide +kernel
theorem d_Mo_forbidden_61 : decode b_Mo_forbidden 61 = .ok (.aload_n 0, 1) := by decide +kernel
theorem d_Mo_forbidden_62 : decode b_Mo_forbidden 62 = .ok (.iload_n 3, 1) := by decide +kernel
theorem d_Mo_forbidden_63 : decode b_Mo_forbidden 63 = .ok (.invokevirtual 145, 3) := by decide +kernel
theorem d_Mo_forbidden_66 : decode b_Mo_forbidden 66 = .ok (.istore 4, 2) := by decide +kernel
theorem d_Mo_forbidden_68 : decode b_Mo_forbidden 68 = .ok (.iload 4, 2) := by decide +kernel
theorem d_Mo_forbidden_70 : decode b_Mo_forbidden 70 = .ok (.ifCond .eq 9, 3) := by decide +kernel
theorem d_Mo_forbidden_73 : decode b_Mo_forbidden 73 = .ok (.iload_n 2, 1) := by decide +kernel
theorem d_Mo_forbidden_74 : decode b_Mo_forbidden 74 = .ok (.iconst 1, 1) := by decide +kernel
theorem d_Mo_forbidden_75 : decode b_Mo_forbidden 75 = .ok (.iadd, 1) := by decide +kernel
theorem d_Mo_forbidden_76 : decode b_Mo_forbidden 76 = .ok (.goto 4, 3) := by decide +kernel
theorem d_Mo_forbidden_79 : decode b_Mo_forbidden 79 = .ok (.iload_n 2, 1) := by decide +kernel
theorem d_Mo_forbidden_80 : decode b_Mo_forbidden 80 = .ok (.istore_n 2, 1) := by decide +kernel
theorem d_Mo_forbidden_81 : decode b_Mo_forbidden 81 = .ok (.iinc 3 1, 3) := by decide +kernel
theorem d_Mo_forbidden_84 : decode b_Mo_forbidden 84 = .ok (.goto (-63), 3) := by decide +kernel
theorem d_Mo_forbidden_87 : decode b_Mo_forbidden 87 = .ok (.iload_n 2, 1) := by decide +kernel
theorem d_Mo_forbidden_88 : decode b_Mo_forbidden 88 = .ok (.ireturn, 1) := by decide +kernel
theorem d_Mo_least_0 : decode b_Mo_least 0 = .ok (.iload_n 1, 1) := by decide +kernel
theorem d_Mo_least_1 : decode b_Mo_least 1 = .ok (.bipush 64, 2) := by decide +kernel
theorem d_Mo_least_3 : decode b_Mo_least 3 = .ok (.idiv, 1) := by decide +kernel
theorem d_Mo_least_4 : decode b_Mo_least 4 = .ok (.istore_n 2, 1) := by decide +kernel
theorem d_Mo_least_5 : decode b_Mo_least 5 = .ok (.iconst 1, 1) := by decide +kernel
theorem d_Mo_least_6 : decode b_Mo_least 6 = .ok (.istore_n 3, 1) := by decide +kernel
theorem d_Mo_least_7 : decode b_Mo_least 7 = .ok (.iconst 0, 1) := by decide +kernel
theorem d_Mo_least_8 : decode b_Mo_least 8 = .ok (.istore 4, 2) := by decide +kernel
theorem d_Mo_least_10 : decode b_Mo_least 10 = .ok (.iconst 0, 1) := by decide +kernel
theorem d_Mo_least_11 : decode b_Mo_least 11 = .ok (.istore 5, 2) := by decide +kernel
theorem d_Mo_least_13 : decode b_Mo_least 13 = .ok (.iload 5, 2) := by decide +kernel
theorem d_Mo_least_15 : decode b_Mo_least 15 = .ok (.bipush 6, 2) := by decide +kernel
theorem d_Mo_least_17 : decode b_Mo_least 17 = .ok (.if_icmp .ge 87, 3) := by decide +kernel
theorem d_Mo_least_20 : decode b_Mo_least 20 = .ok (.iload_n 2, 1) := by decide +kernel
theorem d_Mo_least_21 : decode b_Mo_least 21 = .ok (.iload 5, 2) := by decide +kernel
theorem d_Mo_least_23 : decode b_Mo_least 23 = .ok (.ishr, 1) := by decide +kernel
theorem d_Mo_least_24 : decode b_Mo_least 24 = .ok (.iconst 1, 1) := by decide +kernel
theorem d_Mo_least_25 : decode b_Mo_least 25 = .ok (.iand, 1) := by decide +kernel
theorem d_Mo_least_26 : decode b_Mo_least 26 = .ok (.iconst 1, 1) := by decide +kernel
theorem d_Mo_least_27 : decode b_Mo_least 27 = .ok (.if_icmp .ne 71, 3) := by decide +kernel
theorem d_Mo_least_30 : decode b_Mo_least 30 = .ok (.iload_n 1, 1) := by decide +kernel
theorem d_Mo_least_31 : decode b_Mo_least 31 = .ok (.bipush 64, 2) := by decide +kernel
theorem d_Mo_least_33 : decode b_Mo_least 33 = .ok (.irem, 1) := by decide +kernel
theorem d_Mo_least_34 : decode b_Mo_least 34 = .ok (.iconst 1, 1) := by decide +kernel
theorem d_Mo_least_35 : decode b_Mo_least 35 = .ok (.iload 4, 2) := by decide +kernel
theorem d_Mo_least_37 : decode b_Mo_least 37 = .ok (.ishl, 1) := by decide +kernel
theorem d_Mo_least_38 : decode b_Mo_least 38 = .ok (.iconst 1, 1) := by decide +kernel
theorem d_Mo_least_39 : decode b_Mo_least 39 = .ok (.isub, 1) := by decide +kernel
theorem d_Mo_least_40 : decode b_Mo_least 40 = .ok (.iand, 1) := by decide +kernel
theorem d_Mo_least_41 : decode b_Mo_least 41 = .ok (.istore 6, 2) := by decide +kernel
theorem d_Mo_least_43 : decode b_Mo_least 43 = .ok (.iload_n 1, 1) := by decide +kernel
theorem d_Mo_least_44 : decode b_Mo_least 44 = .ok (.bipush 64, 2) := by decide +kernel
theorem d_Mo_least_46 : decode b_Mo_least 46 = .ok (.irem, 1) := by decide +kernel
theorem d_Mo_least_47 : decode b_Mo_least 47 = .ok (.iload 4, 2) := by decide +kernel
theorem d_Mo_least_49 : decode b_Mo_least 49 = .ok (.iconst 2, 1) := by decide +kernel
theorem d_Mo_least_50 : decode b_Mo_least 50 = .ok (.iadd, 1) := by decide +kernel
theorem d_Mo_least_51 : decode b_Mo_least 51 = .ok (.ishr, 1) := by decide +kernel
theorem d_Mo_least_52 : decode b_Mo_least 52 = .ok (.istore 7, 2) := by decide +kernel
theorem d_Mo_least_54 : decode b_Mo_least 54 = .ok (.iload_n 3, 1) := by decide +kernel
theorem d_Mo_least_55 : decode b_Mo_least 55 = .ok (.ifCond .eq 35, 3) := by decide +kernel
theorem d_Mo_least_58 : decode b_Mo_least 58 = .ok (.aload_n 0, 1) := by decide +kernel
theorem d_Mo_least_59 : decode b_Mo_least 59 = .ok (.getfield 52, 3) := by decide +kernel
theorem d_Mo_least_62 : decode b_Mo_least 62 = .ok (.bipush 64, 2) := by decide +kernel
theorem d_Mo_least_64 : decode b_Mo_least 64 = .ok (.iload_n 2, 1) := by decide +kernel
theorem d_Mo_least_65 : decode b_Mo_least 65 = .ok (.iconst 1, 1) := by decide +kernel
theorem d_Mo_least_66 : decode b_Mo_least 66 = .ok (.iload 5, 2) := by decide +kernel
theorem d_Mo_least_68 : decode b_Mo_least 68 = .ok (.ishl, 1) := by decide +kernel
theorem d_Mo_least_69 : decode b_Mo_least 69 = .ok (.iconst (-1), 1) := by decide +kernel
theorem d_Mo_least_70 : decode b_Mo_least 70 = .ok (.ixor, 1) := by decide +kernel
theorem d_Mo_least_71 : decode b_Mo_least 71 = .ok (.iand, 1) := by decide +kernel
theorem d_Mo_least_72 : decode b_Mo_least 72 = .ok (.imul, 1) := by decide +kernel
theorem d_Mo_least_73 : decode b_Mo_least 73 = .ok (.iload 7, 2) := by decide +kernel
theorem d_Mo_least_75 : decode b_Mo_least 75 = .ok (.iload 4, 2) := by decide +kernel
theorem d_Mo_least_77 : decode b_Mo_least 77 = .ok (.ishl, 1) := by decide +kernel
theorem d_Mo_least_78 : decode b_Mo_least 78 = .ok (.iload 6, 2) := by decide +kernel
theorem d_Mo_least_80 : decode b_Mo_least 80 = .ok (.ior, 1) := by decide +kernel
theorem d_Mo_least_81 : decode b_Mo_least 81 = .ok (.iadd, 1) := by decide +kernel
theorem d_Mo_least_82 : decode b_Mo_least 82 = .ok (.baload, 1) := by decide +kernel
theorem d_Mo_least_83 : decode b_Mo_least 83 = .ok (.ifCond .eq 7, 3) := by decide +kernel
theorem d_Mo_least_86 : decode b_Mo_least 86 = .ok (.iconst 1, 1) := by decide +kernel
theorem d_Mo_least_87 : decode b_Mo_least 87 = .ok (.goto 4, 3) := by decide +kernel
theorem d_Mo_least_90 : decode b_Mo_least 90 = .ok (.iconst 0, 1) := by decide +kernel
theorem d_Mo_least_91 : decode b_Mo_least 91 = .ok (.istore_n 3, 1) := by decide +kernel
theorem d_Mo_least_92 : decode b_Mo_least 92 = .ok (.iload 4, 2) := by decide +kernel
theorem d_Mo_least_94 : decode b_Mo_least 94 = .ok (.iconst 2, 1) := by decide +kernel
theorem d_Mo_least_95 : decode b_Mo_least 95 = .ok (.iadd, 1) := by decide +kernel
theorem d_Mo_least_96 : decode b_Mo_least 96 = .ok (.istore 4, 2) := by decide +kernel
theorem d_Mo_least_98 : decode b_Mo_least 98 = .ok (.iinc 5 1, 3) := by decide +kernel
theorem d_Mo_least_101 : decode b_Mo_least 101 = .ok (.goto (-88), 3) := by decide +kernel
theorem d_Mo_least_104 : decode b_Mo_least 104 = .ok (.iload_n 3, 1) := by decide +kernel
theorem d_Mo_least_105 : decode b_Mo_least 105 = .ok (.ireturn, 1) := by decide +kernel
