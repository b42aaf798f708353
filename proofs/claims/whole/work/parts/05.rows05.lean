theorem dX5_spread_56 : decode cX5_spread 56 = .ok (.getfield 9, 3) := by decide +kernel
theorem dX5_spread_59 : decode cX5_spread 59 = .ok (.iload_n 1, 1) := by decide +kernel
theorem dX5_spread_60 : decode cX5_spread 60 = .ok (.iaload, 1) := by decide +kernel
theorem dX5_spread_61 : decode cX5_spread 61 = .ok (.aload_n 0, 1) := by decide +kernel
theorem dX5_spread_62 : decode cX5_spread 62 = .ok (.getfield 34, 3) := by decide +kernel
theorem dX5_spread_65 : decode cX5_spread 65 = .ok (.getfield 107, 3) := by decide +kernel
theorem dX5_spread_68 : decode cX5_spread 68 = .ok (.iload 4, 2) := by decide +kernel
theorem dX5_spread_70 : decode cX5_spread 70 = .ok (.iaload, 1) := by decide +kernel
theorem dX5_spread_71 : decode cX5_spread 71 = .ok (.iadd, 1) := by decide +kernel
theorem dX5_spread_72 : decode cX5_spread 72 = .ok (.invokestatic 80, 3) := by decide +kernel
theorem dX5_spread_75 : decode cX5_spread 75 = .ok (.iastore, 1) := by decide +kernel
theorem dX5_spread_76 : decode cX5_spread 76 = .ok (.iinc 3 1, 3) := by decide +kernel
theorem dX5_spread_79 : decode cX5_spread 79 = .ok (.goto (-59), 3) := by decide +kernel
theorem dX5_spread_82 : decode cX5_spread 82 = .ok (.iinc 2 1, 3) := by decide +kernel
theorem dX5_spread_85 : decode cX5_spread 85 = .ok (.goto (-78), 3) := by decide +kernel
theorem dX5_spread_88 : decode cX5_spread 88 = .ok (.return_, 1) := by decide +kernel
theorem dX5_goBackward_0 : decode cX5_goBackward 0 = .ok (.aload_n 0, 1) := by decide +kernel
theorem dX5_goBackward_1 : decode cX5_goBackward 1 = .ok (.getfield 34, 3) := by decide +kernel
theorem dX5_goBackward_4 : decode cX5_goBackward 4 = .ok (.invokevirtual 93, 3) := by decide +kernel
theorem dX5_goBackward_7 : decode cX5_goBackward 7 = .ok (.iconst 1, 1) := by decide +kernel
theorem dX5_goBackward_8 : decode cX5_goBackward 8 = .ok (.isub, 1) := by decide +kernel
theorem dX5_goBackward_9 : decode cX5_goBackward 9 = .ok (.istore_n 1, 1) := by decide +kernel
theorem dX5_goBackward_10 : decode cX5_goBackward 10 = .ok (.iload_n 1, 1) := by decide +kernel
theorem dX5_goBackward_11 : decode cX5_goBackward 11 = .ok (.ifCond .lt 23, 3) := by decide +kernel
theorem dX5_goBackward_14 : decode cX5_goBackward 14 = .ok (.aload_n 0, 1) := by decide +kernel
theorem dX5_goBackward_15 : decode cX5_goBackward 15 = .ok (.getfield 9, 3) := by decide +kernel
theorem dX5_goBackward_18 : decode cX5_goBackward 18 = .ok (.iload_n 1, 1) := by decide +kernel
theorem dX5_goBackward_19 : decode cX5_goBackward 19 = .ok (.iaload, 1) := by decide +kernel
theorem dX5_goBackward_20 : decode cX5_goBackward 20 = .ok (.ifCond .lt 8, 3) := by decide +kernel
theorem dX5_goBackward_23 : decode cX5_goBackward 23 = .ok (.aload_n 0, 1) := by decide +kernel
theorem dX5_goBackward_24 : decode cX5_goBackward 24 = .ok (.iload_n 1, 1) := by decide +kernel
theorem dX5_goBackward_25 : decode cX5_goBackward 25 = .ok (.invokevirtual 110, 3) := by decide +kernel
theorem dX5_goBackward_28 : decode cX5_goBackward 28 = .ok (.iinc 1 (-1), 3) := by decide +kernel
theorem dX5_goBackward_31 : decode cX5_goBackward 31 = .ok (.goto (-21), 3) := by decide +kernel
theorem dX5_goBackward_34 : decode cX5_goBackward 34 = .ok (.return_, 1) := by decide +kernel
theorem dX5_gather_0 : decode cX5_gather 0 = .ok (.iconst 0, 1) := by decide +kernel
theorem dX5_gather_1 : decode cX5_gather 1 = .ok (.istore_n 2, 1) := by decide +kernel
theorem dX5_gather_2 : decode cX5_gather 2 = .ok (.lconst 1, 1) := by decide +kernel
theorem dX5_gather_3 : decode cX5_gather 3 = .ok (.lstore_n 3, 1) := by decide +kernel
theorem dX5_gather_4 : decode cX5_gather 4 = .ok (.iconst 0, 1) := by decide +kernel
theorem dX5_gather_5 : decode cX5_gather 5 = .ok (.istore 5, 2) := by decide +kernel
theorem dX5_gather_7 : decode cX5_gather 7 = .ok (.iconst 0, 1) := by decide +kernel
theorem dX5_gather_8 : decode cX5_gather 8 = .ok (.istore 6, 2) := by decide +kernel
theorem dX5_gather_10 : decode cX5_gather 10 = .ok (.iload_n 1, 1) := by decide +kernel
theorem dX5_gather_11 : decode cX5_gather 11 = .ok (.invokestatic 100, 3) := by decide +kernel
theorem dX5_gather_14 : decode cX5_gather 14 = .ok (.iconst 1, 1) := by decide +kernel
theorem dX5_gather_15 : decode cX5_gather 15 = .ok (.iadd, 1) := by decide +kernel
theorem dX5_gather_16 : decode cX5_gather 16 = .ok (.istore 7, 2) := by decide +kernel
theorem dX5_gather_18 : decode cX5_gather 18 = .ok (.iload 7, 2) := by decide +kernel
theorem dX5_gather_20 : decode cX5_gather 20 = .ok (.aload_n 0, 1) := by decide +kernel
theorem dX5_gather_21 : decode cX5_gather 21 = .ok (.getfield 34, 3) := by decide +kernel
theorem dX5_gather_24 : decode cX5_gather 24 = .ok (.invokevirtual 83, 3) := by decide +kernel
theorem dX5_gather_27 : decode cX5_gather 27 = .ok (.if_icmp .ge 162, 3) := by decide +kernel
theorem dX5_gather_30 : decode cX5_gather 30 = .ok (.iconst 0, 1) := by decide +kernel
theorem dX5_gather_31 : decode cX5_gather 31 = .ok (.istore 8, 2) := by decide +kernel
theorem dX5_gather_33 : decode cX5_gather 33 = .ok (.iload 8, 2) := by decide +kernel
theorem dX5_gather_35 : decode cX5_gather 35 = .ok (.iconst 2, 1) := by decide +kernel
theorem dX5_gather_36 : decode cX5_gather 36 = .ok (.if_icmp .ge 147, 3) := by decide +kernel
theorem dX5_gather_39 : decode cX5_gather 39 = .ok (.aload_n 0, 1) := by decide +kernel
theorem dX5_gather_40 : decode cX5_gather 40 = .ok (.getfield 34, 3) := by decide +kernel
theorem dX5_gather_43 : decode cX5_gather 43 = .ok (.iload_n 1, 1) := by decide +kernel
theorem dX5_gather_44 : decode cX5_gather 44 = .ok (.iload 7, 2) := by decide +kernel
theorem dX5_gather_46 : decode cX5_gather 46 = .ok (.iload 8, 2) := by decide +kernel
theorem dX5_gather_48 : decode cX5_gather 48 = .ok (.invokevirtual 103, 3) := by decide +kernel
theorem dX5_gather_51 : decode cX5_gather 51 = .ok (.istore 9, 2) := by decide +kernel
theorem dX5_gather_53 : decode cX5_gather 53 = .ok (.iload 9, 2) := by decide +kernel
theorem dX5_gather_55 : decode cX5_gather 55 = .ok (.ifCond .lt 122, 3) := by decide +kernel
theorem dX5_gather_58 : decode cX5_gather 58 = .ok (.aload_n 0, 1) := by decide +kernel
theorem dX5_gather_59 : decode cX5_gather 59 = .ok (.getfield 15, 3) := by decide +kernel
theorem dX5_gather_62 : decode cX5_gather 62 = .ok (.iload 9, 2) := by decide +kernel
theorem dX5_gather_64 : decode cX5_gather 64 = .ok (.iaload, 1) := by decide +kernel
theorem dX5_gather_65 : decode cX5_gather 65 = .ok (.iload_n 2, 1) := by decide +kernel
theorem dX5_gather_66 : decode cX5_gather 66 = .ok (.if_icmp .ge 6, 3) := by decide +kernel
theorem dX5_gather_69 : decode cX5_gather 69 = .ok (.goto 108, 3) := by decide +kernel
theorem dX5_gather_72 : decode cX5_gather 72 = .ok (.aload_n 0, 1) := by decide +kernel
theorem dX5_gather_73 : decode cX5_gather 73 = .ok (.getfield 15, 3) := by decide +kernel
theorem dX5_gather_76 : decode cX5_gather 76 = .ok (.iload 9, 2) := by decide +kernel
theorem dX5_gather_78 : decode cX5_gather 78 = .ok (.iaload, 1) := by decide +kernel
theorem dX5_gather_79 : decode cX5_gather 79 = .ok (.iload_n 2, 1) := by decide +kernel
theorem dX5_gather_80 : decode cX5_gather 80 = .ok (.if_icmp .le 7, 3) := by decide +kernel
theorem dX5_gather_83 : decode cX5_gather 83 = .ok (.iconst 1, 1) := by decide +kernel
theorem dX5_gather_84 : decode cX5_gather 84 = .ok (.goto 4, 3) := by decide +kernel
theorem dX5_gather_87 : decode cX5_gather 87 = .ok (.iconst 0, 1) := by decide +kernel
theorem dX5_gather_88 : decode cX5_gather 88 = .ok (.istore 10, 2) := by decide +kernel
theorem dX5_gather_90 : decode cX5_gather 90 = .ok (.aload_n 0, 1) := by decide +kernel
theorem dX5_gather_91 : decode cX5_gather 91 = .ok (.getfield 15, 3) := by decide +kernel
theorem dX5_gather_94 : decode cX5_gather 94 = .ok (.iload 9, 2) := by decide +kernel
theorem dX5_gather_96 : decode cX5_gather 96 = .ok (.iaload, 1) := by decide +kernel
theorem dX5_gather_97 : decode cX5_gather 97 = .ok (.istore_n 2, 1) := by decide +kernel
theorem dX5_gather_98 : decode cX5_gather 98 = .ok (.iload 10, 2) := by decide +kernel
theorem dX5_gather_100 : decode cX5_gather 100 = .ok (.ifCond .eq 13, 3) := by decide +kernel
theorem dX5_gather_103 : decode cX5_gather 103 = .ok (.aload_n 0, 1) := by decide +kernel
theorem dX5_gather_104 : decode cX5_gather 104 = .ok (.getfield 18, 3) := by decide +kernel
theorem dX5_gather_107 : decode cX5_gather 107 = .ok (.iload 9, 2) := by decide +kernel
theorem dX5_gather_109 : decode cX5_gather 109 = .ok (.laload, 1) := by decide +kernel
theorem dX5_gather_110 : decode cX5_gather 110 = .ok (.goto 12, 3) := by decide +kernel
theorem dX5_gather_113 : decode cX5_gather 113 = .ok (.lload_n 3, 1) := by decide +kernel
theorem dX5_gather_114 : decode cX5_gather 114 = .ok (.aload_n 0, 1) := by decide +kernel
theorem dX5_gather_115 : decode cX5_gather 115 = .ok (.getfield 18, 3) := by decide +kernel
theorem dX5_gather_118 : decode cX5_gather 118 = .ok (.iload 9, 2) := by decide +kernel
theorem dX5_gather_120 : decode cX5_gather 120 = .ok (.laload, 1) := by decide +kernel
theorem dX5_gather_121 : decode cX5_gather 121 = .ok (.ladd, 1) := by decide +kernel
theorem dX5_gather_122 : decode cX5_gather 122 = .ok (.lstore_n 3, 1) := by decide +kernel
theorem dX5_gather_123 : decode cX5_gather 123 = .ok (.iload 10, 2) := by decide +kernel
theorem dX5_gather_125 : decode cX5_gather 125 = .ok (.ifCond .eq 13, 3) := by decide +kernel
theorem dX5_gather_128 : decode cX5_gather 128 = .ok (.aload_n 0, 1) := by decide +kernel
theorem dX5_gather_129 : decode cX5_gather 129 = .ok (.getfield 22, 3) := by decide +kernel
theorem dX5_gather_132 : decode cX5_gather 132 = .ok (.iload 9, 2) := by decide +kernel
theorem dX5_gather_134 : decode cX5_gather 134 = .ok (.iaload, 1) := by decide +kernel
theorem dX5_gather_135 : decode cX5_gather 135 = .ok (.goto 13, 3) := by decide +kernel
theorem dX5_gather_138 : decode cX5_gather 138 = .ok (.iload 5, 2) := by decide +kernel
theorem dX5_gather_140 : decode cX5_gather 140 = .ok (.aload_n 0, 1) := by decide +kernel
theorem dX5_gather_141 : decode cX5_gather 141 = .ok (.getfield 22, 3) := by decide +kernel
theorem dX5_gather_144 : decode cX5_gather 144 = .ok (.iload 9, 2) := by decide +kernel
theorem dX5_gather_146 : decode cX5_gather 146 = .ok (.iaload, 1) := by decide +kernel
theorem dX5_gather_147 : decode cX5_gather 147 = .ok (.iand, 1) := by decide +kernel
theorem dX5_gather_148 : decode cX5_gather 148 = .ok (.istore 5, 2) := by decide +kernel
theorem dX5_gather_150 : decode cX5_gather 150 = .ok (.iload 10, 2) := by decide +kernel
theorem dX5_gather_152 : decode cX5_gather 152 = .ok (.ifCond .eq 13, 3) := by decide +kernel
theorem dX5_gather_155 : decode cX5_gather 155 = .ok (.aload_n 0, 1) := by decide +kernel
theorem dX5_gather_156 : decode cX5_gather 156 = .ok (.getfield 25, 3) := by decide +kernel
theorem dX5_gather_159 : decode cX5_gather 159 = .ok (.iload 9, 2) := by decide +kernel
theorem dX5_gather_161 : decode cX5_gather 161 = .ok (.iaload, 1) := by decide +kernel
theorem dX5_gather_162 : decode cX5_gather 162 = .ok (.goto 13, 3) := by decide +kernel
theorem dX5_gather_165 : decode cX5_gather 165 = .ok (.iload 6, 2) := by decide +kernel
theorem dX5_gather_167 : decode cX5_gather 167 = .ok (.aload_n 0, 1) := by decide +kernel
theorem dX5_gather_168 : decode cX5_gather 168 = .ok (.getfield 25, 3) := by decide +kernel
theorem dX5_gather_171 : decode cX5_gather 171 = .ok (.iload 9, 2) := by decide +kernel
theorem dX5_gather_173 : decode cX5_gather 173 = .ok (.iaload, 1) := by decide +kernel
theorem dX5_gather_174 : decode cX5_gather 174 = .ok (.ior, 1) := by decide +kernel
theorem dX5_gather_175 : decode cX5_gather 175 = .ok (.istore 6, 2) := by decide +kernel
theorem dX5_gather_177 : decode cX5_gather 177 = .ok (.iinc 8 1, 3) := by decide +kernel
theorem dX5_gather_180 : decode cX5_gather 180 = .ok (.goto (-147), 3) := by decide +kernel
theorem dX5_gather_183 : decode cX5_gather 183 = .ok (.iinc 7 1, 3) := by decide +kernel
theorem dX5_gather_186 : decode cX5_gather 186 = .ok (.goto (-168), 3) := by decide +kernel
theorem dX5_gather_189 : decode cX5_gather 189 = .ok (.iload_n 1, 1) := by decide +kernel
theorem dX5_gather_190 : decode cX5_gather 190 = .ok (.ifCond .ne 7, 3) := by decide +kernel
theorem dX5_gather_193 : decode cX5_gather 193 = .ok (.iconst 0, 1) := by decide +kernel
theorem dX5_gather_194 : decode cX5_gather 194 = .ok (.goto 9, 3) := by decide +kernel
theorem dX5_gather_197 : decode cX5_gather 197 = .ok (.iconst 1, 1) := by decide +kernel
theorem dX5_gather_198 : decode cX5_gather 198 = .ok (.iload_n 1, 1) := by decide +kernel
theorem dX5_gather_199 : decode cX5_gather 199 = .ok (.invokestatic 100, 3) := by decide +kernel
theorem dX5_gather_202 : decode cX5_gather 202 = .ok (.ishl, 1) := by decide +kernel
theorem dX5_gather_203 : decode cX5_gather 203 = .ok (.istore 7, 2) := by decide +kernel
theorem dX5_gather_205 : decode cX5_gather 205 = .ok (.aload_n 0, 1) := by decide +kernel
theorem dX5_gather_206 : decode cX5_gather 206 = .ok (.getfield 15, 3) := by decide +kernel
theorem dX5_gather_209 : decode cX5_gather 209 = .ok (.iload_n 1, 1) := by decide +kernel
theorem dX5_gather_210 : decode cX5_gather 210 = .ok (.iload_n 2, 1) := by decide +kernel
theorem dX5_gather_211 : decode cX5_gather 211 = .ok (.aload_n 0, 1) := by decide +kernel
theorem dX5_gather_212 : decode cX5_gather 212 = .ok (.getfield 34, 3) := by decide +kernel
theorem dX5_gather_215 : decode cX5_gather 215 = .ok (.getfield 107, 3) := by decide +kernel
theorem dX5_gather_218 : decode cX5_gather 218 = .ok (.iload_n 1, 1) := by decide +kernel
theorem dX5_gather_219 : decode cX5_gather 219 = .ok (.iaload, 1) := by decide +kernel
theorem dX5_gather_220 : decode cX5_gather 220 = .ok (.iadd, 1) := by decide +kernel
theorem dX5_gather_221 : decode cX5_gather 221 = .ok (.iastore, 1) := by decide +kernel
theorem dX5_gather_222 : decode cX5_gather 222 = .ok (.aload_n 0, 1) := by decide +kernel
theorem dX5_gather_223 : decode cX5_gather 223 = .ok (.getfield 18, 3) := by decide +kernel
theorem dX5_gather_226 : decode cX5_gather 226 = .ok (.iload_n 1, 1) := by decide +kernel
theorem dX5_gather_227 : decode cX5_gather 227 = .ok (.lload_n 3, 1) := by decide +kernel
theorem dX5_gather_228 : decode cX5_gather 228 = .ok (.lastore, 1) := by decide +kernel
theorem dX5_gather_229 : decode cX5_gather 229 = .ok (.aload_n 0, 1) := by decide +kernel
theorem dX5_gather_230 : decode cX5_gather 230 = .ok (.getfield 22, 3) := by decide +kernel
theorem dX5_gather_233 : decode cX5_gather 233 = .ok (.iload_n 1, 1) := by decide +kernel
theorem dX5_gather_234 : decode cX5_gather 234 = .ok (.iload 5, 2) := by decide +kernel
theorem dX5_gather_236 : decode cX5_gather 236 = .ok (.iload 7, 2) := by decide +kernel
theorem dX5_gather_238 : decode cX5_gather 238 = .ok (.ior, 1) := by decide +kernel
theorem dX5_gather_239 : decode cX5_gather 239 = .ok (.iastore, 1) := by decide +kernel
theorem dX5_gather_240 : decode cX5_gather 240 = .ok (.aload_n 0, 1) := by decide +kernel
theorem dX5_gather_241 : decode cX5_gather 241 = .ok (.getfield 25, 3) := by decide +kernel
theorem dX5_gather_244 : decode cX5_gather 244 = .ok (.iload_n 1, 1) := by decide +kernel
theorem dX5_gather_245 : decode cX5_gather 245 = .ok (.iload 6, 2) := by decide +kernel
theorem dX5_gather_247 : decode cX5_gather 247 = .ok (.iload 7, 2) := by decide +kernel
theorem dX5_gather_249 : decode cX5_gather 249 = .ok (.ior, 1) := by decide +kernel
theorem dX5_gather_250 : decode cX5_gather 250 = .ok (.iastore, 1) := by decide +kernel
theorem dX5_gather_251 : decode cX5_gather 251 = .ok (.return_, 1) := by decide +kernel
theorem dX5_chooseFirst_0 : decode cX5_chooseFirst 0 = .ok (.iconst 0, 1) := by decide +kernel
theorem dX5_chooseFirst_1 : decode cX5_chooseFirst 1 = .ok (.istore_n 1, 1) := by decide +kernel
theorem dX5_chooseFirst_2 : decode cX5_chooseFirst 2 = .ok (.aload_n 0, 1) := by decide +kernel
theorem dX5_chooseFirst_3 : decode cX5_chooseFirst 3 = .ok (.getfield 15, 3) := by decide +kernel
theorem dX5_chooseFirst_6 : decode cX5_chooseFirst 6 = .ok (.iconst 0, 1) := by decide +kernel
theorem dX5_chooseFirst_7 : decode cX5_chooseFirst 7 = .ok (.iaload, 1) := by decide +kernel
theorem dX5_chooseFirst_8 : decode cX5_chooseFirst 8 = .ok (.istore_n 2, 1) := by decide +kernel
theorem dX5_chooseFirst_9 : decode cX5_chooseFirst 9 = .ok (.aload_n 0, 1) := by decide +kernel
theorem dX5_chooseFirst_10 : decode cX5_chooseFirst 10 = .ok (.iconst 0, 1) := by decide +kernel
theorem dX5_chooseFirst_11 : decode cX5_chooseFirst 11 = .ok (.putfield 113, 3) := by decide +kernel
theorem dX5_chooseFirst_14 : decode cX5_chooseFirst 14 = .ok (.iconst 0, 1) := by decide +kernel
theorem dX5_chooseFirst_15 : decode cX5_chooseFirst 15 = .ok (.istore_n 3, 1) := by decide +kernel
theorem dX5_chooseFirst_16 : decode cX5_chooseFirst 16 = .ok (.iload_n 3, 1) := by decide +kernel
theorem dX5_chooseFirst_17 : decode cX5_chooseFirst 17 = .ok (.aload_n 0, 1) := by decide +kernel
theorem dX5_chooseFirst_18 : decode cX5_chooseFirst 18 = .ok (.getfield 34, 3) := by decide +kernel
theorem dX5_chooseFirst_21 : decode cX5_chooseFirst 21 = .ok (.invokevirtual 83, 3) := by decide +kernel
theorem dX5_chooseFirst_24 : decode cX5_chooseFirst 24 = .ok (.if_icmp .ge 78, 3) := by decide +kernel
theorem dX5_chooseFirst_27 : decode cX5_chooseFirst 27 = .ok (.aload_n 0, 1) := by decide +kernel
theorem dX5_chooseFirst_28 : decode cX5_chooseFirst 28 = .ok (.iload_n 1, 1) := by decide +kernel
theorem dX5_chooseFirst_29 : decode cX5_chooseFirst 29 = .ok (.iload_n 3, 1) := by decide +kernel
theorem dX5_chooseFirst_30 : decode cX5_chooseFirst 30 = .ok (.iload_n 2, 1) := by decide +kernel
theorem dX5_chooseFirst_31 : decode cX5_chooseFirst 31 = .ok (.invokevirtual 117, 3) := by decide +kernel
theorem dX5_chooseFirst_34 : decode cX5_chooseFirst 34 = .ok (.istore 4, 2) := by decide +kernel
theorem dX5_chooseFirst_36 : decode cX5_chooseFirst 36 = .ok (.aload_n 0, 1) := by decide +kernel
theorem dX5_chooseFirst_37 : decode cX5_chooseFirst 37 = .ok (.getfield 28, 3) := by decide +kernel
theorem dX5_chooseFirst_40 : decode cX5_chooseFirst 40 = .ok (.iload_n 3, 1) := by decide +kernel
theorem dX5_chooseFirst_41 : decode cX5_chooseFirst 41 = .ok (.iload 4, 2) := by decide +kernel
theorem dX5_chooseFirst_43 : decode cX5_chooseFirst 43 = .ok (.iastore, 1) := by decide +kernel
theorem dX5_chooseFirst_44 : decode cX5_chooseFirst 44 = .ok (.aload_n 0, 1) := by decide +kernel
theorem dX5_chooseFirst_45 : decode cX5_chooseFirst 45 = .ok (.getfield 31, 3) := by decide +kernel
theorem dX5_chooseFirst_48 : decode cX5_chooseFirst 48 = .ok (.iload_n 3, 1) := by decide +kernel
theorem dX5_chooseFirst_49 : decode cX5_chooseFirst 49 = .ok (.iload 4, 2) := by decide +kernel
theorem dX5_chooseFirst_51 : decode cX5_chooseFirst 51 = .ok (.ifCond .ne 12, 3) := by decide +kernel
theorem dX5_chooseFirst_54 : decode cX5_chooseFirst 54 = .ok (.aload_n 0, 1) := by decide +kernel
theorem dX5_chooseFirst_55 : decode cX5_chooseFirst 55 = .ok (.iload_n 1, 1) := by decide +kernel
theorem dX5_chooseFirst_56 : decode cX5_chooseFirst 56 = .ok (.iload_n 3, 1) := by decide +kernel
theorem dX5_chooseFirst_57 : decode cX5_chooseFirst 57 = .ok (.invokevirtual 120, 3) := by decide +kernel
theorem dX5_chooseFirst_60 : decode cX5_chooseFirst 60 = .ok (.goto 4, 3) := by decide +kernel
theorem dX5_chooseFirst_63 : decode cX5_chooseFirst 63 = .ok (.iconst 0, 1) := by decide +kernel
theorem dX5_chooseFirst_64 : decode cX5_chooseFirst 64 = .ok (.iastore, 1) := by decide +kernel
theorem dX5_chooseFirst_65 : decode cX5_chooseFirst 65 = .ok (.iload 4, 2) := by decide +kernel
theorem dX5_chooseFirst_67 : decode cX5_chooseFirst 67 = .ok (.ifCond .eq 29, 3) := by decide +kernel
theorem dX5_chooseFirst_70 : decode cX5_chooseFirst 70 = .ok (.iload_n 2, 1) := by decide +kernel
theorem dX5_chooseFirst_71 : decode cX5_chooseFirst 71 = .ok (.aload_n 0, 1) := by decide +kernel
theorem dX5_chooseFirst_72 : decode cX5_chooseFirst 72 = .ok (.getfield 34, 3) := by decide +kernel
theorem dX5_chooseFirst_75 : decode cX5_chooseFirst 75 = .ok (.getfield 107, 3) := by decide +kernel
theorem dX5_chooseFirst_78 : decode cX5_chooseFirst 78 = .ok (.iload 4, 2) := by decide +kernel
theorem dX5_chooseFirst_80 : decode cX5_chooseFirst 80 = .ok (.iaload, 1) := by decide +kernel
theorem dX5_chooseFirst_81 : decode cX5_chooseFirst 81 = .ok (.isub, 1) := by decide +kernel
theorem dX5_chooseFirst_82 : decode cX5_chooseFirst 82 = .ok (.istore_n 2, 1) := by decide +kernel
theorem dX5_chooseFirst_83 : decode cX5_chooseFirst 83 = .ok (.iload 4, 2) := by decide +kernel
theorem dX5_chooseFirst_85 : decode cX5_chooseFirst 85 = .ok (.istore_n 1, 1) := by decide +kernel
theorem dX5_chooseFirst_86 : decode cX5_chooseFirst 86 = .ok (.aload_n 0, 1) := by decide +kernel
theorem dX5_chooseFirst_87 : decode cX5_chooseFirst 87 = .ok (.dup, 1) := by decide +kernel
theorem dX5_chooseFirst_88 : decode cX5_chooseFirst 88 = .ok (.getfield 113, 3) := by decide +kernel
theorem dX5_chooseFirst_91 : decode cX5_chooseFirst 91 = .ok (.iconst 1, 1) := by decide +kernel
theorem dX5_chooseFirst_92 : decode cX5_chooseFirst 92 = .ok (.iadd, 1) := by decide +kernel
theorem dX5_chooseFirst_93 : decode cX5_chooseFirst 93 = .ok (.putfield 113, 3) := by decide +kernel
theorem dX5_chooseFirst_96 : decode cX5_chooseFirst 96 = .ok (.iinc 3 1, 3) := by decide +kernel
theorem dX5_chooseFirst_99 : decode cX5_chooseFirst 99 = .ok (.goto (-83), 3) := by decide +kernel
theorem dX5_chooseFirst_102 : decode cX5_chooseFirst 102 = .ok (.return_, 1) := by decide +kernel
theorem dX5_bestStand_0 : decode cX5_bestStand 0 = .ok (.iconst 0, 1) := by decide +kernel
theorem dX5_bestStand_1 : decode cX5_bestStand 1 = .ok (.istore 4, 2) := by decide +kernel
theorem dX5_bestStand_3 : decode cX5_bestStand 3 = .ok (.iload 4, 2) := by decide +kernel
theorem dX5_bestStand_5 : decode cX5_bestStand 5 = .ok (.iconst 2, 1) := by decide +kernel
theorem dX5_bestStand_6 : decode cX5_bestStand 6 = .ok (.if_icmp .ge 41, 3) := by decide +kernel
theorem dX5_bestStand_9 : decode cX5_bestStand 9 = .ok (.aload_n 0, 1) := by decide +kernel
theorem dX5_bestStand_10 : decode cX5_bestStand 10 = .ok (.getfield 34, 3) := by decide +kernel
theorem dX5_bestStand_13 : decode cX5_bestStand 13 = .ok (.iload_n 1, 1) := by decide +kernel
theorem dX5_bestStand_14 : decode cX5_bestStand 14 = .ok (.iload_n 2, 1) := by decide +kernel
theorem dX5_bestStand_15 : decode cX5_bestStand 15 = .ok (.iload 4, 2) := by decide +kernel
theorem dX5_bestStand_17 : decode cX5_bestStand 17 = .ok (.invokevirtual 103, 3) := by decide +kernel
theorem dX5_bestStand_20 : decode cX5_bestStand 20 = .ok (.istore 5, 2) := by decide +kernel
theorem dX5_bestStand_22 : decode cX5_bestStand 22 = .ok (.iload 5, 2) := by decide +kernel
theorem dX5_bestStand_24 : decode cX5_bestStand 24 = .ok (.ifCond .lt 17, 3) := by decide +kernel
theorem dX5_bestStand_27 : decode cX5_bestStand 27 = .ok (.aload_n 0, 1) := by decide +kernel
theorem dX5_bestStand_28 : decode cX5_bestStand 28 = .ok (.getfield 15, 3) := by decide +kernel
theorem dX5_bestStand_31 : decode cX5_bestStand 31 = .ok (.iload 5, 2) := by decide +kernel
theorem dX5_bestStand_33 : decode cX5_bestStand 33 = .ok (.iaload, 1) := by decide +kernel
theorem dX5_bestStand_34 : decode cX5_bestStand 34 = .ok (.iload_n 3, 1) := by decide +kernel
theorem dX5_bestStand_35 : decode cX5_bestStand 35 = .ok (.if_icmp .ne 6, 3) := by decide +kernel
theorem dX5_bestStand_38 : decode cX5_bestStand 38 = .ok (.iload 5, 2) := by decide +kernel
theorem dX5_bestStand_40 : decode cX5_bestStand 40 = .ok (.ireturn, 1) := by decide +kernel
theorem dX5_bestStand_41 : decode cX5_bestStand 41 = .ok (.iinc 4 1, 3) := by decide +kernel
theorem dX5_bestStand_44 : decode cX5_bestStand 44 = .ok (.goto (-41), 3) := by decide +kernel
theorem dX5_bestStand_47 : decode cX5_bestStand 47 = .ok (.iconst 0, 1) := by decide +kernel
theorem dX5_bestStand_48 : decode cX5_bestStand 48 = .ok (.ireturn, 1) := by decide +kernel
theorem dX5_reasonBehind_0 : decode cX5_reasonBehind 0 = .ok (.aload_n 0, 1) := by decide +kernel
theorem dX5_reasonBehind_1 : decode cX5_reasonBehind 1 = .ok (.getfield 34, 3) := by decide +kernel
theorem dX5_reasonBehind_4 : decode cX5_reasonBehind 4 = .ok (.iload_n 1, 1) := by decide +kernel
theorem dX5_reasonBehind_5 : decode cX5_reasonBehind 5 = .ok (.iload_n 2, 1) := by decide +kernel
theorem dX5_reasonBehind_6 : decode cX5_reasonBehind 6 = .ok (.iconst 0, 1) := by decide +kernel
theorem dX5_reasonBehind_7 : decode cX5_reasonBehind 7 = .ok (.invokevirtual 103, 3) := by decide +kernel
theorem dX5_reasonBehind_10 : decode cX5_reasonBehind 10 = .ok (.lookupswitch 30 #[(-2, 28), (-1, 26)], 26) := by decide +kernel
theorem dX5_reasonBehind_36 : decode cX5_reasonBehind 36 = .ok (.iconst 1, 1) := by decide +kernel
theorem dX5_reasonBehind_37 : decode cX5_reasonBehind 37 = .ok (.ireturn, 1) := by decide +kernel
theorem dX5_reasonBehind_38 : decode cX5_reasonBehind 38 = .ok (.iconst 2, 1) := by decide +kernel
theorem dX5_reasonBehind_39 : decode cX5_reasonBehind 39 = .ok (.ireturn, 1) := by decide +kernel
theorem dX5_reasonBehind_40 : decode cX5_reasonBehind 40 = .ok (.iconst 3, 1) := by decide +kernel
theorem dX5_reasonBehind_41 : decode cX5_reasonBehind 41 = .ok (.ireturn, 1) := by decide +kernel
theorem dX5_findSwap_0 : decode cX5_findSwap 0 = .ok (.aload_n 0, 1) := by decide +kernel
theorem dX5_findSwap_1 : decode cX5_findSwap 1 = .ok (.bipush (-9), 2) := by decide +kernel
theorem dX5_findSwap_3 : decode cX5_findSwap 3 = .ok (.putfield 123, 3) := by decide +kernel
theorem dX5_findSwap_6 : decode cX5_findSwap 6 = .ok (.aload_n 0, 1) := by decide +kernel
theorem dX5_findSwap_7 : decode cX5_findSwap 7 = .ok (.bipush (-9), 2) := by decide +kernel
theorem dX5_findSwap_9 : decode cX5_findSwap 9 = .ok (.putfield 126, 3) := by decide +kernel
theorem dX5_findSwap_12 : decode cX5_findSwap 12 = .ok (.aload_n 0, 1) := by decide +kernel
theorem dX5_findSwap_13 : decode cX5_findSwap 13 = .ok (.invokevirtual 129, 3) := by decide +kernel
theorem dX5_findSwap_16 : decode cX5_findSwap 16 = .ok (.istore_n 1, 1) := by decide +kernel
theorem dX5_findSwap_17 : decode cX5_findSwap 17 = .ok (.iconst 1, 1) := by decide +kernel
theorem dX5_findSwap_18 : decode cX5_findSwap 18 = .ok (.istore_n 2, 1) := by decide +kernel
theorem dX5_findSwap_19 : decode cX5_findSwap 19 = .ok (.iload_n 2, 1) := by decide +kernel
theorem dX5_findSwap_20 : decode cX5_findSwap 20 = .ok (.aload_n 0, 1) := by decide +kernel
theorem dX5_findSwap_21 : decode cX5_findSwap 21 = .ok (.getfield 34, 3) := by decide +kernel
theorem dX5_findSwap_24 : decode cX5_findSwap 24 = .ok (.invokevirtual 83, 3) := by decide +kernel
theorem dX5_findSwap_27 : decode cX5_findSwap 27 = .ok (.if_icmp .ge 38, 3) := by decide +kernel
theorem dX5_findSwap_30 : decode cX5_findSwap 30 = .ok (.aload_n 0, 1) := by decide +kernel
theorem dX5_findSwap_31 : decode cX5_findSwap 31 = .ok (.iload_n 2, 1) := by decide +kernel
theorem dX5_findSwap_32 : decode cX5_findSwap 32 = .ok (.invokevirtual 132, 3) := by decide +kernel
theorem dX5_findSwap_35 : decode cX5_findSwap 35 = .ok (.aload_n 0, 1) := by decide +kernel
theorem dX5_findSwap_36 : decode cX5_findSwap 36 = .ok (.iload_n 2, 1) := by decide +kernel
theorem dX5_findSwap_37 : decode cX5_findSwap 37 = .ok (.invokevirtual 135, 3) := by decide +kernel
theorem dX5_findSwap_40 : decode cX5_findSwap 40 = .ok (.iadd, 1) := by decide +kernel
theorem dX5_findSwap_41 : decode cX5_findSwap 41 = .ok (.istore_n 3, 1) := by decide +kernel
theorem dX5_findSwap_42 : decode cX5_findSwap 42 = .ok (.iload_n 3, 1) := by decide +kernel
theorem dX5_findSwap_43 : decode cX5_findSwap 43 = .ok (.iload_n 1, 1) := by decide +kernel
theorem dX5_findSwap_44 : decode cX5_findSwap 44 = .ok (.if_icmp .le 15, 3) := by decide +kernel
theorem dX5_findSwap_47 : decode cX5_findSwap 47 = .ok (.iload_n 3, 1) := by decide +kernel
theorem dX5_findSwap_48 : decode cX5_findSwap 48 = .ok (.istore_n 1, 1) := by decide +kernel
theorem dX5_findSwap_49 : decode cX5_findSwap 49 = .ok (.aload_n 0, 1) := by decide +kernel
theorem dX5_findSwap_50 : decode cX5_findSwap 50 = .ok (.iload_n 2, 1) := by decide +kernel
theorem dX5_findSwap_51 : decode cX5_findSwap 51 = .ok (.putfield 123, 3) := by decide +kernel
theorem dX5_findSwap_54 : decode cX5_findSwap 54 = .ok (.aload_n 0, 1) := by decide +kernel
theorem dX5_findSwap_55 : decode cX5_findSwap 55 = .ok (.iload_n 3, 1) := by decide +kernel
theorem dX5_findSwap_56 : decode cX5_findSwap 56 = .ok (.putfield 126, 3) := by decide +kernel
theorem dX5_findSwap_59 : decode cX5_findSwap 59 = .ok (.iinc 2 1, 3) := by decide +kernel
theorem dX5_findSwap_62 : decode cX5_findSwap 62 = .ok (.goto (-43), 3) := by decide +kernel
theorem dX5_findSwap_65 : decode cX5_findSwap 65 = .ok (.return_, 1) := by decide +kernel
theorem dX5_goodAhead_0 : decode cX5_goodAhead 0 = .ok (.iconst 0, 1) := by decide +kernel
theorem dX5_goodAhead_1 : decode cX5_goodAhead 1 = .ok (.istore_n 2, 1) := by decide +kernel
theorem dX5_goodAhead_2 : decode cX5_goodAhead 2 = .ok (.iconst 0, 1) := by decide +kernel
theorem dX5_goodAhead_3 : decode cX5_goodAhead 3 = .ok (.istore_n 3, 1) := by decide +kernel
theorem dX5_goodAhead_4 : decode cX5_goodAhead 4 = .ok (.iload_n 3, 1) := by decide +kernel
theorem dX5_goodAhead_5 : decode cX5_goodAhead 5 = .ok (.iload_n 1, 1) := by decide +kernel
theorem dX5_goodAhead_6 : decode cX5_goodAhead 6 = .ok (.iconst 0, 1) := by decide +kernel
theorem dX5_goodAhead_7 : decode cX5_goodAhead 7 = .ok (.invokestatic 138, 3) := by decide +kernel
theorem dX5_goodAhead_10 : decode cX5_goodAhead 10 = .ok (.if_icmp .ge 20, 3) := by decide +kernel
theorem dX5_goodAhead_13 : decode cX5_goodAhead 13 = .ok (.iload_n 2, 1) := by decide +kernel
theorem dX5_goodAhead_14 : decode cX5_goodAhead 14 = .ok (.aload_n 0, 1) := by decide +kernel
theorem dX5_goodAhead_15 : decode cX5_goodAhead 15 = .ok (.getfield 9, 3) := by decide +kernel
theorem dX5_goodAhead_18 : decode cX5_goodAhead 18 = .ok (.iload_n 3, 1) := by decide +kernel
theorem dX5_goodAhead_19 : decode cX5_goodAhead 19 = .ok (.iaload, 1) := by decide +kernel
theorem dX5_goodAhead_20 : decode cX5_goodAhead 20 = .ok (.invokestatic 80, 3) := by decide +kernel
theorem dX5_goodAhead_23 : decode cX5_goodAhead 23 = .ok (.istore_n 2, 1) := by decide +kernel
theorem dX5_goodAhead_24 : decode cX5_goodAhead 24 = .ok (.iinc 3 1, 3) := by decide +kernel
theorem dX5_goodAhead_27 : decode cX5_goodAhead 27 = .ok (.goto (-23), 3) := by decide +kernel
theorem dX5_goodAhead_30 : decode cX5_goodAhead 30 = .ok (.iload_n 2, 1) := by decide +kernel
theorem dX5_goodAhead_31 : decode cX5_goodAhead 31 = .ok (.ireturn, 1) := by decide +kernel
theorem dX5_goodFrom_0 : decode cX5_goodFrom 0 = .ok (.iconst 0, 1) := by decide +kernel
theorem dX5_goodFrom_1 : decode cX5_goodFrom 1 = .ok (.istore_n 2, 1) := by decide +kernel
theorem dX5_goodFrom_2 : decode cX5_goodFrom 2 = .ok (.iload_n 1, 1) := by decide +kernel
theorem dX5_goodFrom_3 : decode cX5_goodFrom 3 = .ok (.istore_n 3, 1) := by decide +kernel
theorem dX5_goodFrom_4 : decode cX5_goodFrom 4 = .ok (.iload_n 3, 1) := by decide +kernel
theorem dX5_goodFrom_5 : decode cX5_goodFrom 5 = .ok (.aload_n 0, 1) := by decide +kernel
theorem dX5_goodFrom_6 : decode cX5_goodFrom 6 = .ok (.getfield 34, 3) := by decide +kernel
theorem dX5_goodFrom_9 : decode cX5_goodFrom 9 = .ok (.invokevirtual 83, 3) := by decide +kernel
theorem dX5_goodFrom_12 : decode cX5_goodFrom 12 = .ok (.if_icmp .ge 40, 3) := by decide +kernel
theorem dX5_goodFrom_15 : decode cX5_goodFrom 15 = .ok (.iconst 0, 1) := by decide +kernel
theorem dX5_goodFrom_16 : decode cX5_goodFrom 16 = .ok (.istore 4, 2) := by decide +kernel
theorem dX5_goodFrom_18 : decode cX5_goodFrom 18 = .ok (.iload 4, 2) := by decide +kernel
theorem dX5_goodFrom_20 : decode cX5_goodFrom 20 = .ok (.iconst 2, 1) := by decide +kernel
theorem dX5_goodFrom_21 : decode cX5_goodFrom 21 = .ok (.if_icmp .ge 25, 3) := by decide +kernel
theorem dX5_goodFrom_24 : decode cX5_goodFrom 24 = .ok (.iload_n 2, 1) := by decide +kernel
theorem dX5_goodFrom_25 : decode cX5_goodFrom 25 = .ok (.aload_n 0, 1) := by decide +kernel
theorem dX5_goodFrom_26 : decode cX5_goodFrom 26 = .ok (.getfield 15, 3) := by decide +kernel
theorem dX5_goodFrom_29 : decode cX5_goodFrom 29 = .ok (.iload_n 3, 1) := by decide +kernel
theorem dX5_goodFrom_30 : decode cX5_goodFrom 30 = .ok (.iload 4, 2) := by decide +kernel
theorem dX5_goodFrom_32 : decode cX5_goodFrom 32 = .ok (.invokestatic 138, 3) := by decide +kernel
theorem dX5_goodFrom_35 : decode cX5_goodFrom 35 = .ok (.iaload, 1) := by decide +kernel
theorem dX5_goodFrom_36 : decode cX5_goodFrom 36 = .ok (.invokestatic 80, 3) := by decide +kernel
theorem dX5_goodFrom_39 : decode cX5_goodFrom 39 = .ok (.istore_n 2, 1) := by decide +kernel
theorem dX5_goodFrom_40 : decode cX5_goodFrom 40 = .ok (.iinc 4 1, 3) := by decide +kernel
theorem dX5_goodFrom_43 : decode cX5_goodFrom 43 = .ok (.goto (-25), 3) := by decide +kernel
theorem dX5_goodFrom_46 : decode cX5_goodFrom 46 = .ok (.iinc 3 1, 3) := by decide +kernel
theorem dX5_goodFrom_49 : decode cX5_goodFrom 49 = .ok (.goto (-45), 3) := by decide +kernel
theorem dX5_goodFrom_52 : decode cX5_goodFrom 52 = .ok (.iload_n 2, 1) := by decide +kernel
theorem dX5_goodFrom_53 : decode cX5_goodFrom 53 = .ok (.ireturn, 1) := by decide +kernel
theorem dX6_init_0 : decode cX6_init 0 = .ok (.aload_n 0, 1) := by decide +kernel
theorem dX6_init_1 : decode cX6_init 1 = .ok (.invokespecial 3, 3) := by decide +kernel
theorem dX6_init_4 : decode cX6_init 4 = .ok (.aload_n 0, 1) := by decide +kernel
theorem dX6_init_5 : decode cX6_init 5 = .ok (.bipush 88, 2) := by decide +kernel
theorem dX6_init_7 : decode cX6_init 7 = .ok (.newarray .int, 2) := by decide +kernel
theorem dX6_init_9 : decode cX6_init 9 = .ok (.putfield 9, 3) := by decide +kernel
theorem dX6_init_12 : decode cX6_init 12 = .ok (.aload_n 0, 1) := by decide +kernel
theorem dX6_init_13 : decode cX6_init 13 = .ok (.bipush 88, 2) := by decide +kernel
theorem dX6_init_15 : decode cX6_init 15 = .ok (.newarray .int, 2) := by decide +kernel
theorem dX6_init_17 : decode cX6_init 17 = .ok (.putfield 15, 3) := by decide +kernel
theorem dX6_init_20 : decode cX6_init 20 = .ok (.aload_n 0, 1) := by decide +kernel
theorem dX6_init_21 : decode cX6_init 21 = .ok (.bipush 88, 2) := by decide +kernel
theorem dX6_init_23 : decode cX6_init 23 = .ok (.newarray .int, 2) := by decide +kernel
theorem dX6_init_25 : decode cX6_init 25 = .ok (.putfield 18, 3) := by decide +kernel
theorem dX6_init_28 : decode cX6_init 28 = .ok (.aload_n 0, 1) := by decide +kernel
theorem dX6_init_29 : decode cX6_init 29 = .ok (.aload_n 1, 1) := by decide +kernel
theorem dX6_init_30 : decode cX6_init 30 = .ok (.putfield 21, 3) := by decide +kernel
theorem dX6_init_33 : decode cX6_init 33 = .ok (.return_, 1) := by decide +kernel
theorem dX6_size_0 : decode cX6_size 0 = .ok (.aload_n 0, 1) := by decide +kernel
theorem dX6_size_1 : decode cX6_size 1 = .ok (.getfield 21, 3) := by decide +kernel
theorem dX6_size_4 : decode cX6_size 4 = .ok (.getfield 25, 3) := by decide +kernel
theorem dX6_size_7 : decode cX6_size 7 = .ok (.getfield 31, 3) := by decide +kernel
theorem dX6_size_10 : decode cX6_size 10 = .ok (.ireturn, 1) := by decide +kernel
theorem dX6_end_0 : decode cX6_end 0 = .ok (.aload_n 0, 1) := by decide +kernel
theorem dX6_end_1 : decode cX6_end 1 = .ok (.invokevirtual 37, 3) := by decide +kernel
theorem dX6_end_4 : decode cX6_end 4 = .ok (.iconst 0, 1) := by decide +kernel
theorem dX6_end_5 : decode cX6_end 5 = .ok (.invokestatic 40, 3) := by decide +kernel
theorem dX6_end_8 : decode cX6_end 8 = .ok (.ireturn, 1) := by decide +kernel
theorem dX6_standOf_0 : decode cX6_standOf 0 = .ok (.iload_n 0, 1) := by decide +kernel
theorem dX6_standOf_1 : decode cX6_standOf 1 = .ok (.iconst 1, 1) := by decide +kernel
theorem dX6_standOf_2 : decode cX6_standOf 2 = .ok (.iadd, 1) := by decide +kernel
theorem dX6_standOf_3 : decode cX6_standOf 3 = .ok (.iconst 2, 1) := by decide +kernel
theorem dX6_standOf_4 : decode cX6_standOf 4 = .ok (.imul, 1) := by decide +kernel
theorem dX6_standOf_5 : decode cX6_standOf 5 = .ok (.iload_n 1, 1) := by decide +kernel
theorem dX6_standOf_6 : decode cX6_standOf 6 = .ok (.iadd, 1) := by decide +kernel
theorem dX6_standOf_7 : decode cX6_standOf 7 = .ok (.iconst 4, 1) := by decide +kernel
theorem dX6_standOf_8 : decode cX6_standOf 8 = .ok (.imul, 1) := by decide +kernel
theorem dX6_standOf_9 : decode cX6_standOf 9 = .ok (.ireturn, 1) := by decide +kernel
theorem dX6_readingOf_0 : decode cX6_readingOf 0 = .ok (.iload_n 0, 1) := by decide +kernel
theorem dX6_readingOf_1 : decode cX6_readingOf 1 = .ok (.bipush 8, 2) := by decide +kernel
theorem dX6_readingOf_3 : decode cX6_readingOf 3 = .ok (.idiv, 1) := by decide +kernel
theorem dX6_readingOf_4 : decode cX6_readingOf 4 = .ok (.iconst 1, 1) := by decide +kernel
theorem dX6_readingOf_5 : decode cX6_readingOf 5 = .ok (.isub, 1) := by decide +kernel
theorem dX6_readingOf_6 : decode cX6_readingOf 6 = .ok (.ireturn, 1) := by decide +kernel
theorem dX6_slipOf_0 : decode cX6_slipOf 0 = .ok (.iload_n 0, 1) := by decide +kernel
theorem dX6_slipOf_1 : decode cX6_slipOf 1 = .ok (.iconst 4, 1) := by decide +kernel
theorem dX6_slipOf_2 : decode cX6_slipOf 2 = .ok (.idiv, 1) := by decide +kernel
theorem dX6_slipOf_3 : decode cX6_slipOf 3 = .ok (.iconst 2, 1) := by decide +kernel
theorem dX6_slipOf_4 : decode cX6_slipOf 4 = .ok (.irem, 1) := by decide +kernel
theorem dX6_slipOf_5 : decode cX6_slipOf 5 = .ok (.ireturn, 1) := by decide +kernel
theorem dX6_measure_0 : decode cX6_measure 0 = .ok (.aload_n 0, 1) := by decide +kernel
theorem dX6_measure_1 : decode cX6_measure 1 = .ok (.getfield 21, 3) := by decide +kernel
theorem dX6_measure_4 : decode cX6_measure 4 = .ok (.getfield 25, 3) := by decide +kernel
theorem dX6_measure_7 : decode cX6_measure 7 = .ok (.astore_n 1, 1) := by decide +kernel
theorem dX6_measure_8 : decode cX6_measure 8 = .ok (.iconst 0, 1) := by decide +kernel
theorem dX6_measure_9 : decode cX6_measure 9 = .ok (.istore_n 2, 1) := by decide +kernel
theorem dX6_measure_10 : decode cX6_measure 10 = .ok (.iload_n 2, 1) := by decide +kernel
theorem dX6_measure_11 : decode cX6_measure 11 = .ok (.aload_n 1, 1) := by decide +kernel
theorem dX6_measure_12 : decode cX6_measure 12 = .ok (.getfield 31, 3) := by decide +kernel
theorem dX6_measure_15 : decode cX6_measure 15 = .ok (.if_icmp .ge 67, 3) := by decide +kernel
theorem dX6_measure_18 : decode cX6_measure 18 = .ok (.aload_n 1, 1) := by decide +kernel
theorem dX6_measure_19 : decode cX6_measure 19 = .ok (.getfield 44, 3) := by decide +kernel
theorem dX6_measure_22 : decode cX6_measure 22 = .ok (.iload_n 2, 1) := by decide +kernel
theorem dX6_measure_23 : decode cX6_measure 23 = .ok (.iaload, 1) := by decide +kernel
theorem dX6_measure_24 : decode cX6_measure 24 = .ok (.istore_n 3, 1) := by decide +kernel
theorem dX6_measure_25 : decode cX6_measure 25 = .ok (.aload_n 1, 1) := by decide +kernel
theorem dX6_measure_26 : decode cX6_measure 26 = .ok (.getfield 47, 3) := by decide +kernel
theorem dX6_measure_29 : decode cX6_measure 29 = .ok (.iload_n 2, 1) := by decide +kernel
theorem dX6_measure_30 : decode cX6_measure 30 = .ok (.iaload, 1) := by decide +kernel
theorem dX6_measure_31 : decode cX6_measure 31 = .ok (.istore 4, 2) := by decide +kernel
theorem dX6_measure_33 : decode cX6_measure 33 = .ok (.aload_n 0, 1) := by decide +kernel
theorem dX6_measure_34 : decode cX6_measure 34 = .ok (.iload_n 2, 1) := by decide +kernel
theorem dX6_measure_35 : decode cX6_measure 35 = .ok (.iconst 0, 1) := by decide +kernel
theorem dX6_measure_36 : decode cX6_measure 36 = .ok (.invokestatic 40, 3) := by decide +kernel
theorem dX6_measure_39 : decode cX6_measure 39 = .ok (.aload_n 1, 1) := by decide +kernel
theorem dX6_measure_40 : decode cX6_measure 40 = .ok (.getfield 50, 3) := by decide +kernel
theorem dX6_measure_43 : decode cX6_measure 43 = .ok (.iload_n 2, 1) := by decide +kernel
theorem dX6_measure_44 : decode cX6_measure 44 = .ok (.iaload, 1) := by decide +kernel
theorem dX6_measure_45 : decode cX6_measure 45 = .ok (.iload_n 3, 1) := by decide +kernel
theorem dX6_measure_46 : decode cX6_measure 46 = .ok (.iconst 2, 1) := by decide +kernel
theorem dX6_measure_47 : decode cX6_measure 47 = .ok (.iload 4, 2) := by decide +kernel
theorem dX6_measure_49 : decode cX6_measure 49 = .ok (.imul, 1) := by decide +kernel
theorem dX6_measure_50 : decode cX6_measure 50 = .ok (.invokevirtual 51, 3) := by decide +kernel
theorem dX6_measure_53 : decode cX6_measure 53 = .ok (.aload_n 0, 1) := by decide +kernel
theorem dX6_measure_54 : decode cX6_measure 54 = .ok (.iload_n 2, 1) := by decide +kernel
theorem dX6_measure_55 : decode cX6_measure 55 = .ok (.iconst 1, 1) := by decide +kernel
theorem dX6_measure_56 : decode cX6_measure 56 = .ok (.invokestatic 40, 3) := by decide +kernel
theorem dX6_measure_59 : decode cX6_measure 59 = .ok (.aload_n 1, 1) := by decide +kernel
theorem dX6_measure_60 : decode cX6_measure 60 = .ok (.getfield 50, 3) := by decide +kernel
theorem dX6_measure_63 : decode cX6_measure 63 = .ok (.iload_n 2, 1) := by decide +kernel
theorem dX6_measure_64 : decode cX6_measure 64 = .ok (.iaload, 1) := by decide +kernel
theorem dX6_measure_65 : decode cX6_measure 65 = .ok (.iload_n 3, 1) := by decide +kernel
theorem dX6_measure_66 : decode cX6_measure 66 = .ok (.iconst 5, 1) := by decide +kernel
theorem dX6_measure_67 : decode cX6_measure 67 = .ok (.imul, 1) := by decide +kernel
theorem dX6_measure_68 : decode cX6_measure 68 = .ok (.bipush 8, 2) := by decide +kernel
theorem dX6_measure_70 : decode cX6_measure 70 = .ok (.idiv, 1) := by decide +kernel
theorem dX6_measure_71 : decode cX6_measure 71 = .ok (.iload 4, 2) := by decide +kernel
theorem dX6_measure_73 : decode cX6_measure 73 = .ok (.invokevirtual 51, 3) := by decide +kernel
theorem dX6_measure_76 : decode cX6_measure 76 = .ok (.iinc 2 1, 3) := by decide +kernel
theorem dX6_measure_79 : decode cX6_measure 79 = .ok (.goto (-69), 3) := by decide +kernel
theorem dX6_measure_82 : decode cX6_measure 82 = .ok (.return_, 1) := by decide +kernel
theorem dX6_place_0 : decode cX6_place 0 = .ok (.iconst 0, 1) := by decide +kernel
theorem dX6_place_1 : decode cX6_place 1 = .ok (.istore 5, 2) := by decide +kernel
theorem dX6_place_3 : decode cX6_place 3 = .ok (.iload 5, 2) := by decide +kernel
theorem dX6_place_5 : decode cX6_place 5 = .ok (.iconst 4, 1) := by decide +kernel
theorem dX6_place_6 : decode cX6_place 6 = .ok (.if_icmp .ge 51, 3) := by decide +kernel
theorem dX6_place_9 : decode cX6_place 9 = .ok (.aload_n 0, 1) := by decide +kernel
theorem dX6_place_10 : decode cX6_place 10 = .ok (.getfield 9, 3) := by decide +kernel
theorem dX6_place_13 : decode cX6_place 13 = .ok (.iload_n 1, 1) := by decide +kernel
theorem dX6_place_14 : decode cX6_place 14 = .ok (.iload 5, 2) := by decide +kernel
theorem dX6_place_16 : decode cX6_place 16 = .ok (.iadd, 1) := by decide +kernel
theorem dX6_place_17 : decode cX6_place 17 = .ok (.iload_n 2, 1) := by decide +kernel
theorem dX6_place_18 : decode cX6_place 18 = .ok (.iastore, 1) := by decide +kernel
theorem dX6_place_19 : decode cX6_place 19 = .ok (.aload_n 0, 1) := by decide +kernel
theorem dX6_place_20 : decode cX6_place 20 = .ok (.getfield 15, 3) := by decide +kernel
theorem dX6_place_23 : decode cX6_place 23 = .ok (.iload_n 1, 1) := by decide +kernel
theorem dX6_place_24 : decode cX6_place 24 = .ok (.iload 5, 2) := by decide +kernel
theorem dX6_place_26 : decode cX6_place 26 = .ok (.iadd, 1) := by decide +kernel
theorem dX6_place_27 : decode cX6_place 27 = .ok (.iload_n 3, 1) := by decide +kernel
theorem dX6_place_28 : decode cX6_place 28 = .ok (.iload 5, 2) := by decide +kernel
theorem dX6_place_30 : decode cX6_place 30 = .ok (.aload_n 0, 1) := by decide +kernel
theorem dX6_place_31 : decode cX6_place 31 = .ok (.getfield 21, 3) := by decide +kernel
theorem dX6_place_34 : decode cX6_place 34 = .ok (.getfield 55, 3) := by decide +kernel
theorem dX6_place_37 : decode cX6_place 37 = .ok (.imul, 1) := by decide +kernel
theorem dX6_place_38 : decode cX6_place 38 = .ok (.iadd, 1) := by decide +kernel
theorem dX6_place_39 : decode cX6_place 39 = .ok (.iastore, 1) := by decide +kernel
theorem dX6_place_40 : decode cX6_place 40 = .ok (.aload_n 0, 1) := by decide +kernel
theorem dX6_place_41 : decode cX6_place 41 = .ok (.getfield 18, 3) := by decide +kernel
theorem dX6_place_44 : decode cX6_place 44 = .ok (.iload_n 1, 1) := by decide +kernel
theorem dX6_place_45 : decode cX6_place 45 = .ok (.iload 5, 2) := by decide +kernel
theorem dX6_place_47 : decode cX6_place 47 = .ok (.iadd, 1) := by decide +kernel
theorem dX6_place_48 : decode cX6_place 48 = .ok (.iload 4, 2) := by decide +kernel
theorem dX6_place_50 : decode cX6_place 50 = .ok (.iastore, 1) := by decide +kernel
theorem dX6_place_51 : decode cX6_place 51 = .ok (.iinc 5 1, 3) := by decide +kernel
theorem dX6_place_54 : decode cX6_place 54 = .ok (.goto (-51), 3) := by decide +kernel
theorem dX6_place_57 : decode cX6_place 57 = .ok (.return_, 1) := by decide +kernel
theorem dX6_following_0 : decode cX6_following 0 = .ok (.iload_n 2, 1) := by decide +kernel
theorem dX6_following_1 : decode cX6_following 1 = .ok (.iload_n 3, 1) := by decide +kernel
theorem dX6_following_2 : decode cX6_following 2 = .ok (.invokestatic 40, 3) := by decide +kernel
theorem dX6_following_5 : decode cX6_following 5 = .ok (.istore 4, 2) := by decide +kernel
theorem dX6_following_7 : decode cX6_following 7 = .ok (.iload_n 1, 1) := by decide +kernel
theorem dX6_following_8 : decode cX6_following 8 = .ok (.ifCond .ne 6, 3) := by decide +kernel
theorem dX6_following_11 : decode cX6_following 11 = .ok (.iload 4, 2) := by decide +kernel
theorem dX6_following_13 : decode cX6_following 13 = .ok (.ireturn, 1) := by decide +kernel
theorem dX6_following_14 : decode cX6_following 14 = .ok (.iconst 0, 1) := by decide +kernel
theorem dX6_following_15 : decode cX6_following 15 = .ok (.istore 5, 2) := by decide +kernel
theorem dX6_following_17 : decode cX6_following 17 = .ok (.iload 5, 2) := by decide +kernel
theorem dX6_following_19 : decode cX6_following 19 = .ok (.iconst 4, 1) := by decide +kernel
theorem dX6_following_20 : decode cX6_following 20 = .ok (.if_icmp .ge 66, 3) := by decide +kernel
theorem dX6_following_23 : decode cX6_following 23 = .ok (.aload_n 0, 1) := by decide +kernel
theorem dX6_following_24 : decode cX6_following 24 = .ok (.getfield 15, 3) := by decide +kernel
theorem dX6_following_27 : decode cX6_following 27 = .ok (.iload 4, 2) := by decide +kernel
theorem dX6_following_29 : decode cX6_following 29 = .ok (.iload 5, 2) := by decide +kernel
theorem dX6_following_31 : decode cX6_following 31 = .ok (.iadd, 1) := by decide +kernel
theorem dX6_following_32 : decode cX6_following 32 = .ok (.iaload, 1) := by decide +kernel
theorem dX6_following_33 : decode cX6_following 33 = .ok (.aload_n 0, 1) := by decide +kernel
theorem dX6_following_34 : decode cX6_following 34 = .ok (.getfield 15, 3) := by decide +kernel
theorem dX6_following_37 : decode cX6_following 37 = .ok (.iload_n 1, 1) := by decide +kernel
theorem dX6_following_38 : decode cX6_following 38 = .ok (.iaload, 1) := by decide +kernel
theorem dX6_following_39 : decode cX6_following 39 = .ok (.isub, 1) := by decide +kernel
theorem dX6_following_40 : decode cX6_following 40 = .ok (.istore 6, 2) := by decide +kernel
theorem dX6_following_42 : decode cX6_following 42 = .ok (.iload 6, 2) := by decide +kernel
theorem dX6_following_44 : decode cX6_following 44 = .ok (.ifCond .lt 36, 3) := by decide +kernel
theorem dX6_following_47 : decode cX6_following 47 = .ok (.iload 6, 2) := by decide +kernel
theorem dX6_following_49 : decode cX6_following 49 = .ok (.aload_n 0, 1) := by decide +kernel
theorem dX6_following_50 : decode cX6_following 50 = .ok (.aload_n 0, 1) := by decide +kernel
theorem dX6_following_51 : decode cX6_following 51 = .ok (.getfield 9, 3) := by decide +kernel
theorem dX6_following_54 : decode cX6_following 54 = .ok (.iload_n 1, 1) := by decide +kernel
theorem dX6_following_55 : decode cX6_following 55 = .ok (.iaload, 1) := by decide +kernel
theorem dX6_following_56 : decode cX6_following 56 = .ok (.aload_n 0, 1) := by decide +kernel
theorem dX6_following_57 : decode cX6_following 57 = .ok (.getfield 9, 3) := by decide +kernel
theorem dX6_following_60 : decode cX6_following 60 = .ok (.iload 4, 2) := by decide +kernel
theorem dX6_following_62 : decode cX6_following 62 = .ok (.iaload, 1) := by decide +kernel
theorem dX6_following_63 : decode cX6_following 63 = .ok (.invokevirtual 58, 3) := by decide +kernel
theorem dX6_following_66 : decode cX6_following 66 = .ok (.if_icmp .gt 11, 3) := by decide +kernel
theorem dX6_following_69 : decode cX6_following 69 = .ok (.iload 4, 2) := by decide +kernel
theorem dX6_following_71 : decode cX6_following 71 = .ok (.iload 5, 2) := by decide +kernel
theorem dX6_following_73 : decode cX6_following 73 = .ok (.iadd, 1) := by decide +kernel
theorem dX6_following_74 : decode cX6_following 74 = .ok (.goto 5, 3) := by decide +kernel
theorem dX6_following_77 : decode cX6_following 77 = .ok (.bipush (-2), 2) := by decide +kernel
theorem dX6_following_79 : decode cX6_following 79 = .ok (.ireturn, 1) := by decide +kernel
theorem dX6_following_80 : decode cX6_following 80 = .ok (.iinc 5 1, 3) := by decide +kernel
theorem dX6_following_83 : decode cX6_following 83 = .ok (.goto (-66), 3) := by decide +kernel
theorem dX6_following_86 : decode cX6_following 86 = .ok (.iconst (-1), 1) := by decide +kernel
theorem dX6_following_87 : decode cX6_following 87 = .ok (.ireturn, 1) := by decide +kernel
theorem dX6_mostGone_0 : decode cX6_mostGone 0 = .ok (.aload_n 0, 1) := by decide +kernel
theorem dX6_mostGone_1 : decode cX6_mostGone 1 = .ok (.getfield 21, 3) := by decide +kernel
theorem dX6_mostGone_4 : decode cX6_mostGone 4 = .ok (.getfield 61, 3) := by decide +kernel
theorem dX6_mostGone_7 : decode cX6_mostGone 7 = .ok (.iload_n 2, 1) := by decide +kernel
theorem dX6_mostGone_8 : decode cX6_mostGone 8 = .ok (.iload_n 1, 1) := by decide +kernel
theorem dX6_mostGone_9 : decode cX6_mostGone 9 = .ok (.isub, 1) := by decide +kernel
theorem dX6_mostGone_10 : decode cX6_mostGone 10 = .ok (.imul, 1) := by decide +kernel
theorem dX6_mostGone_11 : decode cX6_mostGone 11 = .ok (.ireturn, 1) := by decide +kernel
theorem dX7_init_0 : decode cX7_init 0 = .ok (.aload_n 0, 1) := by decide +kernel
theorem dX7_init_1 : decode cX7_init 1 = .ok (.invokespecial 3, 3) := by decide +kernel
theorem dX7_init_4 : decode cX7_init 4 = .ok (.aload_n 0, 1) := by decide +kernel
theorem dX7_init_5 : decode cX7_init 5 = .ok (.bipush 120, 2) := by decide +kernel
theorem dX7_init_7 : decode cX7_init 7 = .ok (.newarray .int, 2) := by decide +kernel
theorem dX7_init_9 : decode cX7_init 9 = .ok (.putfield 9, 3) := by decide +kernel
theorem dX7_init_12 : decode cX7_init 12 = .ok (.aload_n 0, 1) := by decide +kernel
theorem dX7_init_13 : decode cX7_init 13 = .ok (.new 15, 3) := by decide +kernel
theorem dX7_init_16 : decode cX7_init 16 = .ok (.dup, 1) := by decide +kernel
theorem dX7_init_17 : decode cX7_init 17 = .ok (.invokespecial 17, 3) := by decide +kernel
theorem dX7_init_20 : decode cX7_init 20 = .ok (.putfield 18, 3) := by decide +kernel
theorem dX7_init_23 : decode cX7_init 23 = .ok (.aload_n 0, 1) := by decide +kernel
theorem dX7_init_24 : decode cX7_init 24 = .ok (.new 22, 3) := by decide +kernel
theorem dX7_init_27 : decode cX7_init 27 = .ok (.dup, 1) := by decide +kernel
theorem dX7_init_28 : decode cX7_init 28 = .ok (.invokespecial 24, 3) := by decide +kernel
theorem dX7_init_31 : decode cX7_init 31 = .ok (.putfield 25, 3) := by decide +kernel
theorem dX7_init_34 : decode cX7_init 34 = .ok (.return_, 1) := by decide +kernel
theorem dX7_take_0 : decode cX7_take 0 = .ok (.aload_n 0, 1) := by decide +kernel
theorem dX7_take_1 : decode cX7_take 1 = .ok (.getfield 29, 3) := by decide +kernel
theorem dX7_take_4 : decode cX7_take 4 = .ok (.bipush 120, 2) := by decide +kernel
theorem dX7_take_6 : decode cX7_take 6 = .ok (.if_icmp .lt 6, 3) := by decide +kernel
theorem dX7_take_9 : decode cX7_take 9 = .ok (.bipush (-3), 2) := by decide +kernel
theorem dX7_take_11 : decode cX7_take 11 = .ok (.ireturn, 1) := by decide +kernel
theorem dX7_take_12 : decode cX7_take 12 = .ok (.aload_n 0, 1) := by decide +kernel
theorem dX7_take_13 : decode cX7_take 13 = .ok (.getfield 9, 3) := by decide +kernel
theorem dX7_take_16 : decode cX7_take 16 = .ok (.aload_n 0, 1) := by decide +kernel
theorem dX7_take_17 : decode cX7_take 17 = .ok (.getfield 29, 3) := by decide +kernel
theorem dX7_take_20 : decode cX7_take 20 = .ok (.iload_n 1, 1) := by decide +kernel
theorem dX7_take_21 : decode cX7_take 21 = .ok (.iastore, 1) := by decide +kernel
theorem dX7_take_22 : decode cX7_take 22 = .ok (.aload_n 0, 1) := by decide +kernel
theorem dX7_take_23 : decode cX7_take 23 = .ok (.dup, 1) := by decide +kernel
theorem dX7_take_24 : decode cX7_take 24 = .ok (.getfield 29, 3) := by decide +kernel
theorem dX7_take_27 : decode cX7_take 27 = .ok (.iconst 1, 1) := by decide +kernel
theorem dX7_take_28 : decode cX7_take 28 = .ok (.iadd, 1) := by decide +kernel
theorem dX7_take_29 : decode cX7_take 29 = .ok (.putfield 29, 3) := by decide +kernel
theorem dX7_take_32 : decode cX7_take 32 = .ok (.aload_n 0, 1) := by decide +kernel
theorem dX7_take_33 : decode cX7_take 33 = .ok (.getfield 29, 3) := by decide +kernel
theorem dX7_take_36 : decode cX7_take 36 = .ok (.ireturn, 1) := by decide +kernel
theorem dX7_empty_0 : decode cX7_empty 0 = .ok (.aload_n 0, 1) := by decide +kernel
theorem dX7_empty_1 : decode cX7_empty 1 = .ok (.getfield 29, 3) := by decide +kernel
theorem dX7_empty_4 : decode cX7_empty 4 = .ok (.istore_n 1, 1) := by decide +kernel
theorem dX7_empty_5 : decode cX7_empty 5 = .ok (.aload_n 0, 1) := by decide +kernel
theorem dX7_empty_6 : decode cX7_empty 6 = .ok (.iconst 0, 1) := by decide +kernel
theorem dX7_empty_7 : decode cX7_empty 7 = .ok (.putfield 29, 3) := by decide +kernel
theorem dX7_empty_10 : decode cX7_empty 10 = .ok (.iload_n 1, 1) := by decide +kernel
theorem dX7_empty_11 : decode cX7_empty 11 = .ok (.ireturn, 1) := by decide +kernel
theorem dX7_read_0 : decode cX7_read 0 = .ok (.aload_n 0, 1) := by decide +kernel
theorem dX7_read_1 : decode cX7_read 1 = .ok (.invokevirtual 33, 3) := by decide +kernel
theorem dX7_read_4 : decode cX7_read 4 = .ok (.iconst 0, 1) := by decide +kernel
theorem dX7_read_5 : decode cX7_read 5 = .ok (.istore_n 1, 1) := by decide +kernel
theorem dX7_read_6 : decode cX7_read 6 = .ok (.iload_n 1, 1) := by decide +kernel
theorem dX7_read_7 : decode cX7_read 7 = .ok (.bipush 120, 2) := by decide +kernel
theorem dX7_read_9 : decode cX7_read 9 = .ok (.if_icmp .gt 126, 3) := by decide +kernel
theorem dX7_read_12 : decode cX7_read 12 = .ok (.iconst 0, 1) := by decide +kernel
theorem dX7_read_13 : decode cX7_read 13 = .ok (.istore_n 2, 1) := by decide +kernel
theorem dX7_read_14 : decode cX7_read 14 = .ok (.aload_n 0, 1) := by decide +kernel
theorem dX7_read_15 : decode cX7_read 15 = .ok (.invokevirtual 36, 3) := by decide +kernel
theorem dX7_read_18 : decode cX7_read 18 = .ok (.aload_n 0, 1) := by decide +kernel
theorem dX7_read_19 : decode cX7_read 19 = .ok (.getfield 39, 3) := by decide +kernel
theorem dX7_read_22 : decode cX7_read 22 = .ok (.lookupswitch 100 #[(-1, 58), (102, 68), (111, 84), (112, 92), (114, 60), (119, 76)], 58) := by decide +kernel
theorem dX7_read_80 : decode cX7_read 80 = .ok (.iload_n 1, 1) := by decide +kernel
theorem dX7_read_81 : decode cX7_read 81 = .ok (.ireturn, 1) := by decide +kernel
theorem dX7_read_82 : decode cX7_read 82 = .ok (.aload_n 0, 1) := by decide +kernel
theorem dX7_read_83 : decode cX7_read 83 = .ok (.invokevirtual 42, 3) := by decide +kernel
theorem dX7_read_86 : decode cX7_read 86 = .ok (.istore_n 2, 1) := by decide +kernel
theorem dX7_read_87 : decode cX7_read 87 = .ok (.goto 35, 3) := by decide +kernel
theorem dX7_read_90 : decode cX7_read 90 = .ok (.aload_n 0, 1) := by decide +kernel
theorem dX7_read_91 : decode cX7_read 91 = .ok (.invokevirtual 46, 3) := by decide +kernel
theorem dX7_read_94 : decode cX7_read 94 = .ok (.istore_n 2, 1) := by decide +kernel
theorem dX7_read_95 : decode cX7_read 95 = .ok (.goto 27, 3) := by decide +kernel
theorem dX7_read_98 : decode cX7_read 98 = .ok (.aload_n 0, 1) := by decide +kernel
theorem dX7_read_99 : decode cX7_read 99 = .ok (.invokevirtual 49, 3) := by decide +kernel
theorem dX7_read_102 : decode cX7_read 102 = .ok (.istore_n 2, 1) := by decide +kernel
theorem dX7_read_103 : decode cX7_read 103 = .ok (.goto 19, 3) := by decide +kernel
theorem dX7_read_106 : decode cX7_read 106 = .ok (.aload_n 0, 1) := by decide +kernel
theorem dX7_read_107 : decode cX7_read 107 = .ok (.invokevirtual 52, 3) := by decide +kernel
theorem dX7_read_110 : decode cX7_read 110 = .ok (.istore_n 2, 1) := by decide +kernel
theorem dX7_read_111 : decode cX7_read 111 = .ok (.goto 11, 3) := by decide +kernel
theorem dX7_read_114 : decode cX7_read 114 = .ok (.aload_n 0, 1) := by decide +kernel
theorem dX7_read_115 : decode cX7_read 115 = .ok (.invokevirtual 55, 3) := by decide +kernel
theorem dX7_read_118 : decode cX7_read 118 = .ok (.istore_n 2, 1) := by decide +kernel
theorem dX7_read_119 : decode cX7_read 119 = .ok (.goto 3, 3) := by decide +kernel
theorem dX7_read_122 : decode cX7_read 122 = .ok (.iload_n 2, 1) := by decide +kernel
theorem dX7_read_123 : decode cX7_read 123 = .ok (.ifCond .ne 6, 3) := by decide +kernel
theorem dX7_read_126 : decode cX7_read 126 = .ok (.goto 9, 3) := by decide +kernel
theorem dX7_read_129 : decode cX7_read 129 = .ok (.iinc 1 1, 3) := by decide +kernel
theorem dX7_read_132 : decode cX7_read 132 = .ok (.goto (-126), 3) := by decide +kernel
theorem dX7_read_135 : decode cX7_read 135 = .ok (.bipush (-10), 2) := by decide +kernel
theorem dX7_read_137 : decode cX7_read 137 = .ok (.aload_n 0, 1) := by decide +kernel
theorem dX7_read_138 : decode cX7_read 138 = .ok (.getfield 58, 3) := by decide +kernel
theorem dX7_read_141 : decode cX7_read 141 = .ok (.isub, 1) := by decide +kernel
theorem dX7_read_142 : decode cX7_read 142 = .ok (.ireturn, 1) := by decide +kernel
theorem dX7_begin_0 : decode cX7_begin 0 = .ok (.aload_n 0, 1) := by decide +kernel
theorem dX7_begin_1 : decode cX7_begin 1 = .ok (.getfield 18, 3) := by decide +kernel
theorem dX7_begin_4 : decode cX7_begin 4 = .ok (.invokevirtual 61, 3) := by decide +kernel
theorem dX7_begin_7 : decode cX7_begin 7 = .ok (.aload_n 0, 1) := by decide +kernel
theorem dX7_begin_8 : decode cX7_begin 8 = .ok (.getfield 25, 3) := by decide +kernel
theorem dX7_begin_11 : decode cX7_begin 11 = .ok (.invokevirtual 64, 3) := by decide +kernel
theorem dX7_begin_14 : decode cX7_begin 14 = .ok (.aload_n 0, 1) := by decide +kernel
theorem dX7_begin_15 : decode cX7_begin 15 = .ok (.iconst 0, 1) := by decide +kernel
theorem dX7_begin_16 : decode cX7_begin 16 = .ok (.putfield 65, 3) := by decide +kernel
theorem dX7_begin_19 : decode cX7_begin 19 = .ok (.aload_n 0, 1) := by decide +kernel
theorem dX7_begin_20 : decode cX7_begin 20 = .ok (.iconst 0, 1) := by decide +kernel
theorem dX7_begin_21 : decode cX7_begin 21 = .ok (.putfield 68, 3) := by decide +kernel
theorem dX7_begin_24 : decode cX7_begin 24 = .ok (.aload_n 0, 1) := by decide +kernel
theorem dX7_begin_25 : decode cX7_begin 25 = .ok (.iconst 0, 1) := by decide +kernel
theorem dX7_begin_26 : decode cX7_begin 26 = .ok (.putfield 72, 3) := by decide +kernel
theorem dX7_begin_29 : decode cX7_begin 29 = .ok (.aload_n 0, 1) := by decide +kernel
theorem dX7_begin_30 : decode cX7_begin 30 = .ok (.iconst 0, 1) := by decide +kernel
theorem dX7_begin_31 : decode cX7_begin 31 = .ok (.putfield 75, 3) := by decide +kernel
theorem dX7_begin_34 : decode cX7_begin 34 = .ok (.return_, 1) := by decide +kernel
theorem dX7_readReading_0 : decode cX7_readReading 0 = .ok (.aload_n 0, 1) := by decide +kernel
theorem dX7_readReading_1 : decode cX7_readReading 1 = .ok (.getfield 18, 3) := by decide +kernel
theorem dX7_readReading_4 : decode cX7_readReading 4 = .ok (.getfield 78, 3) := by decide +kernel
theorem dX7_readReading_7 : decode cX7_readReading 7 = .ok (.invokevirtual 82, 3) := by decide +kernel
theorem dX7_readReading_10 : decode cX7_readReading 10 = .ok (.ifCond .eq 5, 3) := by decide +kernel
theorem dX7_readReading_13 : decode cX7_readReading 13 = .ok (.iconst 0, 1) := by decide +kernel
theorem dX7_readReading_14 : decode cX7_readReading 14 = .ok (.ireturn, 1) := by decide +kernel
theorem dX7_readReading_15 : decode cX7_readReading 15 = .ok (.aload_n 0, 1) := by decide +kernel
theorem dX7_readReading_16 : decode cX7_readReading 16 = .ok (.iconst 0, 1) := by decide +kernel
theorem dX7_readReading_17 : decode cX7_readReading 17 = .ok (.sipush 999, 3) := by decide +kernel
theorem dX7_readReading_20 : decode cX7_readReading 20 = .ok (.invokevirtual 87, 3) := by decide +kernel
theorem dX7_readReading_23 : decode cX7_readReading 23 = .ok (.istore_n 1, 1) := by decide +kernel
theorem dX7_readReading_24 : decode cX7_readReading 24 = .ok (.iload_n 1, 1) := by decide +kernel
theorem dX7_readReading_25 : decode cX7_readReading 25 = .ok (.ifCond .ge 5, 3) := by decide +kernel
theorem dX7_readReading_28 : decode cX7_readReading 28 = .ok (.iconst 0, 1) := by decide +kernel
theorem dX7_readReading_29 : decode cX7_readReading 29 = .ok (.ireturn, 1) := by decide +kernel
theorem dX7_readReading_30 : decode cX7_readReading 30 = .ok (.aload_n 0, 1) := by decide +kernel
theorem dX7_readReading_31 : decode cX7_readReading 31 = .ok (.iconst 0, 1) := by decide +kernel
theorem dX7_readReading_32 : decode cX7_readReading 32 = .ok (.sipush 9999, 3) := by decide +kernel
theorem dX7_readReading_35 : decode cX7_readReading 35 = .ok (.invokevirtual 87, 3) := by decide +kernel
theorem dX7_readReading_38 : decode cX7_readReading 38 = .ok (.istore_n 2, 1) := by decide +kernel
theorem dX7_readReading_39 : decode cX7_readReading 39 = .ok (.iload_n 2, 1) := by decide +kernel
theorem dX7_readReading_40 : decode cX7_readReading 40 = .ok (.ifCond .ge 5, 3) := by decide +kernel
theorem dX7_readReading_43 : decode cX7_readReading 43 = .ok (.iconst 0, 1) := by decide +kernel
theorem dX7_readReading_44 : decode cX7_readReading 44 = .ok (.ireturn, 1) := by decide +kernel
theorem dX7_readReading_45 : decode cX7_readReading 45 = .ok (.aload_n 0, 1) := by decide +kernel
theorem dX7_readReading_46 : decode cX7_readReading 46 = .ok (.iconst 1, 1) := by decide +kernel
theorem dX7_readReading_47 : decode cX7_readReading 47 = .ok (.bipush 9, 2) := by decide +kernel
theorem dX7_readReading_49 : decode cX7_readReading 49 = .ok (.invokevirtual 87, 3) := by decide +kernel
theorem dX7_readReading_52 : decode cX7_readReading 52 = .ok (.istore_n 3, 1) := by decide +kernel
theorem dX7_readReading_53 : decode cX7_readReading 53 = .ok (.iload_n 3, 1) := by decide +kernel
theorem dX7_readReading_54 : decode cX7_readReading 54 = .ok (.ifCond .lt 10, 3) := by decide +kernel
theorem dX7_readReading_57 : decode cX7_readReading 57 = .ok (.aload_n 0, 1) := by decide +kernel
theorem dX7_readReading_58 : decode cX7_readReading 58 = .ok (.invokevirtual 91, 3) := by decide +kernel
theorem dX7_readReading_61 : decode cX7_readReading 61 = .ok (.ifCond .ne 5, 3) := by decide +kernel
theorem dX7_readReading_64 : decode cX7_readReading 64 = .ok (.iconst 0, 1) := by decide +kernel
theorem dX7_readReading_65 : decode cX7_readReading 65 = .ok (.ireturn, 1) := by decide +kernel
theorem dX7_readReading_66 : decode cX7_readReading 66 = .ok (.aload_n 0, 1) := by decide +kernel
theorem dX7_readReading_67 : decode cX7_readReading 67 = .ok (.getfield 18, 3) := by decide +kernel
theorem dX7_readReading_70 : decode cX7_readReading 70 = .ok (.getfield 78, 3) := by decide +kernel
theorem dX7_readReading_73 : decode cX7_readReading 73 = .ok (.iload_n 1, 1) := by decide +kernel
theorem dX7_readReading_74 : decode cX7_readReading 74 = .ok (.iload_n 2, 1) := by decide +kernel
theorem dX7_readReading_75 : decode cX7_readReading 75 = .ok (.iload_n 3, 1) := by decide +kernel
theorem dX7_readReading_76 : decode cX7_readReading 76 = .ok (.invokevirtual 94, 3) := by decide +kernel
theorem dX7_readReading_79 : decode cX7_readReading 79 = .ok (.pop, 1) := by decide +kernel
theorem dX7_readReading_80 : decode cX7_readReading 80 = .ok (.iconst 1, 1) := by decide +kernel
theorem dX7_readReading_81 : decode cX7_readReading 81 = .ok (.ireturn, 1) := by decide +kernel
theorem dX7_readRate_0 : decode cX7_readRate 0 = .ok (.aload_n 0, 1) := by decide +kernel
theorem dX7_readRate_1 : decode cX7_readRate 1 = .ok (.getfield 68, 3) := by decide +kernel
theorem dX7_readRate_4 : decode cX7_readRate 4 = .ok (.ifCond .eq 5, 3) := by decide +kernel
theorem dX7_readRate_7 : decode cX7_readRate 7 = .ok (.iconst 0, 1) := by decide +kernel
theorem dX7_readRate_8 : decode cX7_readRate 8 = .ok (.ireturn, 1) := by decide +kernel
theorem dX7_readRate_9 : decode cX7_readRate 9 = .ok (.aload_n 0, 1) := by decide +kernel
theorem dX7_readRate_10 : decode cX7_readRate 10 = .ok (.iconst 1, 1) := by decide +kernel
theorem dX7_readRate_11 : decode cX7_readRate 11 = .ok (.bipush 99, 2) := by decide +kernel
theorem dX7_readRate_13 : decode cX7_readRate 13 = .ok (.invokevirtual 87, 3) := by decide +kernel
theorem dX7_readRate_16 : decode cX7_readRate 16 = .ok (.istore_n 1, 1) := by decide +kernel
theorem dX7_readRate_17 : decode cX7_readRate 17 = .ok (.iload_n 1, 1) := by decide +kernel
theorem dX7_readRate_18 : decode cX7_readRate 18 = .ok (.ifCond .lt 10, 3) := by decide +kernel
theorem dX7_readRate_21 : decode cX7_readRate 21 = .ok (.aload_n 0, 1) := by decide +kernel
theorem dX7_readRate_22 : decode cX7_readRate 22 = .ok (.invokevirtual 91, 3) := by decide +kernel
theorem dX7_readRate_25 : decode cX7_readRate 25 = .ok (.ifCond .ne 5, 3) := by decide +kernel
theorem dX7_readRate_28 : decode cX7_readRate 28 = .ok (.iconst 0, 1) := by decide +kernel
theorem dX7_readRate_29 : decode cX7_readRate 29 = .ok (.ireturn, 1) := by decide +kernel
theorem dX7_readRate_30 : decode cX7_readRate 30 = .ok (.aload_n 0, 1) := by decide +kernel
theorem dX7_readRate_31 : decode cX7_readRate 31 = .ok (.iconst 1, 1) := by decide +kernel
theorem dX7_readRate_32 : decode cX7_readRate 32 = .ok (.putfield 68, 3) := by decide +kernel
theorem dX7_readRate_35 : decode cX7_readRate 35 = .ok (.aload_n 0, 1) := by decide +kernel
theorem dX7_readRate_36 : decode cX7_readRate 36 = .ok (.getfield 18, 3) := by decide +kernel
theorem dX7_readRate_39 : decode cX7_readRate 39 = .ok (.iload_n 1, 1) := by decide +kernel
theorem dX7_readRate_40 : decode cX7_readRate 40 = .ok (.putfield 98, 3) := by decide +kernel
theorem dX7_readRate_43 : decode cX7_readRate 43 = .ok (.iconst 1, 1) := by decide +kernel
theorem dX7_readRate_44 : decode cX7_readRate 44 = .ok (.ireturn, 1) := by decide +kernel
theorem dX7_readWrap_0 : decode cX7_readWrap 0 = .ok (.aload_n 0, 1) := by decide +kernel
theorem dX7_readWrap_1 : decode cX7_readWrap 1 = .ok (.getfield 72, 3) := by decide +kernel
theorem dX7_readWrap_4 : decode cX7_readWrap 4 = .ok (.ifCond .eq 5, 3) := by decide +kernel
theorem dX7_readWrap_7 : decode cX7_readWrap 7 = .ok (.iconst 0, 1) := by decide +kernel
theorem dX7_readWrap_8 : decode cX7_readWrap 8 = .ok (.ireturn, 1) := by decide +kernel
theorem dX7_readWrap_9 : decode cX7_readWrap 9 = .ok (.aload_n 0, 1) := by decide +kernel
theorem dX7_readWrap_10 : decode cX7_readWrap 10 = .ok (.iconst 0, 1) := by decide +kernel
theorem dX7_readWrap_11 : decode cX7_readWrap 11 = .ok (.sipush 9999, 3) := by decide +kernel
theorem dX7_readWrap_14 : decode cX7_readWrap 14 = .ok (.invokevirtual 87, 3) := by decide +kernel
theorem dX7_readWrap_17 : decode cX7_readWrap 17 = .ok (.istore_n 1, 1) := by decide +kernel
theorem dX7_readWrap_18 : decode cX7_readWrap 18 = .ok (.iload_n 1, 1) := by decide +kernel
theorem dX7_readWrap_19 : decode cX7_readWrap 19 = .ok (.invokestatic 101, 3) := by decide +kernel
theorem dX7_readWrap_22 : decode cX7_readWrap 22 = .ok (.ifCond .eq 10, 3) := by decide +kernel
theorem dX7_readWrap_25 : decode cX7_readWrap 25 = .ok (.aload_n 0, 1) := by decide +kernel
theorem dX7_readWrap_26 : decode cX7_readWrap 26 = .ok (.invokevirtual 91, 3) := by decide +kernel
theorem dX7_readWrap_29 : decode cX7_readWrap 29 = .ok (.ifCond .ne 5, 3) := by decide +kernel
theorem dX7_readWrap_32 : decode cX7_readWrap 32 = .ok (.iconst 0, 1) := by decide +kernel
theorem dX7_readWrap_33 : decode cX7_readWrap 33 = .ok (.ireturn, 1) := by decide +kernel
theorem dX7_readWrap_34 : decode cX7_readWrap 34 = .ok (.aload_n 0, 1) := by decide +kernel
theorem dX7_readWrap_35 : decode cX7_readWrap 35 = .ok (.iconst 1, 1) := by decide +kernel
theorem dX7_readWrap_36 : decode cX7_readWrap 36 = .ok (.putfield 72, 3) := by decide +kernel
theorem dX7_readWrap_39 : decode cX7_readWrap 39 = .ok (.aload_n 0, 1) := by decide +kernel
theorem dX7_readWrap_40 : decode cX7_readWrap 40 = .ok (.getfield 18, 3) := by decide +kernel
theorem dX7_readWrap_43 : decode cX7_readWrap 43 = .ok (.iload_n 1, 1) := by decide +kernel
theorem dX7_readWrap_44 : decode cX7_readWrap 44 = .ok (.putfield 105, 3) := by decide +kernel
theorem dX7_readWrap_47 : decode cX7_readWrap 47 = .ok (.iconst 1, 1) := by decide +kernel
theorem dX7_readWrap_48 : decode cX7_readWrap 48 = .ok (.ireturn, 1) := by decide +kernel
theorem dX7_readStart_0 : decode cX7_readStart 0 = .ok (.aload_n 0, 1) := by decide +kernel
theorem dX7_readStart_1 : decode cX7_readStart 1 = .ok (.getfield 75, 3) := by decide +kernel
theorem dX7_readStart_4 : decode cX7_readStart 4 = .ok (.ifCond .eq 5, 3) := by decide +kernel
theorem dX7_readStart_7 : decode cX7_readStart 7 = .ok (.iconst 0, 1) := by decide +kernel
theorem dX7_readStart_8 : decode cX7_readStart 8 = .ok (.ireturn, 1) := by decide +kernel
theorem dX7_readStart_9 : decode cX7_readStart 9 = .ok (.aload_n 0, 1) := by decide +kernel
theorem dX7_readStart_10 : decode cX7_readStart 10 = .ok (.invokevirtual 108, 3) := by decide +kernel
theorem dX7_readStart_13 : decode cX7_readStart 13 = .ok (.istore_n 1, 1) := by decide +kernel
theorem dX7_readStart_14 : decode cX7_readStart 14 = .ok (.iload_n 1, 1) := by decide +kernel
theorem dX7_readStart_15 : decode cX7_readStart 15 = .ok (.ifCond .lt 10, 3) := by decide +kernel
theorem dX7_readStart_18 : decode cX7_readStart 18 = .ok (.aload_n 0, 1) := by decide +kernel
theorem dX7_readStart_19 : decode cX7_readStart 19 = .ok (.invokevirtual 91, 3) := by decide +kernel
theorem dX7_readStart_22 : decode cX7_readStart 22 = .ok (.ifCond .ne 5, 3) := by decide +kernel
theorem dX7_readStart_25 : decode cX7_readStart 25 = .ok (.iconst 0, 1) := by decide +kernel
theorem dX7_readStart_26 : decode cX7_readStart 26 = .ok (.ireturn, 1) := by decide +kernel
theorem dX7_readStart_27 : decode cX7_readStart 27 = .ok (.aload_n 0, 1) := by decide +kernel
theorem dX7_readStart_28 : decode cX7_readStart 28 = .ok (.iconst 1, 1) := by decide +kernel
theorem dX7_readStart_29 : decode cX7_readStart 29 = .ok (.putfield 75, 3) := by decide +kernel
theorem dX7_readStart_32 : decode cX7_readStart 32 = .ok (.aload_n 0, 1) := by decide +kernel
theorem dX7_readStart_33 : decode cX7_readStart 33 = .ok (.getfield 25, 3) := by decide +kernel
theorem dX7_readStart_36 : decode cX7_readStart 36 = .ok (.iload_n 1, 1) := by decide +kernel
theorem dX7_readStart_37 : decode cX7_readStart 37 = .ok (.putfield 112, 3) := by decide +kernel
theorem dX7_readStart_40 : decode cX7_readStart 40 = .ok (.iconst 1, 1) := by decide +kernel
theorem dX7_readStart_41 : decode cX7_readStart 41 = .ok (.ireturn, 1) := by decide +kernel
theorem dX7_readChange_0 : decode cX7_readChange 0 = .ok (.aload_n 0, 1) := by decide +kernel
theorem dX7_readChange_1 : decode cX7_readChange 1 = .ok (.getfield 25, 3) := by decide +kernel
theorem dX7_readChange_4 : decode cX7_readChange 4 = .ok (.getfield 115, 3) := by decide +kernel
theorem dX7_readChange_7 : decode cX7_readChange 7 = .ok (.invokevirtual 82, 3) := by decide +kernel
theorem dX7_readChange_10 : decode cX7_readChange 10 = .ok (.ifCond .eq 5, 3) := by decide +kernel
theorem dX7_readChange_13 : decode cX7_readChange 13 = .ok (.iconst 0, 1) := by decide +kernel
theorem dX7_readChange_14 : decode cX7_readChange 14 = .ok (.ireturn, 1) := by decide +kernel
theorem dX7_readChange_15 : decode cX7_readChange 15 = .ok (.aload_n 0, 1) := by decide +kernel
theorem dX7_readChange_16 : decode cX7_readChange 16 = .ok (.iconst 0, 1) := by decide +kernel
theorem dX7_readChange_17 : decode cX7_readChange 17 = .ok (.sipush 999, 3) := by decide +kernel
theorem dX7_readChange_20 : decode cX7_readChange 20 = .ok (.invokevirtual 87, 3) := by decide +kernel
theorem dX7_readChange_23 : decode cX7_readChange 23 = .ok (.istore_n 1, 1) := by decide +kernel
theorem dX7_readChange_24 : decode cX7_readChange 24 = .ok (.iload_n 1, 1) := by decide +kernel
theorem dX7_readChange_25 : decode cX7_readChange 25 = .ok (.ifCond .ge 5, 3) := by decide +kernel
theorem dX7_readChange_28 : decode cX7_readChange 28 = .ok (.iconst 0, 1) := by decide +kernel
theorem dX7_readChange_29 : decode cX7_readChange 29 = .ok (.ireturn, 1) := by decide +kernel
theorem dX7_readChange_30 : decode cX7_readChange 30 = .ok (.aload_n 0, 1) := by decide +kernel
theorem dX7_readChange_31 : decode cX7_readChange 31 = .ok (.invokevirtual 108, 3) := by decide +kernel
theorem dX7_readChange_34 : decode cX7_readChange 34 = .ok (.istore_n 2, 1) := by decide +kernel
theorem dX7_readChange_35 : decode cX7_readChange 35 = .ok (.iload_n 2, 1) := by decide +kernel
theorem dX7_readChange_36 : decode cX7_readChange 36 = .ok (.ifCond .ge 5, 3) := by decide +kernel
theorem dX7_readChange_39 : decode cX7_readChange 39 = .ok (.iconst 0, 1) := by decide +kernel
theorem dX7_readChange_40 : decode cX7_readChange 40 = .ok (.ireturn, 1) := by decide +kernel
theorem dX7_readChange_41 : decode cX7_readChange 41 = .ok (.aload_n 0, 1) := by decide +kernel
theorem dX7_readChange_42 : decode cX7_readChange 42 = .ok (.invokevirtual 108, 3) := by decide +kernel
theorem dX7_readChange_45 : decode cX7_readChange 45 = .ok (.istore_n 3, 1) := by decide +kernel
theorem dX7_readChange_46 : decode cX7_readChange 46 = .ok (.iload_n 3, 1) := by decide +kernel
theorem dX7_readChange_47 : decode cX7_readChange 47 = .ok (.ifCond .lt 15, 3) := by decide +kernel
theorem dX7_readChange_50 : decode cX7_readChange 50 = .ok (.iload_n 3, 1) := by decide +kernel
theorem dX7_readChange_51 : decode cX7_readChange 51 = .ok (.iload_n 2, 1) := by decide +kernel
theorem dX7_readChange_52 : decode cX7_readChange 52 = .ok (.if_icmp .eq 10, 3) := by decide +kernel
theorem dX7_readChange_55 : decode cX7_readChange 55 = .ok (.aload_n 0, 1) := by decide +kernel
theorem dX7_readChange_56 : decode cX7_readChange 56 = .ok (.invokevirtual 91, 3) := by decide +kernel
theorem dX7_readChange_59 : decode cX7_readChange 59 = .ok (.ifCond .ne 5, 3) := by decide +kernel
theorem dX7_readChange_62 : decode cX7_readChange 62 = .ok (.iconst 0, 1) := by decide +kernel
theorem dX7_readChange_63 : decode cX7_readChange 63 = .ok (.ireturn, 1) := by decide +kernel
theorem dX7_readChange_64 : decode cX7_readChange 64 = .ok (.aload_n 0, 1) := by decide +kernel
theorem dX7_readChange_65 : decode cX7_readChange 65 = .ok (.getfield 25, 3) := by decide +kernel
theorem dX7_readChange_68 : decode cX7_readChange 68 = .ok (.getfield 115, 3) := by decide +kernel
theorem dX7_readChange_71 : decode cX7_readChange 71 = .ok (.iload_n 1, 1) := by decide +kernel
theorem dX7_readChange_72 : decode cX7_readChange 72 = .ok (.iload_n 2, 1) := by decide +kernel
theorem dX7_readChange_73 : decode cX7_readChange 73 = .ok (.iload_n 3, 1) := by decide +kernel
theorem dX7_readChange_74 : decode cX7_readChange 74 = .ok (.invokevirtual 94, 3) := by decide +kernel
theorem dX7_readChange_77 : decode cX7_readChange 77 = .ok (.pop, 1) := by decide +kernel
theorem dX7_readChange_78 : decode cX7_readChange 78 = .ok (.iconst 1, 1) := by decide +kernel
theorem dX7_readChange_79 : decode cX7_readChange 79 = .ok (.ireturn, 1) := by decide +kernel
theorem dX7_nextNumber_0 : decode cX7_nextNumber 0 = .ok (.aload_n 0, 1) := by decide +kernel
theorem dX7_nextNumber_1 : decode cX7_nextNumber 1 = .ok (.invokevirtual 36, 3) := by decide +kernel
theorem dX7_nextNumber_4 : decode cX7_nextNumber 4 = .ok (.aload_n 0, 1) := by decide +kernel
theorem dX7_nextNumber_5 : decode cX7_nextNumber 5 = .ok (.getfield 39, 3) := by decide +kernel
theorem dX7_nextNumber_8 : decode cX7_nextNumber 8 = .ok (.bipush (-2), 2) := by decide +kernel
theorem dX7_nextNumber_10 : decode cX7_nextNumber 10 = .ok (.if_icmp .ne 22, 3) := by decide +kernel
theorem dX7_nextNumber_13 : decode cX7_nextNumber 13 = .ok (.aload_n 0, 1) := by decide +kernel
theorem dX7_nextNumber_14 : decode cX7_nextNumber 14 = .ok (.getfield 118, 3) := by decide +kernel
theorem dX7_nextNumber_17 : decode cX7_nextNumber 17 = .ok (.iload_n 1, 1) := by decide +kernel
theorem dX7_nextNumber_18 : decode cX7_nextNumber 18 = .ok (.iload_n 2, 1) := by decide +kernel
theorem dX7_nextNumber_19 : decode cX7_nextNumber 19 = .ok (.invokestatic 121, 3) := by decide +kernel
theorem dX7_nextNumber_22 : decode cX7_nextNumber 22 = .ok (.ifCond .eq 10, 3) := by decide +kernel
theorem dX7_nextNumber_25 : decode cX7_nextNumber 25 = .ok (.aload_n 0, 1) := by decide +kernel
theorem dX7_nextNumber_26 : decode cX7_nextNumber 26 = .ok (.getfield 118, 3) := by decide +kernel
theorem dX7_nextNumber_29 : decode cX7_nextNumber 29 = .ok (.goto 5, 3) := by decide +kernel
theorem dX7_nextNumber_32 : decode cX7_nextNumber 32 = .ok (.bipush (-9), 2) := by decide +kernel
theorem dX7_nextNumber_34 : decode cX7_nextNumber 34 = .ok (.ireturn, 1) := by decide +kernel
theorem dX7_nextPlate_0 : decode cX7_nextPlate 0 = .ok (.aload_n 0, 1) := by decide +kernel
theorem dX7_nextPlate_1 : decode cX7_nextPlate 1 = .ok (.invokevirtual 36, 3) := by decide +kernel
theorem dX7_nextPlate_4 : decode cX7_nextPlate 4 = .ok (.aload_n 0, 1) := by decide +kernel
theorem dX7_nextPlate_5 : decode cX7_nextPlate 5 = .ok (.getfield 39, 3) := by decide +kernel
theorem dX7_nextPlate_8 : decode cX7_nextPlate 8 = .ok (.bipush 97, 2) := by decide +kernel
theorem dX7_nextPlate_10 : decode cX7_nextPlate 10 = .ok (.bipush 104, 2) := by decide +kernel
theorem dX7_nextPlate_12 : decode cX7_nextPlate 12 = .ok (.invokestatic 121, 3) := by decide +kernel
theorem dX7_nextPlate_15 : decode cX7_nextPlate 15 = .ok (.ifCond .eq 13, 3) := by decide +kernel
theorem dX7_nextPlate_18 : decode cX7_nextPlate 18 = .ok (.aload_n 0, 1) := by decide +kernel
theorem dX7_nextPlate_19 : decode cX7_nextPlate 19 = .ok (.getfield 39, 3) := by decide +kernel
theorem dX7_nextPlate_22 : decode cX7_nextPlate 22 = .ok (.bipush 97, 2) := by decide +kernel
theorem dX7_nextPlate_24 : decode cX7_nextPlate 24 = .ok (.isub, 1) := by decide +kernel
theorem dX7_nextPlate_25 : decode cX7_nextPlate 25 = .ok (.goto 5, 3) := by decide +kernel
theorem dX7_nextPlate_28 : decode cX7_nextPlate 28 = .ok (.bipush (-9), 2) := by decide +kernel
theorem dX7_nextPlate_30 : decode cX7_nextPlate 30 = .ok (.ireturn, 1) := by decide +kernel
theorem dX7_nextEnds_0 : decode cX7_nextEnds 0 = .ok (.aload_n 0, 1) := by decide +kernel
theorem dX7_nextEnds_1 : decode cX7_nextEnds 1 = .ok (.invokevirtual 36, 3) := by decide +kernel
theorem dX7_nextEnds_4 : decode cX7_nextEnds 4 = .ok (.aload_n 0, 1) := by decide +kernel
theorem dX7_nextEnds_5 : decode cX7_nextEnds 5 = .ok (.getfield 39, 3) := by decide +kernel
theorem dX7_nextEnds_8 : decode cX7_nextEnds 8 = .ok (.bipush 59, 2) := by decide +kernel
theorem dX7_nextEnds_10 : decode cX7_nextEnds 10 = .ok (.if_icmp .ne 7, 3) := by decide +kernel
theorem dX7_nextEnds_13 : decode cX7_nextEnds 13 = .ok (.iconst 1, 1) := by decide +kernel
theorem dX7_nextEnds_14 : decode cX7_nextEnds 14 = .ok (.goto 4, 3) := by decide +kernel
theorem dX7_nextEnds_17 : decode cX7_nextEnds 17 = .ok (.iconst 0, 1) := by decide +kernel
theorem dX7_nextEnds_18 : decode cX7_nextEnds 18 = .ok (.ireturn, 1) := by decide +kernel
theorem dX7_nextToken_0 : decode cX7_nextToken 0 = .ok (.aload_n 0, 1) := by decide +kernel
theorem dX7_nextToken_1 : decode cX7_nextToken 1 = .ok (.getfield 65, 3) := by decide +kernel
theorem dX7_nextToken_4 : decode cX7_nextToken 4 = .ok (.aload_n 0, 1) := by decide +kernel
theorem dX7_nextToken_5 : decode cX7_nextToken 5 = .ok (.getfield 29, 3) := by decide +kernel
theorem dX7_nextToken_8 : decode cX7_nextToken 8 = .ok (.if_icmp .ge 30, 3) := by decide +kernel
theorem dX7_nextToken_11 : decode cX7_nextToken 11 = .ok (.aload_n 0, 1) := by decide +kernel
theorem dX7_nextToken_12 : decode cX7_nextToken 12 = .ok (.getfield 9, 3) := by decide +kernel
theorem dX7_nextToken_15 : decode cX7_nextToken 15 = .ok (.aload_n 0, 1) := by decide +kernel
theorem dX7_nextToken_16 : decode cX7_nextToken 16 = .ok (.getfield 65, 3) := by decide +kernel
theorem dX7_nextToken_19 : decode cX7_nextToken 19 = .ok (.iaload, 1) := by decide +kernel
theorem dX7_nextToken_20 : decode cX7_nextToken 20 = .ok (.bipush 32, 2) := by decide +kernel
theorem dX7_nextToken_22 : decode cX7_nextToken 22 = .ok (.if_icmp .ne 16, 3) := by decide +kernel
theorem dX7_nextToken_25 : decode cX7_nextToken 25 = .ok (.aload_n 0, 1) := by decide +kernel
theorem dX7_nextToken_26 : decode cX7_nextToken 26 = .ok (.dup, 1) := by decide +kernel
theorem dX7_nextToken_27 : decode cX7_nextToken 27 = .ok (.getfield 65, 3) := by decide +kernel
theorem dX7_nextToken_30 : decode cX7_nextToken 30 = .ok (.iconst 1, 1) := by decide +kernel
theorem dX7_nextToken_31 : decode cX7_nextToken 31 = .ok (.iadd, 1) := by decide +kernel
theorem dX7_nextToken_32 : decode cX7_nextToken 32 = .ok (.putfield 65, 3) := by decide +kernel
theorem dX7_nextToken_35 : decode cX7_nextToken 35 = .ok (.goto (-35), 3) := by decide +kernel
theorem dX7_nextToken_38 : decode cX7_nextToken 38 = .ok (.aload_n 0, 1) := by decide +kernel
theorem dX7_nextToken_39 : decode cX7_nextToken 39 = .ok (.aload_n 0, 1) := by decide +kernel
theorem dX7_nextToken_40 : decode cX7_nextToken 40 = .ok (.getfield 65, 3) := by decide +kernel
theorem dX7_nextToken_43 : decode cX7_nextToken 43 = .ok (.putfield 58, 3) := by decide +kernel
theorem dX7_nextToken_46 : decode cX7_nextToken 46 = .ok (.aload_n 0, 1) := by decide +kernel
theorem dX7_nextToken_47 : decode cX7_nextToken 47 = .ok (.getfield 65, 3) := by decide +kernel
theorem dX7_nextToken_50 : decode cX7_nextToken 50 = .ok (.aload_n 0, 1) := by decide +kernel
theorem dX7_nextToken_51 : decode cX7_nextToken 51 = .ok (.getfield 29, 3) := by decide +kernel
theorem dX7_nextToken_54 : decode cX7_nextToken 54 = .ok (.if_icmp .lt 11, 3) := by decide +kernel
theorem dX7_nextToken_57 : decode cX7_nextToken 57 = .ok (.aload_n 0, 1) := by decide +kernel
theorem dX7_nextToken_58 : decode cX7_nextToken 58 = .ok (.iconst (-1), 1) := by decide +kernel
theorem dX7_nextToken_59 : decode cX7_nextToken 59 = .ok (.putfield 39, 3) := by decide +kernel
theorem dX7_nextToken_62 : decode cX7_nextToken 62 = .ok (.goto 48, 3) := by decide +kernel
theorem dX7_nextToken_65 : decode cX7_nextToken 65 = .ok (.aload_n 0, 1) := by decide +kernel
theorem dX7_nextToken_66 : decode cX7_nextToken 66 = .ok (.getfield 9, 3) := by decide +kernel
theorem dX7_nextToken_69 : decode cX7_nextToken 69 = .ok (.aload_n 0, 1) := by decide +kernel
theorem dX7_nextToken_70 : decode cX7_nextToken 70 = .ok (.getfield 65, 3) := by decide +kernel
theorem dX7_nextToken_73 : decode cX7_nextToken 73 = .ok (.iaload, 1) := by decide +kernel
theorem dX7_nextToken_74 : decode cX7_nextToken 74 = .ok (.invokestatic 125, 3) := by decide +kernel
theorem dX7_nextToken_77 : decode cX7_nextToken 77 = .ok (.ifCond .eq 10, 3) := by decide +kernel
theorem dX7_nextToken_80 : decode cX7_nextToken 80 = .ok (.aload_n 0, 1) := by decide +kernel
theorem dX7_nextToken_81 : decode cX7_nextToken 81 = .ok (.invokevirtual 128, 3) := by decide +kernel
theorem dX7_nextToken_84 : decode cX7_nextToken 84 = .ok (.goto 26, 3) := by decide +kernel
theorem dX7_nextToken_87 : decode cX7_nextToken 87 = .ok (.aload_n 0, 1) := by decide +kernel
theorem dX7_nextToken_88 : decode cX7_nextToken 88 = .ok (.aload_n 0, 1) := by decide +kernel
theorem dX7_nextToken_89 : decode cX7_nextToken 89 = .ok (.getfield 9, 3) := by decide +kernel
theorem dX7_nextToken_92 : decode cX7_nextToken 92 = .ok (.aload_n 0, 1) := by decide +kernel
theorem dX7_nextToken_93 : decode cX7_nextToken 93 = .ok (.getfield 65, 3) := by decide +kernel
theorem dX7_nextToken_96 : decode cX7_nextToken 96 = .ok (.iaload, 1) := by decide +kernel
theorem dX7_nextToken_97 : decode cX7_nextToken 97 = .ok (.putfield 39, 3) := by decide +kernel
theorem dX7_nextToken_100 : decode cX7_nextToken 100 = .ok (.aload_n 0, 1) := by decide +kernel
theorem dX7_nextToken_101 : decode cX7_nextToken 101 = .ok (.dup, 1) := by decide +kernel
theorem dX7_nextToken_102 : decode cX7_nextToken 102 = .ok (.getfield 65, 3) := by decide +kernel
theorem dX7_nextToken_105 : decode cX7_nextToken 105 = .ok (.iconst 1, 1) := by decide +kernel
theorem dX7_nextToken_106 : decode cX7_nextToken 106 = .ok (.iadd, 1) := by decide +kernel
theorem dX7_nextToken_107 : decode cX7_nextToken 107 = .ok (.putfield 65, 3) := by decide +kernel
theorem dX7_nextToken_110 : decode cX7_nextToken 110 = .ok (.return_, 1) := by decide +kernel
theorem dX7_takeNumber_0 : decode cX7_takeNumber 0 = .ok (.aload_n 0, 1) := by decide +kernel
theorem dX7_takeNumber_1 : decode cX7_takeNumber 1 = .ok (.iconst 0, 1) := by decide +kernel
theorem dX7_takeNumber_2 : decode cX7_takeNumber 2 = .ok (.putfield 118, 3) := by decide +kernel
theorem dX7_takeNumber_5 : decode cX7_takeNumber 5 = .ok (.aload_n 0, 1) := by decide +kernel
theorem dX7_takeNumber_6 : decode cX7_takeNumber 6 = .ok (.getfield 65, 3) := by decide +kernel
theorem dX7_takeNumber_9 : decode cX7_takeNumber 9 = .ok (.aload_n 0, 1) := by decide +kernel
theorem dX7_takeNumber_10 : decode cX7_takeNumber 10 = .ok (.getfield 29, 3) := by decide +kernel
theorem dX7_takeNumber_13 : decode cX7_takeNumber 13 = .ok (.if_icmp .ge 61, 3) := by decide +kernel
theorem dX7_takeNumber_16 : decode cX7_takeNumber 16 = .ok (.aload_n 0, 1) := by decide +kernel
theorem dX7_takeNumber_17 : decode cX7_takeNumber 17 = .ok (.getfield 9, 3) := by decide +kernel
theorem dX7_takeNumber_20 : decode cX7_takeNumber 20 = .ok (.aload_n 0, 1) := by decide +kernel
theorem dX7_takeNumber_21 : decode cX7_takeNumber 21 = .ok (.getfield 65, 3) := by decide +kernel
theorem dX7_takeNumber_24 : decode cX7_takeNumber 24 = .ok (.iaload, 1) := by decide +kernel
theorem dX7_takeNumber_25 : decode cX7_takeNumber 25 = .ok (.invokestatic 125, 3) := by decide +kernel
theorem dX7_takeNumber_28 : decode cX7_takeNumber 28 = .ok (.ifCond .eq 46, 3) := by decide +kernel
theorem dX7_takeNumber_31 : decode cX7_takeNumber 31 = .ok (.aload_n 0, 1) := by decide +kernel
theorem dX7_takeNumber_32 : decode cX7_takeNumber 32 = .ok (.aload_n 0, 1) := by decide +kernel
theorem dX7_takeNumber_33 : decode cX7_takeNumber 33 = .ok (.getfield 118, 3) := by decide +kernel
theorem dX7_takeNumber_36 : decode cX7_takeNumber 36 = .ok (.bipush 10, 2) := by decide +kernel
theorem dX7_takeNumber_38 : decode cX7_takeNumber 38 = .ok (.imul, 1) := by decide +kernel
theorem dX7_takeNumber_39 : decode cX7_takeNumber 39 = .ok (.aload_n 0, 1) := by decide +kernel
theorem dX7_takeNumber_40 : decode cX7_takeNumber 40 = .ok (.getfield 9, 3) := by decide +kernel
theorem dX7_takeNumber_43 : decode cX7_takeNumber 43 = .ok (.aload_n 0, 1) := by decide +kernel
theorem dX7_takeNumber_44 : decode cX7_takeNumber 44 = .ok (.getfield 65, 3) := by decide +kernel
theorem dX7_takeNumber_47 : decode cX7_takeNumber 47 = .ok (.iaload, 1) := by decide +kernel
theorem dX7_takeNumber_48 : decode cX7_takeNumber 48 = .ok (.iadd, 1) := by decide +kernel
theorem dX7_takeNumber_49 : decode cX7_takeNumber 49 = .ok (.bipush 48, 2) := by decide +kernel
theorem dX7_takeNumber_51 : decode cX7_takeNumber 51 = .ok (.isub, 1) := by decide +kernel
theorem dX7_takeNumber_52 : decode cX7_takeNumber 52 = .ok (.sipush 10000, 3) := by decide +kernel
theorem dX7_takeNumber_55 : decode cX7_takeNumber 55 = .ok (.invokestatic 131, 3) := by decide +kernel
theorem dX7_takeNumber_58 : decode cX7_takeNumber 58 = .ok (.putfield 118, 3) := by decide +kernel
theorem dX7_takeNumber_61 : decode cX7_takeNumber 61 = .ok (.aload_n 0, 1) := by decide +kernel
theorem dX7_takeNumber_62 : decode cX7_takeNumber 62 = .ok (.dup, 1) := by decide +kernel
theorem dX7_takeNumber_63 : decode cX7_takeNumber 63 = .ok (.getfield 65, 3) := by decide +kernel
theorem dX7_takeNumber_66 : decode cX7_takeNumber 66 = .ok (.iconst 1, 1) := by decide +kernel
theorem dX7_takeNumber_67 : decode cX7_takeNumber 67 = .ok (.iadd, 1) := by decide +kernel
theorem dX7_takeNumber_68 : decode cX7_takeNumber 68 = .ok (.putfield 65, 3) := by decide +kernel
theorem dX7_takeNumber_71 : decode cX7_takeNumber 71 = .ok (.goto (-66), 3) := by decide +kernel
theorem dX7_takeNumber_74 : decode cX7_takeNumber 74 = .ok (.aload_n 0, 1) := by decide +kernel
theorem dX7_takeNumber_75 : decode cX7_takeNumber 75 = .ok (.getfield 9, 3) := by decide +kernel
theorem dX7_takeNumber_78 : decode cX7_takeNumber 78 = .ok (.aload_n 0, 1) := by decide +kernel
theorem dX7_takeNumber_79 : decode cX7_takeNumber 79 = .ok (.getfield 58, 3) := by decide +kernel
theorem dX7_takeNumber_82 : decode cX7_takeNumber 82 = .ok (.iaload, 1) := by decide +kernel
theorem dX7_takeNumber_83 : decode cX7_takeNumber 83 = .ok (.bipush 48, 2) := by decide +kernel
theorem dX7_takeNumber_85 : decode cX7_takeNumber 85 = .ok (.if_icmp .ne 20, 3) := by decide +kernel
theorem dX7_takeNumber_88 : decode cX7_takeNumber 88 = .ok (.aload_n 0, 1) := by decide +kernel
theorem dX7_takeNumber_89 : decode cX7_takeNumber 89 = .ok (.getfield 65, 3) := by decide +kernel
theorem dX7_takeNumber_92 : decode cX7_takeNumber 92 = .ok (.aload_n 0, 1) := by decide +kernel
theorem dX7_takeNumber_93 : decode cX7_takeNumber 93 = .ok (.getfield 58, 3) := by decide +kernel
theorem dX7_takeNumber_96 : decode cX7_takeNumber 96 = .ok (.isub, 1) := by decide +kernel
theorem dX7_takeNumber_97 : decode cX7_takeNumber 97 = .ok (.iconst 1, 1) := by decide +kernel
theorem dX7_takeNumber_98 : decode cX7_takeNumber 98 = .ok (.if_icmp .le 7, 3) := by decide +kernel
theorem dX7_takeNumber_101 : decode cX7_takeNumber 101 = .ok (.iconst 1, 1) := by decide +kernel
theorem dX7_takeNumber_102 : decode cX7_takeNumber 102 = .ok (.goto 4, 3) := by decide +kernel
theorem dX7_takeNumber_105 : decode cX7_takeNumber 105 = .ok (.iconst 0, 1) := by decide +kernel
theorem dX7_takeNumber_106 : decode cX7_takeNumber 106 = .ok (.istore_n 1, 1) := by decide +kernel
theorem dX7_takeNumber_107 : decode cX7_takeNumber 107 = .ok (.aload_n 0, 1) := by decide +kernel
theorem dX7_takeNumber_108 : decode cX7_takeNumber 108 = .ok (.iload_n 1, 1) := by decide +kernel
theorem dX7_takeNumber_109 : decode cX7_takeNumber 109 = .ok (.ifCond .ne 13, 3) := by decide +kernel
theorem dX7_takeNumber_112 : decode cX7_takeNumber 112 = .ok (.aload_n 0, 1) := by decide +kernel
theorem dX7_takeNumber_113 : decode cX7_takeNumber 113 = .ok (.getfield 118, 3) := by decide +kernel
theorem dX7_takeNumber_116 : decode cX7_takeNumber 116 = .ok (.sipush 9999, 3) := by decide +kernel
theorem dX7_takeNumber_119 : decode cX7_takeNumber 119 = .ok (.if_icmp .le 8, 3) := by decide +kernel
theorem dX7_takeNumber_122 : decode cX7_takeNumber 122 = .ok (.bipush (-3), 2) := by decide +kernel
theorem dX7_takeNumber_124 : decode cX7_takeNumber 124 = .ok (.goto 5, 3) := by decide +kernel
theorem dX7_takeNumber_127 : decode cX7_takeNumber 127 = .ok (.bipush (-2), 2) := by decide +kernel
theorem dX7_takeNumber_129 : decode cX7_takeNumber 129 = .ok (.putfield 39, 3) := by decide +kernel
theorem dX7_takeNumber_132 : decode cX7_takeNumber 132 = .ok (.return_, 1) := by decide +kernel
theorem dX7_isDigit_0 : decode cX7_isDigit 0 = .ok (.iload_n 0, 1) := by decide +kernel
theorem dX7_isDigit_1 : decode cX7_isDigit 1 = .ok (.bipush 48, 2) := by decide +kernel
theorem dX7_isDigit_3 : decode cX7_isDigit 3 = .ok (.if_icmp .lt 13, 3) := by decide +kernel
theorem dX7_isDigit_6 : decode cX7_isDigit 6 = .ok (.iload_n 0, 1) := by decide +kernel
theorem dX7_isDigit_7 : decode cX7_isDigit 7 = .ok (.bipush 57, 2) := by decide +kernel
theorem dX7_isDigit_9 : decode cX7_isDigit 9 = .ok (.if_icmp .gt 7, 3) := by decide +kernel
theorem dX7_isDigit_12 : decode cX7_isDigit 12 = .ok (.iconst 1, 1) := by decide +kernel
theorem dX7_isDigit_13 : decode cX7_isDigit 13 = .ok (.goto 4, 3) := by decide +kernel
theorem dX7_isDigit_16 : decode cX7_isDigit 16 = .ok (.iconst 0, 1) := by decide +kernel
theorem dX7_isDigit_17 : decode cX7_isDigit 17 = .ok (.ireturn, 1) := by decide +kernel
theorem dX8_init_0 : decode cX8_init 0 = .ok (.aload_n 0, 1) := by decide +kernel
theorem dX8_init_1 : decode cX8_init 1 = .ok (.invokespecial 3, 3) := by decide +kernel
theorem dX8_init_4 : decode cX8_init 4 = .ok (.aload_n 0, 1) := by decide +kernel
theorem dX8_init_5 : decode cX8_init 5 = .ok (.new 9, 3) := by decide +kernel
theorem dX8_init_8 : decode cX8_init 8 = .ok (.dup, 1) := by decide +kernel
theorem dX8_init_9 : decode cX8_init 9 = .ok (.invokespecial 11, 3) := by decide +kernel
theorem dX8_init_12 : decode cX8_init 12 = .ok (.putfield 12, 3) := by decide +kernel
theorem dX8_init_15 : decode cX8_init 15 = .ok (.aload_n 0, 1) := by decide +kernel
theorem dX8_init_16 : decode cX8_init 16 = .ok (.new 16, 3) := by decide +kernel
theorem dX8_init_19 : decode cX8_init 19 = .ok (.dup, 1) := by decide +kernel
theorem dX8_init_20 : decode cX8_init 20 = .ok (.invokespecial 18, 3) := by decide +kernel
theorem dX8_init_23 : decode cX8_init 23 = .ok (.putfield 19, 3) := by decide +kernel
theorem dX8_init_26 : decode cX8_init 26 = .ok (.aload_n 0, 1) := by decide +kernel
theorem dX8_init_27 : decode cX8_init 27 = .ok (.new 23, 3) := by decide +kernel
theorem dX8_init_30 : decode cX8_init 30 = .ok (.dup, 1) := by decide +kernel
theorem dX8_init_31 : decode cX8_init 31 = .ok (.invokespecial 25, 3) := by decide +kernel
theorem dX8_init_34 : decode cX8_init 34 = .ok (.putfield 26, 3) := by decide +kernel
theorem dX8_init_37 : decode cX8_init 37 = .ok (.aload_n 0, 1) := by decide +kernel
theorem dX8_init_38 : decode cX8_init 38 = .ok (.new 30, 3) := by decide +kernel
theorem dX8_init_41 : decode cX8_init 41 = .ok (.dup, 1) := by decide +kernel
theorem dX8_init_42 : decode cX8_init 42 = .ok (.invokespecial 32, 3) := by decide +kernel
theorem dX8_init_45 : decode cX8_init 45 = .ok (.putfield 33, 3) := by decide +kernel
theorem dX8_init_48 : decode cX8_init 48 = .ok (.aload_n 0, 1) := by decide +kernel
theorem dX8_init_49 : decode cX8_init 49 = .ok (.iconst 2, 1) := by decide +kernel
theorem dX8_init_50 : decode cX8_init 50 = .ok (.anewarray 9, 3) := by decide +kernel
theorem dX8_init_53 : decode cX8_init 53 = .ok (.putfield 37, 3) := by decide +kernel
theorem dX8_init_56 : decode cX8_init 56 = .ok (.iconst 0, 1) := by decide +kernel
theorem dX8_init_57 : decode cX8_init 57 = .ok (.istore_n 1, 1) := by decide +kernel
theorem dX8_init_58 : decode cX8_init 58 = .ok (.iload_n 1, 1) := by decide +kernel
theorem dX8_init_59 : decode cX8_init 59 = .ok (.iconst 2, 1) := by decide +kernel
theorem dX8_init_60 : decode cX8_init 60 = .ok (.if_icmp .ge 22, 3) := by decide +kernel
theorem dX8_init_63 : decode cX8_init 63 = .ok (.aload_n 0, 1) := by decide +kernel
theorem dX8_init_64 : decode cX8_init 64 = .ok (.getfield 37, 3) := by decide +kernel
theorem dX8_init_67 : decode cX8_init 67 = .ok (.iload_n 1, 1) := by decide +kernel
theorem dX8_init_68 : decode cX8_init 68 = .ok (.new 9, 3) := by decide +kernel
theorem dX8_init_71 : decode cX8_init 71 = .ok (.dup, 1) := by decide +kernel
theorem dX8_init_72 : decode cX8_init 72 = .ok (.invokespecial 11, 3) := by decide +kernel
theorem dX8_init_75 : decode cX8_init 75 = .ok (.aastore, 1) := by decide +kernel
theorem dX8_init_76 : decode cX8_init 76 = .ok (.iinc 1 1, 3) := by decide +kernel
theorem dX8_init_79 : decode cX8_init 79 = .ok (.goto (-21), 3) := by decide +kernel
theorem dX8_init_82 : decode cX8_init 82 = .ok (.aload_n 0, 1) := by decide +kernel
theorem dX8_init_83 : decode cX8_init 83 = .ok (.iconst 2, 1) := by decide +kernel
theorem dX8_init_84 : decode cX8_init 84 = .ok (.newarray .boolean, 2) := by decide +kernel
theorem dX8_init_86 : decode cX8_init 86 = .ok (.putfield 41, 3) := by decide +kernel
theorem dX8_init_89 : decode cX8_init 89 = .ok (.new 45, 3) := by decide +kernel
theorem dX8_init_92 : decode cX8_init 92 = .ok (.dup, 1) := by decide +kernel
theorem dX8_init_93 : decode cX8_init 93 = .ok (.aload_n 0, 1) := by decide +kernel
theorem dX8_init_94 : decode cX8_init 94 = .ok (.getfield 12, 3) := by decide +kernel
theorem dX8_init_97 : decode cX8_init 97 = .ok (.invokespecial 47, 3) := by decide +kernel
theorem dX8_init_100 : decode cX8_init 100 = .ok (.astore_n 1, 1) := by decide +kernel
theorem dX8_init_101 : decode cX8_init 101 = .ok (.aload_n 0, 1) := by decide +kernel
theorem dX8_init_102 : decode cX8_init 102 = .ok (.new 50, 3) := by decide +kernel
theorem dX8_init_105 : decode cX8_init 105 = .ok (.dup, 1) := by decide +kernel
theorem dX8_init_106 : decode cX8_init 106 = .ok (.aload_n 1, 1) := by decide +kernel
theorem dX8_init_107 : decode cX8_init 107 = .ok (.invokespecial 52, 3) := by decide +kernel
theorem dX8_init_110 : decode cX8_init 110 = .ok (.putfield 55, 3) := by decide +kernel
theorem dX8_init_113 : decode cX8_init 113 = .ok (.aload_n 0, 1) := by decide +kernel
theorem dX8_init_114 : decode cX8_init 114 = .ok (.new 59, 3) := by decide +kernel
theorem dX8_init_117 : decode cX8_init 117 = .ok (.dup, 1) := by decide +kernel
theorem dX8_init_118 : decode cX8_init 118 = .ok (.aload_n 1, 1) := by decide +kernel
theorem dX8_init_119 : decode cX8_init 119 = .ok (.invokespecial 61, 3) := by decide +kernel
theorem dX8_init_122 : decode cX8_init 122 = .ok (.putfield 62, 3) := by decide +kernel
theorem dX8_init_125 : decode cX8_init 125 = .ok (.aload_n 0, 1) := by decide +kernel
theorem dX8_init_126 : decode cX8_init 126 = .ok (.invokevirtual 66, 3) := by decide +kernel
theorem dX8_init_129 : decode cX8_init 129 = .ok (.aload_n 0, 1) := by decide +kernel
theorem dX8_init_130 : decode cX8_init 130 = .ok (.getfield 19, 3) := by decide +kernel
theorem dX8_init_133 : decode cX8_init 133 = .ok (.invokevirtual 69, 3) := by decide +kernel
theorem dX8_init_136 : decode cX8_init 136 = .ok (.return_, 1) := by decide +kernel
theorem dX8_type_0 : decode cX8_type 0 = .ok (.iload_n 1, 1) := by decide +kernel
theorem dX8_type_1 : decode cX8_type 1 = .ok (.ifCond .lt 10, 3) := by decide +kernel
theorem dX8_type_4 : decode cX8_type 4 = .ok (.iload_n 1, 1) := by decide +kernel
theorem dX8_type_5 : decode cX8_type 5 = .ok (.sipush 255, 3) := by decide +kernel
theorem dX8_type_8 : decode cX8_type 8 = .ok (.if_icmp .le 5, 3) := by decide +kernel
theorem dX8_type_11 : decode cX8_type 11 = .ok (.iconst (-1), 1) := by decide +kernel
theorem dX8_type_12 : decode cX8_type 12 = .ok (.ireturn, 1) := by decide +kernel
theorem dX8_type_13 : decode cX8_type 13 = .ok (.aload_n 0, 1) := by decide +kernel
theorem dX8_type_14 : decode cX8_type 14 = .ok (.getfield 26, 3) := by decide +kernel
theorem dX8_type_17 : decode cX8_type 17 = .ok (.iload_n 1, 1) := by decide +kernel
theorem dX8_type_18 : decode cX8_type 18 = .ok (.invokevirtual 72, 3) := by decide +kernel
theorem dX8_type_21 : decode cX8_type 21 = .ok (.ireturn, 1) := by decide +kernel
theorem dX8_clear_0 : decode cX8_clear 0 = .ok (.aload_n 0, 1) := by decide +kernel
theorem dX8_clear_1 : decode cX8_clear 1 = .ok (.getfield 26, 3) := by decide +kernel
theorem dX8_clear_4 : decode cX8_clear 4 = .ok (.invokevirtual 76, 3) := by decide +kernel
theorem dX8_clear_7 : decode cX8_clear 7 = .ok (.ireturn, 1) := by decide +kernel
theorem dX8_house_0 : decode cX8_house 0 = .ok (.aload_n 0, 1) := by decide +kernel
theorem dX8_house_1 : decode cX8_house 1 = .ok (.getfield 26, 3) := by decide +kernel
theorem dX8_house_4 : decode cX8_house 4 = .ok (.invokevirtual 80, 3) := by decide +kernel
theorem dX8_house_7 : decode cX8_house 7 = .ok (.istore_n 1, 1) := by decide +kernel
