theorem dX9_readsChange_151 : decode cX9_readsChange 151 = .ok (.iinc 4 (-1), 3) := by decide +kernel
theorem dX9_readsChange_154 : decode cX9_readsChange 154 = .ok (.goto (-69), 3) := by decide +kernel
theorem dX9_readsChange_157 : decode cX9_readsChange 157 = .ok (.aload_n 0, 1) := by decide +kernel
theorem dX9_readsChange_158 : decode cX9_readsChange 158 = .ok (.getfield 16, 3) := by decide +kernel
theorem dX9_readsChange_161 : decode cX9_readsChange 161 = .ok (.iload 4, 2) := by decide +kernel
theorem dX9_readsChange_163 : decode cX9_readsChange 163 = .ok (.iload_n 1, 1) := by decide +kernel
theorem dX9_readsChange_164 : decode cX9_readsChange 164 = .ok (.iastore, 1) := by decide +kernel
theorem dX9_readsChange_165 : decode cX9_readsChange 165 = .ok (.aload_n 0, 1) := by decide +kernel
theorem dX9_readsChange_166 : decode cX9_readsChange 166 = .ok (.getfield 19, 3) := by decide +kernel
theorem dX9_readsChange_169 : decode cX9_readsChange 169 = .ok (.iload 4, 2) := by decide +kernel
theorem dX9_readsChange_171 : decode cX9_readsChange 171 = .ok (.iload_n 2, 1) := by decide +kernel
theorem dX9_readsChange_172 : decode cX9_readsChange 172 = .ok (.iastore, 1) := by decide +kernel
theorem dX9_readsChange_173 : decode cX9_readsChange 173 = .ok (.aload_n 0, 1) := by decide +kernel
theorem dX9_readsChange_174 : decode cX9_readsChange 174 = .ok (.getfield 22, 3) := by decide +kernel
theorem dX9_readsChange_177 : decode cX9_readsChange 177 = .ok (.iload 4, 2) := by decide +kernel
theorem dX9_readsChange_179 : decode cX9_readsChange 179 = .ok (.iload_n 3, 1) := by decide +kernel
theorem dX9_readsChange_180 : decode cX9_readsChange 180 = .ok (.iastore, 1) := by decide +kernel
theorem dX9_readsChange_181 : decode cX9_readsChange 181 = .ok (.aload_n 0, 1) := by decide +kernel
theorem dX9_readsChange_182 : decode cX9_readsChange 182 = .ok (.dup, 1) := by decide +kernel
theorem dX9_readsChange_183 : decode cX9_readsChange 183 = .ok (.getfield 56, 3) := by decide +kernel
theorem dX9_readsChange_186 : decode cX9_readsChange 186 = .ok (.iconst 1, 1) := by decide +kernel
theorem dX9_readsChange_187 : decode cX9_readsChange 187 = .ok (.iadd, 1) := by decide +kernel
theorem dX9_readsChange_188 : decode cX9_readsChange 188 = .ok (.putfield 56, 3) := by decide +kernel
theorem dX9_readsChange_191 : decode cX9_readsChange 191 = .ok (.iconst 1, 1) := by decide +kernel
theorem dX9_readsChange_192 : decode cX9_readsChange 192 = .ok (.ireturn, 1) := by decide +kernel
theorem dX9_isWrap_0 : decode cX9_isWrap 0 = .ok (.iload_n 0, 1) := by decide +kernel
theorem dX9_isWrap_1 : decode cX9_isWrap 1 = .ok (.ifCond .eq 15, 3) := by decide +kernel
theorem dX9_isWrap_4 : decode cX9_isWrap 4 = .ok (.iload_n 0, 1) := by decide +kernel
theorem dX9_isWrap_5 : decode cX9_isWrap 5 = .ok (.bipush 100, 2) := by decide +kernel
theorem dX9_isWrap_7 : decode cX9_isWrap 7 = .ok (.sipush 9999, 3) := by decide +kernel
theorem dX9_isWrap_10 : decode cX9_isWrap 10 = .ok (.invokestatic 66, 3) := by decide +kernel
theorem dX9_isWrap_13 : decode cX9_isWrap 13 = .ok (.ifCond .eq 7, 3) := by decide +kernel
theorem dX9_isWrap_16 : decode cX9_isWrap 16 = .ok (.iconst 1, 1) := by decide +kernel
theorem dX9_isWrap_17 : decode cX9_isWrap 17 = .ok (.goto 4, 3) := by decide +kernel
theorem dX9_isWrap_20 : decode cX9_isWrap 20 = .ok (.iconst 0, 1) := by decide +kernel
theorem dX9_isWrap_21 : decode cX9_isWrap 21 = .ok (.ireturn, 1) := by decide +kernel
theorem dX9_readsOnce_0 : decode cX9_readsOnce 0 = .ok (.aload_n 0, 1) := by decide +kernel
theorem dX9_readsOnce_1 : decode cX9_readsOnce 1 = .ok (.getfield 63, 3) := by decide +kernel
theorem dX9_readsOnce_4 : decode cX9_readsOnce 4 = .ok (.iload_n 1, 1) := by decide +kernel
theorem dX9_readsOnce_5 : decode cX9_readsOnce 5 = .ok (.invokestatic 112, 3) := by decide +kernel
theorem dX9_readsOnce_8 : decode cX9_readsOnce 8 = .ok (.ifCond .eq 8, 3) := by decide +kernel
theorem dX9_readsOnce_11 : decode cX9_readsOnce 11 = .ok (.aload_n 0, 1) := by decide +kernel
theorem dX9_readsOnce_12 : decode cX9_readsOnce 12 = .ok (.invokevirtual 95, 3) := by decide +kernel
theorem dX9_readsOnce_15 : decode cX9_readsOnce 15 = .ok (.ireturn, 1) := by decide +kernel
theorem dX9_readsOnce_16 : decode cX9_readsOnce 16 = .ok (.aload_n 0, 1) := by decide +kernel
theorem dX9_readsOnce_17 : decode cX9_readsOnce 17 = .ok (.dup, 1) := by decide +kernel
theorem dX9_readsOnce_18 : decode cX9_readsOnce 18 = .ok (.getfield 63, 3) := by decide +kernel
theorem dX9_readsOnce_21 : decode cX9_readsOnce 21 = .ok (.iconst 1, 1) := by decide +kernel
theorem dX9_readsOnce_22 : decode cX9_readsOnce 22 = .ok (.iload_n 1, 1) := by decide +kernel
theorem dX9_readsOnce_23 : decode cX9_readsOnce 23 = .ok (.ishl, 1) := by decide +kernel
theorem dX9_readsOnce_24 : decode cX9_readsOnce 24 = .ok (.ior, 1) := by decide +kernel
theorem dX9_readsOnce_25 : decode cX9_readsOnce 25 = .ok (.putfield 63, 3) := by decide +kernel
theorem dX9_readsOnce_28 : decode cX9_readsOnce 28 = .ok (.iload_n 1, 1) := by decide +kernel
theorem dX9_readsOnce_29 : decode cX9_readsOnce 29 = .ok (.ifCond .ne 16, 3) := by decide +kernel
theorem dX9_readsOnce_32 : decode cX9_readsOnce 32 = .ok (.aload_n 0, 1) := by decide +kernel
theorem dX9_readsOnce_33 : decode cX9_readsOnce 33 = .ok (.iconst 1, 1) := by decide +kernel
theorem dX9_readsOnce_34 : decode cX9_readsOnce 34 = .ok (.bipush 99, 2) := by decide +kernel
theorem dX9_readsOnce_36 : decode cX9_readsOnce 36 = .ok (.invokevirtual 98, 3) := by decide +kernel
theorem dX9_readsOnce_39 : decode cX9_readsOnce 39 = .ok (.ifCond .eq 32, 3) := by decide +kernel
theorem dX9_readsOnce_42 : decode cX9_readsOnce 42 = .ok (.goto 31, 3) := by decide +kernel
theorem dX9_readsOnce_45 : decode cX9_readsOnce 45 = .ok (.iload_n 1, 1) := by decide +kernel
theorem dX9_readsOnce_46 : decode cX9_readsOnce 46 = .ok (.iconst 1, 1) := by decide +kernel
theorem dX9_readsOnce_47 : decode cX9_readsOnce 47 = .ok (.if_icmp .ne 17, 3) := by decide +kernel
theorem dX9_readsOnce_50 : decode cX9_readsOnce 50 = .ok (.aload_n 0, 1) := by decide +kernel
theorem dX9_readsOnce_51 : decode cX9_readsOnce 51 = .ok (.iconst 0, 1) := by decide +kernel
theorem dX9_readsOnce_52 : decode cX9_readsOnce 52 = .ok (.sipush 9999, 3) := by decide +kernel
theorem dX9_readsOnce_55 : decode cX9_readsOnce 55 = .ok (.invokevirtual 98, 3) := by decide +kernel
theorem dX9_readsOnce_58 : decode cX9_readsOnce 58 = .ok (.ifCond .eq 13, 3) := by decide +kernel
theorem dX9_readsOnce_61 : decode cX9_readsOnce 61 = .ok (.goto 12, 3) := by decide +kernel
theorem dX9_readsOnce_64 : decode cX9_readsOnce 64 = .ok (.aload_n 0, 1) := by decide +kernel
theorem dX9_readsOnce_65 : decode cX9_readsOnce 65 = .ok (.invokevirtual 109, 3) := by decide +kernel
theorem dX9_readsOnce_68 : decode cX9_readsOnce 68 = .ok (.ifCond .ne 5, 3) := by decide +kernel
theorem dX9_readsOnce_71 : decode cX9_readsOnce 71 = .ok (.iconst 0, 1) := by decide +kernel
theorem dX9_readsOnce_72 : decode cX9_readsOnce 72 = .ok (.ireturn, 1) := by decide +kernel
theorem dX9_readsOnce_73 : decode cX9_readsOnce 73 = .ok (.aload_n 0, 1) := by decide +kernel
theorem dX9_readsOnce_74 : decode cX9_readsOnce 74 = .ok (.getfield 86, 3) := by decide +kernel
theorem dX9_readsOnce_77 : decode cX9_readsOnce 77 = .ok (.istore_n 2, 1) := by decide +kernel
theorem dX9_readsOnce_78 : decode cX9_readsOnce 78 = .ok (.iload_n 1, 1) := by decide +kernel
theorem dX9_readsOnce_79 : decode cX9_readsOnce 79 = .ok (.iconst 1, 1) := by decide +kernel
theorem dX9_readsOnce_80 : decode cX9_readsOnce 80 = .ok (.if_icmp .ne 15, 3) := by decide +kernel
theorem dX9_readsOnce_83 : decode cX9_readsOnce 83 = .ok (.iload_n 2, 1) := by decide +kernel
theorem dX9_readsOnce_84 : decode cX9_readsOnce 84 = .ok (.invokestatic 115, 3) := by decide +kernel
theorem dX9_readsOnce_87 : decode cX9_readsOnce 87 = .ok (.ifCond .ne 8, 3) := by decide +kernel
theorem dX9_readsOnce_90 : decode cX9_readsOnce 90 = .ok (.aload_n 0, 1) := by decide +kernel
theorem dX9_readsOnce_91 : decode cX9_readsOnce 91 = .ok (.invokevirtual 95, 3) := by decide +kernel
theorem dX9_readsOnce_94 : decode cX9_readsOnce 94 = .ok (.ireturn, 1) := by decide +kernel
theorem dX9_readsOnce_95 : decode cX9_readsOnce 95 = .ok (.aload_n 0, 1) := by decide +kernel
theorem dX9_readsOnce_96 : decode cX9_readsOnce 96 = .ok (.getfield 13, 3) := by decide +kernel
theorem dX9_readsOnce_99 : decode cX9_readsOnce 99 = .ok (.iconst 1, 1) := by decide +kernel
theorem dX9_readsOnce_100 : decode cX9_readsOnce 100 = .ok (.iload_n 1, 1) := by decide +kernel
theorem dX9_readsOnce_101 : decode cX9_readsOnce 101 = .ok (.ifCond .ne 7, 3) := by decide +kernel
theorem dX9_readsOnce_104 : decode cX9_readsOnce 104 = .ok (.iload_n 2, 1) := by decide +kernel
theorem dX9_readsOnce_105 : decode cX9_readsOnce 105 = .ok (.goto 9, 3) := by decide +kernel
theorem dX9_readsOnce_108 : decode cX9_readsOnce 108 = .ok (.aload_n 0, 1) := by decide +kernel
theorem dX9_readsOnce_109 : decode cX9_readsOnce 109 = .ok (.getfield 13, 3) := by decide +kernel
theorem dX9_readsOnce_112 : decode cX9_readsOnce 112 = .ok (.iconst 1, 1) := by decide +kernel
theorem dX9_readsOnce_113 : decode cX9_readsOnce 113 = .ok (.iaload, 1) := by decide +kernel
theorem dX9_readsOnce_114 : decode cX9_readsOnce 114 = .ok (.iastore, 1) := by decide +kernel
theorem dX9_readsOnce_115 : decode cX9_readsOnce 115 = .ok (.aload_n 0, 1) := by decide +kernel
theorem dX9_readsOnce_116 : decode cX9_readsOnce 116 = .ok (.getfield 13, 3) := by decide +kernel
theorem dX9_readsOnce_119 : decode cX9_readsOnce 119 = .ok (.iconst 2, 1) := by decide +kernel
theorem dX9_readsOnce_120 : decode cX9_readsOnce 120 = .ok (.iload_n 1, 1) := by decide +kernel
theorem dX9_readsOnce_121 : decode cX9_readsOnce 121 = .ok (.iconst 1, 1) := by decide +kernel
theorem dX9_readsOnce_122 : decode cX9_readsOnce 122 = .ok (.if_icmp .ne 7, 3) := by decide +kernel
theorem dX9_readsOnce_125 : decode cX9_readsOnce 125 = .ok (.iload_n 2, 1) := by decide +kernel
theorem dX9_readsOnce_126 : decode cX9_readsOnce 126 = .ok (.goto 9, 3) := by decide +kernel
theorem dX9_readsOnce_129 : decode cX9_readsOnce 129 = .ok (.aload_n 0, 1) := by decide +kernel
theorem dX9_readsOnce_130 : decode cX9_readsOnce 130 = .ok (.getfield 13, 3) := by decide +kernel
theorem dX9_readsOnce_133 : decode cX9_readsOnce 133 = .ok (.iconst 2, 1) := by decide +kernel
theorem dX9_readsOnce_134 : decode cX9_readsOnce 134 = .ok (.iaload, 1) := by decide +kernel
theorem dX9_readsOnce_135 : decode cX9_readsOnce 135 = .ok (.iastore, 1) := by decide +kernel
theorem dX9_readsOnce_136 : decode cX9_readsOnce 136 = .ok (.aload_n 0, 1) := by decide +kernel
theorem dX9_readsOnce_137 : decode cX9_readsOnce 137 = .ok (.iload_n 1, 1) := by decide +kernel
theorem dX9_readsOnce_138 : decode cX9_readsOnce 138 = .ok (.iconst 2, 1) := by decide +kernel
theorem dX9_readsOnce_139 : decode cX9_readsOnce 139 = .ok (.if_icmp .ne 7, 3) := by decide +kernel
theorem dX9_readsOnce_142 : decode cX9_readsOnce 142 = .ok (.iload_n 2, 1) := by decide +kernel
theorem dX9_readsOnce_143 : decode cX9_readsOnce 143 = .ok (.goto 7, 3) := by decide +kernel
theorem dX9_readsOnce_146 : decode cX9_readsOnce 146 = .ok (.aload_n 0, 1) := by decide +kernel
theorem dX9_readsOnce_147 : decode cX9_readsOnce 147 = .ok (.getfield 60, 3) := by decide +kernel
theorem dX9_readsOnce_150 : decode cX9_readsOnce 150 = .ok (.putfield 60, 3) := by decide +kernel
theorem dX9_readsOnce_153 : decode cX9_readsOnce 153 = .ok (.aload_n 0, 1) := by decide +kernel
theorem dX9_readsOnce_154 : decode cX9_readsOnce 154 = .ok (.invokevirtual 102, 3) := by decide +kernel
theorem dX9_readsOnce_157 : decode cX9_readsOnce 157 = .ok (.ireturn, 1) := by decide +kernel
theorem dX9_readsItem_0 : decode cX9_readsItem 0 = .ok (.aload_n 0, 1) := by decide +kernel
theorem dX9_readsItem_1 : decode cX9_readsItem 1 = .ok (.invokevirtual 92, 3) := by decide +kernel
theorem dX9_readsItem_4 : decode cX9_readsItem 4 = .ok (.aload_n 0, 1) := by decide +kernel
theorem dX9_readsItem_5 : decode cX9_readsItem 5 = .ok (.getfield 79, 3) := by decide +kernel
theorem dX9_readsItem_8 : decode cX9_readsItem 8 = .ok (.lookupswitch 80 #[(102, 62), (111, 74), (112, 57), (114, 52), (119, 68)], 52) := by decide +kernel
theorem dX9_readsItem_60 : decode cX9_readsItem 60 = .ok (.aload_n 0, 1) := by decide +kernel
theorem dX9_readsItem_61 : decode cX9_readsItem 61 = .ok (.invokevirtual 119, 3) := by decide +kernel
theorem dX9_readsItem_64 : decode cX9_readsItem 64 = .ok (.ireturn, 1) := by decide +kernel
theorem dX9_readsItem_65 : decode cX9_readsItem 65 = .ok (.aload_n 0, 1) := by decide +kernel
theorem dX9_readsItem_66 : decode cX9_readsItem 66 = .ok (.invokevirtual 122, 3) := by decide +kernel
theorem dX9_readsItem_69 : decode cX9_readsItem 69 = .ok (.ireturn, 1) := by decide +kernel
theorem dX9_readsItem_70 : decode cX9_readsItem 70 = .ok (.aload_n 0, 1) := by decide +kernel
theorem dX9_readsItem_71 : decode cX9_readsItem 71 = .ok (.iconst 0, 1) := by decide +kernel
theorem dX9_readsItem_72 : decode cX9_readsItem 72 = .ok (.invokevirtual 125, 3) := by decide +kernel
theorem dX9_readsItem_75 : decode cX9_readsItem 75 = .ok (.ireturn, 1) := by decide +kernel
theorem dX9_readsItem_76 : decode cX9_readsItem 76 = .ok (.aload_n 0, 1) := by decide +kernel
theorem dX9_readsItem_77 : decode cX9_readsItem 77 = .ok (.iconst 1, 1) := by decide +kernel
theorem dX9_readsItem_78 : decode cX9_readsItem 78 = .ok (.invokevirtual 125, 3) := by decide +kernel
theorem dX9_readsItem_81 : decode cX9_readsItem 81 = .ok (.ireturn, 1) := by decide +kernel
theorem dX9_readsItem_82 : decode cX9_readsItem 82 = .ok (.aload_n 0, 1) := by decide +kernel
theorem dX9_readsItem_83 : decode cX9_readsItem 83 = .ok (.iconst 2, 1) := by decide +kernel
theorem dX9_readsItem_84 : decode cX9_readsItem 84 = .ok (.invokevirtual 125, 3) := by decide +kernel
theorem dX9_readsItem_87 : decode cX9_readsItem 87 = .ok (.ireturn, 1) := by decide +kernel
theorem dX9_readsItem_88 : decode cX9_readsItem 88 = .ok (.aload_n 0, 1) := by decide +kernel
theorem dX9_readsItem_89 : decode cX9_readsItem 89 = .ok (.invokevirtual 95, 3) := by decide +kernel
theorem dX9_readsItem_92 : decode cX9_readsItem 92 = .ok (.ireturn, 1) := by decide +kernel
theorem dX9_isMore_0 : decode cX9_isMore 0 = .ok (.aload_n 0, 1) := by decide +kernel
theorem dX9_isMore_1 : decode cX9_isMore 1 = .ok (.getfield 73, 3) := by decide +kernel
theorem dX9_isMore_4 : decode cX9_isMore 4 = .ok (.aload_n 0, 1) := by decide +kernel
theorem dX9_isMore_5 : decode cX9_isMore 5 = .ok (.getfield 70, 3) := by decide +kernel
theorem dX9_isMore_8 : decode cX9_isMore 8 = .ok (.if_icmp .ge 30, 3) := by decide +kernel
theorem dX9_isMore_11 : decode cX9_isMore 11 = .ok (.aload_n 0, 1) := by decide +kernel
theorem dX9_isMore_12 : decode cX9_isMore 12 = .ok (.getfield 7, 3) := by decide +kernel
theorem dX9_isMore_15 : decode cX9_isMore 15 = .ok (.aload_n 0, 1) := by decide +kernel
theorem dX9_isMore_16 : decode cX9_isMore 16 = .ok (.getfield 73, 3) := by decide +kernel
theorem dX9_isMore_19 : decode cX9_isMore 19 = .ok (.iaload, 1) := by decide +kernel
theorem dX9_isMore_20 : decode cX9_isMore 20 = .ok (.bipush 32, 2) := by decide +kernel
theorem dX9_isMore_22 : decode cX9_isMore 22 = .ok (.if_icmp .ne 16, 3) := by decide +kernel
theorem dX9_isMore_25 : decode cX9_isMore 25 = .ok (.aload_n 0, 1) := by decide +kernel
theorem dX9_isMore_26 : decode cX9_isMore 26 = .ok (.dup, 1) := by decide +kernel
theorem dX9_isMore_27 : decode cX9_isMore 27 = .ok (.getfield 73, 3) := by decide +kernel
theorem dX9_isMore_30 : decode cX9_isMore 30 = .ok (.iconst 1, 1) := by decide +kernel
theorem dX9_isMore_31 : decode cX9_isMore 31 = .ok (.iadd, 1) := by decide +kernel
theorem dX9_isMore_32 : decode cX9_isMore 32 = .ok (.putfield 73, 3) := by decide +kernel
theorem dX9_isMore_35 : decode cX9_isMore 35 = .ok (.goto (-35), 3) := by decide +kernel
theorem dX9_isMore_38 : decode cX9_isMore 38 = .ok (.aload_n 0, 1) := by decide +kernel
theorem dX9_isMore_39 : decode cX9_isMore 39 = .ok (.getfield 73, 3) := by decide +kernel
theorem dX9_isMore_42 : decode cX9_isMore 42 = .ok (.aload_n 0, 1) := by decide +kernel
theorem dX9_isMore_43 : decode cX9_isMore 43 = .ok (.getfield 70, 3) := by decide +kernel
theorem dX9_isMore_46 : decode cX9_isMore 46 = .ok (.if_icmp .ge 7, 3) := by decide +kernel
theorem dX9_isMore_49 : decode cX9_isMore 49 = .ok (.iconst 1, 1) := by decide +kernel
theorem dX9_isMore_50 : decode cX9_isMore 50 = .ok (.goto 4, 3) := by decide +kernel
theorem dX9_isMore_53 : decode cX9_isMore 53 = .ok (.iconst 0, 1) := by decide +kernel
theorem dX9_isMore_54 : decode cX9_isMore 54 = .ok (.ireturn, 1) := by decide +kernel
theorem dX9_house_0 : decode cX9_house 0 = .ok (.aload_n 0, 1) := by decide +kernel
theorem dX9_house_1 : decode cX9_house 1 = .ok (.invokevirtual 50, 3) := by decide +kernel
theorem dX9_house_4 : decode cX9_house 4 = .ok (.aload_n 0, 1) := by decide +kernel
theorem dX9_house_5 : decode cX9_house 5 = .ok (.iconst 0, 1) := by decide +kernel
theorem dX9_house_6 : decode cX9_house 6 = .ok (.putfield 73, 3) := by decide +kernel
theorem dX9_house_9 : decode cX9_house 9 = .ok (.iconst 0, 1) := by decide +kernel
theorem dX9_house_10 : decode cX9_house 10 = .ok (.istore_n 1, 1) := by decide +kernel
theorem dX9_house_11 : decode cX9_house 11 = .ok (.aload_n 0, 1) := by decide +kernel
theorem dX9_house_12 : decode cX9_house 12 = .ok (.invokevirtual 128, 3) := by decide +kernel
theorem dX9_house_15 : decode cX9_house 15 = .ok (.ifCond .eq 24, 3) := by decide +kernel
theorem dX9_house_18 : decode cX9_house 18 = .ok (.aload_n 0, 1) := by decide +kernel
theorem dX9_house_19 : decode cX9_house 19 = .ok (.invokevirtual 131, 3) := by decide +kernel
theorem dX9_house_22 : decode cX9_house 22 = .ok (.ifCond .ne 11, 3) := by decide +kernel
theorem dX9_house_25 : decode cX9_house 25 = .ok (.bipush (-10), 2) := by decide +kernel
theorem dX9_house_27 : decode cX9_house 27 = .ok (.aload_n 0, 1) := by decide +kernel
theorem dX9_house_28 : decode cX9_house 28 = .ok (.getfield 89, 3) := by decide +kernel
theorem dX9_house_31 : decode cX9_house 31 = .ok (.isub, 1) := by decide +kernel
theorem dX9_house_32 : decode cX9_house 32 = .ok (.ireturn, 1) := by decide +kernel
theorem dX9_house_33 : decode cX9_house 33 = .ok (.iinc 1 1, 3) := by decide +kernel
theorem dX9_house_36 : decode cX9_house 36 = .ok (.goto (-25), 3) := by decide +kernel
theorem dX9_house_39 : decode cX9_house 39 = .ok (.aload_n 0, 1) := by decide +kernel
theorem dX9_house_40 : decode cX9_house 40 = .ok (.invokevirtual 53, 3) := by decide +kernel
theorem dX9_house_43 : decode cX9_house 43 = .ok (.aload_n 0, 1) := by decide +kernel
theorem dX9_house_44 : decode cX9_house 44 = .ok (.iconst 0, 1) := by decide +kernel
theorem dX9_house_45 : decode cX9_house 45 = .ok (.putfield 70, 3) := by decide +kernel
theorem dX9_house_48 : decode cX9_house 48 = .ok (.iload_n 1, 1) := by decide +kernel
theorem dX9_house_49 : decode cX9_house 49 = .ok (.ireturn, 1) := by decide +kernel
theorem dX9_tellsAll_0 : decode cX9_tellsAll 0 = .ok (.iconst 0, 1) := by decide +kernel
theorem dX9_tellsAll_1 : decode cX9_tellsAll 1 = .ok (.istore_n 1, 1) := by decide +kernel
theorem dX9_tellsAll_2 : decode cX9_tellsAll 2 = .ok (.iload_n 1, 1) := by decide +kernel
theorem dX9_tellsAll_3 : decode cX9_tellsAll 3 = .ok (.bipush 33, 2) := by decide +kernel
theorem dX9_tellsAll_5 : decode cX9_tellsAll 5 = .ok (.if_icmp .ge 21, 3) := by decide +kernel
theorem dX9_tellsAll_8 : decode cX9_tellsAll 8 = .ok (.aload_n 0, 1) := by decide +kernel
theorem dX9_tellsAll_9 : decode cX9_tellsAll 9 = .ok (.getfield 25, 3) := by decide +kernel
theorem dX9_tellsAll_12 : decode cX9_tellsAll 12 = .ok (.iload_n 1, 1) := by decide +kernel
theorem dX9_tellsAll_13 : decode cX9_tellsAll 13 = .ok (.aload_n 0, 1) := by decide +kernel
theorem dX9_tellsAll_14 : decode cX9_tellsAll 14 = .ok (.getfield 13, 3) := by decide +kernel
theorem dX9_tellsAll_17 : decode cX9_tellsAll 17 = .ok (.iload_n 1, 1) := by decide +kernel
theorem dX9_tellsAll_18 : decode cX9_tellsAll 18 = .ok (.iaload, 1) := by decide +kernel
theorem dX9_tellsAll_19 : decode cX9_tellsAll 19 = .ok (.iastore, 1) := by decide +kernel
theorem dX9_tellsAll_20 : decode cX9_tellsAll 20 = .ok (.iinc 1 1, 3) := by decide +kernel
theorem dX9_tellsAll_23 : decode cX9_tellsAll 23 = .ok (.goto (-21), 3) := by decide +kernel
theorem dX9_tellsAll_26 : decode cX9_tellsAll 26 = .ok (.aload_n 0, 1) := by decide +kernel
theorem dX9_tellsAll_27 : decode cX9_tellsAll 27 = .ok (.aload_n 0, 1) := by decide +kernel
theorem dX9_tellsAll_28 : decode cX9_tellsAll 28 = .ok (.getfield 56, 3) := by decide +kernel
theorem dX9_tellsAll_31 : decode cX9_tellsAll 31 = .ok (.putfield 134, 3) := by decide +kernel
theorem dX9_tellsAll_34 : decode cX9_tellsAll 34 = .ok (.aload_n 0, 1) := by decide +kernel
theorem dX9_tellsAll_35 : decode cX9_tellsAll 35 = .ok (.aload_n 0, 1) := by decide +kernel
theorem dX9_tellsAll_36 : decode cX9_tellsAll 36 = .ok (.getfield 60, 3) := by decide +kernel
theorem dX9_tellsAll_39 : decode cX9_tellsAll 39 = .ok (.putfield 137, 3) := by decide +kernel
theorem dX9_tellsAll_42 : decode cX9_tellsAll 42 = .ok (.iconst 0, 1) := by decide +kernel
theorem dX9_tellsAll_43 : decode cX9_tellsAll 43 = .ok (.istore_n 1, 1) := by decide +kernel
theorem dX9_tellsAll_44 : decode cX9_tellsAll 44 = .ok (.iload_n 1, 1) := by decide +kernel
theorem dX9_tellsAll_45 : decode cX9_tellsAll 45 = .ok (.bipush 6, 2) := by decide +kernel
theorem dX9_tellsAll_47 : decode cX9_tellsAll 47 = .ok (.if_icmp .ge 45, 3) := by decide +kernel
theorem dX9_tellsAll_50 : decode cX9_tellsAll 50 = .ok (.aload_n 0, 1) := by decide +kernel
theorem dX9_tellsAll_51 : decode cX9_tellsAll 51 = .ok (.getfield 28, 3) := by decide +kernel
theorem dX9_tellsAll_54 : decode cX9_tellsAll 54 = .ok (.iload_n 1, 1) := by decide +kernel
theorem dX9_tellsAll_55 : decode cX9_tellsAll 55 = .ok (.aload_n 0, 1) := by decide +kernel
theorem dX9_tellsAll_56 : decode cX9_tellsAll 56 = .ok (.getfield 16, 3) := by decide +kernel
theorem dX9_tellsAll_59 : decode cX9_tellsAll 59 = .ok (.iload_n 1, 1) := by decide +kernel
theorem dX9_tellsAll_60 : decode cX9_tellsAll 60 = .ok (.iaload, 1) := by decide +kernel
theorem dX9_tellsAll_61 : decode cX9_tellsAll 61 = .ok (.iastore, 1) := by decide +kernel
theorem dX9_tellsAll_62 : decode cX9_tellsAll 62 = .ok (.aload_n 0, 1) := by decide +kernel
theorem dX9_tellsAll_63 : decode cX9_tellsAll 63 = .ok (.getfield 31, 3) := by decide +kernel
theorem dX9_tellsAll_66 : decode cX9_tellsAll 66 = .ok (.iload_n 1, 1) := by decide +kernel
theorem dX9_tellsAll_67 : decode cX9_tellsAll 67 = .ok (.aload_n 0, 1) := by decide +kernel
theorem dX9_tellsAll_68 : decode cX9_tellsAll 68 = .ok (.getfield 19, 3) := by decide +kernel
theorem dX9_tellsAll_71 : decode cX9_tellsAll 71 = .ok (.iload_n 1, 1) := by decide +kernel
theorem dX9_tellsAll_72 : decode cX9_tellsAll 72 = .ok (.iaload, 1) := by decide +kernel
theorem dX9_tellsAll_73 : decode cX9_tellsAll 73 = .ok (.iastore, 1) := by decide +kernel
theorem dX9_tellsAll_74 : decode cX9_tellsAll 74 = .ok (.aload_n 0, 1) := by decide +kernel
theorem dX9_tellsAll_75 : decode cX9_tellsAll 75 = .ok (.getfield 34, 3) := by decide +kernel
theorem dX9_tellsAll_78 : decode cX9_tellsAll 78 = .ok (.iload_n 1, 1) := by decide +kernel
theorem dX9_tellsAll_79 : decode cX9_tellsAll 79 = .ok (.aload_n 0, 1) := by decide +kernel
theorem dX9_tellsAll_80 : decode cX9_tellsAll 80 = .ok (.getfield 22, 3) := by decide +kernel
theorem dX9_tellsAll_83 : decode cX9_tellsAll 83 = .ok (.iload_n 1, 1) := by decide +kernel
theorem dX9_tellsAll_84 : decode cX9_tellsAll 84 = .ok (.iaload, 1) := by decide +kernel
theorem dX9_tellsAll_85 : decode cX9_tellsAll 85 = .ok (.iastore, 1) := by decide +kernel
theorem dX9_tellsAll_86 : decode cX9_tellsAll 86 = .ok (.iinc 1 1, 3) := by decide +kernel
theorem dX9_tellsAll_89 : decode cX9_tellsAll 89 = .ok (.goto (-45), 3) := by decide +kernel
theorem dX9_tellsAll_92 : decode cX9_tellsAll 92 = .ok (.aload_n 0, 1) := by decide +kernel
theorem dX9_tellsAll_93 : decode cX9_tellsAll 93 = .ok (.iconst 0, 1) := by decide +kernel
theorem dX9_tellsAll_94 : decode cX9_tellsAll 94 = .ok (.putfield 140, 3) := by decide +kernel
theorem dX9_tellsAll_97 : decode cX9_tellsAll 97 = .ok (.aload_n 0, 1) := by decide +kernel
theorem dX9_tellsAll_98 : decode cX9_tellsAll 98 = .ok (.getfield 40, 3) := by decide +kernel
theorem dX9_tellsAll_101 : decode cX9_tellsAll 101 = .ok (.iconst 0, 1) := by decide +kernel
theorem dX9_tellsAll_102 : decode cX9_tellsAll 102 = .ok (.iconst 0, 1) := by decide +kernel
theorem dX9_tellsAll_103 : decode cX9_tellsAll 103 = .ok (.bastore, 1) := by decide +kernel
theorem dX9_tellsAll_104 : decode cX9_tellsAll 104 = .ok (.aload_n 0, 1) := by decide +kernel
theorem dX9_tellsAll_105 : decode cX9_tellsAll 105 = .ok (.getfield 40, 3) := by decide +kernel
theorem dX9_tellsAll_108 : decode cX9_tellsAll 108 = .ok (.iconst 1, 1) := by decide +kernel
theorem dX9_tellsAll_109 : decode cX9_tellsAll 109 = .ok (.iconst 0, 1) := by decide +kernel
theorem dX9_tellsAll_110 : decode cX9_tellsAll 110 = .ok (.bastore, 1) := by decide +kernel
theorem dX9_tellsAll_111 : decode cX9_tellsAll 111 = .ok (.aload_n 0, 1) := by decide +kernel
theorem dX9_tellsAll_112 : decode cX9_tellsAll 112 = .ok (.iconst 0, 1) := by decide +kernel
theorem dX9_tellsAll_113 : decode cX9_tellsAll 113 = .ok (.putfield 143, 3) := by decide +kernel
theorem dX9_tellsAll_116 : decode cX9_tellsAll 116 = .ok (.return_, 1) := by decide +kernel
theorem dX9_power_0 : decode cX9_power 0 = .ok (.iconst 1, 1) := by decide +kernel
theorem dX9_power_1 : decode cX9_power 1 = .ok (.istore_n 1, 1) := by decide +kernel
theorem dX9_power_2 : decode cX9_power 2 = .ok (.iconst 0, 1) := by decide +kernel
theorem dX9_power_3 : decode cX9_power 3 = .ok (.istore_n 2, 1) := by decide +kernel
theorem dX9_power_4 : decode cX9_power 4 = .ok (.iload_n 2, 1) := by decide +kernel
theorem dX9_power_5 : decode cX9_power 5 = .ok (.iload_n 0, 1) := by decide +kernel
theorem dX9_power_6 : decode cX9_power 6 = .ok (.if_icmp .ge 13, 3) := by decide +kernel
theorem dX9_power_9 : decode cX9_power 9 = .ok (.iload_n 1, 1) := by decide +kernel
theorem dX9_power_10 : decode cX9_power 10 = .ok (.iconst 3, 1) := by decide +kernel
theorem dX9_power_11 : decode cX9_power 11 = .ok (.imul, 1) := by decide +kernel
theorem dX9_power_12 : decode cX9_power 12 = .ok (.istore_n 1, 1) := by decide +kernel
theorem dX9_power_13 : decode cX9_power 13 = .ok (.iinc 2 1, 3) := by decide +kernel
theorem dX9_power_16 : decode cX9_power 16 = .ok (.goto (-12), 3) := by decide +kernel
theorem dX9_power_19 : decode cX9_power 19 = .ok (.iload_n 1, 1) := by decide +kernel
theorem dX9_power_20 : decode cX9_power 20 = .ok (.ireturn, 1) := by decide +kernel
theorem dX9_how_0 : decode cX9_how 0 = .ok (.iload_n 1, 1) := by decide +kernel
theorem dX9_how_1 : decode cX9_how 1 = .ok (.aload_n 0, 1) := by decide +kernel
theorem dX9_how_2 : decode cX9_how 2 = .ok (.getfield 25, 3) := by decide +kernel
theorem dX9_how_5 : decode cX9_how 5 = .ok (.iconst 0, 1) := by decide +kernel
theorem dX9_how_6 : decode cX9_how 6 = .ok (.iaload, 1) := by decide +kernel
theorem dX9_how_7 : decode cX9_how 7 = .ok (.iconst 1, 1) := by decide +kernel
theorem dX9_how_8 : decode cX9_how 8 = .ok (.isub, 1) := by decide +kernel
theorem dX9_how_9 : decode cX9_how 9 = .ok (.iload_n 2, 1) := by decide +kernel
theorem dX9_how_10 : decode cX9_how 10 = .ok (.isub, 1) := by decide +kernel
theorem dX9_how_11 : decode cX9_how 11 = .ok (.invokestatic 147, 3) := by decide +kernel
theorem dX9_how_14 : decode cX9_how 14 = .ok (.idiv, 1) := by decide +kernel
theorem dX9_how_15 : decode cX9_how 15 = .ok (.iconst 3, 1) := by decide +kernel
theorem dX9_how_16 : decode cX9_how 16 = .ok (.irem, 1) := by decide +kernel
theorem dX9_how_17 : decode cX9_how 17 = .ok (.ireturn, 1) := by decide +kernel
theorem dX9_countOf_0 : decode cX9_countOf 0 = .ok (.iload_n 2, 1) := by decide +kernel
theorem dX9_countOf_1 : decode cX9_countOf 1 = .ok (.iconst 1, 1) := by decide +kernel
theorem dX9_countOf_2 : decode cX9_countOf 2 = .ok (.if_icmp .ne 20, 3) := by decide +kernel
theorem dX9_countOf_5 : decode cX9_countOf 5 = .ok (.aload_n 0, 1) := by decide +kernel
theorem dX9_countOf_6 : decode cX9_countOf 6 = .ok (.getfield 25, 3) := by decide +kernel
theorem dX9_countOf_9 : decode cX9_countOf 9 = .ok (.bipush 13, 2) := by decide +kernel
theorem dX9_countOf_11 : decode cX9_countOf 11 = .ok (.iload_n 1, 1) := by decide +kernel
theorem dX9_countOf_12 : decode cX9_countOf 12 = .ok (.iadd, 1) := by decide +kernel
theorem dX9_countOf_13 : decode cX9_countOf 13 = .ok (.iaload, 1) := by decide +kernel
theorem dX9_countOf_14 : decode cX9_countOf 14 = .ok (.iconst 5, 1) := by decide +kernel
theorem dX9_countOf_15 : decode cX9_countOf 15 = .ok (.imul, 1) := by decide +kernel
theorem dX9_countOf_16 : decode cX9_countOf 16 = .ok (.bipush 8, 2) := by decide +kernel
theorem dX9_countOf_18 : decode cX9_countOf 18 = .ok (.idiv, 1) := by decide +kernel
theorem dX9_countOf_19 : decode cX9_countOf 19 = .ok (.goto 12, 3) := by decide +kernel
theorem dX9_countOf_22 : decode cX9_countOf 22 = .ok (.aload_n 0, 1) := by decide +kernel
theorem dX9_countOf_23 : decode cX9_countOf 23 = .ok (.getfield 25, 3) := by decide +kernel
theorem dX9_countOf_26 : decode cX9_countOf 26 = .ok (.bipush 13, 2) := by decide +kernel
theorem dX9_countOf_28 : decode cX9_countOf 28 = .ok (.iload_n 1, 1) := by decide +kernel
theorem dX9_countOf_29 : decode cX9_countOf 29 = .ok (.iadd, 1) := by decide +kernel
theorem dX9_countOf_30 : decode cX9_countOf 30 = .ok (.iaload, 1) := by decide +kernel
theorem dX9_countOf_31 : decode cX9_countOf 31 = .ok (.ireturn, 1) := by decide +kernel
theorem dX9_farBehind_0 : decode cX9_farBehind 0 = .ok (.aload_n 0, 1) := by decide +kernel
theorem dX9_farBehind_1 : decode cX9_farBehind 1 = .ok (.iload_n 1, 1) := by decide +kernel
theorem dX9_farBehind_2 : decode cX9_farBehind 2 = .ok (.iload_n 2, 1) := by decide +kernel
theorem dX9_farBehind_3 : decode cX9_farBehind 3 = .ok (.invokevirtual 151, 3) := by decide +kernel
theorem dX9_farBehind_6 : decode cX9_farBehind 6 = .ok (.istore 4, 2) := by decide +kernel
theorem dX9_farBehind_8 : decode cX9_farBehind 8 = .ok (.iconst 0, 1) := by decide +kernel
theorem dX9_farBehind_9 : decode cX9_farBehind 9 = .ok (.istore 5, 2) := by decide +kernel
theorem dX9_farBehind_11 : decode cX9_farBehind 11 = .ok (.iload 5, 2) := by decide +kernel
theorem dX9_farBehind_13 : decode cX9_farBehind 13 = .ok (.iconst 3, 1) := by decide +kernel
theorem dX9_farBehind_14 : decode cX9_farBehind 14 = .ok (.if_icmp .ge 26, 3) := by decide +kernel
theorem dX9_farBehind_17 : decode cX9_farBehind 17 = .ok (.iload 4, 2) := by decide +kernel
theorem dX9_farBehind_19 : decode cX9_farBehind 19 = .ok (.iload_n 3, 1) := by decide +kernel
theorem dX9_farBehind_20 : decode cX9_farBehind 20 = .ok (.if_icmp .ge 20, 3) := by decide +kernel
theorem dX9_farBehind_23 : decode cX9_farBehind 23 = .ok (.iload 4, 2) := by decide +kernel
theorem dX9_farBehind_25 : decode cX9_farBehind 25 = .ok (.aload_n 0, 1) := by decide +kernel
theorem dX9_farBehind_26 : decode cX9_farBehind 26 = .ok (.getfield 25, 3) := by decide +kernel
theorem dX9_farBehind_29 : decode cX9_farBehind 29 = .ok (.iconst 2, 1) := by decide +kernel
theorem dX9_farBehind_30 : decode cX9_farBehind 30 = .ok (.iaload, 1) := by decide +kernel
theorem dX9_farBehind_31 : decode cX9_farBehind 31 = .ok (.iadd, 1) := by decide +kernel
theorem dX9_farBehind_32 : decode cX9_farBehind 32 = .ok (.istore 4, 2) := by decide +kernel
theorem dX9_farBehind_34 : decode cX9_farBehind 34 = .ok (.iinc 5 1, 3) := by decide +kernel
theorem dX9_farBehind_37 : decode cX9_farBehind 37 = .ok (.goto (-26), 3) := by decide +kernel
theorem dX9_farBehind_40 : decode cX9_farBehind 40 = .ok (.iload 4, 2) := by decide +kernel
theorem dX9_farBehind_42 : decode cX9_farBehind 42 = .ok (.iload_n 3, 1) := by decide +kernel
theorem dX9_farBehind_43 : decode cX9_farBehind 43 = .ok (.if_icmp .ge 8, 3) := by decide +kernel
theorem dX9_farBehind_46 : decode cX9_farBehind 46 = .ok (.bipush (-9), 2) := by decide +kernel
theorem dX9_farBehind_48 : decode cX9_farBehind 48 = .ok (.goto 5, 3) := by decide +kernel
theorem dX9_farBehind_51 : decode cX9_farBehind 51 = .ok (.iload 4, 2) := by decide +kernel
theorem dX9_farBehind_53 : decode cX9_farBehind 53 = .ok (.ireturn, 1) := by decide +kernel
theorem dX9_goodOf_0 : decode cX9_goodOf 0 = .ok (.aload_n 0, 1) := by decide +kernel
theorem dX9_goodOf_1 : decode cX9_goodOf 1 = .ok (.getfield 25, 3) := by decide +kernel
theorem dX9_goodOf_4 : decode cX9_goodOf 4 = .ok (.iconst 0, 1) := by decide +kernel
theorem dX9_goodOf_5 : decode cX9_goodOf 5 = .ok (.iaload, 1) := by decide +kernel
theorem dX9_goodOf_6 : decode cX9_goodOf 6 = .ok (.istore_n 3, 1) := by decide +kernel
theorem dX9_goodOf_7 : decode cX9_goodOf 7 = .ok (.iload_n 3, 1) := by decide +kernel
theorem dX9_goodOf_8 : decode cX9_goodOf 8 = .ok (.iconst 1, 1) := by decide +kernel
theorem dX9_goodOf_9 : decode cX9_goodOf 9 = .ok (.isub, 1) := by decide +kernel
theorem dX9_goodOf_10 : decode cX9_goodOf 10 = .ok (.ifCond .le 9, 3) := by decide +kernel
theorem dX9_goodOf_13 : decode cX9_goodOf 13 = .ok (.iload_n 3, 1) := by decide +kernel
theorem dX9_goodOf_14 : decode cX9_goodOf 14 = .ok (.iconst 1, 1) := by decide +kernel
theorem dX9_goodOf_15 : decode cX9_goodOf 15 = .ok (.isub, 1) := by decide +kernel
theorem dX9_goodOf_16 : decode cX9_goodOf 16 = .ok (.goto 4, 3) := by decide +kernel
theorem dX9_goodOf_19 : decode cX9_goodOf 19 = .ok (.iconst 0, 1) := by decide +kernel
theorem dX9_goodOf_20 : decode cX9_goodOf 20 = .ok (.invokestatic 147, 3) := by decide +kernel
theorem dX9_goodOf_23 : decode cX9_goodOf 23 = .ok (.istore 4, 2) := by decide +kernel
theorem dX9_goodOf_25 : decode cX9_goodOf 25 = .ok (.iload_n 1, 1) := by decide +kernel
theorem dX9_goodOf_26 : decode cX9_goodOf 26 = .ok (.istore 5, 2) := by decide +kernel
theorem dX9_goodOf_28 : decode cX9_goodOf 28 = .ok (.iconst 0, 1) := by decide +kernel
theorem dX9_goodOf_29 : decode cX9_goodOf 29 = .ok (.istore 6, 2) := by decide +kernel
theorem dX9_goodOf_31 : decode cX9_goodOf 31 = .ok (.aload_n 0, 1) := by decide +kernel
theorem dX9_goodOf_32 : decode cX9_goodOf 32 = .ok (.iconst 0, 1) := by decide +kernel
theorem dX9_goodOf_33 : decode cX9_goodOf 33 = .ok (.putfield 155, 3) := by decide +kernel
theorem dX9_goodOf_36 : decode cX9_goodOf 36 = .ok (.aload_n 0, 1) := by decide +kernel
theorem dX9_goodOf_37 : decode cX9_goodOf 37 = .ok (.bipush (-9), 2) := by decide +kernel
theorem dX9_goodOf_39 : decode cX9_goodOf 39 = .ok (.putfield 158, 3) := by decide +kernel
theorem dX9_goodOf_42 : decode cX9_goodOf 42 = .ok (.aload_n 0, 1) := by decide +kernel
theorem dX9_goodOf_43 : decode cX9_goodOf 43 = .ok (.bipush (-9), 2) := by decide +kernel
theorem dX9_goodOf_45 : decode cX9_goodOf 45 = .ok (.putfield 161, 3) := by decide +kernel
theorem dX9_goodOf_48 : decode cX9_goodOf 48 = .ok (.iconst 0, 1) := by decide +kernel
theorem dX9_goodOf_49 : decode cX9_goodOf 49 = .ok (.istore 7, 2) := by decide +kernel
theorem dX9_goodOf_51 : decode cX9_goodOf 51 = .ok (.iload 7, 2) := by decide +kernel
theorem dX9_goodOf_53 : decode cX9_goodOf 53 = .ok (.iload_n 2, 1) := by decide +kernel
theorem dX9_goodOf_54 : decode cX9_goodOf 54 = .ok (.if_icmp .ge 198, 3) := by decide +kernel
theorem dX9_goodOf_57 : decode cX9_goodOf 57 = .ok (.iload 5, 2) := by decide +kernel
theorem dX9_goodOf_59 : decode cX9_goodOf 59 = .ok (.iload 4, 2) := by decide +kernel
theorem dX9_goodOf_61 : decode cX9_goodOf 61 = .ok (.idiv, 1) := by decide +kernel
theorem dX9_goodOf_62 : decode cX9_goodOf 62 = .ok (.istore 8, 2) := by decide +kernel
theorem dX9_goodOf_64 : decode cX9_goodOf 64 = .ok (.iload 5, 2) := by decide +kernel
theorem dX9_goodOf_66 : decode cX9_goodOf 66 = .ok (.iload 4, 2) := by decide +kernel
theorem dX9_goodOf_68 : decode cX9_goodOf 68 = .ok (.irem, 1) := by decide +kernel
theorem dX9_goodOf_69 : decode cX9_goodOf 69 = .ok (.istore 5, 2) := by decide +kernel
theorem dX9_goodOf_71 : decode cX9_goodOf 71 = .ok (.iload 4, 2) := by decide +kernel
theorem dX9_goodOf_73 : decode cX9_goodOf 73 = .ok (.iconst 3, 1) := by decide +kernel
theorem dX9_goodOf_74 : decode cX9_goodOf 74 = .ok (.idiv, 1) := by decide +kernel
theorem dX9_goodOf_75 : decode cX9_goodOf 75 = .ok (.istore 4, 2) := by decide +kernel
theorem dX9_goodOf_77 : decode cX9_goodOf 77 = .ok (.iload 8, 2) := by decide +kernel
theorem dX9_goodOf_79 : decode cX9_goodOf 79 = .ok (.iconst 2, 1) := by decide +kernel
theorem dX9_goodOf_80 : decode cX9_goodOf 80 = .ok (.if_icmp .eq 166, 3) := by decide +kernel
theorem dX9_goodOf_83 : decode cX9_goodOf 83 = .ok (.aload_n 0, 1) := by decide +kernel
theorem dX9_goodOf_84 : decode cX9_goodOf 84 = .ok (.getfield 158, 3) := by decide +kernel
theorem dX9_goodOf_87 : decode cX9_goodOf 87 = .ok (.bipush (-9), 2) := by decide +kernel
theorem dX9_goodOf_89 : decode cX9_goodOf 89 = .ok (.if_icmp .ne 14, 3) := by decide +kernel
theorem dX9_goodOf_92 : decode cX9_goodOf 92 = .ok (.aload_n 0, 1) := by decide +kernel
theorem dX9_goodOf_93 : decode cX9_goodOf 93 = .ok (.iload 7, 2) := by decide +kernel
theorem dX9_goodOf_95 : decode cX9_goodOf 95 = .ok (.iload 8, 2) := by decide +kernel
theorem dX9_goodOf_97 : decode cX9_goodOf 97 = .ok (.invokevirtual 151, 3) := by decide +kernel
theorem dX9_goodOf_100 : decode cX9_goodOf 100 = .ok (.goto 15, 3) := by decide +kernel
theorem dX9_goodOf_103 : decode cX9_goodOf 103 = .ok (.aload_n 0, 1) := by decide +kernel
theorem dX9_goodOf_104 : decode cX9_goodOf 104 = .ok (.iload 7, 2) := by decide +kernel
theorem dX9_goodOf_106 : decode cX9_goodOf 106 = .ok (.iload 8, 2) := by decide +kernel
theorem dX9_goodOf_108 : decode cX9_goodOf 108 = .ok (.aload_n 0, 1) := by decide +kernel
theorem dX9_goodOf_109 : decode cX9_goodOf 109 = .ok (.getfield 161, 3) := by decide +kernel
theorem dX9_goodOf_112 : decode cX9_goodOf 112 = .ok (.invokevirtual 164, 3) := by decide +kernel
theorem dX9_goodOf_115 : decode cX9_goodOf 115 = .ok (.istore 9, 2) := by decide +kernel
theorem dX9_goodOf_117 : decode cX9_goodOf 117 = .ok (.iload 9, 2) := by decide +kernel
theorem dX9_goodOf_119 : decode cX9_goodOf 119 = .ok (.bipush (-9), 2) := by decide +kernel
theorem dX9_goodOf_121 : decode cX9_goodOf 121 = .ok (.if_icmp .eq 54, 3) := by decide +kernel
theorem dX9_goodOf_124 : decode cX9_goodOf 124 = .ok (.aload_n 0, 1) := by decide +kernel
theorem dX9_goodOf_125 : decode cX9_goodOf 125 = .ok (.getfield 158, 3) := by decide +kernel
theorem dX9_goodOf_128 : decode cX9_goodOf 128 = .ok (.bipush (-9), 2) := by decide +kernel
theorem dX9_goodOf_130 : decode cX9_goodOf 130 = .ok (.if_icmp .eq 41, 3) := by decide +kernel
theorem dX9_goodOf_133 : decode cX9_goodOf 133 = .ok (.iload 9, 2) := by decide +kernel
theorem dX9_goodOf_135 : decode cX9_goodOf 135 = .ok (.aload_n 0, 1) := by decide +kernel
theorem dX9_goodOf_136 : decode cX9_goodOf 136 = .ok (.getfield 161, 3) := by decide +kernel
theorem dX9_goodOf_139 : decode cX9_goodOf 139 = .ok (.isub, 1) := by decide +kernel
theorem dX9_goodOf_140 : decode cX9_goodOf 140 = .ok (.aload_n 0, 1) := by decide +kernel
theorem dX9_goodOf_141 : decode cX9_goodOf 141 = .ok (.getfield 25, 3) := by decide +kernel
theorem dX9_goodOf_144 : decode cX9_goodOf 144 = .ok (.iconst 1, 1) := by decide +kernel
theorem dX9_goodOf_145 : decode cX9_goodOf 145 = .ok (.iaload, 1) := by decide +kernel
theorem dX9_goodOf_146 : decode cX9_goodOf 146 = .ok (.aload_n 0, 1) := by decide +kernel
theorem dX9_goodOf_147 : decode cX9_goodOf 147 = .ok (.getfield 25, 3) := by decide +kernel
theorem dX9_goodOf_150 : decode cX9_goodOf 150 = .ok (.iconst 3, 1) := by decide +kernel
theorem dX9_goodOf_151 : decode cX9_goodOf 151 = .ok (.iload 7, 2) := by decide +kernel
theorem dX9_goodOf_153 : decode cX9_goodOf 153 = .ok (.iadd, 1) := by decide +kernel
theorem dX9_goodOf_154 : decode cX9_goodOf 154 = .ok (.iaload, 1) := by decide +kernel
theorem dX9_goodOf_155 : decode cX9_goodOf 155 = .ok (.aload_n 0, 1) := by decide +kernel
theorem dX9_goodOf_156 : decode cX9_goodOf 156 = .ok (.getfield 25, 3) := by decide +kernel
theorem dX9_goodOf_159 : decode cX9_goodOf 159 = .ok (.iconst 3, 1) := by decide +kernel
theorem dX9_goodOf_160 : decode cX9_goodOf 160 = .ok (.aload_n 0, 1) := by decide +kernel
theorem dX9_goodOf_161 : decode cX9_goodOf 161 = .ok (.getfield 158, 3) := by decide +kernel
theorem dX9_goodOf_164 : decode cX9_goodOf 164 = .ok (.iadd, 1) := by decide +kernel
theorem dX9_goodOf_165 : decode cX9_goodOf 165 = .ok (.iaload, 1) := by decide +kernel
theorem dX9_goodOf_166 : decode cX9_goodOf 166 = .ok (.isub, 1) := by decide +kernel
theorem dX9_goodOf_167 : decode cX9_goodOf 167 = .ok (.imul, 1) := by decide +kernel
theorem dX9_goodOf_168 : decode cX9_goodOf 168 = .ok (.if_icmp .gt 7, 3) := by decide +kernel
theorem dX9_goodOf_171 : decode cX9_goodOf 171 = .ok (.iconst 1, 1) := by decide +kernel
theorem dX9_goodOf_172 : decode cX9_goodOf 172 = .ok (.goto 4, 3) := by decide +kernel
theorem dX9_goodOf_175 : decode cX9_goodOf 175 = .ok (.iconst 0, 1) := by decide +kernel
theorem dX9_goodOf_176 : decode cX9_goodOf 176 = .ok (.istore 10, 2) := by decide +kernel
theorem dX9_goodOf_178 : decode cX9_goodOf 178 = .ok (.iload 10, 2) := by decide +kernel
theorem dX9_goodOf_180 : decode cX9_goodOf 180 = .ok (.ifCond .ne 6, 3) := by decide +kernel
theorem dX9_goodOf_183 : decode cX9_goodOf 183 = .ok (.bipush (-9), 2) := by decide +kernel
theorem dX9_goodOf_185 : decode cX9_goodOf 185 = .ok (.ireturn, 1) := by decide +kernel
theorem dX9_goodOf_186 : decode cX9_goodOf 186 = .ok (.iload 6, 2) := by decide +kernel
theorem dX9_goodOf_188 : decode cX9_goodOf 188 = .ok (.iload 8, 2) := by decide +kernel
theorem dX9_goodOf_190 : decode cX9_goodOf 190 = .ok (.ifCond .ne 18, 3) := by decide +kernel
theorem dX9_goodOf_193 : decode cX9_goodOf 193 = .ok (.iconst 2, 1) := by decide +kernel
theorem dX9_goodOf_194 : decode cX9_goodOf 194 = .ok (.aload_n 0, 1) := by decide +kernel
theorem dX9_goodOf_195 : decode cX9_goodOf 195 = .ok (.getfield 25, 3) := by decide +kernel
theorem dX9_goodOf_198 : decode cX9_goodOf 198 = .ok (.bipush 23, 2) := by decide +kernel
theorem dX9_goodOf_200 : decode cX9_goodOf 200 = .ok (.iload 7, 2) := by decide +kernel
theorem dX9_goodOf_202 : decode cX9_goodOf 202 = .ok (.iadd, 1) := by decide +kernel
theorem dX9_goodOf_203 : decode cX9_goodOf 203 = .ok (.iaload, 1) := by decide +kernel
theorem dX9_goodOf_204 : decode cX9_goodOf 204 = .ok (.imul, 1) := by decide +kernel
theorem dX9_goodOf_205 : decode cX9_goodOf 205 = .ok (.goto 13, 3) := by decide +kernel
theorem dX9_goodOf_208 : decode cX9_goodOf 208 = .ok (.aload_n 0, 1) := by decide +kernel
theorem dX9_goodOf_209 : decode cX9_goodOf 209 = .ok (.getfield 25, 3) := by decide +kernel
theorem dX9_goodOf_212 : decode cX9_goodOf 212 = .ok (.bipush 23, 2) := by decide +kernel
theorem dX9_goodOf_214 : decode cX9_goodOf 214 = .ok (.iload 7, 2) := by decide +kernel
theorem dX9_goodOf_216 : decode cX9_goodOf 216 = .ok (.iadd, 1) := by decide +kernel
theorem dX9_goodOf_217 : decode cX9_goodOf 217 = .ok (.iaload, 1) := by decide +kernel
theorem dX9_goodOf_218 : decode cX9_goodOf 218 = .ok (.iadd, 1) := by decide +kernel
theorem dX9_goodOf_219 : decode cX9_goodOf 219 = .ok (.istore 6, 2) := by decide +kernel
theorem dX9_goodOf_221 : decode cX9_goodOf 221 = .ok (.aload_n 0, 1) := by decide +kernel
theorem dX9_goodOf_222 : decode cX9_goodOf 222 = .ok (.dup, 1) := by decide +kernel
theorem dX9_goodOf_223 : decode cX9_goodOf 223 = .ok (.getfield 155, 3) := by decide +kernel
theorem dX9_goodOf_226 : decode cX9_goodOf 226 = .ok (.iconst 1, 1) := by decide +kernel
theorem dX9_goodOf_227 : decode cX9_goodOf 227 = .ok (.iload 7, 2) := by decide +kernel
theorem dX9_goodOf_229 : decode cX9_goodOf 229 = .ok (.ishl, 1) := by decide +kernel
theorem dX9_goodOf_230 : decode cX9_goodOf 230 = .ok (.ior, 1) := by decide +kernel
theorem dX9_goodOf_231 : decode cX9_goodOf 231 = .ok (.putfield 155, 3) := by decide +kernel
theorem dX9_goodOf_234 : decode cX9_goodOf 234 = .ok (.aload_n 0, 1) := by decide +kernel
theorem dX9_goodOf_235 : decode cX9_goodOf 235 = .ok (.iload 7, 2) := by decide +kernel
theorem dX9_goodOf_237 : decode cX9_goodOf 237 = .ok (.putfield 158, 3) := by decide +kernel
theorem dX9_goodOf_240 : decode cX9_goodOf 240 = .ok (.aload_n 0, 1) := by decide +kernel
theorem dX9_goodOf_241 : decode cX9_goodOf 241 = .ok (.iload 9, 2) := by decide +kernel
theorem dX9_goodOf_243 : decode cX9_goodOf 243 = .ok (.putfield 161, 3) := by decide +kernel
theorem dX9_goodOf_246 : decode cX9_goodOf 246 = .ok (.iinc 7 1, 3) := by decide +kernel
theorem dX9_goodOf_249 : decode cX9_goodOf 249 = .ok (.goto (-198), 3) := by decide +kernel
theorem dX9_goodOf_252 : decode cX9_goodOf 252 = .ok (.iload 6, 2) := by decide +kernel
theorem dX9_goodOf_254 : decode cX9_goodOf 254 = .ok (.ireturn, 1) := by decide +kernel
theorem dX9_knows_0 : decode cX9_knows 0 = .ok (.aload_n 0, 1) := by decide +kernel
theorem dX9_knows_1 : decode cX9_knows 1 = .ok (.getfield 143, 3) := by decide +kernel
theorem dX9_knows_4 : decode cX9_knows 4 = .ok (.ifCond .eq 4, 3) := by decide +kernel
theorem dX9_knows_7 : decode cX9_knows 7 = .ok (.return_, 1) := by decide +kernel
theorem dX9_knows_8 : decode cX9_knows 8 = .ok (.aload_n 0, 1) := by decide +kernel
theorem dX9_knows_9 : decode cX9_knows 9 = .ok (.iconst 1, 1) := by decide +kernel
theorem dX9_knows_10 : decode cX9_knows 10 = .ok (.putfield 143, 3) := by decide +kernel
theorem dX9_knows_13 : decode cX9_knows 13 = .ok (.aload_n 0, 1) := by decide +kernel
theorem dX9_knows_14 : decode cX9_knows 14 = .ok (.getfield 25, 3) := by decide +kernel
theorem dX9_knows_17 : decode cX9_knows 17 = .ok (.iconst 0, 1) := by decide +kernel
theorem dX9_knows_18 : decode cX9_knows 18 = .ok (.iaload, 1) := by decide +kernel
theorem dX9_knows_19 : decode cX9_knows 19 = .ok (.istore_n 1, 1) := by decide +kernel
theorem dX9_knows_20 : decode cX9_knows 20 = .ok (.aload_n 0, 1) := by decide +kernel
theorem dX9_knows_21 : decode cX9_knows 21 = .ok (.iconst (-1), 1) := by decide +kernel
theorem dX9_knows_22 : decode cX9_knows 22 = .ok (.putfield 168, 3) := by decide +kernel
theorem dX9_knows_25 : decode cX9_knows 25 = .ok (.iconst 0, 1) := by decide +kernel
theorem dX9_knows_26 : decode cX9_knows 26 = .ok (.istore_n 2, 1) := by decide +kernel
theorem dX9_knows_27 : decode cX9_knows 27 = .ok (.iload_n 2, 1) := by decide +kernel
theorem dX9_knows_28 : decode cX9_knows 28 = .ok (.iconst 1, 1) := by decide +kernel
theorem dX9_knows_29 : decode cX9_knows 29 = .ok (.iload_n 1, 1) := by decide +kernel
theorem dX9_knows_30 : decode cX9_knows 30 = .ok (.ishl, 1) := by decide +kernel
theorem dX9_knows_31 : decode cX9_knows 31 = .ok (.if_icmp .ge 16, 3) := by decide +kernel
theorem dX9_knows_34 : decode cX9_knows 34 = .ok (.aload_n 0, 1) := by decide +kernel
theorem dX9_knows_35 : decode cX9_knows 35 = .ok (.getfield 47, 3) := by decide +kernel
theorem dX9_knows_38 : decode cX9_knows 38 = .ok (.iload_n 2, 1) := by decide +kernel
theorem dX9_knows_39 : decode cX9_knows 39 = .ok (.iconst 0, 1) := by decide +kernel
theorem dX9_knows_40 : decode cX9_knows 40 = .ok (.iastore, 1) := by decide +kernel
theorem dX9_knows_41 : decode cX9_knows 41 = .ok (.iinc 2 1, 3) := by decide +kernel
theorem dX9_knows_44 : decode cX9_knows 44 = .ok (.goto (-17), 3) := by decide +kernel
theorem dX9_knows_47 : decode cX9_knows 47 = .ok (.iconst 0, 1) := by decide +kernel
theorem dX9_knows_48 : decode cX9_knows 48 = .ok (.istore_n 2, 1) := by decide +kernel
theorem dX9_knows_49 : decode cX9_knows 49 = .ok (.iload_n 2, 1) := by decide +kernel
theorem dX9_knows_50 : decode cX9_knows 50 = .ok (.iload_n 1, 1) := by decide +kernel
theorem dX9_knows_51 : decode cX9_knows 51 = .ok (.invokestatic 147, 3) := by decide +kernel
theorem dX9_knows_54 : decode cX9_knows 54 = .ok (.if_icmp .ge 207, 3) := by decide +kernel
theorem dX9_knows_57 : decode cX9_knows 57 = .ok (.aload_n 0, 1) := by decide +kernel
theorem dX9_knows_58 : decode cX9_knows 58 = .ok (.iload_n 2, 1) := by decide +kernel
theorem dX9_knows_59 : decode cX9_knows 59 = .ok (.iload_n 1, 1) := by decide +kernel
theorem dX9_knows_60 : decode cX9_knows 60 = .ok (.invokevirtual 171, 3) := by decide +kernel
theorem dX9_knows_63 : decode cX9_knows 63 = .ok (.istore_n 3, 1) := by decide +kernel
theorem dX9_knows_64 : decode cX9_knows 64 = .ok (.iload_n 3, 1) := by decide +kernel
theorem dX9_knows_65 : decode cX9_knows 65 = .ok (.bipush (-9), 2) := by decide +kernel
theorem dX9_knows_67 : decode cX9_knows 67 = .ok (.if_icmp .eq 188, 3) := by decide +kernel
theorem dX9_knows_70 : decode cX9_knows 70 = .ok (.iload_n 3, 1) := by decide +kernel
theorem dX9_knows_71 : decode cX9_knows 71 = .ok (.aload_n 0, 1) := by decide +kernel
theorem dX9_knows_72 : decode cX9_knows 72 = .ok (.getfield 168, 3) := by decide +kernel
theorem dX9_knows_75 : decode cX9_knows 75 = .ok (.if_icmp .le 7, 3) := by decide +kernel
theorem dX9_knows_78 : decode cX9_knows 78 = .ok (.iconst 1, 1) := by decide +kernel
theorem dX9_knows_79 : decode cX9_knows 79 = .ok (.goto 4, 3) := by decide +kernel
theorem dX9_knows_82 : decode cX9_knows 82 = .ok (.iconst 0, 1) := by decide +kernel
theorem dX9_knows_83 : decode cX9_knows 83 = .ok (.istore 4, 2) := by decide +kernel
theorem dX9_knows_85 : decode cX9_knows 85 = .ok (.aload_n 0, 1) := by decide +kernel
theorem dX9_knows_86 : decode cX9_knows 86 = .ok (.iload 4, 2) := by decide +kernel
theorem dX9_knows_88 : decode cX9_knows 88 = .ok (.ifCond .eq 7, 3) := by decide +kernel
theorem dX9_knows_91 : decode cX9_knows 91 = .ok (.iload_n 2, 1) := by decide +kernel
theorem dX9_knows_92 : decode cX9_knows 92 = .ok (.goto 7, 3) := by decide +kernel
theorem dX9_knows_95 : decode cX9_knows 95 = .ok (.aload_n 0, 1) := by decide +kernel
theorem dX9_knows_96 : decode cX9_knows 96 = .ok (.getfield 174, 3) := by decide +kernel
theorem dX9_knows_99 : decode cX9_knows 99 = .ok (.putfield 174, 3) := by decide +kernel
theorem dX9_knows_102 : decode cX9_knows 102 = .ok (.aload_n 0, 1) := by decide +kernel
theorem dX9_knows_103 : decode cX9_knows 103 = .ok (.iload 4, 2) := by decide +kernel
theorem dX9_knows_105 : decode cX9_knows 105 = .ok (.ifCond .eq 7, 3) := by decide +kernel
theorem dX9_knows_108 : decode cX9_knows 108 = .ok (.lconst 0, 1) := by decide +kernel
theorem dX9_knows_109 : decode cX9_knows 109 = .ok (.goto 7, 3) := by decide +kernel
theorem dX9_knows_112 : decode cX9_knows 112 = .ok (.aload_n 0, 1) := by decide +kernel
theorem dX9_knows_113 : decode cX9_knows 113 = .ok (.getfield 177, 3) := by decide +kernel
theorem dX9_knows_116 : decode cX9_knows 116 = .ok (.putfield 177, 3) := by decide +kernel
theorem dX9_knows_119 : decode cX9_knows 119 = .ok (.aload_n 0, 1) := by decide +kernel
theorem dX9_knows_120 : decode cX9_knows 120 = .ok (.iload 4, 2) := by decide +kernel
theorem dX9_knows_122 : decode cX9_knows 122 = .ok (.ifCond .eq 10, 3) := by decide +kernel
theorem dX9_knows_125 : decode cX9_knows 125 = .ok (.aload_n 0, 1) := by decide +kernel
theorem dX9_knows_126 : decode cX9_knows 126 = .ok (.getfield 155, 3) := by decide +kernel
theorem dX9_knows_129 : decode cX9_knows 129 = .ok (.goto 7, 3) := by decide +kernel
theorem dX9_knows_132 : decode cX9_knows 132 = .ok (.aload_n 0, 1) := by decide +kernel
theorem dX9_knows_133 : decode cX9_knows 133 = .ok (.getfield 181, 3) := by decide +kernel
theorem dX9_knows_136 : decode cX9_knows 136 = .ok (.putfield 181, 3) := by decide +kernel
theorem dX9_knows_139 : decode cX9_knows 139 = .ok (.aload_n 0, 1) := by decide +kernel
theorem dX9_knows_140 : decode cX9_knows 140 = .ok (.iload 4, 2) := by decide +kernel
theorem dX9_knows_142 : decode cX9_knows 142 = .ok (.ifCond .eq 10, 3) := by decide +kernel
theorem dX9_knows_145 : decode cX9_knows 145 = .ok (.aload_n 0, 1) := by decide +kernel
theorem dX9_knows_146 : decode cX9_knows 146 = .ok (.getfield 155, 3) := by decide +kernel
theorem dX9_knows_149 : decode cX9_knows 149 = .ok (.goto 7, 3) := by decide +kernel
theorem dX9_knows_152 : decode cX9_knows 152 = .ok (.aload_n 0, 1) := by decide +kernel
theorem dX9_knows_153 : decode cX9_knows 153 = .ok (.getfield 184, 3) := by decide +kernel
theorem dX9_knows_156 : decode cX9_knows 156 = .ok (.putfield 184, 3) := by decide +kernel
theorem dX9_knows_159 : decode cX9_knows 159 = .ok (.aload_n 0, 1) := by decide +kernel
theorem dX9_knows_160 : decode cX9_knows 160 = .ok (.iload 4, 2) := by decide +kernel
theorem dX9_knows_162 : decode cX9_knows 162 = .ok (.ifCond .eq 7, 3) := by decide +kernel
theorem dX9_knows_165 : decode cX9_knows 165 = .ok (.iload_n 3, 1) := by decide +kernel
theorem dX9_knows_166 : decode cX9_knows 166 = .ok (.goto 7, 3) := by decide +kernel
theorem dX9_knows_169 : decode cX9_knows 169 = .ok (.aload_n 0, 1) := by decide +kernel
theorem dX9_knows_170 : decode cX9_knows 170 = .ok (.getfield 168, 3) := by decide +kernel
theorem dX9_knows_173 : decode cX9_knows 173 = .ok (.putfield 168, 3) := by decide +kernel
theorem dX9_knows_176 : decode cX9_knows 176 = .ok (.iload_n 3, 1) := by decide +kernel
theorem dX9_knows_177 : decode cX9_knows 177 = .ok (.aload_n 0, 1) := by decide +kernel
theorem dX9_knows_178 : decode cX9_knows 178 = .ok (.getfield 168, 3) := by decide +kernel
theorem dX9_knows_181 : decode cX9_knows 181 = .ok (.if_icmp .ne 39, 3) := by decide +kernel
theorem dX9_knows_184 : decode cX9_knows 184 = .ok (.aload_n 0, 1) := by decide +kernel
theorem dX9_knows_185 : decode cX9_knows 185 = .ok (.dup, 1) := by decide +kernel
theorem dX9_knows_186 : decode cX9_knows 186 = .ok (.getfield 177, 3) := by decide +kernel
theorem dX9_knows_189 : decode cX9_knows 189 = .ok (.lconst 1, 1) := by decide +kernel
theorem dX9_knows_190 : decode cX9_knows 190 = .ok (.ladd, 1) := by decide +kernel
theorem dX9_knows_191 : decode cX9_knows 191 = .ok (.putfield 177, 3) := by decide +kernel
theorem dX9_knows_194 : decode cX9_knows 194 = .ok (.aload_n 0, 1) := by decide +kernel
theorem dX9_knows_195 : decode cX9_knows 195 = .ok (.dup, 1) := by decide +kernel
theorem dX9_knows_196 : decode cX9_knows 196 = .ok (.getfield 181, 3) := by decide +kernel
theorem dX9_knows_199 : decode cX9_knows 199 = .ok (.aload_n 0, 1) := by decide +kernel
theorem dX9_knows_200 : decode cX9_knows 200 = .ok (.getfield 155, 3) := by decide +kernel
theorem dX9_knows_203 : decode cX9_knows 203 = .ok (.iand, 1) := by decide +kernel
theorem dX9_knows_204 : decode cX9_knows 204 = .ok (.putfield 181, 3) := by decide +kernel
theorem dX9_knows_207 : decode cX9_knows 207 = .ok (.aload_n 0, 1) := by decide +kernel
theorem dX9_knows_208 : decode cX9_knows 208 = .ok (.dup, 1) := by decide +kernel
theorem dX9_knows_209 : decode cX9_knows 209 = .ok (.getfield 184, 3) := by decide +kernel
theorem dX9_knows_212 : decode cX9_knows 212 = .ok (.aload_n 0, 1) := by decide +kernel
theorem dX9_knows_213 : decode cX9_knows 213 = .ok (.getfield 155, 3) := by decide +kernel
theorem dX9_knows_216 : decode cX9_knows 216 = .ok (.ior, 1) := by decide +kernel
theorem dX9_knows_217 : decode cX9_knows 217 = .ok (.putfield 184, 3) := by decide +kernel
theorem dX9_knows_220 : decode cX9_knows 220 = .ok (.aload_n 0, 1) := by decide +kernel
theorem dX9_knows_221 : decode cX9_knows 221 = .ok (.getfield 47, 3) := by decide +kernel
theorem dX9_knows_224 : decode cX9_knows 224 = .ok (.aload_n 0, 1) := by decide +kernel
theorem dX9_knows_225 : decode cX9_knows 225 = .ok (.getfield 155, 3) := by decide +kernel
theorem dX9_knows_228 : decode cX9_knows 228 = .ok (.iload_n 3, 1) := by decide +kernel
theorem dX9_knows_229 : decode cX9_knows 229 = .ok (.aload_n 0, 1) := by decide +kernel
theorem dX9_knows_230 : decode cX9_knows 230 = .ok (.getfield 47, 3) := by decide +kernel
theorem dX9_knows_233 : decode cX9_knows 233 = .ok (.aload_n 0, 1) := by decide +kernel
theorem dX9_knows_234 : decode cX9_knows 234 = .ok (.getfield 155, 3) := by decide +kernel
theorem dX9_knows_237 : decode cX9_knows 237 = .ok (.iaload, 1) := by decide +kernel
theorem dX9_knows_238 : decode cX9_knows 238 = .ok (.if_icmp .le 7, 3) := by decide +kernel
theorem dX9_knows_241 : decode cX9_knows 241 = .ok (.iload_n 3, 1) := by decide +kernel
theorem dX9_knows_242 : decode cX9_knows 242 = .ok (.goto 12, 3) := by decide +kernel
theorem dX9_knows_245 : decode cX9_knows 245 = .ok (.aload_n 0, 1) := by decide +kernel
theorem dX9_knows_246 : decode cX9_knows 246 = .ok (.getfield 47, 3) := by decide +kernel
theorem dX9_knows_249 : decode cX9_knows 249 = .ok (.aload_n 0, 1) := by decide +kernel
theorem dX9_knows_250 : decode cX9_knows 250 = .ok (.getfield 155, 3) := by decide +kernel
theorem dX9_knows_253 : decode cX9_knows 253 = .ok (.iaload, 1) := by decide +kernel
theorem dX9_knows_254 : decode cX9_knows 254 = .ok (.iastore, 1) := by decide +kernel
theorem dX9_knows_255 : decode cX9_knows 255 = .ok (.iinc 2 1, 3) := by decide +kernel
theorem dX9_knows_258 : decode cX9_knows 258 = .ok (.goto (-209), 3) := by decide +kernel
theorem dX9_knows_261 : decode cX9_knows 261 = .ok (.iconst 0, 1) := by decide +kernel
theorem dX9_knows_262 : decode cX9_knows 262 = .ok (.istore_n 2, 1) := by decide +kernel
theorem dX9_knows_263 : decode cX9_knows 263 = .ok (.iload_n 2, 1) := by decide +kernel
theorem dX9_knows_264 : decode cX9_knows 264 = .ok (.iload_n 1, 1) := by decide +kernel
theorem dX9_knows_265 : decode cX9_knows 265 = .ok (.if_icmp .ge 66, 3) := by decide +kernel
theorem dX9_knows_268 : decode cX9_knows 268 = .ok (.iconst 0, 1) := by decide +kernel
theorem dX9_knows_269 : decode cX9_knows 269 = .ok (.istore_n 3, 1) := by decide +kernel
theorem dX9_knows_270 : decode cX9_knows 270 = .ok (.iload_n 3, 1) := by decide +kernel
theorem dX9_knows_271 : decode cX9_knows 271 = .ok (.iconst 1, 1) := by decide +kernel
theorem dX9_knows_272 : decode cX9_knows 272 = .ok (.iload_n 1, 1) := by decide +kernel
theorem dX9_knows_273 : decode cX9_knows 273 = .ok (.ishl, 1) := by decide +kernel
theorem dX9_knows_274 : decode cX9_knows 274 = .ok (.if_icmp .ge 51, 3) := by decide +kernel
theorem dX9_knows_277 : decode cX9_knows 277 = .ok (.aload_n 0, 1) := by decide +kernel
theorem dX9_knows_278 : decode cX9_knows 278 = .ok (.getfield 47, 3) := by decide +kernel
theorem dX9_knows_281 : decode cX9_knows 281 = .ok (.iload_n 3, 1) := by decide +kernel
theorem dX9_knows_282 : decode cX9_knows 282 = .ok (.iconst 1, 1) := by decide +kernel
theorem dX9_knows_283 : decode cX9_knows 283 = .ok (.iload_n 2, 1) := by decide +kernel
theorem dX9_knows_284 : decode cX9_knows 284 = .ok (.ishl, 1) := by decide +kernel
theorem dX9_knows_285 : decode cX9_knows 285 = .ok (.iconst (-1), 1) := by decide +kernel
theorem dX9_knows_286 : decode cX9_knows 286 = .ok (.ixor, 1) := by decide +kernel
theorem dX9_knows_287 : decode cX9_knows 287 = .ok (.iand, 1) := by decide +kernel
theorem dX9_knows_288 : decode cX9_knows 288 = .ok (.iaload, 1) := by decide +kernel
theorem dX9_knows_289 : decode cX9_knows 289 = .ok (.istore 4, 2) := by decide +kernel
theorem dX9_knows_291 : decode cX9_knows 291 = .ok (.aload_n 0, 1) := by decide +kernel
theorem dX9_knows_292 : decode cX9_knows 292 = .ok (.getfield 47, 3) := by decide +kernel
theorem dX9_knows_295 : decode cX9_knows 295 = .ok (.iload_n 3, 1) := by decide +kernel
theorem dX9_knows_296 : decode cX9_knows 296 = .ok (.iload 4, 2) := by decide +kernel
theorem dX9_knows_298 : decode cX9_knows 298 = .ok (.aload_n 0, 1) := by decide +kernel
theorem dX9_knows_299 : decode cX9_knows 299 = .ok (.getfield 47, 3) := by decide +kernel
theorem dX9_knows_302 : decode cX9_knows 302 = .ok (.iload_n 3, 1) := by decide +kernel
theorem dX9_knows_303 : decode cX9_knows 303 = .ok (.iaload, 1) := by decide +kernel
theorem dX9_knows_304 : decode cX9_knows 304 = .ok (.if_icmp .le 8, 3) := by decide +kernel
theorem dX9_knows_307 : decode cX9_knows 307 = .ok (.iload 4, 2) := by decide +kernel
theorem dX9_knows_309 : decode cX9_knows 309 = .ok (.goto 9, 3) := by decide +kernel
theorem dX9_knows_312 : decode cX9_knows 312 = .ok (.aload_n 0, 1) := by decide +kernel
theorem dX9_knows_313 : decode cX9_knows 313 = .ok (.getfield 47, 3) := by decide +kernel
theorem dX9_knows_316 : decode cX9_knows 316 = .ok (.iload_n 3, 1) := by decide +kernel
theorem dX9_knows_317 : decode cX9_knows 317 = .ok (.iaload, 1) := by decide +kernel
theorem dX9_knows_318 : decode cX9_knows 318 = .ok (.iastore, 1) := by decide +kernel
theorem dX9_knows_319 : decode cX9_knows 319 = .ok (.iinc 3 1, 3) := by decide +kernel
theorem dX9_knows_322 : decode cX9_knows 322 = .ok (.goto (-52), 3) := by decide +kernel
theorem dX9_knows_325 : decode cX9_knows 325 = .ok (.iinc 2 1, 3) := by decide +kernel
theorem dX9_knows_328 : decode cX9_knows 328 = .ok (.goto (-65), 3) := by decide +kernel
theorem dX9_knows_331 : decode cX9_knows 331 = .ok (.return_, 1) := by decide +kernel
theorem dX9_isReading_0 : decode cX9_isReading 0 = .ok (.iload_n 1, 1) := by decide +kernel
theorem dX9_isReading_1 : decode cX9_isReading 1 = .ok (.iconst 0, 1) := by decide +kernel
theorem dX9_isReading_2 : decode cX9_isReading 2 = .ok (.aload_n 0, 1) := by decide +kernel
theorem dX9_isReading_3 : decode cX9_isReading 3 = .ok (.getfield 25, 3) := by decide +kernel
theorem dX9_isReading_6 : decode cX9_isReading 6 = .ok (.iconst 0, 1) := by decide +kernel
theorem dX9_isReading_7 : decode cX9_isReading 7 = .ok (.iaload, 1) := by decide +kernel
theorem dX9_isReading_8 : decode cX9_isReading 8 = .ok (.iconst 1, 1) := by decide +kernel
theorem dX9_isReading_9 : decode cX9_isReading 9 = .ok (.isub, 1) := by decide +kernel
theorem dX9_isReading_10 : decode cX9_isReading 10 = .ok (.invokestatic 66, 3) := by decide +kernel
theorem dX9_isReading_13 : decode cX9_isReading 13 = .ok (.ireturn, 1) := by decide +kernel
theorem dX9_farOf_0 : decode cX9_farOf 0 = .ok (.aload_n 0, 1) := by decide +kernel
theorem dX9_farOf_1 : decode cX9_farOf 1 = .ok (.aload_n 0, 1) := by decide +kernel
theorem dX9_farOf_2 : decode cX9_farOf 2 = .ok (.getfield 174, 3) := by decide +kernel
theorem dX9_farOf_5 : decode cX9_farOf 5 = .ok (.iload_n 1, 1) := by decide +kernel
theorem dX9_farOf_6 : decode cX9_farOf 6 = .ok (.iconst 1, 1) := by decide +kernel
theorem dX9_farOf_7 : decode cX9_farOf 7 = .ok (.iadd, 1) := by decide +kernel
theorem dX9_farOf_8 : decode cX9_farOf 8 = .ok (.invokevirtual 171, 3) := by decide +kernel
theorem dX9_farOf_11 : decode cX9_farOf 11 = .ok (.pop, 1) := by decide +kernel
theorem dX9_farOf_12 : decode cX9_farOf 12 = .ok (.aload_n 0, 1) := by decide +kernel
theorem dX9_farOf_13 : decode cX9_farOf 13 = .ok (.getfield 158, 3) := by decide +kernel
theorem dX9_farOf_16 : decode cX9_farOf 16 = .ok (.iload_n 1, 1) := by decide +kernel
theorem dX9_farOf_17 : decode cX9_farOf 17 = .ok (.if_icmp .ne 10, 3) := by decide +kernel
theorem dX9_farOf_20 : decode cX9_farOf 20 = .ok (.aload_n 0, 1) := by decide +kernel
theorem dX9_farOf_21 : decode cX9_farOf 21 = .ok (.getfield 161, 3) := by decide +kernel
theorem dX9_farOf_24 : decode cX9_farOf 24 = .ok (.goto 5, 3) := by decide +kernel
theorem dX9_farOf_27 : decode cX9_farOf 27 = .ok (.bipush (-9), 2) := by decide +kernel
theorem dX9_farOf_29 : decode cX9_farOf 29 = .ok (.ireturn, 1) := by decide +kernel
theorem dX9_reasonOf_0 : decode cX9_reasonOf 0 = .ok (.aload_n 0, 1) := by decide +kernel
theorem dX9_reasonOf_1 : decode cX9_reasonOf 1 = .ok (.aload_n 0, 1) := by decide +kernel
theorem dX9_reasonOf_2 : decode cX9_reasonOf 2 = .ok (.getfield 174, 3) := by decide +kernel
theorem dX9_reasonOf_5 : decode cX9_reasonOf 5 = .ok (.iload_n 1, 1) := by decide +kernel
theorem dX9_reasonOf_6 : decode cX9_reasonOf 6 = .ok (.invokevirtual 187, 3) := by decide +kernel
theorem dX9_reasonOf_9 : decode cX9_reasonOf 9 = .ok (.iconst 2, 1) := by decide +kernel
theorem dX9_reasonOf_10 : decode cX9_reasonOf 10 = .ok (.if_icmp .eq 5, 3) := by decide +kernel
theorem dX9_reasonOf_13 : decode cX9_reasonOf 13 = .ok (.iconst 0, 1) := by decide +kernel
theorem dX9_reasonOf_14 : decode cX9_reasonOf 14 = .ok (.ireturn, 1) := by decide +kernel
theorem dX9_reasonOf_15 : decode cX9_reasonOf 15 = .ok (.aload_n 0, 1) := by decide +kernel
theorem dX9_reasonOf_16 : decode cX9_reasonOf 16 = .ok (.aload_n 0, 1) := by decide +kernel
theorem dX9_reasonOf_17 : decode cX9_reasonOf 17 = .ok (.getfield 174, 3) := by decide +kernel
theorem dX9_reasonOf_20 : decode cX9_reasonOf 20 = .ok (.iload_n 1, 1) := by decide +kernel
theorem dX9_reasonOf_21 : decode cX9_reasonOf 21 = .ok (.invokevirtual 171, 3) := by decide +kernel
theorem dX9_reasonOf_24 : decode cX9_reasonOf 24 = .ok (.pop, 1) := by decide +kernel
theorem dX9_reasonOf_25 : decode cX9_reasonOf 25 = .ok (.aload_n 0, 1) := by decide +kernel
theorem dX9_reasonOf_26 : decode cX9_reasonOf 26 = .ok (.getfield 158, 3) := by decide +kernel
theorem dX9_reasonOf_29 : decode cX9_reasonOf 29 = .ok (.bipush (-9), 2) := by decide +kernel
theorem dX9_reasonOf_31 : decode cX9_reasonOf 31 = .ok (.if_icmp .ne 5, 3) := by decide +kernel
theorem dX9_reasonOf_34 : decode cX9_reasonOf 34 = .ok (.iconst 3, 1) := by decide +kernel
theorem dX9_reasonOf_35 : decode cX9_reasonOf 35 = .ok (.ireturn, 1) := by decide +kernel
theorem dX9_reasonOf_36 : decode cX9_reasonOf 36 = .ok (.aload_n 0, 1) := by decide +kernel
theorem dX9_reasonOf_37 : decode cX9_reasonOf 37 = .ok (.iload_n 1, 1) := by decide +kernel
theorem dX9_reasonOf_38 : decode cX9_reasonOf 38 = .ok (.iconst 0, 1) := by decide +kernel
theorem dX9_reasonOf_39 : decode cX9_reasonOf 39 = .ok (.aload_n 0, 1) := by decide +kernel
theorem dX9_reasonOf_40 : decode cX9_reasonOf 40 = .ok (.getfield 161, 3) := by decide +kernel
theorem dX9_reasonOf_43 : decode cX9_reasonOf 43 = .ok (.invokevirtual 164, 3) := by decide +kernel
theorem dX9_reasonOf_46 : decode cX9_reasonOf 46 = .ok (.istore_n 2, 1) := by decide +kernel
theorem dX9_reasonOf_47 : decode cX9_reasonOf 47 = .ok (.iload_n 2, 1) := by decide +kernel
theorem dX9_reasonOf_48 : decode cX9_reasonOf 48 = .ok (.bipush (-9), 2) := by decide +kernel
theorem dX9_reasonOf_50 : decode cX9_reasonOf 50 = .ok (.if_icmp .ne 7, 3) := by decide +kernel
theorem dX9_reasonOf_53 : decode cX9_reasonOf 53 = .ok (.iconst 1, 1) := by decide +kernel
theorem dX9_reasonOf_54 : decode cX9_reasonOf 54 = .ok (.goto 44, 3) := by decide +kernel
theorem dX9_reasonOf_57 : decode cX9_reasonOf 57 = .ok (.iload_n 2, 1) := by decide +kernel
theorem dX9_reasonOf_58 : decode cX9_reasonOf 58 = .ok (.aload_n 0, 1) := by decide +kernel
theorem dX9_reasonOf_59 : decode cX9_reasonOf 59 = .ok (.getfield 161, 3) := by decide +kernel
theorem dX9_reasonOf_62 : decode cX9_reasonOf 62 = .ok (.isub, 1) := by decide +kernel
theorem dX9_reasonOf_63 : decode cX9_reasonOf 63 = .ok (.aload_n 0, 1) := by decide +kernel
theorem dX9_reasonOf_64 : decode cX9_reasonOf 64 = .ok (.getfield 25, 3) := by decide +kernel
theorem dX9_reasonOf_67 : decode cX9_reasonOf 67 = .ok (.iconst 1, 1) := by decide +kernel
theorem dX9_reasonOf_68 : decode cX9_reasonOf 68 = .ok (.iaload, 1) := by decide +kernel
theorem dX9_reasonOf_69 : decode cX9_reasonOf 69 = .ok (.aload_n 0, 1) := by decide +kernel
theorem dX9_reasonOf_70 : decode cX9_reasonOf 70 = .ok (.getfield 25, 3) := by decide +kernel
theorem dX9_reasonOf_73 : decode cX9_reasonOf 73 = .ok (.iconst 3, 1) := by decide +kernel
theorem dX9_reasonOf_74 : decode cX9_reasonOf 74 = .ok (.iload_n 1, 1) := by decide +kernel
theorem dX9_reasonOf_75 : decode cX9_reasonOf 75 = .ok (.iadd, 1) := by decide +kernel
theorem dX9_reasonOf_76 : decode cX9_reasonOf 76 = .ok (.iaload, 1) := by decide +kernel
theorem dX9_reasonOf_77 : decode cX9_reasonOf 77 = .ok (.aload_n 0, 1) := by decide +kernel
theorem dX9_reasonOf_78 : decode cX9_reasonOf 78 = .ok (.getfield 25, 3) := by decide +kernel
theorem dX9_reasonOf_81 : decode cX9_reasonOf 81 = .ok (.iconst 3, 1) := by decide +kernel
theorem dX9_reasonOf_82 : decode cX9_reasonOf 82 = .ok (.aload_n 0, 1) := by decide +kernel
theorem dX9_reasonOf_83 : decode cX9_reasonOf 83 = .ok (.getfield 158, 3) := by decide +kernel
theorem dX9_reasonOf_86 : decode cX9_reasonOf 86 = .ok (.iadd, 1) := by decide +kernel
theorem dX9_reasonOf_87 : decode cX9_reasonOf 87 = .ok (.iaload, 1) := by decide +kernel
theorem dX9_reasonOf_88 : decode cX9_reasonOf 88 = .ok (.isub, 1) := by decide +kernel
theorem dX9_reasonOf_89 : decode cX9_reasonOf 89 = .ok (.imul, 1) := by decide +kernel
theorem dX9_reasonOf_90 : decode cX9_reasonOf 90 = .ok (.if_icmp .le 7, 3) := by decide +kernel
theorem dX9_reasonOf_93 : decode cX9_reasonOf 93 = .ok (.iconst 2, 1) := by decide +kernel
theorem dX9_reasonOf_94 : decode cX9_reasonOf 94 = .ok (.goto 4, 3) := by decide +kernel
theorem dX9_reasonOf_97 : decode cX9_reasonOf 97 = .ok (.iconst 3, 1) := by decide +kernel
theorem dX9_reasonOf_98 : decode cX9_reasonOf 98 = .ok (.ireturn, 1) := by decide +kernel
theorem dX9_reading_0 : decode cX9_reading 0 = .ok (.aload_n 0, 1) := by decide +kernel
theorem dX9_reading_1 : decode cX9_reading 1 = .ok (.iload_n 1, 1) := by decide +kernel
theorem dX9_reading_2 : decode cX9_reading 2 = .ok (.invokevirtual 190, 3) := by decide +kernel
theorem dX9_reading_5 : decode cX9_reading 5 = .ok (.ifCond .eq 12, 3) := by decide +kernel
theorem dX9_reading_8 : decode cX9_reading 8 = .ok (.iload_n 2, 1) := by decide +kernel
theorem dX9_reading_9 : decode cX9_reading 9 = .ok (.iconst 0, 1) := by decide +kernel
theorem dX9_reading_10 : decode cX9_reading 10 = .ok (.iconst 5, 1) := by decide +kernel
theorem dX9_reading_11 : decode cX9_reading 11 = .ok (.invokestatic 66, 3) := by decide +kernel
theorem dX9_reading_14 : decode cX9_reading 14 = .ok (.ifCond .ne 5, 3) := by decide +kernel
theorem dX9_reading_17 : decode cX9_reading 17 = .ok (.iconst (-1), 1) := by decide +kernel
theorem dX9_reading_18 : decode cX9_reading 18 = .ok (.ireturn, 1) := by decide +kernel
theorem dX9_reading_19 : decode cX9_reading 19 = .ok (.aload_n 0, 1) := by decide +kernel
theorem dX9_reading_20 : decode cX9_reading 20 = .ok (.invokevirtual 193, 3) := by decide +kernel
theorem dX9_reading_23 : decode cX9_reading 23 = .ok (.iload_n 2, 1) := by decide +kernel
theorem dX9_reading_24 : decode cX9_reading 24 = .ok (.tableswitch 85 0 4 #[36, 45, 55, 65, 79], 36) := by decide +kernel
theorem dX9_reading_60 : decode cX9_reading 60 = .ok (.aload_n 0, 1) := by decide +kernel
theorem dX9_reading_61 : decode cX9_reading 61 = .ok (.getfield 25, 3) := by decide +kernel
theorem dX9_reading_64 : decode cX9_reading 64 = .ok (.iconst 3, 1) := by decide +kernel
theorem dX9_reading_65 : decode cX9_reading 65 = .ok (.iload_n 1, 1) := by decide +kernel
theorem dX9_reading_66 : decode cX9_reading 66 = .ok (.iadd, 1) := by decide +kernel
theorem dX9_reading_67 : decode cX9_reading 67 = .ok (.iaload, 1) := by decide +kernel
theorem dX9_reading_68 : decode cX9_reading 68 = .ok (.ireturn, 1) := by decide +kernel
theorem dX9_reading_69 : decode cX9_reading 69 = .ok (.aload_n 0, 1) := by decide +kernel
theorem dX9_reading_70 : decode cX9_reading 70 = .ok (.getfield 25, 3) := by decide +kernel
theorem dX9_reading_73 : decode cX9_reading 73 = .ok (.bipush 13, 2) := by decide +kernel
theorem dX9_reading_75 : decode cX9_reading 75 = .ok (.iload_n 1, 1) := by decide +kernel
theorem dX9_reading_76 : decode cX9_reading 76 = .ok (.iadd, 1) := by decide +kernel
theorem dX9_reading_77 : decode cX9_reading 77 = .ok (.iaload, 1) := by decide +kernel
theorem dX9_reading_78 : decode cX9_reading 78 = .ok (.ireturn, 1) := by decide +kernel
theorem dX9_reading_79 : decode cX9_reading 79 = .ok (.aload_n 0, 1) := by decide +kernel
theorem dX9_reading_80 : decode cX9_reading 80 = .ok (.getfield 25, 3) := by decide +kernel
theorem dX9_reading_83 : decode cX9_reading 83 = .ok (.bipush 23, 2) := by decide +kernel
theorem dX9_reading_85 : decode cX9_reading 85 = .ok (.iload_n 1, 1) := by decide +kernel
theorem dX9_reading_86 : decode cX9_reading 86 = .ok (.iadd, 1) := by decide +kernel
theorem dX9_reading_87 : decode cX9_reading 87 = .ok (.iaload, 1) := by decide +kernel
theorem dX9_reading_88 : decode cX9_reading 88 = .ok (.ireturn, 1) := by decide +kernel
theorem dX9_reading_89 : decode cX9_reading 89 = .ok (.aload_n 0, 1) := by decide +kernel
theorem dX9_reading_90 : decode cX9_reading 90 = .ok (.aload_n 0, 1) := by decide +kernel
theorem dX9_reading_91 : decode cX9_reading 91 = .ok (.getfield 174, 3) := by decide +kernel
theorem dX9_reading_94 : decode cX9_reading 94 = .ok (.iload_n 1, 1) := by decide +kernel
theorem dX9_reading_95 : decode cX9_reading 95 = .ok (.invokevirtual 187, 3) := by decide +kernel
theorem dX9_reading_98 : decode cX9_reading 98 = .ok (.iconst 1, 1) := by decide +kernel
theorem dX9_reading_99 : decode cX9_reading 99 = .ok (.iadd, 1) := by decide +kernel
theorem dX9_reading_100 : decode cX9_reading 100 = .ok (.iconst 3, 1) := by decide +kernel
theorem dX9_reading_101 : decode cX9_reading 101 = .ok (.irem, 1) := by decide +kernel
theorem dX9_reading_102 : decode cX9_reading 102 = .ok (.ireturn, 1) := by decide +kernel
theorem dX9_reading_103 : decode cX9_reading 103 = .ok (.aload_n 0, 1) := by decide +kernel
theorem dX9_reading_104 : decode cX9_reading 104 = .ok (.iload_n 1, 1) := by decide +kernel
theorem dX9_reading_105 : decode cX9_reading 105 = .ok (.invokevirtual 196, 3) := by decide +kernel
theorem dX9_reading_108 : decode cX9_reading 108 = .ok (.ireturn, 1) := by decide +kernel
theorem dX9_reading_109 : decode cX9_reading 109 = .ok (.aload_n 0, 1) := by decide +kernel
theorem dX9_reading_110 : decode cX9_reading 110 = .ok (.iload_n 1, 1) := by decide +kernel
theorem dX9_reading_111 : decode cX9_reading 111 = .ok (.invokevirtual 199, 3) := by decide +kernel
theorem dX9_reading_114 : decode cX9_reading 114 = .ok (.ireturn, 1) := by decide +kernel
theorem dX9_held_0 : decode cX9_held 0 = .ok (.iconst 0, 1) := by decide +kernel
theorem dX9_held_1 : decode cX9_held 1 = .ok (.istore_n 1, 1) := by decide +kernel
theorem dX9_held_2 : decode cX9_held 2 = .ok (.iconst (-1), 1) := by decide +kernel
theorem dX9_held_3 : decode cX9_held 3 = .ok (.istore_n 2, 1) := by decide +kernel
theorem dX9_held_4 : decode cX9_held 4 = .ok (.iconst 0, 1) := by decide +kernel
theorem dX9_held_5 : decode cX9_held 5 = .ok (.istore_n 3, 1) := by decide +kernel
theorem dX9_held_6 : decode cX9_held 6 = .ok (.iload_n 3, 1) := by decide +kernel
theorem dX9_held_7 : decode cX9_held 7 = .ok (.iconst 1, 1) := by decide +kernel
theorem dX9_held_8 : decode cX9_held 8 = .ok (.aload_n 0, 1) := by decide +kernel
theorem dX9_held_9 : decode cX9_held 9 = .ok (.getfield 134, 3) := by decide +kernel
theorem dX9_held_12 : decode cX9_held 12 = .ok (.ishl, 1) := by decide +kernel
theorem dX9_held_13 : decode cX9_held 13 = .ok (.if_icmp .ge 145, 3) := by decide +kernel
theorem dX9_held_16 : decode cX9_held 16 = .ok (.aload_n 0, 1) := by decide +kernel
theorem dX9_held_17 : decode cX9_held 17 = .ok (.getfield 137, 3) := by decide +kernel
theorem dX9_held_20 : decode cX9_held 20 = .ok (.istore 4, 2) := by decide +kernel
theorem dX9_held_22 : decode cX9_held 22 = .ok (.iconst 0, 1) := by decide +kernel
theorem dX9_held_23 : decode cX9_held 23 = .ok (.istore 5, 2) := by decide +kernel
theorem dX9_held_25 : decode cX9_held 25 = .ok (.iconst 1, 1) := by decide +kernel
theorem dX9_held_26 : decode cX9_held 26 = .ok (.istore 6, 2) := by decide +kernel
theorem dX9_held_28 : decode cX9_held 28 = .ok (.iconst 0, 1) := by decide +kernel
theorem dX9_held_29 : decode cX9_held 29 = .ok (.istore 7, 2) := by decide +kernel
theorem dX9_held_31 : decode cX9_held 31 = .ok (.iload 7, 2) := by decide +kernel
theorem dX9_held_33 : decode cX9_held 33 = .ok (.aload_n 0, 1) := by decide +kernel
theorem dX9_held_34 : decode cX9_held 34 = .ok (.getfield 134, 3) := by decide +kernel
theorem dX9_held_37 : decode cX9_held 37 = .ok (.if_icmp .ge 67, 3) := by decide +kernel
theorem dX9_held_40 : decode cX9_held 40 = .ok (.iload_n 3, 1) := by decide +kernel
theorem dX9_held_41 : decode cX9_held 41 = .ok (.aload_n 0, 1) := by decide +kernel
theorem dX9_held_42 : decode cX9_held 42 = .ok (.getfield 134, 3) := by decide +kernel
theorem dX9_held_45 : decode cX9_held 45 = .ok (.iconst 1, 1) := by decide +kernel
theorem dX9_held_46 : decode cX9_held 46 = .ok (.isub, 1) := by decide +kernel
theorem dX9_held_47 : decode cX9_held 47 = .ok (.iload 7, 2) := by decide +kernel
theorem dX9_held_49 : decode cX9_held 49 = .ok (.isub, 1) := by decide +kernel
theorem dX9_held_50 : decode cX9_held 50 = .ok (.invokestatic 112, 3) := by decide +kernel
theorem dX9_held_53 : decode cX9_held 53 = .ok (.ifCond .ne 45, 3) := by decide +kernel
theorem dX9_held_56 : decode cX9_held 56 = .ok (.iload 6, 2) := by decide +kernel
theorem dX9_held_58 : decode cX9_held 58 = .ok (.ifCond .eq 19, 3) := by decide +kernel
theorem dX9_held_61 : decode cX9_held 61 = .ok (.aload_n 0, 1) := by decide +kernel
theorem dX9_held_62 : decode cX9_held 62 = .ok (.getfield 31, 3) := by decide +kernel
theorem dX9_held_65 : decode cX9_held 65 = .ok (.iload 7, 2) := by decide +kernel
theorem dX9_held_67 : decode cX9_held 67 = .ok (.iaload, 1) := by decide +kernel
theorem dX9_held_68 : decode cX9_held 68 = .ok (.iload 4, 2) := by decide +kernel
theorem dX9_held_70 : decode cX9_held 70 = .ok (.if_icmp .ne 7, 3) := by decide +kernel
theorem dX9_held_73 : decode cX9_held 73 = .ok (.iconst 1, 1) := by decide +kernel
theorem dX9_held_74 : decode cX9_held 74 = .ok (.goto 4, 3) := by decide +kernel
theorem dX9_held_77 : decode cX9_held 77 = .ok (.iconst 0, 1) := by decide +kernel
theorem dX9_held_78 : decode cX9_held 78 = .ok (.istore 6, 2) := by decide +kernel
theorem dX9_held_80 : decode cX9_held 80 = .ok (.aload_n 0, 1) := by decide +kernel
theorem dX9_held_81 : decode cX9_held 81 = .ok (.getfield 34, 3) := by decide +kernel
theorem dX9_held_84 : decode cX9_held 84 = .ok (.iload 7, 2) := by decide +kernel
theorem dX9_held_86 : decode cX9_held 86 = .ok (.iaload, 1) := by decide +kernel
theorem dX9_held_87 : decode cX9_held 87 = .ok (.istore 4, 2) := by decide +kernel
theorem dX9_held_89 : decode cX9_held 89 = .ok (.iload 5, 2) := by decide +kernel
theorem dX9_held_91 : decode cX9_held 91 = .ok (.iconst 1, 1) := by decide +kernel
theorem dX9_held_92 : decode cX9_held 92 = .ok (.iload 7, 2) := by decide +kernel
theorem dX9_held_94 : decode cX9_held 94 = .ok (.ishl, 1) := by decide +kernel
theorem dX9_held_95 : decode cX9_held 95 = .ok (.ior, 1) := by decide +kernel
theorem dX9_held_96 : decode cX9_held 96 = .ok (.istore 5, 2) := by decide +kernel
theorem dX9_held_98 : decode cX9_held 98 = .ok (.iinc 7 1, 3) := by decide +kernel
theorem dX9_held_101 : decode cX9_held 101 = .ok (.goto (-70), 3) := by decide +kernel
theorem dX9_held_104 : decode cX9_held 104 = .ok (.iload 6, 2) := by decide +kernel
theorem dX9_held_106 : decode cX9_held 106 = .ok (.ifCond .eq 16, 3) := by decide +kernel
theorem dX9_held_109 : decode cX9_held 109 = .ok (.iload 5, 2) := by decide +kernel
theorem dX9_held_111 : decode cX9_held 111 = .ok (.invokestatic 202, 3) := by decide +kernel
theorem dX9_held_114 : decode cX9_held 114 = .ok (.iload_n 2, 1) := by decide +kernel
theorem dX9_held_115 : decode cX9_held 115 = .ok (.if_icmp .le 7, 3) := by decide +kernel
theorem dX9_held_118 : decode cX9_held 118 = .ok (.iconst 1, 1) := by decide +kernel
theorem dX9_held_119 : decode cX9_held 119 = .ok (.goto 4, 3) := by decide +kernel
theorem dX9_held_122 : decode cX9_held 122 = .ok (.iconst 0, 1) := by decide +kernel
theorem dX9_held_123 : decode cX9_held 123 = .ok (.istore 7, 2) := by decide +kernel
theorem dX9_held_125 : decode cX9_held 125 = .ok (.iload 7, 2) := by decide +kernel
theorem dX9_held_127 : decode cX9_held 127 = .ok (.ifCond .eq 8, 3) := by decide +kernel
theorem dX9_held_130 : decode cX9_held 130 = .ok (.iload 5, 2) := by decide +kernel
theorem dX9_held_132 : decode cX9_held 132 = .ok (.goto 4, 3) := by decide +kernel
theorem dX9_held_135 : decode cX9_held 135 = .ok (.iload_n 1, 1) := by decide +kernel
theorem dX9_held_136 : decode cX9_held 136 = .ok (.istore_n 1, 1) := by decide +kernel
theorem dX9_held_137 : decode cX9_held 137 = .ok (.iload 7, 2) := by decide +kernel
theorem dX9_held_139 : decode cX9_held 139 = .ok (.ifCond .eq 11, 3) := by decide +kernel
theorem dX9_held_142 : decode cX9_held 142 = .ok (.iload 5, 2) := by decide +kernel
theorem dX9_held_144 : decode cX9_held 144 = .ok (.invokestatic 202, 3) := by decide +kernel
theorem dX9_held_147 : decode cX9_held 147 = .ok (.goto 4, 3) := by decide +kernel
theorem dX9_held_150 : decode cX9_held 150 = .ok (.iload_n 2, 1) := by decide +kernel
theorem dX9_held_151 : decode cX9_held 151 = .ok (.istore_n 2, 1) := by decide +kernel
theorem dX9_held_152 : decode cX9_held 152 = .ok (.iinc 3 1, 3) := by decide +kernel
theorem dX9_held_155 : decode cX9_held 155 = .ok (.goto (-149), 3) := by decide +kernel
theorem dX9_held_158 : decode cX9_held 158 = .ok (.iload_n 1, 1) := by decide +kernel
theorem dX9_held_159 : decode cX9_held 159 = .ok (.ireturn, 1) := by decide +kernel
theorem dX9_change_0 : decode cX9_change 0 = .ok (.iload_n 1, 1) := by decide +kernel
theorem dX9_change_1 : decode cX9_change 1 = .ok (.iconst 0, 1) := by decide +kernel
theorem dX9_change_2 : decode cX9_change 2 = .ok (.aload_n 0, 1) := by decide +kernel
theorem dX9_change_3 : decode cX9_change 3 = .ok (.getfield 134, 3) := by decide +kernel
theorem dX9_change_6 : decode cX9_change 6 = .ok (.iconst 1, 1) := by decide +kernel
theorem dX9_change_7 : decode cX9_change 7 = .ok (.isub, 1) := by decide +kernel
theorem dX9_change_8 : decode cX9_change 8 = .ok (.invokestatic 66, 3) := by decide +kernel
theorem dX9_change_11 : decode cX9_change 11 = .ok (.ifCond .eq 12, 3) := by decide +kernel
theorem dX9_change_14 : decode cX9_change 14 = .ok (.iload_n 2, 1) := by decide +kernel
theorem dX9_change_15 : decode cX9_change 15 = .ok (.iconst 0, 1) := by decide +kernel
theorem dX9_change_16 : decode cX9_change 16 = .ok (.iconst 3, 1) := by decide +kernel
theorem dX9_change_17 : decode cX9_change 17 = .ok (.invokestatic 66, 3) := by decide +kernel
theorem dX9_change_20 : decode cX9_change 20 = .ok (.ifCond .ne 5, 3) := by decide +kernel
theorem dX9_change_23 : decode cX9_change 23 = .ok (.iconst (-1), 1) := by decide +kernel
theorem dX9_change_24 : decode cX9_change 24 = .ok (.ireturn, 1) := by decide +kernel
theorem dX9_change_25 : decode cX9_change 25 = .ok (.iload_n 2, 1) := by decide +kernel
theorem dX9_change_26 : decode cX9_change 26 = .ok (.ifCond .ne 12, 3) := by decide +kernel
theorem dX9_change_29 : decode cX9_change 29 = .ok (.aload_n 0, 1) := by decide +kernel
theorem dX9_change_30 : decode cX9_change 30 = .ok (.getfield 28, 3) := by decide +kernel
theorem dX9_change_33 : decode cX9_change 33 = .ok (.iload_n 1, 1) := by decide +kernel
theorem dX9_change_34 : decode cX9_change 34 = .ok (.iaload, 1) := by decide +kernel
theorem dX9_change_35 : decode cX9_change 35 = .ok (.goto 47, 3) := by decide +kernel
theorem dX9_change_38 : decode cX9_change 38 = .ok (.iload_n 2, 1) := by decide +kernel
theorem dX9_change_39 : decode cX9_change 39 = .ok (.iconst 1, 1) := by decide +kernel
theorem dX9_change_40 : decode cX9_change 40 = .ok (.if_icmp .ne 12, 3) := by decide +kernel
theorem dX9_change_43 : decode cX9_change 43 = .ok (.aload_n 0, 1) := by decide +kernel
theorem dX9_change_44 : decode cX9_change 44 = .ok (.getfield 31, 3) := by decide +kernel
theorem dX9_change_47 : decode cX9_change 47 = .ok (.iload_n 1, 1) := by decide +kernel
theorem dX9_change_48 : decode cX9_change 48 = .ok (.iaload, 1) := by decide +kernel
theorem dX9_change_49 : decode cX9_change 49 = .ok (.goto 33, 3) := by decide +kernel
theorem dX9_change_52 : decode cX9_change 52 = .ok (.iload_n 2, 1) := by decide +kernel
theorem dX9_change_53 : decode cX9_change 53 = .ok (.iconst 2, 1) := by decide +kernel
theorem dX9_change_54 : decode cX9_change 54 = .ok (.if_icmp .ne 12, 3) := by decide +kernel
theorem dX9_change_57 : decode cX9_change 57 = .ok (.aload_n 0, 1) := by decide +kernel
theorem dX9_change_58 : decode cX9_change 58 = .ok (.getfield 34, 3) := by decide +kernel
theorem dX9_change_61 : decode cX9_change 61 = .ok (.iload_n 1, 1) := by decide +kernel
theorem dX9_change_62 : decode cX9_change 62 = .ok (.iaload, 1) := by decide +kernel
theorem dX9_change_63 : decode cX9_change 63 = .ok (.goto 19, 3) := by decide +kernel
theorem dX9_change_66 : decode cX9_change 66 = .ok (.aload_n 0, 1) := by decide +kernel
theorem dX9_change_67 : decode cX9_change 67 = .ok (.invokevirtual 205, 3) := by decide +kernel
theorem dX9_change_70 : decode cX9_change 70 = .ok (.iload_n 1, 1) := by decide +kernel
theorem dX9_change_71 : decode cX9_change 71 = .ok (.invokestatic 112, 3) := by decide +kernel
theorem dX9_change_74 : decode cX9_change 74 = .ok (.ifCond .eq 7, 3) := by decide +kernel
theorem dX9_change_77 : decode cX9_change 77 = .ok (.iconst 1, 1) := by decide +kernel
theorem dX9_change_78 : decode cX9_change 78 = .ok (.goto 4, 3) := by decide +kernel
theorem dX9_change_81 : decode cX9_change 81 = .ok (.iconst 0, 1) := by decide +kernel
theorem dX9_change_82 : decode cX9_change 82 = .ok (.ireturn, 1) := by decide +kernel
theorem dX9_swap_0 : decode cX9_swap 0 = .ok (.bipush (-9), 2) := by decide +kernel
theorem dX9_swap_2 : decode cX9_swap 2 = .ok (.istore_n 1, 1) := by decide +kernel
theorem dX9_swap_3 : decode cX9_swap 3 = .ok (.aload_n 0, 1) := by decide +kernel
theorem dX9_swap_4 : decode cX9_swap 4 = .ok (.aload_n 0, 1) := by decide +kernel
theorem dX9_swap_5 : decode cX9_swap 5 = .ok (.getfield 168, 3) := by decide +kernel
theorem dX9_swap_8 : decode cX9_swap 8 = .ok (.putfield 209, 3) := by decide +kernel
theorem dX9_swap_11 : decode cX9_swap 11 = .ok (.iconst 1, 1) := by decide +kernel
theorem dX9_swap_12 : decode cX9_swap 12 = .ok (.aload_n 0, 1) := by decide +kernel
theorem dX9_swap_13 : decode cX9_swap 13 = .ok (.getfield 25, 3) := by decide +kernel
theorem dX9_swap_16 : decode cX9_swap 16 = .ok (.iconst 0, 1) := by decide +kernel
theorem dX9_swap_17 : decode cX9_swap 17 = .ok (.iaload, 1) := by decide +kernel
theorem dX9_swap_18 : decode cX9_swap 18 = .ok (.ishl, 1) := by decide +kernel
theorem dX9_swap_19 : decode cX9_swap 19 = .ok (.iconst 1, 1) := by decide +kernel
theorem dX9_swap_20 : decode cX9_swap 20 = .ok (.isub, 1) := by decide +kernel
theorem dX9_swap_21 : decode cX9_swap 21 = .ok (.istore_n 2, 1) := by decide +kernel
theorem dX9_swap_22 : decode cX9_swap 22 = .ok (.iconst 1, 1) := by decide +kernel
theorem dX9_swap_23 : decode cX9_swap 23 = .ok (.istore_n 3, 1) := by decide +kernel
theorem dX9_swap_24 : decode cX9_swap 24 = .ok (.iload_n 3, 1) := by decide +kernel
theorem dX9_swap_25 : decode cX9_swap 25 = .ok (.aload_n 0, 1) := by decide +kernel
theorem dX9_swap_26 : decode cX9_swap 26 = .ok (.getfield 25, 3) := by decide +kernel
theorem dX9_swap_29 : decode cX9_swap 29 = .ok (.iconst 0, 1) := by decide +kernel
theorem dX9_swap_30 : decode cX9_swap 30 = .ok (.iaload, 1) := by decide +kernel
theorem dX9_swap_31 : decode cX9_swap 31 = .ok (.if_icmp .ge 74, 3) := by decide +kernel
theorem dX9_swap_34 : decode cX9_swap 34 = .ok (.iconst 1, 1) := by decide +kernel
theorem dX9_swap_35 : decode cX9_swap 35 = .ok (.iload_n 3, 1) := by decide +kernel
theorem dX9_swap_36 : decode cX9_swap 36 = .ok (.ishl, 1) := by decide +kernel
theorem dX9_swap_37 : decode cX9_swap 37 = .ok (.iconst 1, 1) := by decide +kernel
theorem dX9_swap_38 : decode cX9_swap 38 = .ok (.isub, 1) := by decide +kernel
theorem dX9_swap_39 : decode cX9_swap 39 = .ok (.istore 4, 2) := by decide +kernel
theorem dX9_swap_41 : decode cX9_swap 41 = .ok (.aload_n 0, 1) := by decide +kernel
theorem dX9_swap_42 : decode cX9_swap 42 = .ok (.getfield 47, 3) := by decide +kernel
theorem dX9_swap_45 : decode cX9_swap 45 = .ok (.iload 4, 2) := by decide +kernel
theorem dX9_swap_47 : decode cX9_swap 47 = .ok (.iaload, 1) := by decide +kernel
theorem dX9_swap_48 : decode cX9_swap 48 = .ok (.aload_n 0, 1) := by decide +kernel
theorem dX9_swap_49 : decode cX9_swap 49 = .ok (.getfield 47, 3) := by decide +kernel
theorem dX9_swap_52 : decode cX9_swap 52 = .ok (.iload_n 2, 1) := by decide +kernel
theorem dX9_swap_53 : decode cX9_swap 53 = .ok (.iload 4, 2) := by decide +kernel
theorem dX9_swap_55 : decode cX9_swap 55 = .ok (.iconst (-1), 1) := by decide +kernel
theorem dX9_swap_56 : decode cX9_swap 56 = .ok (.ixor, 1) := by decide +kernel
theorem dX9_swap_57 : decode cX9_swap 57 = .ok (.iand, 1) := by decide +kernel
theorem dX9_swap_58 : decode cX9_swap 58 = .ok (.iaload, 1) := by decide +kernel
theorem dX9_swap_59 : decode cX9_swap 59 = .ok (.iadd, 1) := by decide +kernel
theorem dX9_swap_60 : decode cX9_swap 60 = .ok (.istore 5, 2) := by decide +kernel
theorem dX9_swap_62 : decode cX9_swap 62 = .ok (.iload 5, 2) := by decide +kernel
theorem dX9_swap_64 : decode cX9_swap 64 = .ok (.aload_n 0, 1) := by decide +kernel
theorem dX9_swap_65 : decode cX9_swap 65 = .ok (.getfield 209, 3) := by decide +kernel
theorem dX9_swap_68 : decode cX9_swap 68 = .ok (.if_icmp .le 7, 3) := by decide +kernel
theorem dX9_swap_71 : decode cX9_swap 71 = .ok (.iload_n 3, 1) := by decide +kernel
theorem dX9_swap_72 : decode cX9_swap 72 = .ok (.goto 4, 3) := by decide +kernel
theorem dX9_swap_75 : decode cX9_swap 75 = .ok (.iload_n 1, 1) := by decide +kernel
theorem dX9_swap_76 : decode cX9_swap 76 = .ok (.istore_n 1, 1) := by decide +kernel
theorem dX9_swap_77 : decode cX9_swap 77 = .ok (.aload_n 0, 1) := by decide +kernel
theorem dX9_swap_78 : decode cX9_swap 78 = .ok (.iload 5, 2) := by decide +kernel
theorem dX9_swap_80 : decode cX9_swap 80 = .ok (.aload_n 0, 1) := by decide +kernel
theorem dX9_swap_81 : decode cX9_swap 81 = .ok (.getfield 209, 3) := by decide +kernel
theorem dX9_swap_84 : decode cX9_swap 84 = .ok (.if_icmp .le 8, 3) := by decide +kernel
theorem dX9_swap_87 : decode cX9_swap 87 = .ok (.iload 5, 2) := by decide +kernel
theorem dX9_swap_89 : decode cX9_swap 89 = .ok (.goto 7, 3) := by decide +kernel
theorem dX9_swap_92 : decode cX9_swap 92 = .ok (.aload_n 0, 1) := by decide +kernel
theorem dX9_swap_93 : decode cX9_swap 93 = .ok (.getfield 209, 3) := by decide +kernel
theorem dX9_swap_96 : decode cX9_swap 96 = .ok (.putfield 209, 3) := by decide +kernel
theorem dX9_swap_99 : decode cX9_swap 99 = .ok (.iinc 3 1, 3) := by decide +kernel
theorem dX9_swap_102 : decode cX9_swap 102 = .ok (.goto (-78), 3) := by decide +kernel
theorem dX9_swap_105 : decode cX9_swap 105 = .ok (.iload_n 1, 1) := by decide +kernel
theorem dX9_swap_106 : decode cX9_swap 106 = .ok (.ireturn, 1) := by decide +kernel
theorem dX9_keptOf_0 : decode cX9_keptOf 0 = .ok (.aload_n 0, 1) := by decide +kernel
theorem dX9_keptOf_1 : decode cX9_keptOf 1 = .ok (.iload_n 1, 1) := by decide +kernel
theorem dX9_keptOf_2 : decode cX9_keptOf 2 = .ok (.aload_n 0, 1) := by decide +kernel
theorem dX9_keptOf_3 : decode cX9_keptOf 3 = .ok (.getfield 25, 3) := by decide +kernel
theorem dX9_keptOf_6 : decode cX9_keptOf 6 = .ok (.iconst 0, 1) := by decide +kernel
theorem dX9_keptOf_7 : decode cX9_keptOf 7 = .ok (.iaload, 1) := by decide +kernel
theorem dX9_keptOf_8 : decode cX9_keptOf 8 = .ok (.invokevirtual 171, 3) := by decide +kernel
theorem dX9_keptOf_11 : decode cX9_keptOf 11 = .ok (.pop, 1) := by decide +kernel
theorem dX9_keptOf_12 : decode cX9_keptOf 12 = .ok (.aload_n 0, 1) := by decide +kernel
theorem dX9_keptOf_13 : decode cX9_keptOf 13 = .ok (.getfield 155, 3) := by decide +kernel
theorem dX9_keptOf_16 : decode cX9_keptOf 16 = .ok (.invokestatic 202, 3) := by decide +kernel
theorem dX9_keptOf_19 : decode cX9_keptOf 19 = .ok (.ireturn, 1) := by decide +kernel
theorem dX9_now_0 : decode cX9_now 0 = .ok (.aload_n 0, 1) := by decide +kernel
theorem dX9_now_1 : decode cX9_now 1 = .ok (.invokevirtual 193, 3) := by decide +kernel
theorem dX9_now_4 : decode cX9_now 4 = .ok (.iload_n 1, 1) := by decide +kernel
theorem dX9_now_5 : decode cX9_now 5 = .ok (.tableswitch 108 0 7 #[47, 52, 61, 66, 71, 76, 95, 103], 47) := by decide +kernel
theorem dX9_now_52 : decode cX9_now 52 = .ok (.aload_n 0, 1) := by decide +kernel
theorem dX9_now_53 : decode cX9_now 53 = .ok (.getfield 168, 3) := by decide +kernel
theorem dX9_now_56 : decode cX9_now 56 = .ok (.ireturn, 1) := by decide +kernel
theorem dX9_now_57 : decode cX9_now 57 = .ok (.aload_n 0, 1) := by decide +kernel
theorem dX9_now_58 : decode cX9_now 58 = .ok (.aload_n 0, 1) := by decide +kernel
theorem dX9_now_59 : decode cX9_now 59 = .ok (.getfield 174, 3) := by decide +kernel
theorem dX9_now_62 : decode cX9_now 62 = .ok (.invokevirtual 212, 3) := by decide +kernel
theorem dX9_now_65 : decode cX9_now 65 = .ok (.ireturn, 1) := by decide +kernel
theorem dX9_now_66 : decode cX9_now 66 = .ok (.aload_n 0, 1) := by decide +kernel
theorem dX9_now_67 : decode cX9_now 67 = .ok (.getfield 181, 3) := by decide +kernel
theorem dX9_now_70 : decode cX9_now 70 = .ok (.ireturn, 1) := by decide +kernel
theorem dX9_now_71 : decode cX9_now 71 = .ok (.aload_n 0, 1) := by decide +kernel
theorem dX9_now_72 : decode cX9_now 72 = .ok (.getfield 184, 3) := by decide +kernel
theorem dX9_now_75 : decode cX9_now 75 = .ok (.ireturn, 1) := by decide +kernel
theorem dX9_now_76 : decode cX9_now 76 = .ok (.aload_n 0, 1) := by decide +kernel
theorem dX9_now_77 : decode cX9_now 77 = .ok (.invokevirtual 215, 3) := by decide +kernel
theorem dX9_now_80 : decode cX9_now 80 = .ok (.ireturn, 1) := by decide +kernel
theorem dX9_now_81 : decode cX9_now 81 = .ok (.aload_n 0, 1) := by decide +kernel
theorem dX9_now_82 : decode cX9_now 82 = .ok (.invokevirtual 215, 3) := by decide +kernel
theorem dX9_now_85 : decode cX9_now 85 = .ok (.bipush (-9), 2) := by decide +kernel
theorem dX9_now_87 : decode cX9_now 87 = .ok (.if_icmp .ne 8, 3) := by decide +kernel
theorem dX9_now_90 : decode cX9_now 90 = .ok (.bipush (-9), 2) := by decide +kernel
theorem dX9_now_92 : decode cX9_now 92 = .ok (.goto 7, 3) := by decide +kernel
theorem dX9_now_95 : decode cX9_now 95 = .ok (.aload_n 0, 1) := by decide +kernel
theorem dX9_now_96 : decode cX9_now 96 = .ok (.getfield 209, 3) := by decide +kernel
theorem dX9_now_99 : decode cX9_now 99 = .ok (.ireturn, 1) := by decide +kernel
theorem dX9_now_100 : decode cX9_now 100 = .ok (.aload_n 0, 1) := by decide +kernel
theorem dX9_now_101 : decode cX9_now 101 = .ok (.invokevirtual 205, 3) := by decide +kernel
theorem dX9_now_104 : decode cX9_now 104 = .ok (.invokestatic 202, 3) := by decide +kernel
theorem dX9_now_107 : decode cX9_now 107 = .ok (.ireturn, 1) := by decide +kernel
theorem dX9_now_108 : decode cX9_now 108 = .ok (.aload_n 0, 1) := by decide +kernel
theorem dX9_now_109 : decode cX9_now 109 = .ok (.getfield 140, 3) := by decide +kernel
theorem dX9_now_112 : decode cX9_now 112 = .ok (.ireturn, 1) := by decide +kernel
theorem dX9_now_113 : decode cX9_now 113 = .ok (.iconst (-1), 1) := by decide +kernel
theorem dX9_now_114 : decode cX9_now 114 = .ok (.ireturn, 1) := by decide +kernel
theorem dX9_rivals_0 : decode cX9_rivals 0 = .ok (.aload_n 0, 1) := by decide +kernel
theorem dX9_rivals_1 : decode cX9_rivals 1 = .ok (.invokevirtual 193, 3) := by decide +kernel
theorem dX9_rivals_4 : decode cX9_rivals 4 = .ok (.aload_n 0, 1) := by decide +kernel
theorem dX9_rivals_5 : decode cX9_rivals 5 = .ok (.getfield 177, 3) := by decide +kernel
theorem dX9_rivals_8 : decode cX9_rivals 8 = .ok (.lreturn, 1) := by decide +kernel
theorem dX9_remember_0 : decode cX9_remember 0 = .ok (.iconst 0, 1) := by decide +kernel
theorem dX9_remember_1 : decode cX9_remember 1 = .ok (.istore_n 1, 1) := by decide +kernel
theorem dX9_remember_2 : decode cX9_remember 2 = .ok (.iload_n 1, 1) := by decide +kernel
theorem dX9_remember_3 : decode cX9_remember 3 = .ok (.bipush 33, 2) := by decide +kernel
theorem dX9_remember_5 : decode cX9_remember 5 = .ok (.if_icmp .ge 29, 3) := by decide +kernel
theorem dX9_remember_8 : decode cX9_remember 8 = .ok (.aload_n 0, 1) := by decide +kernel
theorem dX9_remember_9 : decode cX9_remember 9 = .ok (.getfield 37, 3) := by decide +kernel
theorem dX9_remember_12 : decode cX9_remember 12 = .ok (.bipush 33, 2) := by decide +kernel
theorem dX9_remember_14 : decode cX9_remember 14 = .ok (.aload_n 0, 1) := by decide +kernel
theorem dX9_remember_15 : decode cX9_remember 15 = .ok (.getfield 218, 3) := by decide +kernel
theorem dX9_remember_18 : decode cX9_remember 18 = .ok (.imul, 1) := by decide +kernel
theorem dX9_remember_19 : decode cX9_remember 19 = .ok (.iload_n 1, 1) := by decide +kernel
theorem dX9_remember_20 : decode cX9_remember 20 = .ok (.iadd, 1) := by decide +kernel
theorem dX9_remember_21 : decode cX9_remember 21 = .ok (.aload_n 0, 1) := by decide +kernel
theorem dX9_remember_22 : decode cX9_remember 22 = .ok (.getfield 25, 3) := by decide +kernel
theorem dX9_remember_25 : decode cX9_remember 25 = .ok (.iload_n 1, 1) := by decide +kernel
theorem dX9_remember_26 : decode cX9_remember 26 = .ok (.iaload, 1) := by decide +kernel
theorem dX9_remember_27 : decode cX9_remember 27 = .ok (.iastore, 1) := by decide +kernel
theorem dX9_remember_28 : decode cX9_remember 28 = .ok (.iinc 1 1, 3) := by decide +kernel
theorem dX9_remember_31 : decode cX9_remember 31 = .ok (.goto (-29), 3) := by decide +kernel
theorem dX9_remember_34 : decode cX9_remember 34 = .ok (.aload_n 0, 1) := by decide +kernel
theorem dX9_remember_35 : decode cX9_remember 35 = .ok (.aload_n 0, 1) := by decide +kernel
theorem dX9_remember_36 : decode cX9_remember 36 = .ok (.getfield 218, 3) := by decide +kernel
theorem dX9_remember_39 : decode cX9_remember 39 = .ok (.iconst 1, 1) := by decide +kernel
theorem dX9_remember_40 : decode cX9_remember 40 = .ok (.iadd, 1) := by decide +kernel
theorem dX9_remember_41 : decode cX9_remember 41 = .ok (.bipush 10, 2) := by decide +kernel
