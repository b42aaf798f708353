theorem dX8_house_8 : decode cX8_house 8 = .ok (.iload_n 1, 1) := by decide +kernel
theorem dX8_house_9 : decode cX8_house 9 = .ok (.ifCond .ge 5, 3) := by decide +kernel
theorem dX8_house_12 : decode cX8_house 12 = .ok (.iload_n 1, 1) := by decide +kernel
theorem dX8_house_13 : decode cX8_house 13 = .ok (.ireturn, 1) := by decide +kernel
theorem dX8_house_14 : decode cX8_house 14 = .ok (.aload_n 0, 1) := by decide +kernel
theorem dX8_house_15 : decode cX8_house 15 = .ok (.getfield 12, 3) := by decide +kernel
theorem dX8_house_18 : decode cX8_house 18 = .ok (.aload_n 0, 1) := by decide +kernel
theorem dX8_house_19 : decode cX8_house 19 = .ok (.getfield 26, 3) := by decide +kernel
theorem dX8_house_22 : decode cX8_house 22 = .ok (.getfield 83, 3) := by decide +kernel
theorem dX8_house_25 : decode cX8_house 25 = .ok (.invokevirtual 84, 3) := by decide +kernel
theorem dX8_house_28 : decode cX8_house 28 = .ok (.aload_n 0, 1) := by decide +kernel
theorem dX8_house_29 : decode cX8_house 29 = .ok (.getfield 19, 3) := by decide +kernel
theorem dX8_house_32 : decode cX8_house 32 = .ok (.aload_n 0, 1) := by decide +kernel
theorem dX8_house_33 : decode cX8_house 33 = .ok (.getfield 26, 3) := by decide +kernel
theorem dX8_house_36 : decode cX8_house 36 = .ok (.getfield 87, 3) := by decide +kernel
theorem dX8_house_39 : decode cX8_house 39 = .ok (.invokevirtual 88, 3) := by decide +kernel
theorem dX8_house_42 : decode cX8_house 42 = .ok (.aload_n 0, 1) := by decide +kernel
theorem dX8_house_43 : decode cX8_house 43 = .ok (.getfield 26, 3) := by decide +kernel
theorem dX8_house_46 : decode cX8_house 46 = .ok (.invokevirtual 76, 3) := by decide +kernel
theorem dX8_house_49 : decode cX8_house 49 = .ok (.pop, 1) := by decide +kernel
theorem dX8_house_50 : decode cX8_house 50 = .ok (.aload_n 0, 1) := by decide +kernel
theorem dX8_house_51 : decode cX8_house 51 = .ok (.getfield 33, 3) := by decide +kernel
theorem dX8_house_54 : decode cX8_house 54 = .ok (.invokevirtual 91, 3) := by decide +kernel
theorem dX8_house_57 : decode cX8_house 57 = .ok (.iconst 0, 1) := by decide +kernel
theorem dX8_house_58 : decode cX8_house 58 = .ok (.istore_n 2, 1) := by decide +kernel
theorem dX8_house_59 : decode cX8_house 59 = .ok (.iload_n 2, 1) := by decide +kernel
theorem dX8_house_60 : decode cX8_house 60 = .ok (.iconst 2, 1) := by decide +kernel
theorem dX8_house_61 : decode cX8_house 61 = .ok (.if_icmp .ge 16, 3) := by decide +kernel
theorem dX8_house_64 : decode cX8_house 64 = .ok (.aload_n 0, 1) := by decide +kernel
theorem dX8_house_65 : decode cX8_house 65 = .ok (.getfield 41, 3) := by decide +kernel
theorem dX8_house_68 : decode cX8_house 68 = .ok (.iload_n 2, 1) := by decide +kernel
theorem dX8_house_69 : decode cX8_house 69 = .ok (.iconst 0, 1) := by decide +kernel
theorem dX8_house_70 : decode cX8_house 70 = .ok (.bastore, 1) := by decide +kernel
theorem dX8_house_71 : decode cX8_house 71 = .ok (.iinc 2 1, 3) := by decide +kernel
theorem dX8_house_74 : decode cX8_house 74 = .ok (.goto (-15), 3) := by decide +kernel
theorem dX8_house_77 : decode cX8_house 77 = .ok (.aload_n 0, 1) := by decide +kernel
theorem dX8_house_78 : decode cX8_house 78 = .ok (.invokevirtual 66, 3) := by decide +kernel
theorem dX8_house_81 : decode cX8_house 81 = .ok (.aload_n 0, 1) := by decide +kernel
theorem dX8_house_82 : decode cX8_house 82 = .ok (.getfield 19, 3) := by decide +kernel
theorem dX8_house_85 : decode cX8_house 85 = .ok (.invokevirtual 69, 3) := by decide +kernel
theorem dX8_house_88 : decode cX8_house 88 = .ok (.iload_n 1, 1) := by decide +kernel
theorem dX8_house_89 : decode cX8_house 89 = .ok (.ireturn, 1) := by decide +kernel
theorem dX8_reading_0 : decode cX8_reading 0 = .ok (.aload_n 0, 1) := by decide +kernel
theorem dX8_reading_1 : decode cX8_reading 1 = .ok (.getfield 12, 3) := by decide +kernel
theorem dX8_reading_4 : decode cX8_reading 4 = .ok (.getfield 94, 3) := by decide +kernel
theorem dX8_reading_7 : decode cX8_reading 7 = .ok (.iload_n 1, 1) := by decide +kernel
theorem dX8_reading_8 : decode cX8_reading 8 = .ok (.invokevirtual 98, 3) := by decide +kernel
theorem dX8_reading_11 : decode cX8_reading 11 = .ok (.ifCond .ne 5, 3) := by decide +kernel
theorem dX8_reading_14 : decode cX8_reading 14 = .ok (.iconst (-1), 1) := by decide +kernel
theorem dX8_reading_15 : decode cX8_reading 15 = .ok (.ireturn, 1) := by decide +kernel
theorem dX8_reading_16 : decode cX8_reading 16 = .ok (.iload_n 2, 1) := by decide +kernel
theorem dX8_reading_17 : decode cX8_reading 17 = .ok (.tableswitch 105 0 5 #[39, 52, 65, 78, 87, 96], 39) := by decide +kernel
theorem dX8_reading_56 : decode cX8_reading 56 = .ok (.aload_n 0, 1) := by decide +kernel
theorem dX8_reading_57 : decode cX8_reading 57 = .ok (.getfield 12, 3) := by decide +kernel
theorem dX8_reading_60 : decode cX8_reading 60 = .ok (.getfield 94, 3) := by decide +kernel
theorem dX8_reading_63 : decode cX8_reading 63 = .ok (.getfield 104, 3) := by decide +kernel
theorem dX8_reading_66 : decode cX8_reading 66 = .ok (.iload_n 1, 1) := by decide +kernel
theorem dX8_reading_67 : decode cX8_reading 67 = .ok (.iaload, 1) := by decide +kernel
theorem dX8_reading_68 : decode cX8_reading 68 = .ok (.ireturn, 1) := by decide +kernel
theorem dX8_reading_69 : decode cX8_reading 69 = .ok (.aload_n 0, 1) := by decide +kernel
theorem dX8_reading_70 : decode cX8_reading 70 = .ok (.getfield 12, 3) := by decide +kernel
theorem dX8_reading_73 : decode cX8_reading 73 = .ok (.getfield 94, 3) := by decide +kernel
theorem dX8_reading_76 : decode cX8_reading 76 = .ok (.getfield 108, 3) := by decide +kernel
theorem dX8_reading_79 : decode cX8_reading 79 = .ok (.iload_n 1, 1) := by decide +kernel
theorem dX8_reading_80 : decode cX8_reading 80 = .ok (.iaload, 1) := by decide +kernel
theorem dX8_reading_81 : decode cX8_reading 81 = .ok (.ireturn, 1) := by decide +kernel
theorem dX8_reading_82 : decode cX8_reading 82 = .ok (.aload_n 0, 1) := by decide +kernel
theorem dX8_reading_83 : decode cX8_reading 83 = .ok (.getfield 12, 3) := by decide +kernel
theorem dX8_reading_86 : decode cX8_reading 86 = .ok (.getfield 94, 3) := by decide +kernel
theorem dX8_reading_89 : decode cX8_reading 89 = .ok (.getfield 111, 3) := by decide +kernel
theorem dX8_reading_92 : decode cX8_reading 92 = .ok (.iload_n 1, 1) := by decide +kernel
theorem dX8_reading_93 : decode cX8_reading 93 = .ok (.iaload, 1) := by decide +kernel
theorem dX8_reading_94 : decode cX8_reading 94 = .ok (.ireturn, 1) := by decide +kernel
theorem dX8_reading_95 : decode cX8_reading 95 = .ok (.aload_n 0, 1) := by decide +kernel
theorem dX8_reading_96 : decode cX8_reading 96 = .ok (.getfield 55, 3) := by decide +kernel
theorem dX8_reading_99 : decode cX8_reading 99 = .ok (.iload_n 1, 1) := by decide +kernel
theorem dX8_reading_100 : decode cX8_reading 100 = .ok (.invokevirtual 114, 3) := by decide +kernel
theorem dX8_reading_103 : decode cX8_reading 103 = .ok (.ireturn, 1) := by decide +kernel
theorem dX8_reading_104 : decode cX8_reading 104 = .ok (.aload_n 0, 1) := by decide +kernel
theorem dX8_reading_105 : decode cX8_reading 105 = .ok (.getfield 55, 3) := by decide +kernel
theorem dX8_reading_108 : decode cX8_reading 108 = .ok (.iload_n 1, 1) := by decide +kernel
theorem dX8_reading_109 : decode cX8_reading 109 = .ok (.invokevirtual 117, 3) := by decide +kernel
theorem dX8_reading_112 : decode cX8_reading 112 = .ok (.ireturn, 1) := by decide +kernel
theorem dX8_reading_113 : decode cX8_reading 113 = .ok (.aload_n 0, 1) := by decide +kernel
theorem dX8_reading_114 : decode cX8_reading 114 = .ok (.getfield 55, 3) := by decide +kernel
theorem dX8_reading_117 : decode cX8_reading 117 = .ok (.iload_n 1, 1) := by decide +kernel
theorem dX8_reading_118 : decode cX8_reading 118 = .ok (.invokevirtual 120, 3) := by decide +kernel
theorem dX8_reading_121 : decode cX8_reading 121 = .ok (.ireturn, 1) := by decide +kernel
theorem dX8_reading_122 : decode cX8_reading 122 = .ok (.iconst (-1), 1) := by decide +kernel
theorem dX8_reading_123 : decode cX8_reading 123 = .ok (.ireturn, 1) := by decide +kernel
theorem dX8_change_0 : decode cX8_change 0 = .ok (.aload_n 0, 1) := by decide +kernel
theorem dX8_change_1 : decode cX8_change 1 = .ok (.getfield 19, 3) := by decide +kernel
theorem dX8_change_4 : decode cX8_change 4 = .ok (.getfield 123, 3) := by decide +kernel
theorem dX8_change_7 : decode cX8_change 7 = .ok (.iload_n 1, 1) := by decide +kernel
theorem dX8_change_8 : decode cX8_change 8 = .ok (.invokevirtual 98, 3) := by decide +kernel
theorem dX8_change_11 : decode cX8_change 11 = .ok (.ifCond .ne 5, 3) := by decide +kernel
theorem dX8_change_14 : decode cX8_change 14 = .ok (.iconst (-1), 1) := by decide +kernel
theorem dX8_change_15 : decode cX8_change 15 = .ok (.ireturn, 1) := by decide +kernel
theorem dX8_change_16 : decode cX8_change 16 = .ok (.iload_n 2, 1) := by decide +kernel
theorem dX8_change_17 : decode cX8_change 17 = .ok (.tableswitch 88 0 3 #[31, 44, 57, 70], 31) := by decide +kernel
theorem dX8_change_48 : decode cX8_change 48 = .ok (.aload_n 0, 1) := by decide +kernel
theorem dX8_change_49 : decode cX8_change 49 = .ok (.getfield 19, 3) := by decide +kernel
theorem dX8_change_52 : decode cX8_change 52 = .ok (.getfield 123, 3) := by decide +kernel
theorem dX8_change_55 : decode cX8_change 55 = .ok (.getfield 104, 3) := by decide +kernel
theorem dX8_change_58 : decode cX8_change 58 = .ok (.iload_n 1, 1) := by decide +kernel
theorem dX8_change_59 : decode cX8_change 59 = .ok (.iaload, 1) := by decide +kernel
theorem dX8_change_60 : decode cX8_change 60 = .ok (.ireturn, 1) := by decide +kernel
theorem dX8_change_61 : decode cX8_change 61 = .ok (.aload_n 0, 1) := by decide +kernel
theorem dX8_change_62 : decode cX8_change 62 = .ok (.getfield 19, 3) := by decide +kernel
theorem dX8_change_65 : decode cX8_change 65 = .ok (.getfield 123, 3) := by decide +kernel
theorem dX8_change_68 : decode cX8_change 68 = .ok (.getfield 108, 3) := by decide +kernel
theorem dX8_change_71 : decode cX8_change 71 = .ok (.iload_n 1, 1) := by decide +kernel
theorem dX8_change_72 : decode cX8_change 72 = .ok (.iaload, 1) := by decide +kernel
theorem dX8_change_73 : decode cX8_change 73 = .ok (.ireturn, 1) := by decide +kernel
theorem dX8_change_74 : decode cX8_change 74 = .ok (.aload_n 0, 1) := by decide +kernel
theorem dX8_change_75 : decode cX8_change 75 = .ok (.getfield 19, 3) := by decide +kernel
theorem dX8_change_78 : decode cX8_change 78 = .ok (.getfield 123, 3) := by decide +kernel
theorem dX8_change_81 : decode cX8_change 81 = .ok (.getfield 111, 3) := by decide +kernel
theorem dX8_change_84 : decode cX8_change 84 = .ok (.iload_n 1, 1) := by decide +kernel
theorem dX8_change_85 : decode cX8_change 85 = .ok (.iaload, 1) := by decide +kernel
theorem dX8_change_86 : decode cX8_change 86 = .ok (.ireturn, 1) := by decide +kernel
theorem dX8_change_87 : decode cX8_change 87 = .ok (.aload_n 0, 1) := by decide +kernel
theorem dX8_change_88 : decode cX8_change 88 = .ok (.getfield 19, 3) := by decide +kernel
theorem dX8_change_91 : decode cX8_change 91 = .ok (.getfield 126, 3) := by decide +kernel
theorem dX8_change_94 : decode cX8_change 94 = .ok (.iload_n 1, 1) := by decide +kernel
theorem dX8_change_95 : decode cX8_change 95 = .ok (.baload, 1) := by decide +kernel
theorem dX8_change_96 : decode cX8_change 96 = .ok (.ifCond .eq 7, 3) := by decide +kernel
theorem dX8_change_99 : decode cX8_change 99 = .ok (.iconst 1, 1) := by decide +kernel
theorem dX8_change_100 : decode cX8_change 100 = .ok (.goto 4, 3) := by decide +kernel
theorem dX8_change_103 : decode cX8_change 103 = .ok (.iconst 0, 1) := by decide +kernel
theorem dX8_change_104 : decode cX8_change 104 = .ok (.ireturn, 1) := by decide +kernel
theorem dX8_change_105 : decode cX8_change 105 = .ok (.iconst (-1), 1) := by decide +kernel
theorem dX8_change_106 : decode cX8_change 106 = .ok (.ireturn, 1) := by decide +kernel
theorem dX8_now_0 : decode cX8_now 0 = .ok (.iload_n 1, 1) := by decide +kernel
theorem dX8_now_1 : decode cX8_now 1 = .ok (.tableswitch 111 0 7 #[47, 55, 63, 71, 79, 87, 95, 103], 47) := by decide +kernel
theorem dX8_now_48 : decode cX8_now 48 = .ok (.aload_n 0, 1) := by decide +kernel
theorem dX8_now_49 : decode cX8_now 49 = .ok (.getfield 55, 3) := by decide +kernel
theorem dX8_now_52 : decode cX8_now 52 = .ok (.invokevirtual 129, 3) := by decide +kernel
theorem dX8_now_55 : decode cX8_now 55 = .ok (.ireturn, 1) := by decide +kernel
theorem dX8_now_56 : decode cX8_now 56 = .ok (.aload_n 0, 1) := by decide +kernel
theorem dX8_now_57 : decode cX8_now 57 = .ok (.getfield 55, 3) := by decide +kernel
theorem dX8_now_60 : decode cX8_now 60 = .ok (.getfield 132, 3) := by decide +kernel
theorem dX8_now_63 : decode cX8_now 63 = .ok (.ireturn, 1) := by decide +kernel
theorem dX8_now_64 : decode cX8_now 64 = .ok (.aload_n 0, 1) := by decide +kernel
theorem dX8_now_65 : decode cX8_now 65 = .ok (.getfield 55, 3) := by decide +kernel
theorem dX8_now_68 : decode cX8_now 68 = .ok (.invokevirtual 136, 3) := by decide +kernel
theorem dX8_now_71 : decode cX8_now 71 = .ok (.ireturn, 1) := by decide +kernel
theorem dX8_now_72 : decode cX8_now 72 = .ok (.aload_n 0, 1) := by decide +kernel
theorem dX8_now_73 : decode cX8_now 73 = .ok (.getfield 55, 3) := by decide +kernel
theorem dX8_now_76 : decode cX8_now 76 = .ok (.invokevirtual 139, 3) := by decide +kernel
theorem dX8_now_79 : decode cX8_now 79 = .ok (.ireturn, 1) := by decide +kernel
theorem dX8_now_80 : decode cX8_now 80 = .ok (.aload_n 0, 1) := by decide +kernel
theorem dX8_now_81 : decode cX8_now 81 = .ok (.getfield 55, 3) := by decide +kernel
theorem dX8_now_84 : decode cX8_now 84 = .ok (.getfield 142, 3) := by decide +kernel
theorem dX8_now_87 : decode cX8_now 87 = .ok (.ireturn, 1) := by decide +kernel
theorem dX8_now_88 : decode cX8_now 88 = .ok (.aload_n 0, 1) := by decide +kernel
theorem dX8_now_89 : decode cX8_now 89 = .ok (.getfield 55, 3) := by decide +kernel
theorem dX8_now_92 : decode cX8_now 92 = .ok (.getfield 145, 3) := by decide +kernel
theorem dX8_now_95 : decode cX8_now 95 = .ok (.ireturn, 1) := by decide +kernel
theorem dX8_now_96 : decode cX8_now 96 = .ok (.aload_n 0, 1) := by decide +kernel
theorem dX8_now_97 : decode cX8_now 97 = .ok (.getfield 19, 3) := by decide +kernel
theorem dX8_now_100 : decode cX8_now 100 = .ok (.getfield 148, 3) := by decide +kernel
theorem dX8_now_103 : decode cX8_now 103 = .ok (.ireturn, 1) := by decide +kernel
theorem dX8_now_104 : decode cX8_now 104 = .ok (.aload_n 0, 1) := by decide +kernel
theorem dX8_now_105 : decode cX8_now 105 = .ok (.getfield 33, 3) := by decide +kernel
theorem dX8_now_108 : decode cX8_now 108 = .ok (.getfield 151, 3) := by decide +kernel
theorem dX8_now_111 : decode cX8_now 111 = .ok (.ireturn, 1) := by decide +kernel
theorem dX8_now_112 : decode cX8_now 112 = .ok (.iconst (-1), 1) := by decide +kernel
theorem dX8_now_113 : decode cX8_now 113 = .ok (.ireturn, 1) := by decide +kernel
theorem dX8_rivals_0 : decode cX8_rivals 0 = .ok (.aload_n 0, 1) := by decide +kernel
theorem dX8_rivals_1 : decode cX8_rivals 1 = .ok (.getfield 55, 3) := by decide +kernel
theorem dX8_rivals_4 : decode cX8_rivals 4 = .ok (.invokevirtual 154, 3) := by decide +kernel
theorem dX8_rivals_7 : decode cX8_rivals 7 = .ok (.lreturn, 1) := by decide +kernel
theorem dX8_adds_0 : decode cX8_adds 0 = .ok (.iload_n 1, 1) := by decide +kernel
theorem dX8_adds_1 : decode cX8_adds 1 = .ok (.invokestatic 158, 3) := by decide +kernel
theorem dX8_adds_4 : decode cX8_adds 4 = .ok (.ifCond .eq 24, 3) := by decide +kernel
theorem dX8_adds_7 : decode cX8_adds 7 = .ok (.iload_n 2, 1) := by decide +kernel
theorem dX8_adds_8 : decode cX8_adds 8 = .ok (.iconst 0, 1) := by decide +kernel
theorem dX8_adds_9 : decode cX8_adds 9 = .ok (.sipush 9999, 3) := by decide +kernel
theorem dX8_adds_12 : decode cX8_adds 12 = .ok (.invokestatic 161, 3) := by decide +kernel
theorem dX8_adds_15 : decode cX8_adds 15 = .ok (.ifCond .eq 13, 3) := by decide +kernel
theorem dX8_adds_18 : decode cX8_adds 18 = .ok (.iload_n 3, 1) := by decide +kernel
theorem dX8_adds_19 : decode cX8_adds 19 = .ok (.iconst 1, 1) := by decide +kernel
theorem dX8_adds_20 : decode cX8_adds 20 = .ok (.bipush 9, 2) := by decide +kernel
theorem dX8_adds_22 : decode cX8_adds 22 = .ok (.invokestatic 161, 3) := by decide +kernel
theorem dX8_adds_25 : decode cX8_adds 25 = .ok (.ifCond .ne 5, 3) := by decide +kernel
theorem dX8_adds_28 : decode cX8_adds 28 = .ok (.iconst (-1), 1) := by decide +kernel
theorem dX8_adds_29 : decode cX8_adds 29 = .ok (.ireturn, 1) := by decide +kernel
theorem dX8_adds_30 : decode cX8_adds 30 = .ok (.aload_n 0, 1) := by decide +kernel
theorem dX8_adds_31 : decode cX8_adds 31 = .ok (.getfield 12, 3) := by decide +kernel
theorem dX8_adds_34 : decode cX8_adds 34 = .ok (.getfield 94, 3) := by decide +kernel
theorem dX8_adds_37 : decode cX8_adds 37 = .ok (.invokevirtual 165, 3) := by decide +kernel
theorem dX8_adds_40 : decode cX8_adds 40 = .ok (.ifCond .eq 6, 3) := by decide +kernel
theorem dX8_adds_43 : decode cX8_adds 43 = .ok (.bipush (-3), 2) := by decide +kernel
theorem dX8_adds_45 : decode cX8_adds 45 = .ok (.ireturn, 1) := by decide +kernel
theorem dX8_adds_46 : decode cX8_adds 46 = .ok (.aload_n 0, 1) := by decide +kernel
theorem dX8_adds_47 : decode cX8_adds 47 = .ok (.getfield 33, 3) := by decide +kernel
theorem dX8_adds_50 : decode cX8_adds 50 = .ok (.aload_n 0, 1) := by decide +kernel
theorem dX8_adds_51 : decode cX8_adds 51 = .ok (.getfield 12, 3) := by decide +kernel
theorem dX8_adds_54 : decode cX8_adds 54 = .ok (.invokevirtual 169, 3) := by decide +kernel
theorem dX8_adds_57 : decode cX8_adds 57 = .ok (.aload_n 0, 1) := by decide +kernel
theorem dX8_adds_58 : decode cX8_adds 58 = .ok (.getfield 12, 3) := by decide +kernel
theorem dX8_adds_61 : decode cX8_adds 61 = .ok (.getfield 94, 3) := by decide +kernel
theorem dX8_adds_64 : decode cX8_adds 64 = .ok (.iload_n 1, 1) := by decide +kernel
theorem dX8_adds_65 : decode cX8_adds 65 = .ok (.iload_n 2, 1) := by decide +kernel
theorem dX8_adds_66 : decode cX8_adds 66 = .ok (.iload_n 3, 1) := by decide +kernel
theorem dX8_adds_67 : decode cX8_adds 67 = .ok (.invokevirtual 172, 3) := by decide +kernel
theorem dX8_adds_70 : decode cX8_adds 70 = .ok (.istore 4, 2) := by decide +kernel
theorem dX8_adds_72 : decode cX8_adds 72 = .ok (.aload_n 0, 1) := by decide +kernel
theorem dX8_adds_73 : decode cX8_adds 73 = .ok (.invokevirtual 66, 3) := by decide +kernel
theorem dX8_adds_76 : decode cX8_adds 76 = .ok (.iload 4, 2) := by decide +kernel
theorem dX8_adds_78 : decode cX8_adds 78 = .ok (.ireturn, 1) := by decide +kernel
theorem dX8_strikes_0 : decode cX8_strikes 0 = .ok (.aload_n 0, 1) := by decide +kernel
theorem dX8_strikes_1 : decode cX8_strikes 1 = .ok (.getfield 12, 3) := by decide +kernel
theorem dX8_strikes_4 : decode cX8_strikes 4 = .ok (.getfield 94, 3) := by decide +kernel
theorem dX8_strikes_7 : decode cX8_strikes 7 = .ok (.iload_n 1, 1) := by decide +kernel
theorem dX8_strikes_8 : decode cX8_strikes 8 = .ok (.invokevirtual 98, 3) := by decide +kernel
theorem dX8_strikes_11 : decode cX8_strikes 11 = .ok (.ifCond .ne 5, 3) := by decide +kernel
theorem dX8_strikes_14 : decode cX8_strikes 14 = .ok (.iconst (-1), 1) := by decide +kernel
theorem dX8_strikes_15 : decode cX8_strikes 15 = .ok (.ireturn, 1) := by decide +kernel
theorem dX8_strikes_16 : decode cX8_strikes 16 = .ok (.aload_n 0, 1) := by decide +kernel
theorem dX8_strikes_17 : decode cX8_strikes 17 = .ok (.getfield 33, 3) := by decide +kernel
theorem dX8_strikes_20 : decode cX8_strikes 20 = .ok (.aload_n 0, 1) := by decide +kernel
theorem dX8_strikes_21 : decode cX8_strikes 21 = .ok (.getfield 12, 3) := by decide +kernel
theorem dX8_strikes_24 : decode cX8_strikes 24 = .ok (.invokevirtual 169, 3) := by decide +kernel
theorem dX8_strikes_27 : decode cX8_strikes 27 = .ok (.aload_n 0, 1) := by decide +kernel
theorem dX8_strikes_28 : decode cX8_strikes 28 = .ok (.getfield 12, 3) := by decide +kernel
theorem dX8_strikes_31 : decode cX8_strikes 31 = .ok (.getfield 94, 3) := by decide +kernel
theorem dX8_strikes_34 : decode cX8_strikes 34 = .ok (.iload_n 1, 1) := by decide +kernel
theorem dX8_strikes_35 : decode cX8_strikes 35 = .ok (.invokevirtual 176, 3) := by decide +kernel
theorem dX8_strikes_38 : decode cX8_strikes 38 = .ok (.aload_n 0, 1) := by decide +kernel
theorem dX8_strikes_39 : decode cX8_strikes 39 = .ok (.invokevirtual 66, 3) := by decide +kernel
theorem dX8_strikes_42 : decode cX8_strikes 42 = .ok (.aload_n 0, 1) := by decide +kernel
theorem dX8_strikes_43 : decode cX8_strikes 43 = .ok (.getfield 12, 3) := by decide +kernel
theorem dX8_strikes_46 : decode cX8_strikes 46 = .ok (.getfield 94, 3) := by decide +kernel
theorem dX8_strikes_49 : decode cX8_strikes 49 = .ok (.getfield 180, 3) := by decide +kernel
theorem dX8_strikes_52 : decode cX8_strikes 52 = .ok (.ireturn, 1) := by decide +kernel
theorem dX8_rules_0 : decode cX8_rules 0 = .ok (.iload_n 1, 1) := by decide +kernel
theorem dX8_rules_1 : decode cX8_rules 1 = .ok (.iconst 1, 1) := by decide +kernel
theorem dX8_rules_2 : decode cX8_rules 2 = .ok (.bipush 99, 2) := by decide +kernel
theorem dX8_rules_4 : decode cX8_rules 4 = .ok (.invokestatic 161, 3) := by decide +kernel
theorem dX8_rules_7 : decode cX8_rules 7 = .ok (.ifCond .eq 10, 3) := by decide +kernel
theorem dX8_rules_10 : decode cX8_rules 10 = .ok (.iload_n 2, 1) := by decide +kernel
theorem dX8_rules_11 : decode cX8_rules 11 = .ok (.invokestatic 181, 3) := by decide +kernel
theorem dX8_rules_14 : decode cX8_rules 14 = .ok (.ifCond .ne 5, 3) := by decide +kernel
theorem dX8_rules_17 : decode cX8_rules 17 = .ok (.iconst (-1), 1) := by decide +kernel
theorem dX8_rules_18 : decode cX8_rules 18 = .ok (.ireturn, 1) := by decide +kernel
theorem dX8_rules_19 : decode cX8_rules 19 = .ok (.aload_n 0, 1) := by decide +kernel
theorem dX8_rules_20 : decode cX8_rules 20 = .ok (.getfield 33, 3) := by decide +kernel
theorem dX8_rules_23 : decode cX8_rules 23 = .ok (.aload_n 0, 1) := by decide +kernel
theorem dX8_rules_24 : decode cX8_rules 24 = .ok (.getfield 12, 3) := by decide +kernel
theorem dX8_rules_27 : decode cX8_rules 27 = .ok (.invokevirtual 169, 3) := by decide +kernel
theorem dX8_rules_30 : decode cX8_rules 30 = .ok (.aload_n 0, 1) := by decide +kernel
theorem dX8_rules_31 : decode cX8_rules 31 = .ok (.getfield 12, 3) := by decide +kernel
theorem dX8_rules_34 : decode cX8_rules 34 = .ok (.iload_n 1, 1) := by decide +kernel
theorem dX8_rules_35 : decode cX8_rules 35 = .ok (.putfield 184, 3) := by decide +kernel
theorem dX8_rules_38 : decode cX8_rules 38 = .ok (.aload_n 0, 1) := by decide +kernel
theorem dX8_rules_39 : decode cX8_rules 39 = .ok (.getfield 12, 3) := by decide +kernel
theorem dX8_rules_42 : decode cX8_rules 42 = .ok (.iload_n 2, 1) := by decide +kernel
theorem dX8_rules_43 : decode cX8_rules 43 = .ok (.putfield 187, 3) := by decide +kernel
theorem dX8_rules_46 : decode cX8_rules 46 = .ok (.aload_n 0, 1) := by decide +kernel
theorem dX8_rules_47 : decode cX8_rules 47 = .ok (.invokevirtual 66, 3) := by decide +kernel
theorem dX8_rules_50 : decode cX8_rules 50 = .ok (.aload_n 0, 1) := by decide +kernel
theorem dX8_rules_51 : decode cX8_rules 51 = .ok (.getfield 55, 3) := by decide +kernel
theorem dX8_rules_54 : decode cX8_rules 54 = .ok (.invokevirtual 129, 3) := by decide +kernel
theorem dX8_rules_57 : decode cX8_rules 57 = .ok (.ireturn, 1) := by decide +kernel
theorem dX8_undo_0 : decode cX8_undo 0 = .ok (.aload_n 0, 1) := by decide +kernel
theorem dX8_undo_1 : decode cX8_undo 1 = .ok (.getfield 33, 3) := by decide +kernel
theorem dX8_undo_4 : decode cX8_undo 4 = .ok (.getfield 151, 3) := by decide +kernel
theorem dX8_undo_7 : decode cX8_undo 7 = .ok (.ifCond .ne 6, 3) := by decide +kernel
theorem dX8_undo_10 : decode cX8_undo 10 = .ok (.bipush (-2), 2) := by decide +kernel
theorem dX8_undo_12 : decode cX8_undo 12 = .ok (.ireturn, 1) := by decide +kernel
theorem dX8_undo_13 : decode cX8_undo 13 = .ok (.aload_n 0, 1) := by decide +kernel
theorem dX8_undo_14 : decode cX8_undo 14 = .ok (.getfield 33, 3) := by decide +kernel
theorem dX8_undo_17 : decode cX8_undo 17 = .ok (.aload_n 0, 1) := by decide +kernel
theorem dX8_undo_18 : decode cX8_undo 18 = .ok (.getfield 12, 3) := by decide +kernel
theorem dX8_undo_21 : decode cX8_undo 21 = .ok (.invokevirtual 190, 3) := by decide +kernel
theorem dX8_undo_24 : decode cX8_undo 24 = .ok (.aload_n 0, 1) := by decide +kernel
theorem dX8_undo_25 : decode cX8_undo 25 = .ok (.invokevirtual 66, 3) := by decide +kernel
theorem dX8_undo_28 : decode cX8_undo 28 = .ok (.aload_n 0, 1) := by decide +kernel
theorem dX8_undo_29 : decode cX8_undo 29 = .ok (.getfield 33, 3) := by decide +kernel
theorem dX8_undo_32 : decode cX8_undo 32 = .ok (.getfield 151, 3) := by decide +kernel
theorem dX8_undo_35 : decode cX8_undo 35 = .ok (.ireturn, 1) := by decide +kernel
theorem dX8_on_0 : decode cX8_on 0 = .ok (.iload_n 1, 1) := by decide +kernel
theorem dX8_on_1 : decode cX8_on 1 = .ok (.invokestatic 158, 3) := by decide +kernel
theorem dX8_on_4 : decode cX8_on 4 = .ok (.ifCond .eq 12, 3) := by decide +kernel
theorem dX8_on_7 : decode cX8_on 7 = .ok (.iload_n 2, 1) := by decide +kernel
theorem dX8_on_8 : decode cX8_on 8 = .ok (.iconst 0, 1) := by decide +kernel
theorem dX8_on_9 : decode cX8_on 9 = .ok (.iconst 1, 1) := by decide +kernel
theorem dX8_on_10 : decode cX8_on 10 = .ok (.invokestatic 161, 3) := by decide +kernel
theorem dX8_on_13 : decode cX8_on 13 = .ok (.ifCond .ne 5, 3) := by decide +kernel
theorem dX8_on_16 : decode cX8_on 16 = .ok (.iconst (-1), 1) := by decide +kernel
theorem dX8_on_17 : decode cX8_on 17 = .ok (.ireturn, 1) := by decide +kernel
theorem dX8_on_18 : decode cX8_on 18 = .ok (.aload_n 0, 1) := by decide +kernel
theorem dX8_on_19 : decode cX8_on 19 = .ok (.getfield 55, 3) := by decide +kernel
theorem dX8_on_22 : decode cX8_on 22 = .ok (.iload_n 1, 1) := by decide +kernel
theorem dX8_on_23 : decode cX8_on 23 = .ok (.iload_n 2, 1) := by decide +kernel
theorem dX8_on_24 : decode cX8_on 24 = .ok (.iconst 1, 1) := by decide +kernel
theorem dX8_on_25 : decode cX8_on 25 = .ok (.if_icmp .ne 7, 3) := by decide +kernel
theorem dX8_on_28 : decode cX8_on 28 = .ok (.iconst 1, 1) := by decide +kernel
theorem dX8_on_29 : decode cX8_on 29 = .ok (.goto 4, 3) := by decide +kernel
theorem dX8_on_32 : decode cX8_on 32 = .ok (.iconst 0, 1) := by decide +kernel
theorem dX8_on_33 : decode cX8_on 33 = .ok (.invokevirtual 193, 3) := by decide +kernel
theorem dX8_on_36 : decode cX8_on 36 = .ok (.ireturn, 1) := by decide +kernel
theorem dX8_plate_0 : decode cX8_plate 0 = .ok (.iload_n 1, 1) := by decide +kernel
theorem dX8_plate_1 : decode cX8_plate 1 = .ok (.invokestatic 158, 3) := by decide +kernel
theorem dX8_plate_4 : decode cX8_plate 4 = .ok (.ifCond .ne 5, 3) := by decide +kernel
theorem dX8_plate_7 : decode cX8_plate 7 = .ok (.iconst (-1), 1) := by decide +kernel
theorem dX8_plate_8 : decode cX8_plate 8 = .ok (.ireturn, 1) := by decide +kernel
theorem dX8_plate_9 : decode cX8_plate 9 = .ok (.aload_n 0, 1) := by decide +kernel
theorem dX8_plate_10 : decode cX8_plate 10 = .ok (.getfield 19, 3) := by decide +kernel
theorem dX8_plate_13 : decode cX8_plate 13 = .ok (.iload_n 1, 1) := by decide +kernel
theorem dX8_plate_14 : decode cX8_plate 14 = .ok (.invokevirtual 197, 3) := by decide +kernel
theorem dX8_plate_17 : decode cX8_plate 17 = .ok (.ireturn, 1) := by decide +kernel
theorem dX8_odds_0 : decode cX8_odds 0 = .ok (.iload_n 1, 1) := by decide +kernel
theorem dX8_odds_1 : decode cX8_odds 1 = .ok (.iconst 0, 1) := by decide +kernel
theorem dX8_odds_2 : decode cX8_odds 2 = .ok (.bipush 10, 2) := by decide +kernel
theorem dX8_odds_4 : decode cX8_odds 4 = .ok (.invokestatic 161, 3) := by decide +kernel
theorem dX8_odds_7 : decode cX8_odds 7 = .ok (.ifCond .eq 23, 3) := by decide +kernel
theorem dX8_odds_10 : decode cX8_odds 10 = .ok (.iload_n 2, 1) := by decide +kernel
theorem dX8_odds_11 : decode cX8_odds 11 = .ok (.iconst 0, 1) := by decide +kernel
theorem dX8_odds_12 : decode cX8_odds 12 = .ok (.sipush 180, 3) := by decide +kernel
theorem dX8_odds_15 : decode cX8_odds 15 = .ok (.invokestatic 161, 3) := by decide +kernel
theorem dX8_odds_18 : decode cX8_odds 18 = .ok (.ifCond .eq 12, 3) := by decide +kernel
theorem dX8_odds_21 : decode cX8_odds 21 = .ok (.iload_n 3, 1) := by decide +kernel
theorem dX8_odds_22 : decode cX8_odds 22 = .ok (.iconst 0, 1) := by decide +kernel
theorem dX8_odds_23 : decode cX8_odds 23 = .ok (.iconst 1, 1) := by decide +kernel
theorem dX8_odds_24 : decode cX8_odds 24 = .ok (.invokestatic 161, 3) := by decide +kernel
theorem dX8_odds_27 : decode cX8_odds 27 = .ok (.ifCond .ne 7, 3) := by decide +kernel
theorem dX8_odds_30 : decode cX8_odds 30 = .ok (.ldc2_w 200, 3) := by decide +kernel
theorem dX8_odds_33 : decode cX8_odds 33 = .ok (.lreturn, 1) := by decide +kernel
theorem dX8_odds_34 : decode cX8_odds 34 = .ok (.aload_n 0, 1) := by decide +kernel
theorem dX8_odds_35 : decode cX8_odds 35 = .ok (.getfield 12, 3) := by decide +kernel
theorem dX8_odds_38 : decode cX8_odds 38 = .ok (.getfield 94, 3) := by decide +kernel
theorem dX8_odds_41 : decode cX8_odds 41 = .ok (.getfield 180, 3) := by decide +kernel
theorem dX8_odds_44 : decode cX8_odds 44 = .ok (.istore 4, 2) := by decide +kernel
theorem dX8_odds_46 : decode cX8_odds 46 = .ok (.aload_n 0, 1) := by decide +kernel
theorem dX8_odds_47 : decode cX8_odds 47 = .ok (.getfield 62, 3) := by decide +kernel
theorem dX8_odds_50 : decode cX8_odds 50 = .ok (.iload_n 1, 1) := by decide +kernel
theorem dX8_odds_51 : decode cX8_odds 51 = .ok (.iload_n 2, 1) := by decide +kernel
theorem dX8_odds_52 : decode cX8_odds 52 = .ok (.invokevirtual 202, 3) := by decide +kernel
theorem dX8_odds_55 : decode cX8_odds 55 = .ok (.lstore 5, 2) := by decide +kernel
theorem dX8_odds_57 : decode cX8_odds 57 = .ok (.bipush 10, 2) := by decide +kernel
theorem dX8_odds_59 : decode cX8_odds 59 = .ok (.iload 4, 2) := by decide +kernel
theorem dX8_odds_61 : decode cX8_odds 61 = .ok (.invokestatic 206, 3) := by decide +kernel
theorem dX8_odds_64 : decode cX8_odds 64 = .ok (.lstore 7, 2) := by decide +kernel
theorem dX8_odds_66 : decode cX8_odds 66 = .ok (.iconst 0, 1) := by decide +kernel
theorem dX8_odds_67 : decode cX8_odds 67 = .ok (.istore 9, 2) := by decide +kernel
theorem dX8_odds_69 : decode cX8_odds 69 = .ok (.iload 9, 2) := by decide +kernel
theorem dX8_odds_71 : decode cX8_odds 71 = .ok (.iload 4, 2) := by decide +kernel
theorem dX8_odds_73 : decode cX8_odds 73 = .ok (.if_icmp .ge 85, 3) := by decide +kernel
theorem dX8_odds_76 : decode cX8_odds 76 = .ok (.lload 5, 2) := by decide +kernel
theorem dX8_odds_78 : decode cX8_odds 78 = .ok (.ldc2_w 209, 3) := by decide +kernel
theorem dX8_odds_81 : decode cX8_odds 81 = .ok (.lrem, 1) := by decide +kernel
theorem dX8_odds_82 : decode cX8_odds 82 = .ok (.lconst 0, 1) := by decide +kernel
theorem dX8_odds_83 : decode cX8_odds 83 = .ok (.lcmp, 1) := by decide +kernel
theorem dX8_odds_84 : decode cX8_odds 84 = .ok (.ifCond .ne 30, 3) := by decide +kernel
theorem dX8_odds_87 : decode cX8_odds 87 = .ok (.lload 7, 2) := by decide +kernel
theorem dX8_odds_89 : decode cX8_odds 89 = .ok (.ldc2_w 209, 3) := by decide +kernel
theorem dX8_odds_92 : decode cX8_odds 92 = .ok (.lrem, 1) := by decide +kernel
theorem dX8_odds_93 : decode cX8_odds 93 = .ok (.lconst 0, 1) := by decide +kernel
theorem dX8_odds_94 : decode cX8_odds 94 = .ok (.lcmp, 1) := by decide +kernel
theorem dX8_odds_95 : decode cX8_odds 95 = .ok (.ifCond .ne 19, 3) := by decide +kernel
theorem dX8_odds_98 : decode cX8_odds 98 = .ok (.lload 5, 2) := by decide +kernel
theorem dX8_odds_100 : decode cX8_odds 100 = .ok (.ldc2_w 209, 3) := by decide +kernel
theorem dX8_odds_103 : decode cX8_odds 103 = .ok (.ldiv, 1) := by decide +kernel
theorem dX8_odds_104 : decode cX8_odds 104 = .ok (.lstore 5, 2) := by decide +kernel
theorem dX8_odds_106 : decode cX8_odds 106 = .ok (.lload 7, 2) := by decide +kernel
theorem dX8_odds_108 : decode cX8_odds 108 = .ok (.ldc2_w 209, 3) := by decide +kernel
theorem dX8_odds_111 : decode cX8_odds 111 = .ok (.ldiv, 1) := by decide +kernel
theorem dX8_odds_112 : decode cX8_odds 112 = .ok (.lstore 7, 2) := by decide +kernel
theorem dX8_odds_114 : decode cX8_odds 114 = .ok (.lload 5, 2) := by decide +kernel
theorem dX8_odds_116 : decode cX8_odds 116 = .ok (.ldc2_w 211, 3) := by decide +kernel
theorem dX8_odds_119 : decode cX8_odds 119 = .ok (.lrem, 1) := by decide +kernel
theorem dX8_odds_120 : decode cX8_odds 120 = .ok (.lconst 0, 1) := by decide +kernel
theorem dX8_odds_121 : decode cX8_odds 121 = .ok (.lcmp, 1) := by decide +kernel
theorem dX8_odds_122 : decode cX8_odds 122 = .ok (.ifCond .ne 30, 3) := by decide +kernel
theorem dX8_odds_125 : decode cX8_odds 125 = .ok (.lload 7, 2) := by decide +kernel
theorem dX8_odds_127 : decode cX8_odds 127 = .ok (.ldc2_w 211, 3) := by decide +kernel
theorem dX8_odds_130 : decode cX8_odds 130 = .ok (.lrem, 1) := by decide +kernel
theorem dX8_odds_131 : decode cX8_odds 131 = .ok (.lconst 0, 1) := by decide +kernel
theorem dX8_odds_132 : decode cX8_odds 132 = .ok (.lcmp, 1) := by decide +kernel
theorem dX8_odds_133 : decode cX8_odds 133 = .ok (.ifCond .ne 19, 3) := by decide +kernel
theorem dX8_odds_136 : decode cX8_odds 136 = .ok (.lload 5, 2) := by decide +kernel
theorem dX8_odds_138 : decode cX8_odds 138 = .ok (.ldc2_w 211, 3) := by decide +kernel
theorem dX8_odds_141 : decode cX8_odds 141 = .ok (.ldiv, 1) := by decide +kernel
theorem dX8_odds_142 : decode cX8_odds 142 = .ok (.lstore 5, 2) := by decide +kernel
theorem dX8_odds_144 : decode cX8_odds 144 = .ok (.lload 7, 2) := by decide +kernel
theorem dX8_odds_146 : decode cX8_odds 146 = .ok (.ldc2_w 211, 3) := by decide +kernel
theorem dX8_odds_149 : decode cX8_odds 149 = .ok (.ldiv, 1) := by decide +kernel
theorem dX8_odds_150 : decode cX8_odds 150 = .ok (.lstore 7, 2) := by decide +kernel
theorem dX8_odds_152 : decode cX8_odds 152 = .ok (.iinc 9 1, 3) := by decide +kernel
theorem dX8_odds_155 : decode cX8_odds 155 = .ok (.goto (-86), 3) := by decide +kernel
theorem dX8_odds_158 : decode cX8_odds 158 = .ok (.iload_n 3, 1) := by decide +kernel
theorem dX8_odds_159 : decode cX8_odds 159 = .ok (.ifCond .ne 8, 3) := by decide +kernel
theorem dX8_odds_162 : decode cX8_odds 162 = .ok (.lload 5, 2) := by decide +kernel
theorem dX8_odds_164 : decode cX8_odds 164 = .ok (.goto 5, 3) := by decide +kernel
theorem dX8_odds_167 : decode cX8_odds 167 = .ok (.lload 7, 2) := by decide +kernel
theorem dX8_odds_169 : decode cX8_odds 169 = .ok (.lreturn, 1) := by decide +kernel
theorem dX8_keep_0 : decode cX8_keep 0 = .ok (.iload_n 1, 1) := by decide +kernel
theorem dX8_keep_1 : decode cX8_keep 1 = .ok (.iconst 0, 1) := by decide +kernel
theorem dX8_keep_2 : decode cX8_keep 2 = .ok (.iconst 1, 1) := by decide +kernel
theorem dX8_keep_3 : decode cX8_keep 3 = .ok (.invokestatic 161, 3) := by decide +kernel
theorem dX8_keep_6 : decode cX8_keep 6 = .ok (.ifCond .ne 5, 3) := by decide +kernel
theorem dX8_keep_9 : decode cX8_keep 9 = .ok (.iconst (-1), 1) := by decide +kernel
theorem dX8_keep_10 : decode cX8_keep 10 = .ok (.ireturn, 1) := by decide +kernel
theorem dX8_keep_11 : decode cX8_keep 11 = .ok (.aload_n 0, 1) := by decide +kernel
theorem dX8_keep_12 : decode cX8_keep 12 = .ok (.getfield 37, 3) := by decide +kernel
theorem dX8_keep_15 : decode cX8_keep 15 = .ok (.iload_n 1, 1) := by decide +kernel
theorem dX8_keep_16 : decode cX8_keep 16 = .ok (.aaload, 1) := by decide +kernel
theorem dX8_keep_17 : decode cX8_keep 17 = .ok (.aload_n 0, 1) := by decide +kernel
theorem dX8_keep_18 : decode cX8_keep 18 = .ok (.getfield 12, 3) := by decide +kernel
theorem dX8_keep_21 : decode cX8_keep 21 = .ok (.invokevirtual 84, 3) := by decide +kernel
theorem dX8_keep_24 : decode cX8_keep 24 = .ok (.aload_n 0, 1) := by decide +kernel
theorem dX8_keep_25 : decode cX8_keep 25 = .ok (.getfield 41, 3) := by decide +kernel
theorem dX8_keep_28 : decode cX8_keep 28 = .ok (.iload_n 1, 1) := by decide +kernel
theorem dX8_keep_29 : decode cX8_keep 29 = .ok (.iconst 1, 1) := by decide +kernel
theorem dX8_keep_30 : decode cX8_keep 30 = .ok (.bastore, 1) := by decide +kernel
theorem dX8_keep_31 : decode cX8_keep 31 = .ok (.aload_n 0, 1) := by decide +kernel
theorem dX8_keep_32 : decode cX8_keep 32 = .ok (.getfield 12, 3) := by decide +kernel
theorem dX8_keep_35 : decode cX8_keep 35 = .ok (.getfield 94, 3) := by decide +kernel
theorem dX8_keep_38 : decode cX8_keep 38 = .ok (.getfield 180, 3) := by decide +kernel
theorem dX8_keep_41 : decode cX8_keep 41 = .ok (.ireturn, 1) := by decide +kernel
theorem dX8_back_0 : decode cX8_back 0 = .ok (.iload_n 1, 1) := by decide +kernel
theorem dX8_back_1 : decode cX8_back 1 = .ok (.iconst 0, 1) := by decide +kernel
theorem dX8_back_2 : decode cX8_back 2 = .ok (.iconst 1, 1) := by decide +kernel
theorem dX8_back_3 : decode cX8_back 3 = .ok (.invokestatic 161, 3) := by decide +kernel
theorem dX8_back_6 : decode cX8_back 6 = .ok (.ifCond .ne 5, 3) := by decide +kernel
theorem dX8_back_9 : decode cX8_back 9 = .ok (.iconst (-1), 1) := by decide +kernel
theorem dX8_back_10 : decode cX8_back 10 = .ok (.ireturn, 1) := by decide +kernel
theorem dX8_back_11 : decode cX8_back 11 = .ok (.aload_n 0, 1) := by decide +kernel
theorem dX8_back_12 : decode cX8_back 12 = .ok (.getfield 41, 3) := by decide +kernel
theorem dX8_back_15 : decode cX8_back 15 = .ok (.iload_n 1, 1) := by decide +kernel
theorem dX8_back_16 : decode cX8_back 16 = .ok (.baload, 1) := by decide +kernel
theorem dX8_back_17 : decode cX8_back 17 = .ok (.ifCond .ne 6, 3) := by decide +kernel
theorem dX8_back_20 : decode cX8_back 20 = .ok (.bipush (-2), 2) := by decide +kernel
theorem dX8_back_22 : decode cX8_back 22 = .ok (.ireturn, 1) := by decide +kernel
theorem dX8_back_23 : decode cX8_back 23 = .ok (.aload_n 0, 1) := by decide +kernel
theorem dX8_back_24 : decode cX8_back 24 = .ok (.getfield 12, 3) := by decide +kernel
theorem dX8_back_27 : decode cX8_back 27 = .ok (.aload_n 0, 1) := by decide +kernel
theorem dX8_back_28 : decode cX8_back 28 = .ok (.getfield 37, 3) := by decide +kernel
theorem dX8_back_31 : decode cX8_back 31 = .ok (.iload_n 1, 1) := by decide +kernel
theorem dX8_back_32 : decode cX8_back 32 = .ok (.aaload, 1) := by decide +kernel
theorem dX8_back_33 : decode cX8_back 33 = .ok (.invokevirtual 84, 3) := by decide +kernel
theorem dX8_back_36 : decode cX8_back 36 = .ok (.aload_n 0, 1) := by decide +kernel
theorem dX8_back_37 : decode cX8_back 37 = .ok (.getfield 33, 3) := by decide +kernel
theorem dX8_back_40 : decode cX8_back 40 = .ok (.invokevirtual 91, 3) := by decide +kernel
theorem dX8_back_43 : decode cX8_back 43 = .ok (.aload_n 0, 1) := by decide +kernel
theorem dX8_back_44 : decode cX8_back 44 = .ok (.invokevirtual 66, 3) := by decide +kernel
theorem dX8_back_47 : decode cX8_back 47 = .ok (.aload_n 0, 1) := by decide +kernel
theorem dX8_back_48 : decode cX8_back 48 = .ok (.getfield 12, 3) := by decide +kernel
theorem dX8_back_51 : decode cX8_back 51 = .ok (.getfield 94, 3) := by decide +kernel
theorem dX8_back_54 : decode cX8_back 54 = .ok (.getfield 180, 3) := by decide +kernel
theorem dX8_back_57 : decode cX8_back 57 = .ok (.ireturn, 1) := by decide +kernel
theorem dX8_count_0 : decode cX8_count 0 = .ok (.iload_n 1, 1) := by decide +kernel
theorem dX8_count_1 : decode cX8_count 1 = .ok (.tableswitch 93 0 5 #[39, 50, 61, 69, 77, 85], 39) := by decide +kernel
theorem dX8_count_40 : decode cX8_count 40 = .ok (.aload_n 0, 1) := by decide +kernel
theorem dX8_count_41 : decode cX8_count 41 = .ok (.getfield 12, 3) := by decide +kernel
theorem dX8_count_44 : decode cX8_count 44 = .ok (.getfield 94, 3) := by decide +kernel
theorem dX8_count_47 : decode cX8_count 47 = .ok (.getfield 180, 3) := by decide +kernel
theorem dX8_count_50 : decode cX8_count 50 = .ok (.ireturn, 1) := by decide +kernel
theorem dX8_count_51 : decode cX8_count 51 = .ok (.aload_n 0, 1) := by decide +kernel
theorem dX8_count_52 : decode cX8_count 52 = .ok (.getfield 19, 3) := by decide +kernel
theorem dX8_count_55 : decode cX8_count 55 = .ok (.getfield 123, 3) := by decide +kernel
theorem dX8_count_58 : decode cX8_count 58 = .ok (.getfield 180, 3) := by decide +kernel
theorem dX8_count_61 : decode cX8_count 61 = .ok (.ireturn, 1) := by decide +kernel
theorem dX8_count_62 : decode cX8_count 62 = .ok (.aload_n 0, 1) := by decide +kernel
theorem dX8_count_63 : decode cX8_count 63 = .ok (.getfield 12, 3) := by decide +kernel
theorem dX8_count_66 : decode cX8_count 66 = .ok (.getfield 184, 3) := by decide +kernel
theorem dX8_count_69 : decode cX8_count 69 = .ok (.ireturn, 1) := by decide +kernel
theorem dX8_count_70 : decode cX8_count 70 = .ok (.aload_n 0, 1) := by decide +kernel
theorem dX8_count_71 : decode cX8_count 71 = .ok (.getfield 12, 3) := by decide +kernel
theorem dX8_count_74 : decode cX8_count 74 = .ok (.getfield 187, 3) := by decide +kernel
theorem dX8_count_77 : decode cX8_count 77 = .ok (.ireturn, 1) := by decide +kernel
theorem dX8_count_78 : decode cX8_count 78 = .ok (.aload_n 0, 1) := by decide +kernel
theorem dX8_count_79 : decode cX8_count 79 = .ok (.getfield 19, 3) := by decide +kernel
theorem dX8_count_82 : decode cX8_count 82 = .ok (.getfield 213, 3) := by decide +kernel
theorem dX8_count_85 : decode cX8_count 85 = .ok (.ireturn, 1) := by decide +kernel
theorem dX8_count_86 : decode cX8_count 86 = .ok (.aload_n 0, 1) := by decide +kernel
theorem dX8_count_87 : decode cX8_count 87 = .ok (.getfield 26, 3) := by decide +kernel
theorem dX8_count_90 : decode cX8_count 90 = .ok (.getfield 216, 3) := by decide +kernel
theorem dX8_count_93 : decode cX8_count 93 = .ok (.ireturn, 1) := by decide +kernel
theorem dX8_count_94 : decode cX8_count 94 = .ok (.iconst (-1), 1) := by decide +kernel
theorem dX8_count_95 : decode cX8_count 95 = .ok (.ireturn, 1) := by decide +kernel
theorem dX8_repairAnew_0 : decode cX8_repairAnew 0 = .ok (.aload_n 0, 1) := by decide +kernel
theorem dX8_repairAnew_1 : decode cX8_repairAnew 1 = .ok (.getfield 55, 3) := by decide +kernel
theorem dX8_repairAnew_4 : decode cX8_repairAnew 4 = .ok (.invokevirtual 219, 3) := by decide +kernel
theorem dX8_repairAnew_7 : decode cX8_repairAnew 7 = .ok (.aload_n 0, 1) := by decide +kernel
theorem dX8_repairAnew_8 : decode cX8_repairAnew 8 = .ok (.getfield 62, 3) := by decide +kernel
theorem dX8_repairAnew_11 : decode cX8_repairAnew 11 = .ok (.invokevirtual 222, 3) := by decide +kernel
theorem dX8_repairAnew_14 : decode cX8_repairAnew 14 = .ok (.return_, 1) := by decide +kernel
theorem dX8_isWithin_0 : decode cX8_isWithin 0 = .ok (.iload_n 0, 1) := by decide +kernel
theorem dX8_isWithin_1 : decode cX8_isWithin 1 = .ok (.iload_n 1, 1) := by decide +kernel
theorem dX8_isWithin_2 : decode cX8_isWithin 2 = .ok (.if_icmp .lt 12, 3) := by decide +kernel
theorem dX8_isWithin_5 : decode cX8_isWithin 5 = .ok (.iload_n 0, 1) := by decide +kernel
theorem dX8_isWithin_6 : decode cX8_isWithin 6 = .ok (.iload_n 2, 1) := by decide +kernel
theorem dX8_isWithin_7 : decode cX8_isWithin 7 = .ok (.if_icmp .gt 7, 3) := by decide +kernel
theorem dX8_isWithin_10 : decode cX8_isWithin 10 = .ok (.iconst 1, 1) := by decide +kernel
theorem dX8_isWithin_11 : decode cX8_isWithin 11 = .ok (.goto 4, 3) := by decide +kernel
theorem dX8_isWithin_14 : decode cX8_isWithin 14 = .ok (.iconst 0, 1) := by decide +kernel
theorem dX8_isWithin_15 : decode cX8_isWithin 15 = .ok (.ireturn, 1) := by decide +kernel
theorem dX8_isDay_0 : decode cX8_isDay 0 = .ok (.iload_n 0, 1) := by decide +kernel
theorem dX8_isDay_1 : decode cX8_isDay 1 = .ok (.iconst 0, 1) := by decide +kernel
theorem dX8_isDay_2 : decode cX8_isDay 2 = .ok (.sipush 999, 3) := by decide +kernel
theorem dX8_isDay_5 : decode cX8_isDay 5 = .ok (.invokestatic 161, 3) := by decide +kernel
theorem dX8_isDay_8 : decode cX8_isDay 8 = .ok (.ireturn, 1) := by decide +kernel
theorem dX8_isWrap_0 : decode cX8_isWrap 0 = .ok (.iload_n 0, 1) := by decide +kernel
theorem dX8_isWrap_1 : decode cX8_isWrap 1 = .ok (.ifCond .eq 15, 3) := by decide +kernel
theorem dX8_isWrap_4 : decode cX8_isWrap 4 = .ok (.iload_n 0, 1) := by decide +kernel
theorem dX8_isWrap_5 : decode cX8_isWrap 5 = .ok (.bipush 100, 2) := by decide +kernel
theorem dX8_isWrap_7 : decode cX8_isWrap 7 = .ok (.sipush 9999, 3) := by decide +kernel
theorem dX8_isWrap_10 : decode cX8_isWrap 10 = .ok (.invokestatic 161, 3) := by decide +kernel
theorem dX8_isWrap_13 : decode cX8_isWrap 13 = .ok (.ifCond .eq 7, 3) := by decide +kernel
theorem dX8_isWrap_16 : decode cX8_isWrap 16 = .ok (.iconst 1, 1) := by decide +kernel
theorem dX8_isWrap_17 : decode cX8_isWrap 17 = .ok (.goto 4, 3) := by decide +kernel
theorem dX8_isWrap_20 : decode cX8_isWrap 20 = .ok (.iconst 0, 1) := by decide +kernel
theorem dX8_isWrap_21 : decode cX8_isWrap 21 = .ok (.ireturn, 1) := by decide +kernel
theorem dX9_init_0 : decode cX9_init 0 = .ok (.aload_n 0, 1) := by decide +kernel
theorem dX9_init_1 : decode cX9_init 1 = .ok (.invokespecial 1, 3) := by decide +kernel
theorem dX9_init_4 : decode cX9_init 4 = .ok (.aload_n 0, 1) := by decide +kernel
theorem dX9_init_5 : decode cX9_init 5 = .ok (.bipush 120, 2) := by decide +kernel
theorem dX9_init_7 : decode cX9_init 7 = .ok (.newarray .int, 2) := by decide +kernel
theorem dX9_init_9 : decode cX9_init 9 = .ok (.putfield 7, 3) := by decide +kernel
theorem dX9_init_12 : decode cX9_init 12 = .ok (.aload_n 0, 1) := by decide +kernel
theorem dX9_init_13 : decode cX9_init 13 = .ok (.bipush 33, 2) := by decide +kernel
theorem dX9_init_15 : decode cX9_init 15 = .ok (.newarray .int, 2) := by decide +kernel
theorem dX9_init_17 : decode cX9_init 17 = .ok (.putfield 13, 3) := by decide +kernel
theorem dX9_init_20 : decode cX9_init 20 = .ok (.aload_n 0, 1) := by decide +kernel
theorem dX9_init_21 : decode cX9_init 21 = .ok (.bipush 6, 2) := by decide +kernel
theorem dX9_init_23 : decode cX9_init 23 = .ok (.newarray .int, 2) := by decide +kernel
theorem dX9_init_25 : decode cX9_init 25 = .ok (.putfield 16, 3) := by decide +kernel
theorem dX9_init_28 : decode cX9_init 28 = .ok (.aload_n 0, 1) := by decide +kernel
theorem dX9_init_29 : decode cX9_init 29 = .ok (.bipush 6, 2) := by decide +kernel
theorem dX9_init_31 : decode cX9_init 31 = .ok (.newarray .int, 2) := by decide +kernel
theorem dX9_init_33 : decode cX9_init 33 = .ok (.putfield 19, 3) := by decide +kernel
theorem dX9_init_36 : decode cX9_init 36 = .ok (.aload_n 0, 1) := by decide +kernel
theorem dX9_init_37 : decode cX9_init 37 = .ok (.bipush 6, 2) := by decide +kernel
theorem dX9_init_39 : decode cX9_init 39 = .ok (.newarray .int, 2) := by decide +kernel
theorem dX9_init_41 : decode cX9_init 41 = .ok (.putfield 22, 3) := by decide +kernel
theorem dX9_init_44 : decode cX9_init 44 = .ok (.aload_n 0, 1) := by decide +kernel
theorem dX9_init_45 : decode cX9_init 45 = .ok (.bipush 33, 2) := by decide +kernel
theorem dX9_init_47 : decode cX9_init 47 = .ok (.newarray .int, 2) := by decide +kernel
theorem dX9_init_49 : decode cX9_init 49 = .ok (.putfield 25, 3) := by decide +kernel
theorem dX9_init_52 : decode cX9_init 52 = .ok (.aload_n 0, 1) := by decide +kernel
theorem dX9_init_53 : decode cX9_init 53 = .ok (.bipush 6, 2) := by decide +kernel
theorem dX9_init_55 : decode cX9_init 55 = .ok (.newarray .int, 2) := by decide +kernel
theorem dX9_init_57 : decode cX9_init 57 = .ok (.putfield 28, 3) := by decide +kernel
theorem dX9_init_60 : decode cX9_init 60 = .ok (.aload_n 0, 1) := by decide +kernel
theorem dX9_init_61 : decode cX9_init 61 = .ok (.bipush 6, 2) := by decide +kernel
theorem dX9_init_63 : decode cX9_init 63 = .ok (.newarray .int, 2) := by decide +kernel
theorem dX9_init_65 : decode cX9_init 65 = .ok (.putfield 31, 3) := by decide +kernel
theorem dX9_init_68 : decode cX9_init 68 = .ok (.aload_n 0, 1) := by decide +kernel
theorem dX9_init_69 : decode cX9_init 69 = .ok (.bipush 6, 2) := by decide +kernel
theorem dX9_init_71 : decode cX9_init 71 = .ok (.newarray .int, 2) := by decide +kernel
theorem dX9_init_73 : decode cX9_init 73 = .ok (.putfield 34, 3) := by decide +kernel
theorem dX9_init_76 : decode cX9_init 76 = .ok (.aload_n 0, 1) := by decide +kernel
theorem dX9_init_77 : decode cX9_init 77 = .ok (.sipush 330, 3) := by decide +kernel
theorem dX9_init_80 : decode cX9_init 80 = .ok (.newarray .int, 2) := by decide +kernel
theorem dX9_init_82 : decode cX9_init 82 = .ok (.putfield 37, 3) := by decide +kernel
theorem dX9_init_85 : decode cX9_init 85 = .ok (.aload_n 0, 1) := by decide +kernel
theorem dX9_init_86 : decode cX9_init 86 = .ok (.iconst 2, 1) := by decide +kernel
theorem dX9_init_87 : decode cX9_init 87 = .ok (.newarray .boolean, 2) := by decide +kernel
theorem dX9_init_89 : decode cX9_init 89 = .ok (.putfield 40, 3) := by decide +kernel
theorem dX9_init_92 : decode cX9_init 92 = .ok (.aload_n 0, 1) := by decide +kernel
theorem dX9_init_93 : decode cX9_init 93 = .ok (.bipush 66, 2) := by decide +kernel
theorem dX9_init_95 : decode cX9_init 95 = .ok (.newarray .int, 2) := by decide +kernel
theorem dX9_init_97 : decode cX9_init 97 = .ok (.putfield 44, 3) := by decide +kernel
theorem dX9_init_100 : decode cX9_init 100 = .ok (.aload_n 0, 1) := by decide +kernel
theorem dX9_init_101 : decode cX9_init 101 = .ok (.sipush 1024, 3) := by decide +kernel
theorem dX9_init_104 : decode cX9_init 104 = .ok (.newarray .int, 2) := by decide +kernel
theorem dX9_init_106 : decode cX9_init 106 = .ok (.putfield 47, 3) := by decide +kernel
theorem dX9_init_109 : decode cX9_init 109 = .ok (.aload_n 0, 1) := by decide +kernel
theorem dX9_init_110 : decode cX9_init 110 = .ok (.invokevirtual 50, 3) := by decide +kernel
theorem dX9_init_113 : decode cX9_init 113 = .ok (.aload_n 0, 1) := by decide +kernel
theorem dX9_init_114 : decode cX9_init 114 = .ok (.invokevirtual 53, 3) := by decide +kernel
theorem dX9_init_117 : decode cX9_init 117 = .ok (.return_, 1) := by decide +kernel
theorem dX9_in_0 : decode cX9_in 0 = .ok (.iload_n 0, 1) := by decide +kernel
theorem dX9_in_1 : decode cX9_in 1 = .ok (.iload_n 1, 1) := by decide +kernel
theorem dX9_in_2 : decode cX9_in 2 = .ok (.if_icmp .lt 12, 3) := by decide +kernel
theorem dX9_in_5 : decode cX9_in 5 = .ok (.iload_n 0, 1) := by decide +kernel
theorem dX9_in_6 : decode cX9_in 6 = .ok (.iload_n 2, 1) := by decide +kernel
theorem dX9_in_7 : decode cX9_in 7 = .ok (.if_icmp .gt 7, 3) := by decide +kernel
theorem dX9_in_10 : decode cX9_in 10 = .ok (.iconst 1, 1) := by decide +kernel
theorem dX9_in_11 : decode cX9_in 11 = .ok (.goto 4, 3) := by decide +kernel
theorem dX9_in_14 : decode cX9_in 14 = .ok (.iconst 0, 1) := by decide +kernel
theorem dX9_in_15 : decode cX9_in 15 = .ok (.ireturn, 1) := by decide +kernel
theorem dX9_has_0 : decode cX9_has 0 = .ok (.iload_n 0, 1) := by decide +kernel
theorem dX9_has_1 : decode cX9_has 1 = .ok (.iload_n 1, 1) := by decide +kernel
theorem dX9_has_2 : decode cX9_has 2 = .ok (.ishr, 1) := by decide +kernel
theorem dX9_has_3 : decode cX9_has 3 = .ok (.iconst 1, 1) := by decide +kernel
theorem dX9_has_4 : decode cX9_has 4 = .ok (.iand, 1) := by decide +kernel
theorem dX9_has_5 : decode cX9_has 5 = .ok (.iconst 1, 1) := by decide +kernel
theorem dX9_has_6 : decode cX9_has 6 = .ok (.if_icmp .ne 7, 3) := by decide +kernel
theorem dX9_has_9 : decode cX9_has 9 = .ok (.iconst 1, 1) := by decide +kernel
theorem dX9_has_10 : decode cX9_has 10 = .ok (.goto 4, 3) := by decide +kernel
theorem dX9_has_13 : decode cX9_has 13 = .ok (.iconst 0, 1) := by decide +kernel
theorem dX9_has_14 : decode cX9_has 14 = .ok (.ireturn, 1) := by decide +kernel
theorem dX9_bits_0 : decode cX9_bits 0 = .ok (.iconst 0, 1) := by decide +kernel
theorem dX9_bits_1 : decode cX9_bits 1 = .ok (.istore_n 1, 1) := by decide +kernel
theorem dX9_bits_2 : decode cX9_bits 2 = .ok (.iload_n 0, 1) := by decide +kernel
theorem dX9_bits_3 : decode cX9_bits 3 = .ok (.istore_n 2, 1) := by decide +kernel
theorem dX9_bits_4 : decode cX9_bits 4 = .ok (.iload_n 2, 1) := by decide +kernel
theorem dX9_bits_5 : decode cX9_bits 5 = .ok (.ifCond .eq 15, 3) := by decide +kernel
theorem dX9_bits_8 : decode cX9_bits 8 = .ok (.iinc 1 1, 3) := by decide +kernel
theorem dX9_bits_11 : decode cX9_bits 11 = .ok (.iload_n 2, 1) := by decide +kernel
theorem dX9_bits_12 : decode cX9_bits 12 = .ok (.iload_n 2, 1) := by decide +kernel
theorem dX9_bits_13 : decode cX9_bits 13 = .ok (.iconst 1, 1) := by decide +kernel
theorem dX9_bits_14 : decode cX9_bits 14 = .ok (.isub, 1) := by decide +kernel
theorem dX9_bits_15 : decode cX9_bits 15 = .ok (.iand, 1) := by decide +kernel
theorem dX9_bits_16 : decode cX9_bits 16 = .ok (.istore_n 2, 1) := by decide +kernel
theorem dX9_bits_17 : decode cX9_bits 17 = .ok (.goto (-13), 3) := by decide +kernel
theorem dX9_bits_20 : decode cX9_bits 20 = .ok (.iload_n 1, 1) := by decide +kernel
theorem dX9_bits_21 : decode cX9_bits 21 = .ok (.ireturn, 1) := by decide +kernel
theorem dX9_begins_0 : decode cX9_begins 0 = .ok (.iconst 0, 1) := by decide +kernel
theorem dX9_begins_1 : decode cX9_begins 1 = .ok (.istore_n 1, 1) := by decide +kernel
theorem dX9_begins_2 : decode cX9_begins 2 = .ok (.iload_n 1, 1) := by decide +kernel
theorem dX9_begins_3 : decode cX9_begins 3 = .ok (.bipush 33, 2) := by decide +kernel
theorem dX9_begins_5 : decode cX9_begins 5 = .ok (.if_icmp .ge 16, 3) := by decide +kernel
theorem dX9_begins_8 : decode cX9_begins 8 = .ok (.aload_n 0, 1) := by decide +kernel
theorem dX9_begins_9 : decode cX9_begins 9 = .ok (.getfield 13, 3) := by decide +kernel
theorem dX9_begins_12 : decode cX9_begins 12 = .ok (.iload_n 1, 1) := by decide +kernel
theorem dX9_begins_13 : decode cX9_begins 13 = .ok (.iconst 0, 1) := by decide +kernel
theorem dX9_begins_14 : decode cX9_begins 14 = .ok (.iastore, 1) := by decide +kernel
theorem dX9_begins_15 : decode cX9_begins 15 = .ok (.iinc 1 1, 3) := by decide +kernel
theorem dX9_begins_18 : decode cX9_begins 18 = .ok (.goto (-16), 3) := by decide +kernel
theorem dX9_begins_21 : decode cX9_begins 21 = .ok (.aload_n 0, 1) := by decide +kernel
theorem dX9_begins_22 : decode cX9_begins 22 = .ok (.getfield 13, 3) := by decide +kernel
theorem dX9_begins_25 : decode cX9_begins 25 = .ok (.iconst 1, 1) := by decide +kernel
theorem dX9_begins_26 : decode cX9_begins 26 = .ok (.bipush 20, 2) := by decide +kernel
theorem dX9_begins_28 : decode cX9_begins 28 = .ok (.iastore, 1) := by decide +kernel
theorem dX9_begins_29 : decode cX9_begins 29 = .ok (.aload_n 0, 1) := by decide +kernel
theorem dX9_begins_30 : decode cX9_begins 30 = .ok (.iconst 0, 1) := by decide +kernel
theorem dX9_begins_31 : decode cX9_begins 31 = .ok (.putfield 56, 3) := by decide +kernel
theorem dX9_begins_34 : decode cX9_begins 34 = .ok (.aload_n 0, 1) := by decide +kernel
theorem dX9_begins_35 : decode cX9_begins 35 = .ok (.iconst 0, 1) := by decide +kernel
theorem dX9_begins_36 : decode cX9_begins 36 = .ok (.putfield 60, 3) := by decide +kernel
theorem dX9_begins_39 : decode cX9_begins 39 = .ok (.aload_n 0, 1) := by decide +kernel
theorem dX9_begins_40 : decode cX9_begins 40 = .ok (.iconst 0, 1) := by decide +kernel
theorem dX9_begins_41 : decode cX9_begins 41 = .ok (.putfield 63, 3) := by decide +kernel
theorem dX9_begins_44 : decode cX9_begins 44 = .ok (.return_, 1) := by decide +kernel
theorem dX9_type_0 : decode cX9_type 0 = .ok (.iload_n 1, 1) := by decide +kernel
theorem dX9_type_1 : decode cX9_type 1 = .ok (.iconst 0, 1) := by decide +kernel
theorem dX9_type_2 : decode cX9_type 2 = .ok (.sipush 255, 3) := by decide +kernel
theorem dX9_type_5 : decode cX9_type 5 = .ok (.invokestatic 66, 3) := by decide +kernel
theorem dX9_type_8 : decode cX9_type 8 = .ok (.ifCond .ne 5, 3) := by decide +kernel
theorem dX9_type_11 : decode cX9_type 11 = .ok (.iconst (-1), 1) := by decide +kernel
theorem dX9_type_12 : decode cX9_type 12 = .ok (.ireturn, 1) := by decide +kernel
theorem dX9_type_13 : decode cX9_type 13 = .ok (.aload_n 0, 1) := by decide +kernel
theorem dX9_type_14 : decode cX9_type 14 = .ok (.getfield 70, 3) := by decide +kernel
theorem dX9_type_17 : decode cX9_type 17 = .ok (.bipush 120, 2) := by decide +kernel
theorem dX9_type_19 : decode cX9_type 19 = .ok (.if_icmp .ne 6, 3) := by decide +kernel
theorem dX9_type_22 : decode cX9_type 22 = .ok (.bipush (-3), 2) := by decide +kernel
theorem dX9_type_24 : decode cX9_type 24 = .ok (.ireturn, 1) := by decide +kernel
theorem dX9_type_25 : decode cX9_type 25 = .ok (.aload_n 0, 1) := by decide +kernel
theorem dX9_type_26 : decode cX9_type 26 = .ok (.getfield 7, 3) := by decide +kernel
theorem dX9_type_29 : decode cX9_type 29 = .ok (.aload_n 0, 1) := by decide +kernel
theorem dX9_type_30 : decode cX9_type 30 = .ok (.getfield 70, 3) := by decide +kernel
theorem dX9_type_33 : decode cX9_type 33 = .ok (.iload_n 1, 1) := by decide +kernel
theorem dX9_type_34 : decode cX9_type 34 = .ok (.iastore, 1) := by decide +kernel
theorem dX9_type_35 : decode cX9_type 35 = .ok (.aload_n 0, 1) := by decide +kernel
theorem dX9_type_36 : decode cX9_type 36 = .ok (.dup, 1) := by decide +kernel
theorem dX9_type_37 : decode cX9_type 37 = .ok (.getfield 70, 3) := by decide +kernel
theorem dX9_type_40 : decode cX9_type 40 = .ok (.iconst 1, 1) := by decide +kernel
theorem dX9_type_41 : decode cX9_type 41 = .ok (.iadd, 1) := by decide +kernel
theorem dX9_type_42 : decode cX9_type 42 = .ok (.putfield 70, 3) := by decide +kernel
theorem dX9_type_45 : decode cX9_type 45 = .ok (.aload_n 0, 1) := by decide +kernel
theorem dX9_type_46 : decode cX9_type 46 = .ok (.getfield 70, 3) := by decide +kernel
theorem dX9_type_49 : decode cX9_type 49 = .ok (.ireturn, 1) := by decide +kernel
theorem dX9_clear_0 : decode cX9_clear 0 = .ok (.aload_n 0, 1) := by decide +kernel
theorem dX9_clear_1 : decode cX9_clear 1 = .ok (.getfield 70, 3) := by decide +kernel
theorem dX9_clear_4 : decode cX9_clear 4 = .ok (.istore_n 1, 1) := by decide +kernel
theorem dX9_clear_5 : decode cX9_clear 5 = .ok (.aload_n 0, 1) := by decide +kernel
theorem dX9_clear_6 : decode cX9_clear 6 = .ok (.iconst 0, 1) := by decide +kernel
theorem dX9_clear_7 : decode cX9_clear 7 = .ok (.putfield 70, 3) := by decide +kernel
theorem dX9_clear_10 : decode cX9_clear 10 = .ok (.iload_n 1, 1) := by decide +kernel
theorem dX9_clear_11 : decode cX9_clear 11 = .ok (.ireturn, 1) := by decide +kernel
theorem dX9_isFigure_0 : decode cX9_isFigure 0 = .ok (.aload_n 0, 1) := by decide +kernel
theorem dX9_isFigure_1 : decode cX9_isFigure 1 = .ok (.getfield 73, 3) := by decide +kernel
theorem dX9_isFigure_4 : decode cX9_isFigure 4 = .ok (.aload_n 0, 1) := by decide +kernel
theorem dX9_isFigure_5 : decode cX9_isFigure 5 = .ok (.getfield 70, 3) := by decide +kernel
theorem dX9_isFigure_8 : decode cX9_isFigure 8 = .ok (.if_icmp .ge 26, 3) := by decide +kernel
theorem dX9_isFigure_11 : decode cX9_isFigure 11 = .ok (.aload_n 0, 1) := by decide +kernel
theorem dX9_isFigure_12 : decode cX9_isFigure 12 = .ok (.getfield 7, 3) := by decide +kernel
theorem dX9_isFigure_15 : decode cX9_isFigure 15 = .ok (.aload_n 0, 1) := by decide +kernel
theorem dX9_isFigure_16 : decode cX9_isFigure 16 = .ok (.getfield 73, 3) := by decide +kernel
theorem dX9_isFigure_19 : decode cX9_isFigure 19 = .ok (.iaload, 1) := by decide +kernel
theorem dX9_isFigure_20 : decode cX9_isFigure 20 = .ok (.bipush 48, 2) := by decide +kernel
theorem dX9_isFigure_22 : decode cX9_isFigure 22 = .ok (.bipush 57, 2) := by decide +kernel
theorem dX9_isFigure_24 : decode cX9_isFigure 24 = .ok (.invokestatic 66, 3) := by decide +kernel
theorem dX9_isFigure_27 : decode cX9_isFigure 27 = .ok (.ifCond .eq 7, 3) := by decide +kernel
theorem dX9_isFigure_30 : decode cX9_isFigure 30 = .ok (.iconst 1, 1) := by decide +kernel
theorem dX9_isFigure_31 : decode cX9_isFigure 31 = .ok (.goto 4, 3) := by decide +kernel
theorem dX9_isFigure_34 : decode cX9_isFigure 34 = .ok (.iconst 0, 1) := by decide +kernel
theorem dX9_isFigure_35 : decode cX9_isFigure 35 = .ok (.ireturn, 1) := by decide +kernel
theorem dX9_next_0 : decode cX9_next 0 = .ok (.aload_n 0, 1) := by decide +kernel
theorem dX9_next_1 : decode cX9_next 1 = .ok (.getfield 73, 3) := by decide +kernel
theorem dX9_next_4 : decode cX9_next 4 = .ok (.aload_n 0, 1) := by decide +kernel
theorem dX9_next_5 : decode cX9_next 5 = .ok (.getfield 70, 3) := by decide +kernel
theorem dX9_next_8 : decode cX9_next 8 = .ok (.if_icmp .ge 30, 3) := by decide +kernel
theorem dX9_next_11 : decode cX9_next 11 = .ok (.aload_n 0, 1) := by decide +kernel
theorem dX9_next_12 : decode cX9_next 12 = .ok (.getfield 7, 3) := by decide +kernel
theorem dX9_next_15 : decode cX9_next 15 = .ok (.aload_n 0, 1) := by decide +kernel
theorem dX9_next_16 : decode cX9_next 16 = .ok (.getfield 73, 3) := by decide +kernel
theorem dX9_next_19 : decode cX9_next 19 = .ok (.iaload, 1) := by decide +kernel
theorem dX9_next_20 : decode cX9_next 20 = .ok (.bipush 32, 2) := by decide +kernel
theorem dX9_next_22 : decode cX9_next 22 = .ok (.if_icmp .ne 16, 3) := by decide +kernel
theorem dX9_next_25 : decode cX9_next 25 = .ok (.aload_n 0, 1) := by decide +kernel
theorem dX9_next_26 : decode cX9_next 26 = .ok (.dup, 1) := by decide +kernel
theorem dX9_next_27 : decode cX9_next 27 = .ok (.getfield 73, 3) := by decide +kernel
theorem dX9_next_30 : decode cX9_next 30 = .ok (.iconst 1, 1) := by decide +kernel
theorem dX9_next_31 : decode cX9_next 31 = .ok (.iadd, 1) := by decide +kernel
theorem dX9_next_32 : decode cX9_next 32 = .ok (.putfield 73, 3) := by decide +kernel
theorem dX9_next_35 : decode cX9_next 35 = .ok (.goto (-35), 3) := by decide +kernel
theorem dX9_next_38 : decode cX9_next 38 = .ok (.aload_n 0, 1) := by decide +kernel
theorem dX9_next_39 : decode cX9_next 39 = .ok (.aload_n 0, 1) := by decide +kernel
theorem dX9_next_40 : decode cX9_next 40 = .ok (.getfield 73, 3) := by decide +kernel
theorem dX9_next_43 : decode cX9_next 43 = .ok (.putfield 76, 3) := by decide +kernel
theorem dX9_next_46 : decode cX9_next 46 = .ok (.aload_n 0, 1) := by decide +kernel
theorem dX9_next_47 : decode cX9_next 47 = .ok (.getfield 73, 3) := by decide +kernel
theorem dX9_next_50 : decode cX9_next 50 = .ok (.aload_n 0, 1) := by decide +kernel
theorem dX9_next_51 : decode cX9_next 51 = .ok (.getfield 70, 3) := by decide +kernel
theorem dX9_next_54 : decode cX9_next 54 = .ok (.if_icmp .ne 11, 3) := by decide +kernel
theorem dX9_next_57 : decode cX9_next 57 = .ok (.aload_n 0, 1) := by decide +kernel
theorem dX9_next_58 : decode cX9_next 58 = .ok (.iconst (-1), 1) := by decide +kernel
theorem dX9_next_59 : decode cX9_next 59 = .ok (.putfield 79, 3) := by decide +kernel
theorem dX9_next_62 : decode cX9_next 62 = .ok (.goto 192, 3) := by decide +kernel
theorem dX9_next_65 : decode cX9_next 65 = .ok (.aload_n 0, 1) := by decide +kernel
theorem dX9_next_66 : decode cX9_next 66 = .ok (.invokevirtual 82, 3) := by decide +kernel
theorem dX9_next_69 : decode cX9_next 69 = .ok (.ifCond .eq 124, 3) := by decide +kernel
theorem dX9_next_72 : decode cX9_next 72 = .ok (.aload_n 0, 1) := by decide +kernel
theorem dX9_next_73 : decode cX9_next 73 = .ok (.iconst 0, 1) := by decide +kernel
theorem dX9_next_74 : decode cX9_next 74 = .ok (.putfield 79, 3) := by decide +kernel
theorem dX9_next_77 : decode cX9_next 77 = .ok (.aload_n 0, 1) := by decide +kernel
theorem dX9_next_78 : decode cX9_next 78 = .ok (.iconst 0, 1) := by decide +kernel
theorem dX9_next_79 : decode cX9_next 79 = .ok (.putfield 86, 3) := by decide +kernel
theorem dX9_next_82 : decode cX9_next 82 = .ok (.aload_n 0, 1) := by decide +kernel
theorem dX9_next_83 : decode cX9_next 83 = .ok (.invokevirtual 82, 3) := by decide +kernel
theorem dX9_next_86 : decode cX9_next 86 = .ok (.ifCond .eq 57, 3) := by decide +kernel
theorem dX9_next_89 : decode cX9_next 89 = .ok (.aload_n 0, 1) := by decide +kernel
theorem dX9_next_90 : decode cX9_next 90 = .ok (.aload_n 0, 1) := by decide +kernel
theorem dX9_next_91 : decode cX9_next 91 = .ok (.getfield 86, 3) := by decide +kernel
theorem dX9_next_94 : decode cX9_next 94 = .ok (.sipush 9999, 3) := by decide +kernel
theorem dX9_next_97 : decode cX9_next 97 = .ok (.if_icmp .le 10, 3) := by decide +kernel
theorem dX9_next_100 : decode cX9_next 100 = .ok (.aload_n 0, 1) := by decide +kernel
theorem dX9_next_101 : decode cX9_next 101 = .ok (.getfield 86, 3) := by decide +kernel
theorem dX9_next_104 : decode cX9_next 104 = .ok (.goto 23, 3) := by decide +kernel
theorem dX9_next_107 : decode cX9_next 107 = .ok (.bipush 10, 2) := by decide +kernel
theorem dX9_next_109 : decode cX9_next 109 = .ok (.aload_n 0, 1) := by decide +kernel
theorem dX9_next_110 : decode cX9_next 110 = .ok (.getfield 86, 3) := by decide +kernel
theorem dX9_next_113 : decode cX9_next 113 = .ok (.imul, 1) := by decide +kernel
theorem dX9_next_114 : decode cX9_next 114 = .ok (.aload_n 0, 1) := by decide +kernel
theorem dX9_next_115 : decode cX9_next 115 = .ok (.getfield 7, 3) := by decide +kernel
theorem dX9_next_118 : decode cX9_next 118 = .ok (.aload_n 0, 1) := by decide +kernel
theorem dX9_next_119 : decode cX9_next 119 = .ok (.getfield 73, 3) := by decide +kernel
theorem dX9_next_122 : decode cX9_next 122 = .ok (.iaload, 1) := by decide +kernel
theorem dX9_next_123 : decode cX9_next 123 = .ok (.iadd, 1) := by decide +kernel
theorem dX9_next_124 : decode cX9_next 124 = .ok (.bipush 48, 2) := by decide +kernel
theorem dX9_next_126 : decode cX9_next 126 = .ok (.isub, 1) := by decide +kernel
theorem dX9_next_127 : decode cX9_next 127 = .ok (.putfield 86, 3) := by decide +kernel
theorem dX9_next_130 : decode cX9_next 130 = .ok (.aload_n 0, 1) := by decide +kernel
theorem dX9_next_131 : decode cX9_next 131 = .ok (.dup, 1) := by decide +kernel
theorem dX9_next_132 : decode cX9_next 132 = .ok (.getfield 73, 3) := by decide +kernel
theorem dX9_next_135 : decode cX9_next 135 = .ok (.iconst 1, 1) := by decide +kernel
theorem dX9_next_136 : decode cX9_next 136 = .ok (.iadd, 1) := by decide +kernel
theorem dX9_next_137 : decode cX9_next 137 = .ok (.putfield 73, 3) := by decide +kernel
theorem dX9_next_140 : decode cX9_next 140 = .ok (.goto (-58), 3) := by decide +kernel
theorem dX9_next_143 : decode cX9_next 143 = .ok (.aload_n 0, 1) := by decide +kernel
theorem dX9_next_144 : decode cX9_next 144 = .ok (.aload_n 0, 1) := by decide +kernel
theorem dX9_next_145 : decode cX9_next 145 = .ok (.getfield 86, 3) := by decide +kernel
theorem dX9_next_148 : decode cX9_next 148 = .ok (.sipush 9999, 3) := by decide +kernel
theorem dX9_next_151 : decode cX9_next 151 = .ok (.if_icmp .gt 30, 3) := by decide +kernel
theorem dX9_next_154 : decode cX9_next 154 = .ok (.aload_n 0, 1) := by decide +kernel
theorem dX9_next_155 : decode cX9_next 155 = .ok (.getfield 7, 3) := by decide +kernel
theorem dX9_next_158 : decode cX9_next 158 = .ok (.aload_n 0, 1) := by decide +kernel
theorem dX9_next_159 : decode cX9_next 159 = .ok (.getfield 76, 3) := by decide +kernel
theorem dX9_next_162 : decode cX9_next 162 = .ok (.iaload, 1) := by decide +kernel
theorem dX9_next_163 : decode cX9_next 163 = .ok (.bipush 48, 2) := by decide +kernel
theorem dX9_next_165 : decode cX9_next 165 = .ok (.if_icmp .ne 21, 3) := by decide +kernel
theorem dX9_next_168 : decode cX9_next 168 = .ok (.aload_n 0, 1) := by decide +kernel
theorem dX9_next_169 : decode cX9_next 169 = .ok (.getfield 73, 3) := by decide +kernel
theorem dX9_next_172 : decode cX9_next 172 = .ok (.aload_n 0, 1) := by decide +kernel
theorem dX9_next_173 : decode cX9_next 173 = .ok (.getfield 76, 3) := by decide +kernel
theorem dX9_next_176 : decode cX9_next 176 = .ok (.isub, 1) := by decide +kernel
theorem dX9_next_177 : decode cX9_next 177 = .ok (.iconst 1, 1) := by decide +kernel
theorem dX9_next_178 : decode cX9_next 178 = .ok (.if_icmp .le 8, 3) := by decide +kernel
theorem dX9_next_181 : decode cX9_next 181 = .ok (.bipush (-2), 2) := by decide +kernel
theorem dX9_next_183 : decode cX9_next 183 = .ok (.goto 4, 3) := by decide +kernel
theorem dX9_next_186 : decode cX9_next 186 = .ok (.iconst 0, 1) := by decide +kernel
theorem dX9_next_187 : decode cX9_next 187 = .ok (.putfield 79, 3) := by decide +kernel
theorem dX9_next_190 : decode cX9_next 190 = .ok (.goto 64, 3) := by decide +kernel
theorem dX9_next_193 : decode cX9_next 193 = .ok (.aload_n 0, 1) := by decide +kernel
theorem dX9_next_194 : decode cX9_next 194 = .ok (.aload_n 0, 1) := by decide +kernel
theorem dX9_next_195 : decode cX9_next 195 = .ok (.getfield 7, 3) := by decide +kernel
theorem dX9_next_198 : decode cX9_next 198 = .ok (.aload_n 0, 1) := by decide +kernel
theorem dX9_next_199 : decode cX9_next 199 = .ok (.getfield 73, 3) := by decide +kernel
theorem dX9_next_202 : decode cX9_next 202 = .ok (.iaload, 1) := by decide +kernel
theorem dX9_next_203 : decode cX9_next 203 = .ok (.bipush 97, 2) := by decide +kernel
theorem dX9_next_205 : decode cX9_next 205 = .ok (.bipush 122, 2) := by decide +kernel
theorem dX9_next_207 : decode cX9_next 207 = .ok (.invokestatic 66, 3) := by decide +kernel
theorem dX9_next_210 : decode cX9_next 210 = .ok (.ifCond .ne 17, 3) := by decide +kernel
theorem dX9_next_213 : decode cX9_next 213 = .ok (.aload_n 0, 1) := by decide +kernel
theorem dX9_next_214 : decode cX9_next 214 = .ok (.getfield 7, 3) := by decide +kernel
theorem dX9_next_217 : decode cX9_next 217 = .ok (.aload_n 0, 1) := by decide +kernel
theorem dX9_next_218 : decode cX9_next 218 = .ok (.getfield 73, 3) := by decide +kernel
theorem dX9_next_221 : decode cX9_next 221 = .ok (.iaload, 1) := by decide +kernel
theorem dX9_next_222 : decode cX9_next 222 = .ok (.bipush 59, 2) := by decide +kernel
theorem dX9_next_224 : decode cX9_next 224 = .ok (.if_icmp .ne 15, 3) := by decide +kernel
theorem dX9_next_227 : decode cX9_next 227 = .ok (.aload_n 0, 1) := by decide +kernel
theorem dX9_next_228 : decode cX9_next 228 = .ok (.getfield 7, 3) := by decide +kernel
theorem dX9_next_231 : decode cX9_next 231 = .ok (.aload_n 0, 1) := by decide +kernel
theorem dX9_next_232 : decode cX9_next 232 = .ok (.getfield 73, 3) := by decide +kernel
theorem dX9_next_235 : decode cX9_next 235 = .ok (.iaload, 1) := by decide +kernel
theorem dX9_next_236 : decode cX9_next 236 = .ok (.goto 5, 3) := by decide +kernel
theorem dX9_next_239 : decode cX9_next 239 = .ok (.bipush (-2), 2) := by decide +kernel
theorem dX9_next_241 : decode cX9_next 241 = .ok (.putfield 79, 3) := by decide +kernel
theorem dX9_next_244 : decode cX9_next 244 = .ok (.aload_n 0, 1) := by decide +kernel
theorem dX9_next_245 : decode cX9_next 245 = .ok (.dup, 1) := by decide +kernel
theorem dX9_next_246 : decode cX9_next 246 = .ok (.getfield 73, 3) := by decide +kernel
theorem dX9_next_249 : decode cX9_next 249 = .ok (.iconst 1, 1) := by decide +kernel
theorem dX9_next_250 : decode cX9_next 250 = .ok (.iadd, 1) := by decide +kernel
theorem dX9_next_251 : decode cX9_next 251 = .ok (.putfield 73, 3) := by decide +kernel
theorem dX9_next_254 : decode cX9_next 254 = .ok (.return_, 1) := by decide +kernel
theorem dX9_fails_0 : decode cX9_fails 0 = .ok (.aload_n 0, 1) := by decide +kernel
theorem dX9_fails_1 : decode cX9_fails 1 = .ok (.aload_n 0, 1) := by decide +kernel
theorem dX9_fails_2 : decode cX9_fails 2 = .ok (.getfield 76, 3) := by decide +kernel
theorem dX9_fails_5 : decode cX9_fails 5 = .ok (.putfield 89, 3) := by decide +kernel
theorem dX9_fails_8 : decode cX9_fails 8 = .ok (.iconst 0, 1) := by decide +kernel
theorem dX9_fails_9 : decode cX9_fails 9 = .ok (.ireturn, 1) := by decide +kernel
theorem dX9_number_0 : decode cX9_number 0 = .ok (.aload_n 0, 1) := by decide +kernel
theorem dX9_number_1 : decode cX9_number 1 = .ok (.invokevirtual 92, 3) := by decide +kernel
theorem dX9_number_4 : decode cX9_number 4 = .ok (.aload_n 0, 1) := by decide +kernel
theorem dX9_number_5 : decode cX9_number 5 = .ok (.getfield 79, 3) := by decide +kernel
theorem dX9_number_8 : decode cX9_number 8 = .ok (.ifCond .ne 15, 3) := by decide +kernel
theorem dX9_number_11 : decode cX9_number 11 = .ok (.aload_n 0, 1) := by decide +kernel
theorem dX9_number_12 : decode cX9_number 12 = .ok (.getfield 86, 3) := by decide +kernel
theorem dX9_number_15 : decode cX9_number 15 = .ok (.iload_n 1, 1) := by decide +kernel
theorem dX9_number_16 : decode cX9_number 16 = .ok (.iload_n 2, 1) := by decide +kernel
theorem dX9_number_17 : decode cX9_number 17 = .ok (.invokestatic 66, 3) := by decide +kernel
theorem dX9_number_20 : decode cX9_number 20 = .ok (.ifCond .ne 10, 3) := by decide +kernel
theorem dX9_number_23 : decode cX9_number 23 = .ok (.aload_n 0, 1) := by decide +kernel
theorem dX9_number_24 : decode cX9_number 24 = .ok (.invokevirtual 95, 3) := by decide +kernel
theorem dX9_number_27 : decode cX9_number 27 = .ok (.ifCond .eq 7, 3) := by decide +kernel
theorem dX9_number_30 : decode cX9_number 30 = .ok (.iconst 1, 1) := by decide +kernel
theorem dX9_number_31 : decode cX9_number 31 = .ok (.goto 4, 3) := by decide +kernel
theorem dX9_number_34 : decode cX9_number 34 = .ok (.iconst 0, 1) := by decide +kernel
theorem dX9_number_35 : decode cX9_number 35 = .ok (.ireturn, 1) := by decide +kernel
theorem dX9_plate1_0 : decode cX9_plate1 0 = .ok (.aload_n 0, 1) := by decide +kernel
theorem dX9_plate1_1 : decode cX9_plate1 1 = .ok (.invokevirtual 92, 3) := by decide +kernel
theorem dX9_plate1_4 : decode cX9_plate1 4 = .ok (.aload_n 0, 1) := by decide +kernel
theorem dX9_plate1_5 : decode cX9_plate1 5 = .ok (.aload_n 0, 1) := by decide +kernel
theorem dX9_plate1_6 : decode cX9_plate1 6 = .ok (.getfield 79, 3) := by decide +kernel
theorem dX9_plate1_9 : decode cX9_plate1 9 = .ok (.bipush 97, 2) := by decide +kernel
theorem dX9_plate1_11 : decode cX9_plate1 11 = .ok (.isub, 1) := by decide +kernel
theorem dX9_plate1_12 : decode cX9_plate1 12 = .ok (.putfield 86, 3) := by decide +kernel
theorem dX9_plate1_15 : decode cX9_plate1 15 = .ok (.aload_n 0, 1) := by decide +kernel
theorem dX9_plate1_16 : decode cX9_plate1 16 = .ok (.getfield 79, 3) := by decide +kernel
theorem dX9_plate1_19 : decode cX9_plate1 19 = .ok (.bipush 97, 2) := by decide +kernel
theorem dX9_plate1_21 : decode cX9_plate1 21 = .ok (.bipush 104, 2) := by decide +kernel
theorem dX9_plate1_23 : decode cX9_plate1 23 = .ok (.invokestatic 66, 3) := by decide +kernel
theorem dX9_plate1_26 : decode cX9_plate1 26 = .ok (.ifCond .ne 10, 3) := by decide +kernel
theorem dX9_plate1_29 : decode cX9_plate1 29 = .ok (.aload_n 0, 1) := by decide +kernel
theorem dX9_plate1_30 : decode cX9_plate1 30 = .ok (.invokevirtual 95, 3) := by decide +kernel
theorem dX9_plate1_33 : decode cX9_plate1 33 = .ok (.ifCond .eq 7, 3) := by decide +kernel
theorem dX9_plate1_36 : decode cX9_plate1 36 = .ok (.iconst 1, 1) := by decide +kernel
theorem dX9_plate1_37 : decode cX9_plate1 37 = .ok (.goto 4, 3) := by decide +kernel
theorem dX9_plate1_40 : decode cX9_plate1 40 = .ok (.iconst 0, 1) := by decide +kernel
theorem dX9_plate1_41 : decode cX9_plate1 41 = .ok (.ireturn, 1) := by decide +kernel
theorem dX9_ends_0 : decode cX9_ends 0 = .ok (.aload_n 0, 1) := by decide +kernel
theorem dX9_ends_1 : decode cX9_ends 1 = .ok (.invokevirtual 92, 3) := by decide +kernel
theorem dX9_ends_4 : decode cX9_ends 4 = .ok (.aload_n 0, 1) := by decide +kernel
theorem dX9_ends_5 : decode cX9_ends 5 = .ok (.getfield 79, 3) := by decide +kernel
theorem dX9_ends_8 : decode cX9_ends 8 = .ok (.bipush 59, 2) := by decide +kernel
theorem dX9_ends_10 : decode cX9_ends 10 = .ok (.if_icmp .eq 10, 3) := by decide +kernel
theorem dX9_ends_13 : decode cX9_ends 13 = .ok (.aload_n 0, 1) := by decide +kernel
theorem dX9_ends_14 : decode cX9_ends 14 = .ok (.invokevirtual 95, 3) := by decide +kernel
theorem dX9_ends_17 : decode cX9_ends 17 = .ok (.ifCond .eq 7, 3) := by decide +kernel
theorem dX9_ends_20 : decode cX9_ends 20 = .ok (.iconst 1, 1) := by decide +kernel
theorem dX9_ends_21 : decode cX9_ends 21 = .ok (.goto 4, 3) := by decide +kernel
theorem dX9_ends_24 : decode cX9_ends 24 = .ok (.iconst 0, 1) := by decide +kernel
theorem dX9_ends_25 : decode cX9_ends 25 = .ok (.ireturn, 1) := by decide +kernel
theorem dX9_comes_0 : decode cX9_comes 0 = .ok (.aload_n 0, 1) := by decide +kernel
theorem dX9_comes_1 : decode cX9_comes 1 = .ok (.iconst 0, 1) := by decide +kernel
theorem dX9_comes_2 : decode cX9_comes 2 = .ok (.iaload, 1) := by decide +kernel
theorem dX9_comes_3 : decode cX9_comes 3 = .ok (.istore 4, 2) := by decide +kernel
theorem dX9_comes_5 : decode cX9_comes 5 = .ok (.iload 4, 2) := by decide +kernel
theorem dX9_comes_7 : decode cX9_comes 7 = .ok (.ifCond .le 67, 3) := by decide +kernel
theorem dX9_comes_10 : decode cX9_comes 10 = .ok (.aload_n 0, 1) := by decide +kernel
theorem dX9_comes_11 : decode cX9_comes 11 = .ok (.iconst 3, 1) := by decide +kernel
theorem dX9_comes_12 : decode cX9_comes 12 = .ok (.iload 4, 2) := by decide +kernel
theorem dX9_comes_14 : decode cX9_comes 14 = .ok (.iadd, 1) := by decide +kernel
theorem dX9_comes_15 : decode cX9_comes 15 = .ok (.iconst 1, 1) := by decide +kernel
theorem dX9_comes_16 : decode cX9_comes 16 = .ok (.isub, 1) := by decide +kernel
theorem dX9_comes_17 : decode cX9_comes 17 = .ok (.iaload, 1) := by decide +kernel
theorem dX9_comes_18 : decode cX9_comes 18 = .ok (.iload_n 1, 1) := by decide +kernel
theorem dX9_comes_19 : decode cX9_comes 19 = .ok (.if_icmp .le 55, 3) := by decide +kernel
theorem dX9_comes_22 : decode cX9_comes 22 = .ok (.aload_n 0, 1) := by decide +kernel
theorem dX9_comes_23 : decode cX9_comes 23 = .ok (.iconst 3, 1) := by decide +kernel
theorem dX9_comes_24 : decode cX9_comes 24 = .ok (.iload 4, 2) := by decide +kernel
theorem dX9_comes_26 : decode cX9_comes 26 = .ok (.iadd, 1) := by decide +kernel
theorem dX9_comes_27 : decode cX9_comes 27 = .ok (.aload_n 0, 1) := by decide +kernel
theorem dX9_comes_28 : decode cX9_comes 28 = .ok (.iconst 3, 1) := by decide +kernel
theorem dX9_comes_29 : decode cX9_comes 29 = .ok (.iload 4, 2) := by decide +kernel
theorem dX9_comes_31 : decode cX9_comes 31 = .ok (.iadd, 1) := by decide +kernel
theorem dX9_comes_32 : decode cX9_comes 32 = .ok (.iconst 1, 1) := by decide +kernel
theorem dX9_comes_33 : decode cX9_comes 33 = .ok (.isub, 1) := by decide +kernel
theorem dX9_comes_34 : decode cX9_comes 34 = .ok (.iaload, 1) := by decide +kernel
theorem dX9_comes_35 : decode cX9_comes 35 = .ok (.iastore, 1) := by decide +kernel
theorem dX9_comes_36 : decode cX9_comes 36 = .ok (.aload_n 0, 1) := by decide +kernel
theorem dX9_comes_37 : decode cX9_comes 37 = .ok (.bipush 13, 2) := by decide +kernel
theorem dX9_comes_39 : decode cX9_comes 39 = .ok (.iload 4, 2) := by decide +kernel
theorem dX9_comes_41 : decode cX9_comes 41 = .ok (.iadd, 1) := by decide +kernel
theorem dX9_comes_42 : decode cX9_comes 42 = .ok (.aload_n 0, 1) := by decide +kernel
theorem dX9_comes_43 : decode cX9_comes 43 = .ok (.bipush 13, 2) := by decide +kernel
theorem dX9_comes_45 : decode cX9_comes 45 = .ok (.iload 4, 2) := by decide +kernel
theorem dX9_comes_47 : decode cX9_comes 47 = .ok (.iadd, 1) := by decide +kernel
theorem dX9_comes_48 : decode cX9_comes 48 = .ok (.iconst 1, 1) := by decide +kernel
theorem dX9_comes_49 : decode cX9_comes 49 = .ok (.isub, 1) := by decide +kernel
theorem dX9_comes_50 : decode cX9_comes 50 = .ok (.iaload, 1) := by decide +kernel
theorem dX9_comes_51 : decode cX9_comes 51 = .ok (.iastore, 1) := by decide +kernel
theorem dX9_comes_52 : decode cX9_comes 52 = .ok (.aload_n 0, 1) := by decide +kernel
theorem dX9_comes_53 : decode cX9_comes 53 = .ok (.bipush 23, 2) := by decide +kernel
theorem dX9_comes_55 : decode cX9_comes 55 = .ok (.iload 4, 2) := by decide +kernel
theorem dX9_comes_57 : decode cX9_comes 57 = .ok (.iadd, 1) := by decide +kernel
theorem dX9_comes_58 : decode cX9_comes 58 = .ok (.aload_n 0, 1) := by decide +kernel
theorem dX9_comes_59 : decode cX9_comes 59 = .ok (.bipush 23, 2) := by decide +kernel
theorem dX9_comes_61 : decode cX9_comes 61 = .ok (.iload 4, 2) := by decide +kernel
theorem dX9_comes_63 : decode cX9_comes 63 = .ok (.iadd, 1) := by decide +kernel
theorem dX9_comes_64 : decode cX9_comes 64 = .ok (.iconst 1, 1) := by decide +kernel
theorem dX9_comes_65 : decode cX9_comes 65 = .ok (.isub, 1) := by decide +kernel
theorem dX9_comes_66 : decode cX9_comes 66 = .ok (.iaload, 1) := by decide +kernel
theorem dX9_comes_67 : decode cX9_comes 67 = .ok (.iastore, 1) := by decide +kernel
theorem dX9_comes_68 : decode cX9_comes 68 = .ok (.iinc 4 (-1), 3) := by decide +kernel
theorem dX9_comes_71 : decode cX9_comes 71 = .ok (.goto (-66), 3) := by decide +kernel
theorem dX9_comes_74 : decode cX9_comes 74 = .ok (.aload_n 0, 1) := by decide +kernel
theorem dX9_comes_75 : decode cX9_comes 75 = .ok (.iconst 3, 1) := by decide +kernel
theorem dX9_comes_76 : decode cX9_comes 76 = .ok (.iload 4, 2) := by decide +kernel
theorem dX9_comes_78 : decode cX9_comes 78 = .ok (.iadd, 1) := by decide +kernel
theorem dX9_comes_79 : decode cX9_comes 79 = .ok (.iload_n 1, 1) := by decide +kernel
theorem dX9_comes_80 : decode cX9_comes 80 = .ok (.iastore, 1) := by decide +kernel
theorem dX9_comes_81 : decode cX9_comes 81 = .ok (.aload_n 0, 1) := by decide +kernel
theorem dX9_comes_82 : decode cX9_comes 82 = .ok (.bipush 13, 2) := by decide +kernel
theorem dX9_comes_84 : decode cX9_comes 84 = .ok (.iload 4, 2) := by decide +kernel
theorem dX9_comes_86 : decode cX9_comes 86 = .ok (.iadd, 1) := by decide +kernel
theorem dX9_comes_87 : decode cX9_comes 87 = .ok (.iload_n 2, 1) := by decide +kernel
theorem dX9_comes_88 : decode cX9_comes 88 = .ok (.iastore, 1) := by decide +kernel
theorem dX9_comes_89 : decode cX9_comes 89 = .ok (.aload_n 0, 1) := by decide +kernel
theorem dX9_comes_90 : decode cX9_comes 90 = .ok (.bipush 23, 2) := by decide +kernel
theorem dX9_comes_92 : decode cX9_comes 92 = .ok (.iload 4, 2) := by decide +kernel
theorem dX9_comes_94 : decode cX9_comes 94 = .ok (.iadd, 1) := by decide +kernel
theorem dX9_comes_95 : decode cX9_comes 95 = .ok (.iload_n 3, 1) := by decide +kernel
theorem dX9_comes_96 : decode cX9_comes 96 = .ok (.iastore, 1) := by decide +kernel
theorem dX9_comes_97 : decode cX9_comes 97 = .ok (.aload_n 0, 1) := by decide +kernel
theorem dX9_comes_98 : decode cX9_comes 98 = .ok (.iconst 0, 1) := by decide +kernel
theorem dX9_comes_99 : decode cX9_comes 99 = .ok (.dup2, 1) := by decide +kernel
theorem dX9_comes_100 : decode cX9_comes 100 = .ok (.iaload, 1) := by decide +kernel
theorem dX9_comes_101 : decode cX9_comes 101 = .ok (.iconst 1, 1) := by decide +kernel
theorem dX9_comes_102 : decode cX9_comes 102 = .ok (.iadd, 1) := by decide +kernel
theorem dX9_comes_103 : decode cX9_comes 103 = .ok (.iastore, 1) := by decide +kernel
theorem dX9_comes_104 : decode cX9_comes 104 = .ok (.iload 4, 2) := by decide +kernel
theorem dX9_comes_106 : decode cX9_comes 106 = .ok (.ireturn, 1) := by decide +kernel
theorem dX9_readsReading_0 : decode cX9_readsReading 0 = .ok (.aload_n 0, 1) := by decide +kernel
theorem dX9_readsReading_1 : decode cX9_readsReading 1 = .ok (.getfield 13, 3) := by decide +kernel
theorem dX9_readsReading_4 : decode cX9_readsReading 4 = .ok (.iconst 0, 1) := by decide +kernel
theorem dX9_readsReading_5 : decode cX9_readsReading 5 = .ok (.iaload, 1) := by decide +kernel
theorem dX9_readsReading_6 : decode cX9_readsReading 6 = .ok (.bipush 10, 2) := by decide +kernel
theorem dX9_readsReading_8 : decode cX9_readsReading 8 = .ok (.if_icmp .ne 8, 3) := by decide +kernel
theorem dX9_readsReading_11 : decode cX9_readsReading 11 = .ok (.aload_n 0, 1) := by decide +kernel
theorem dX9_readsReading_12 : decode cX9_readsReading 12 = .ok (.invokevirtual 95, 3) := by decide +kernel
theorem dX9_readsReading_15 : decode cX9_readsReading 15 = .ok (.ireturn, 1) := by decide +kernel
theorem dX9_readsReading_16 : decode cX9_readsReading 16 = .ok (.aload_n 0, 1) := by decide +kernel
theorem dX9_readsReading_17 : decode cX9_readsReading 17 = .ok (.iconst 0, 1) := by decide +kernel
theorem dX9_readsReading_18 : decode cX9_readsReading 18 = .ok (.sipush 999, 3) := by decide +kernel
theorem dX9_readsReading_21 : decode cX9_readsReading 21 = .ok (.invokevirtual 98, 3) := by decide +kernel
theorem dX9_readsReading_24 : decode cX9_readsReading 24 = .ok (.ifCond .ne 5, 3) := by decide +kernel
theorem dX9_readsReading_27 : decode cX9_readsReading 27 = .ok (.iconst 0, 1) := by decide +kernel
theorem dX9_readsReading_28 : decode cX9_readsReading 28 = .ok (.ireturn, 1) := by decide +kernel
theorem dX9_readsReading_29 : decode cX9_readsReading 29 = .ok (.aload_n 0, 1) := by decide +kernel
theorem dX9_readsReading_30 : decode cX9_readsReading 30 = .ok (.getfield 86, 3) := by decide +kernel
theorem dX9_readsReading_33 : decode cX9_readsReading 33 = .ok (.istore_n 1, 1) := by decide +kernel
theorem dX9_readsReading_34 : decode cX9_readsReading 34 = .ok (.aload_n 0, 1) := by decide +kernel
theorem dX9_readsReading_35 : decode cX9_readsReading 35 = .ok (.iconst 0, 1) := by decide +kernel
theorem dX9_readsReading_36 : decode cX9_readsReading 36 = .ok (.sipush 9999, 3) := by decide +kernel
theorem dX9_readsReading_39 : decode cX9_readsReading 39 = .ok (.invokevirtual 98, 3) := by decide +kernel
theorem dX9_readsReading_42 : decode cX9_readsReading 42 = .ok (.ifCond .ne 5, 3) := by decide +kernel
theorem dX9_readsReading_45 : decode cX9_readsReading 45 = .ok (.iconst 0, 1) := by decide +kernel
theorem dX9_readsReading_46 : decode cX9_readsReading 46 = .ok (.ireturn, 1) := by decide +kernel
theorem dX9_readsReading_47 : decode cX9_readsReading 47 = .ok (.aload_n 0, 1) := by decide +kernel
theorem dX9_readsReading_48 : decode cX9_readsReading 48 = .ok (.getfield 86, 3) := by decide +kernel
theorem dX9_readsReading_51 : decode cX9_readsReading 51 = .ok (.istore_n 2, 1) := by decide +kernel
theorem dX9_readsReading_52 : decode cX9_readsReading 52 = .ok (.aload_n 0, 1) := by decide +kernel
theorem dX9_readsReading_53 : decode cX9_readsReading 53 = .ok (.iconst 1, 1) := by decide +kernel
theorem dX9_readsReading_54 : decode cX9_readsReading 54 = .ok (.bipush 9, 2) := by decide +kernel
theorem dX9_readsReading_56 : decode cX9_readsReading 56 = .ok (.invokevirtual 98, 3) := by decide +kernel
theorem dX9_readsReading_59 : decode cX9_readsReading 59 = .ok (.ifCond .ne 5, 3) := by decide +kernel
theorem dX9_readsReading_62 : decode cX9_readsReading 62 = .ok (.iconst 0, 1) := by decide +kernel
theorem dX9_readsReading_63 : decode cX9_readsReading 63 = .ok (.ireturn, 1) := by decide +kernel
theorem dX9_readsReading_64 : decode cX9_readsReading 64 = .ok (.aload_n 0, 1) := by decide +kernel
theorem dX9_readsReading_65 : decode cX9_readsReading 65 = .ok (.getfield 86, 3) := by decide +kernel
theorem dX9_readsReading_68 : decode cX9_readsReading 68 = .ok (.istore_n 3, 1) := by decide +kernel
theorem dX9_readsReading_69 : decode cX9_readsReading 69 = .ok (.aload_n 0, 1) := by decide +kernel
theorem dX9_readsReading_70 : decode cX9_readsReading 70 = .ok (.invokevirtual 102, 3) := by decide +kernel
theorem dX9_readsReading_73 : decode cX9_readsReading 73 = .ok (.ifCond .ne 5, 3) := by decide +kernel
theorem dX9_readsReading_76 : decode cX9_readsReading 76 = .ok (.iconst 0, 1) := by decide +kernel
theorem dX9_readsReading_77 : decode cX9_readsReading 77 = .ok (.ireturn, 1) := by decide +kernel
theorem dX9_readsReading_78 : decode cX9_readsReading 78 = .ok (.aload_n 0, 1) := by decide +kernel
theorem dX9_readsReading_79 : decode cX9_readsReading 79 = .ok (.getfield 13, 3) := by decide +kernel
theorem dX9_readsReading_82 : decode cX9_readsReading 82 = .ok (.iload_n 1, 1) := by decide +kernel
theorem dX9_readsReading_83 : decode cX9_readsReading 83 = .ok (.iload_n 2, 1) := by decide +kernel
theorem dX9_readsReading_84 : decode cX9_readsReading 84 = .ok (.iload_n 3, 1) := by decide +kernel
theorem dX9_readsReading_85 : decode cX9_readsReading 85 = .ok (.invokestatic 105, 3) := by decide +kernel
theorem dX9_readsReading_88 : decode cX9_readsReading 88 = .ok (.pop, 1) := by decide +kernel
theorem dX9_readsReading_89 : decode cX9_readsReading 89 = .ok (.iconst 1, 1) := by decide +kernel
theorem dX9_readsReading_90 : decode cX9_readsReading 90 = .ok (.ireturn, 1) := by decide +kernel
theorem dX9_readsChange_0 : decode cX9_readsChange 0 = .ok (.aload_n 0, 1) := by decide +kernel
theorem dX9_readsChange_1 : decode cX9_readsChange 1 = .ok (.getfield 56, 3) := by decide +kernel
theorem dX9_readsChange_4 : decode cX9_readsChange 4 = .ok (.bipush 6, 2) := by decide +kernel
theorem dX9_readsChange_6 : decode cX9_readsChange 6 = .ok (.if_icmp .ne 8, 3) := by decide +kernel
theorem dX9_readsChange_9 : decode cX9_readsChange 9 = .ok (.aload_n 0, 1) := by decide +kernel
theorem dX9_readsChange_10 : decode cX9_readsChange 10 = .ok (.invokevirtual 95, 3) := by decide +kernel
theorem dX9_readsChange_13 : decode cX9_readsChange 13 = .ok (.ireturn, 1) := by decide +kernel
theorem dX9_readsChange_14 : decode cX9_readsChange 14 = .ok (.aload_n 0, 1) := by decide +kernel
theorem dX9_readsChange_15 : decode cX9_readsChange 15 = .ok (.iconst 0, 1) := by decide +kernel
theorem dX9_readsChange_16 : decode cX9_readsChange 16 = .ok (.sipush 999, 3) := by decide +kernel
theorem dX9_readsChange_19 : decode cX9_readsChange 19 = .ok (.invokevirtual 98, 3) := by decide +kernel
theorem dX9_readsChange_22 : decode cX9_readsChange 22 = .ok (.ifCond .ne 5, 3) := by decide +kernel
theorem dX9_readsChange_25 : decode cX9_readsChange 25 = .ok (.iconst 0, 1) := by decide +kernel
theorem dX9_readsChange_26 : decode cX9_readsChange 26 = .ok (.ireturn, 1) := by decide +kernel
theorem dX9_readsChange_27 : decode cX9_readsChange 27 = .ok (.aload_n 0, 1) := by decide +kernel
theorem dX9_readsChange_28 : decode cX9_readsChange 28 = .ok (.getfield 86, 3) := by decide +kernel
theorem dX9_readsChange_31 : decode cX9_readsChange 31 = .ok (.istore_n 1, 1) := by decide +kernel
theorem dX9_readsChange_32 : decode cX9_readsChange 32 = .ok (.aload_n 0, 1) := by decide +kernel
theorem dX9_readsChange_33 : decode cX9_readsChange 33 = .ok (.invokevirtual 109, 3) := by decide +kernel
theorem dX9_readsChange_36 : decode cX9_readsChange 36 = .ok (.ifCond .ne 5, 3) := by decide +kernel
theorem dX9_readsChange_39 : decode cX9_readsChange 39 = .ok (.iconst 0, 1) := by decide +kernel
theorem dX9_readsChange_40 : decode cX9_readsChange 40 = .ok (.ireturn, 1) := by decide +kernel
theorem dX9_readsChange_41 : decode cX9_readsChange 41 = .ok (.aload_n 0, 1) := by decide +kernel
theorem dX9_readsChange_42 : decode cX9_readsChange 42 = .ok (.getfield 86, 3) := by decide +kernel
theorem dX9_readsChange_45 : decode cX9_readsChange 45 = .ok (.istore_n 2, 1) := by decide +kernel
theorem dX9_readsChange_46 : decode cX9_readsChange 46 = .ok (.aload_n 0, 1) := by decide +kernel
theorem dX9_readsChange_47 : decode cX9_readsChange 47 = .ok (.invokevirtual 109, 3) := by decide +kernel
theorem dX9_readsChange_50 : decode cX9_readsChange 50 = .ok (.ifCond .ne 5, 3) := by decide +kernel
theorem dX9_readsChange_53 : decode cX9_readsChange 53 = .ok (.iconst 0, 1) := by decide +kernel
theorem dX9_readsChange_54 : decode cX9_readsChange 54 = .ok (.ireturn, 1) := by decide +kernel
theorem dX9_readsChange_55 : decode cX9_readsChange 55 = .ok (.aload_n 0, 1) := by decide +kernel
theorem dX9_readsChange_56 : decode cX9_readsChange 56 = .ok (.getfield 86, 3) := by decide +kernel
theorem dX9_readsChange_59 : decode cX9_readsChange 59 = .ok (.istore_n 3, 1) := by decide +kernel
theorem dX9_readsChange_60 : decode cX9_readsChange 60 = .ok (.iload_n 3, 1) := by decide +kernel
theorem dX9_readsChange_61 : decode cX9_readsChange 61 = .ok (.iload_n 2, 1) := by decide +kernel
theorem dX9_readsChange_62 : decode cX9_readsChange 62 = .ok (.if_icmp .ne 8, 3) := by decide +kernel
theorem dX9_readsChange_65 : decode cX9_readsChange 65 = .ok (.aload_n 0, 1) := by decide +kernel
theorem dX9_readsChange_66 : decode cX9_readsChange 66 = .ok (.invokevirtual 95, 3) := by decide +kernel
theorem dX9_readsChange_69 : decode cX9_readsChange 69 = .ok (.ireturn, 1) := by decide +kernel
theorem dX9_readsChange_70 : decode cX9_readsChange 70 = .ok (.aload_n 0, 1) := by decide +kernel
theorem dX9_readsChange_71 : decode cX9_readsChange 71 = .ok (.invokevirtual 102, 3) := by decide +kernel
theorem dX9_readsChange_74 : decode cX9_readsChange 74 = .ok (.ifCond .ne 5, 3) := by decide +kernel
theorem dX9_readsChange_77 : decode cX9_readsChange 77 = .ok (.iconst 0, 1) := by decide +kernel
theorem dX9_readsChange_78 : decode cX9_readsChange 78 = .ok (.ireturn, 1) := by decide +kernel
theorem dX9_readsChange_79 : decode cX9_readsChange 79 = .ok (.aload_n 0, 1) := by decide +kernel
theorem dX9_readsChange_80 : decode cX9_readsChange 80 = .ok (.getfield 56, 3) := by decide +kernel
theorem dX9_readsChange_83 : decode cX9_readsChange 83 = .ok (.istore 4, 2) := by decide +kernel
theorem dX9_readsChange_85 : decode cX9_readsChange 85 = .ok (.iload 4, 2) := by decide +kernel
theorem dX9_readsChange_87 : decode cX9_readsChange 87 = .ok (.ifCond .le 70, 3) := by decide +kernel
theorem dX9_readsChange_90 : decode cX9_readsChange 90 = .ok (.aload_n 0, 1) := by decide +kernel
theorem dX9_readsChange_91 : decode cX9_readsChange 91 = .ok (.getfield 16, 3) := by decide +kernel
theorem dX9_readsChange_94 : decode cX9_readsChange 94 = .ok (.iload 4, 2) := by decide +kernel
theorem dX9_readsChange_96 : decode cX9_readsChange 96 = .ok (.iconst 1, 1) := by decide +kernel
theorem dX9_readsChange_97 : decode cX9_readsChange 97 = .ok (.isub, 1) := by decide +kernel
theorem dX9_readsChange_98 : decode cX9_readsChange 98 = .ok (.iaload, 1) := by decide +kernel
theorem dX9_readsChange_99 : decode cX9_readsChange 99 = .ok (.iload_n 1, 1) := by decide +kernel
theorem dX9_readsChange_100 : decode cX9_readsChange 100 = .ok (.if_icmp .le 57, 3) := by decide +kernel
theorem dX9_readsChange_103 : decode cX9_readsChange 103 = .ok (.aload_n 0, 1) := by decide +kernel
theorem dX9_readsChange_104 : decode cX9_readsChange 104 = .ok (.getfield 16, 3) := by decide +kernel
theorem dX9_readsChange_107 : decode cX9_readsChange 107 = .ok (.iload 4, 2) := by decide +kernel
theorem dX9_readsChange_109 : decode cX9_readsChange 109 = .ok (.aload_n 0, 1) := by decide +kernel
theorem dX9_readsChange_110 : decode cX9_readsChange 110 = .ok (.getfield 16, 3) := by decide +kernel
theorem dX9_readsChange_113 : decode cX9_readsChange 113 = .ok (.iload 4, 2) := by decide +kernel
theorem dX9_readsChange_115 : decode cX9_readsChange 115 = .ok (.iconst 1, 1) := by decide +kernel
theorem dX9_readsChange_116 : decode cX9_readsChange 116 = .ok (.isub, 1) := by decide +kernel
theorem dX9_readsChange_117 : decode cX9_readsChange 117 = .ok (.iaload, 1) := by decide +kernel
theorem dX9_readsChange_118 : decode cX9_readsChange 118 = .ok (.iastore, 1) := by decide +kernel
theorem dX9_readsChange_119 : decode cX9_readsChange 119 = .ok (.aload_n 0, 1) := by decide +kernel
theorem dX9_readsChange_120 : decode cX9_readsChange 120 = .ok (.getfield 19, 3) := by decide +kernel
theorem dX9_readsChange_123 : decode cX9_readsChange 123 = .ok (.iload 4, 2) := by decide +kernel
theorem dX9_readsChange_125 : decode cX9_readsChange 125 = .ok (.aload_n 0, 1) := by decide +kernel
theorem dX9_readsChange_126 : decode cX9_readsChange 126 = .ok (.getfield 19, 3) := by decide +kernel
theorem dX9_readsChange_129 : decode cX9_readsChange 129 = .ok (.iload 4, 2) := by decide +kernel
theorem dX9_readsChange_131 : decode cX9_readsChange 131 = .ok (.iconst 1, 1) := by decide +kernel
theorem dX9_readsChange_132 : decode cX9_readsChange 132 = .ok (.isub, 1) := by decide +kernel
theorem dX9_readsChange_133 : decode cX9_readsChange 133 = .ok (.iaload, 1) := by decide +kernel
theorem dX9_readsChange_134 : decode cX9_readsChange 134 = .ok (.iastore, 1) := by decide +kernel
theorem dX9_readsChange_135 : decode cX9_readsChange 135 = .ok (.aload_n 0, 1) := by decide +kernel
theorem dX9_readsChange_136 : decode cX9_readsChange 136 = .ok (.getfield 22, 3) := by decide +kernel
theorem dX9_readsChange_139 : decode cX9_readsChange 139 = .ok (.iload 4, 2) := by decide +kernel
theorem dX9_readsChange_141 : decode cX9_readsChange 141 = .ok (.aload_n 0, 1) := by decide +kernel
theorem dX9_readsChange_142 : decode cX9_readsChange 142 = .ok (.getfield 22, 3) := by decide +kernel
theorem dX9_readsChange_145 : decode cX9_readsChange 145 = .ok (.iload 4, 2) := by decide +kernel
theorem dX9_readsChange_147 : decode cX9_readsChange 147 = .ok (.iconst 1, 1) := by decide +kernel
theorem dX9_readsChange_148 : decode cX9_readsChange 148 = .ok (.isub, 1) := by decide +kernel
theorem dX9_readsChange_149 : decode cX9_readsChange 149 = .ok (.iaload, 1) := by decide +kernel
theorem dX9_readsChange_150 : decode cX9_readsChange 150 = .ok (.iastore, 1) := by decide +kernel
