theorem dX9_remember_43 : decode cX9_remember 43 = .ok (.irem, 1) := by decide +kernel
theorem dX9_remember_44 : decode cX9_remember 44 = .ok (.putfield 218, 3) := by decide +kernel
theorem dX9_remember_47 : decode cX9_remember 47 = .ok (.aload_n 0, 1) := by decide +kernel
theorem dX9_remember_48 : decode cX9_remember 48 = .ok (.dup, 1) := by decide +kernel
theorem dX9_remember_49 : decode cX9_remember 49 = .ok (.getfield 140, 3) := by decide +kernel
theorem dX9_remember_52 : decode cX9_remember 52 = .ok (.aload_n 0, 1) := by decide +kernel
theorem dX9_remember_53 : decode cX9_remember 53 = .ok (.getfield 140, 3) := by decide +kernel
theorem dX9_remember_56 : decode cX9_remember 56 = .ok (.bipush 10, 2) := by decide +kernel
theorem dX9_remember_58 : decode cX9_remember 58 = .ok (.if_icmp .ge 7, 3) := by decide +kernel
theorem dX9_remember_61 : decode cX9_remember 61 = .ok (.iconst 1, 1) := by decide +kernel
theorem dX9_remember_62 : decode cX9_remember 62 = .ok (.goto 4, 3) := by decide +kernel
theorem dX9_remember_65 : decode cX9_remember 65 = .ok (.iconst 0, 1) := by decide +kernel
theorem dX9_remember_66 : decode cX9_remember 66 = .ok (.iadd, 1) := by decide +kernel
theorem dX9_remember_67 : decode cX9_remember 67 = .ok (.putfield 140, 3) := by decide +kernel
theorem dX9_remember_70 : decode cX9_remember 70 = .ok (.aload_n 0, 1) := by decide +kernel
theorem dX9_remember_71 : decode cX9_remember 71 = .ok (.iconst 0, 1) := by decide +kernel
theorem dX9_remember_72 : decode cX9_remember 72 = .ok (.putfield 143, 3) := by decide +kernel
theorem dX9_remember_75 : decode cX9_remember 75 = .ok (.return_, 1) := by decide +kernel
theorem dX9_adds_0 : decode cX9_adds 0 = .ok (.iload_n 1, 1) := by decide +kernel
theorem dX9_adds_1 : decode cX9_adds 1 = .ok (.iconst 0, 1) := by decide +kernel
theorem dX9_adds_2 : decode cX9_adds 2 = .ok (.sipush 999, 3) := by decide +kernel
theorem dX9_adds_5 : decode cX9_adds 5 = .ok (.invokestatic 66, 3) := by decide +kernel
theorem dX9_adds_8 : decode cX9_adds 8 = .ok (.ifCond .eq 24, 3) := by decide +kernel
theorem dX9_adds_11 : decode cX9_adds 11 = .ok (.iload_n 2, 1) := by decide +kernel
theorem dX9_adds_12 : decode cX9_adds 12 = .ok (.iconst 0, 1) := by decide +kernel
theorem dX9_adds_13 : decode cX9_adds 13 = .ok (.sipush 9999, 3) := by decide +kernel
theorem dX9_adds_16 : decode cX9_adds 16 = .ok (.invokestatic 66, 3) := by decide +kernel
theorem dX9_adds_19 : decode cX9_adds 19 = .ok (.ifCond .eq 13, 3) := by decide +kernel
theorem dX9_adds_22 : decode cX9_adds 22 = .ok (.iload_n 3, 1) := by decide +kernel
theorem dX9_adds_23 : decode cX9_adds 23 = .ok (.iconst 1, 1) := by decide +kernel
theorem dX9_adds_24 : decode cX9_adds 24 = .ok (.bipush 9, 2) := by decide +kernel
theorem dX9_adds_26 : decode cX9_adds 26 = .ok (.invokestatic 66, 3) := by decide +kernel
theorem dX9_adds_29 : decode cX9_adds 29 = .ok (.ifCond .ne 5, 3) := by decide +kernel
theorem dX9_adds_32 : decode cX9_adds 32 = .ok (.iconst (-1), 1) := by decide +kernel
theorem dX9_adds_33 : decode cX9_adds 33 = .ok (.ireturn, 1) := by decide +kernel
theorem dX9_adds_34 : decode cX9_adds 34 = .ok (.aload_n 0, 1) := by decide +kernel
theorem dX9_adds_35 : decode cX9_adds 35 = .ok (.getfield 25, 3) := by decide +kernel
theorem dX9_adds_38 : decode cX9_adds 38 = .ok (.iconst 0, 1) := by decide +kernel
theorem dX9_adds_39 : decode cX9_adds 39 = .ok (.iaload, 1) := by decide +kernel
theorem dX9_adds_40 : decode cX9_adds 40 = .ok (.bipush 10, 2) := by decide +kernel
theorem dX9_adds_42 : decode cX9_adds 42 = .ok (.if_icmp .ne 6, 3) := by decide +kernel
theorem dX9_adds_45 : decode cX9_adds 45 = .ok (.bipush (-3), 2) := by decide +kernel
theorem dX9_adds_47 : decode cX9_adds 47 = .ok (.ireturn, 1) := by decide +kernel
theorem dX9_adds_48 : decode cX9_adds 48 = .ok (.aload_n 0, 1) := by decide +kernel
theorem dX9_adds_49 : decode cX9_adds 49 = .ok (.invokevirtual 221, 3) := by decide +kernel
theorem dX9_adds_52 : decode cX9_adds 52 = .ok (.aload_n 0, 1) := by decide +kernel
theorem dX9_adds_53 : decode cX9_adds 53 = .ok (.getfield 25, 3) := by decide +kernel
theorem dX9_adds_56 : decode cX9_adds 56 = .ok (.iload_n 1, 1) := by decide +kernel
theorem dX9_adds_57 : decode cX9_adds 57 = .ok (.iload_n 2, 1) := by decide +kernel
theorem dX9_adds_58 : decode cX9_adds 58 = .ok (.iload_n 3, 1) := by decide +kernel
theorem dX9_adds_59 : decode cX9_adds 59 = .ok (.invokestatic 105, 3) := by decide +kernel
theorem dX9_adds_62 : decode cX9_adds 62 = .ok (.ireturn, 1) := by decide +kernel
theorem dX9_strikes_0 : decode cX9_strikes 0 = .ok (.aload_n 0, 1) := by decide +kernel
theorem dX9_strikes_1 : decode cX9_strikes 1 = .ok (.iload_n 1, 1) := by decide +kernel
theorem dX9_strikes_2 : decode cX9_strikes 2 = .ok (.invokevirtual 190, 3) := by decide +kernel
theorem dX9_strikes_5 : decode cX9_strikes 5 = .ok (.ifCond .ne 5, 3) := by decide +kernel
theorem dX9_strikes_8 : decode cX9_strikes 8 = .ok (.iconst (-1), 1) := by decide +kernel
theorem dX9_strikes_9 : decode cX9_strikes 9 = .ok (.ireturn, 1) := by decide +kernel
theorem dX9_strikes_10 : decode cX9_strikes 10 = .ok (.aload_n 0, 1) := by decide +kernel
theorem dX9_strikes_11 : decode cX9_strikes 11 = .ok (.invokevirtual 221, 3) := by decide +kernel
theorem dX9_strikes_14 : decode cX9_strikes 14 = .ok (.aload_n 0, 1) := by decide +kernel
theorem dX9_strikes_15 : decode cX9_strikes 15 = .ok (.getfield 25, 3) := by decide +kernel
theorem dX9_strikes_18 : decode cX9_strikes 18 = .ok (.iconst 0, 1) := by decide +kernel
theorem dX9_strikes_19 : decode cX9_strikes 19 = .ok (.dup2, 1) := by decide +kernel
theorem dX9_strikes_20 : decode cX9_strikes 20 = .ok (.iaload, 1) := by decide +kernel
theorem dX9_strikes_21 : decode cX9_strikes 21 = .ok (.iconst 1, 1) := by decide +kernel
theorem dX9_strikes_22 : decode cX9_strikes 22 = .ok (.isub, 1) := by decide +kernel
theorem dX9_strikes_23 : decode cX9_strikes 23 = .ok (.iastore, 1) := by decide +kernel
theorem dX9_strikes_24 : decode cX9_strikes 24 = .ok (.iload_n 1, 1) := by decide +kernel
theorem dX9_strikes_25 : decode cX9_strikes 25 = .ok (.istore_n 2, 1) := by decide +kernel
theorem dX9_strikes_26 : decode cX9_strikes 26 = .ok (.iload_n 2, 1) := by decide +kernel
theorem dX9_strikes_27 : decode cX9_strikes 27 = .ok (.aload_n 0, 1) := by decide +kernel
theorem dX9_strikes_28 : decode cX9_strikes 28 = .ok (.getfield 25, 3) := by decide +kernel
theorem dX9_strikes_31 : decode cX9_strikes 31 = .ok (.iconst 0, 1) := by decide +kernel
theorem dX9_strikes_32 : decode cX9_strikes 32 = .ok (.iaload, 1) := by decide +kernel
theorem dX9_strikes_33 : decode cX9_strikes 33 = .ok (.if_icmp .ge 67, 3) := by decide +kernel
theorem dX9_strikes_36 : decode cX9_strikes 36 = .ok (.aload_n 0, 1) := by decide +kernel
theorem dX9_strikes_37 : decode cX9_strikes 37 = .ok (.getfield 25, 3) := by decide +kernel
theorem dX9_strikes_40 : decode cX9_strikes 40 = .ok (.iconst 3, 1) := by decide +kernel
theorem dX9_strikes_41 : decode cX9_strikes 41 = .ok (.iload_n 2, 1) := by decide +kernel
theorem dX9_strikes_42 : decode cX9_strikes 42 = .ok (.iadd, 1) := by decide +kernel
theorem dX9_strikes_43 : decode cX9_strikes 43 = .ok (.aload_n 0, 1) := by decide +kernel
theorem dX9_strikes_44 : decode cX9_strikes 44 = .ok (.getfield 25, 3) := by decide +kernel
theorem dX9_strikes_47 : decode cX9_strikes 47 = .ok (.iconst 3, 1) := by decide +kernel
theorem dX9_strikes_48 : decode cX9_strikes 48 = .ok (.iload_n 2, 1) := by decide +kernel
theorem dX9_strikes_49 : decode cX9_strikes 49 = .ok (.iadd, 1) := by decide +kernel
theorem dX9_strikes_50 : decode cX9_strikes 50 = .ok (.iconst 1, 1) := by decide +kernel
theorem dX9_strikes_51 : decode cX9_strikes 51 = .ok (.iadd, 1) := by decide +kernel
theorem dX9_strikes_52 : decode cX9_strikes 52 = .ok (.iaload, 1) := by decide +kernel
theorem dX9_strikes_53 : decode cX9_strikes 53 = .ok (.iastore, 1) := by decide +kernel
theorem dX9_strikes_54 : decode cX9_strikes 54 = .ok (.aload_n 0, 1) := by decide +kernel
theorem dX9_strikes_55 : decode cX9_strikes 55 = .ok (.getfield 25, 3) := by decide +kernel
theorem dX9_strikes_58 : decode cX9_strikes 58 = .ok (.bipush 13, 2) := by decide +kernel
theorem dX9_strikes_60 : decode cX9_strikes 60 = .ok (.iload_n 2, 1) := by decide +kernel
theorem dX9_strikes_61 : decode cX9_strikes 61 = .ok (.iadd, 1) := by decide +kernel
theorem dX9_strikes_62 : decode cX9_strikes 62 = .ok (.aload_n 0, 1) := by decide +kernel
theorem dX9_strikes_63 : decode cX9_strikes 63 = .ok (.getfield 25, 3) := by decide +kernel
theorem dX9_strikes_66 : decode cX9_strikes 66 = .ok (.bipush 13, 2) := by decide +kernel
theorem dX9_strikes_68 : decode cX9_strikes 68 = .ok (.iload_n 2, 1) := by decide +kernel
theorem dX9_strikes_69 : decode cX9_strikes 69 = .ok (.iadd, 1) := by decide +kernel
theorem dX9_strikes_70 : decode cX9_strikes 70 = .ok (.iconst 1, 1) := by decide +kernel
theorem dX9_strikes_71 : decode cX9_strikes 71 = .ok (.iadd, 1) := by decide +kernel
theorem dX9_strikes_72 : decode cX9_strikes 72 = .ok (.iaload, 1) := by decide +kernel
theorem dX9_strikes_73 : decode cX9_strikes 73 = .ok (.iastore, 1) := by decide +kernel
theorem dX9_strikes_74 : decode cX9_strikes 74 = .ok (.aload_n 0, 1) := by decide +kernel
theorem dX9_strikes_75 : decode cX9_strikes 75 = .ok (.getfield 25, 3) := by decide +kernel
theorem dX9_strikes_78 : decode cX9_strikes 78 = .ok (.bipush 23, 2) := by decide +kernel
theorem dX9_strikes_80 : decode cX9_strikes 80 = .ok (.iload_n 2, 1) := by decide +kernel
theorem dX9_strikes_81 : decode cX9_strikes 81 = .ok (.iadd, 1) := by decide +kernel
theorem dX9_strikes_82 : decode cX9_strikes 82 = .ok (.aload_n 0, 1) := by decide +kernel
theorem dX9_strikes_83 : decode cX9_strikes 83 = .ok (.getfield 25, 3) := by decide +kernel
theorem dX9_strikes_86 : decode cX9_strikes 86 = .ok (.bipush 23, 2) := by decide +kernel
theorem dX9_strikes_88 : decode cX9_strikes 88 = .ok (.iload_n 2, 1) := by decide +kernel
theorem dX9_strikes_89 : decode cX9_strikes 89 = .ok (.iadd, 1) := by decide +kernel
theorem dX9_strikes_90 : decode cX9_strikes 90 = .ok (.iconst 1, 1) := by decide +kernel
theorem dX9_strikes_91 : decode cX9_strikes 91 = .ok (.iadd, 1) := by decide +kernel
theorem dX9_strikes_92 : decode cX9_strikes 92 = .ok (.iaload, 1) := by decide +kernel
theorem dX9_strikes_93 : decode cX9_strikes 93 = .ok (.iastore, 1) := by decide +kernel
theorem dX9_strikes_94 : decode cX9_strikes 94 = .ok (.iinc 2 1, 3) := by decide +kernel
theorem dX9_strikes_97 : decode cX9_strikes 97 = .ok (.goto (-71), 3) := by decide +kernel
theorem dX9_strikes_100 : decode cX9_strikes 100 = .ok (.aload_n 0, 1) := by decide +kernel
theorem dX9_strikes_101 : decode cX9_strikes 101 = .ok (.getfield 25, 3) := by decide +kernel
theorem dX9_strikes_104 : decode cX9_strikes 104 = .ok (.iconst 0, 1) := by decide +kernel
theorem dX9_strikes_105 : decode cX9_strikes 105 = .ok (.iaload, 1) := by decide +kernel
theorem dX9_strikes_106 : decode cX9_strikes 106 = .ok (.ireturn, 1) := by decide +kernel
theorem dX9_rules_0 : decode cX9_rules 0 = .ok (.iload_n 1, 1) := by decide +kernel
theorem dX9_rules_1 : decode cX9_rules 1 = .ok (.iconst 1, 1) := by decide +kernel
theorem dX9_rules_2 : decode cX9_rules 2 = .ok (.bipush 99, 2) := by decide +kernel
theorem dX9_rules_4 : decode cX9_rules 4 = .ok (.invokestatic 66, 3) := by decide +kernel
theorem dX9_rules_7 : decode cX9_rules 7 = .ok (.ifCond .eq 10, 3) := by decide +kernel
theorem dX9_rules_10 : decode cX9_rules 10 = .ok (.iload_n 2, 1) := by decide +kernel
theorem dX9_rules_11 : decode cX9_rules 11 = .ok (.invokestatic 115, 3) := by decide +kernel
theorem dX9_rules_14 : decode cX9_rules 14 = .ok (.ifCond .ne 5, 3) := by decide +kernel
theorem dX9_rules_17 : decode cX9_rules 17 = .ok (.iconst (-1), 1) := by decide +kernel
theorem dX9_rules_18 : decode cX9_rules 18 = .ok (.ireturn, 1) := by decide +kernel
theorem dX9_rules_19 : decode cX9_rules 19 = .ok (.aload_n 0, 1) := by decide +kernel
theorem dX9_rules_20 : decode cX9_rules 20 = .ok (.invokevirtual 221, 3) := by decide +kernel
theorem dX9_rules_23 : decode cX9_rules 23 = .ok (.aload_n 0, 1) := by decide +kernel
theorem dX9_rules_24 : decode cX9_rules 24 = .ok (.getfield 25, 3) := by decide +kernel
theorem dX9_rules_27 : decode cX9_rules 27 = .ok (.iconst 1, 1) := by decide +kernel
theorem dX9_rules_28 : decode cX9_rules 28 = .ok (.iload_n 1, 1) := by decide +kernel
theorem dX9_rules_29 : decode cX9_rules 29 = .ok (.iastore, 1) := by decide +kernel
theorem dX9_rules_30 : decode cX9_rules 30 = .ok (.aload_n 0, 1) := by decide +kernel
theorem dX9_rules_31 : decode cX9_rules 31 = .ok (.getfield 25, 3) := by decide +kernel
theorem dX9_rules_34 : decode cX9_rules 34 = .ok (.iconst 2, 1) := by decide +kernel
theorem dX9_rules_35 : decode cX9_rules 35 = .ok (.iload_n 2, 1) := by decide +kernel
theorem dX9_rules_36 : decode cX9_rules 36 = .ok (.iastore, 1) := by decide +kernel
theorem dX9_rules_37 : decode cX9_rules 37 = .ok (.aload_n 0, 1) := by decide +kernel
theorem dX9_rules_38 : decode cX9_rules 38 = .ok (.invokevirtual 193, 3) := by decide +kernel
theorem dX9_rules_41 : decode cX9_rules 41 = .ok (.aload_n 0, 1) := by decide +kernel
theorem dX9_rules_42 : decode cX9_rules 42 = .ok (.getfield 168, 3) := by decide +kernel
theorem dX9_rules_45 : decode cX9_rules 45 = .ok (.ireturn, 1) := by decide +kernel
theorem dX9_undo_0 : decode cX9_undo 0 = .ok (.aload_n 0, 1) := by decide +kernel
theorem dX9_undo_1 : decode cX9_undo 1 = .ok (.getfield 140, 3) := by decide +kernel
theorem dX9_undo_4 : decode cX9_undo 4 = .ok (.ifCond .ne 6, 3) := by decide +kernel
theorem dX9_undo_7 : decode cX9_undo 7 = .ok (.bipush (-2), 2) := by decide +kernel
theorem dX9_undo_9 : decode cX9_undo 9 = .ok (.ireturn, 1) := by decide +kernel
theorem dX9_undo_10 : decode cX9_undo 10 = .ok (.aload_n 0, 1) := by decide +kernel
theorem dX9_undo_11 : decode cX9_undo 11 = .ok (.aload_n 0, 1) := by decide +kernel
theorem dX9_undo_12 : decode cX9_undo 12 = .ok (.getfield 218, 3) := by decide +kernel
theorem dX9_undo_15 : decode cX9_undo 15 = .ok (.bipush 10, 2) := by decide +kernel
theorem dX9_undo_17 : decode cX9_undo 17 = .ok (.iadd, 1) := by decide +kernel
theorem dX9_undo_18 : decode cX9_undo 18 = .ok (.iconst 1, 1) := by decide +kernel
theorem dX9_undo_19 : decode cX9_undo 19 = .ok (.isub, 1) := by decide +kernel
theorem dX9_undo_20 : decode cX9_undo 20 = .ok (.bipush 10, 2) := by decide +kernel
theorem dX9_undo_22 : decode cX9_undo 22 = .ok (.irem, 1) := by decide +kernel
theorem dX9_undo_23 : decode cX9_undo 23 = .ok (.putfield 218, 3) := by decide +kernel
theorem dX9_undo_26 : decode cX9_undo 26 = .ok (.aload_n 0, 1) := by decide +kernel
theorem dX9_undo_27 : decode cX9_undo 27 = .ok (.dup, 1) := by decide +kernel
theorem dX9_undo_28 : decode cX9_undo 28 = .ok (.getfield 140, 3) := by decide +kernel
theorem dX9_undo_31 : decode cX9_undo 31 = .ok (.iconst 1, 1) := by decide +kernel
theorem dX9_undo_32 : decode cX9_undo 32 = .ok (.isub, 1) := by decide +kernel
theorem dX9_undo_33 : decode cX9_undo 33 = .ok (.putfield 140, 3) := by decide +kernel
theorem dX9_undo_36 : decode cX9_undo 36 = .ok (.iconst 0, 1) := by decide +kernel
theorem dX9_undo_37 : decode cX9_undo 37 = .ok (.istore_n 1, 1) := by decide +kernel
theorem dX9_undo_38 : decode cX9_undo 38 = .ok (.iload_n 1, 1) := by decide +kernel
theorem dX9_undo_39 : decode cX9_undo 39 = .ok (.bipush 33, 2) := by decide +kernel
theorem dX9_undo_41 : decode cX9_undo 41 = .ok (.if_icmp .ge 29, 3) := by decide +kernel
theorem dX9_undo_44 : decode cX9_undo 44 = .ok (.aload_n 0, 1) := by decide +kernel
theorem dX9_undo_45 : decode cX9_undo 45 = .ok (.getfield 25, 3) := by decide +kernel
theorem dX9_undo_48 : decode cX9_undo 48 = .ok (.iload_n 1, 1) := by decide +kernel
theorem dX9_undo_49 : decode cX9_undo 49 = .ok (.aload_n 0, 1) := by decide +kernel
theorem dX9_undo_50 : decode cX9_undo 50 = .ok (.getfield 37, 3) := by decide +kernel
theorem dX9_undo_53 : decode cX9_undo 53 = .ok (.bipush 33, 2) := by decide +kernel
theorem dX9_undo_55 : decode cX9_undo 55 = .ok (.aload_n 0, 1) := by decide +kernel
theorem dX9_undo_56 : decode cX9_undo 56 = .ok (.getfield 218, 3) := by decide +kernel
theorem dX9_undo_59 : decode cX9_undo 59 = .ok (.imul, 1) := by decide +kernel
theorem dX9_undo_60 : decode cX9_undo 60 = .ok (.iload_n 1, 1) := by decide +kernel
theorem dX9_undo_61 : decode cX9_undo 61 = .ok (.iadd, 1) := by decide +kernel
theorem dX9_undo_62 : decode cX9_undo 62 = .ok (.iaload, 1) := by decide +kernel
theorem dX9_undo_63 : decode cX9_undo 63 = .ok (.iastore, 1) := by decide +kernel
theorem dX9_undo_64 : decode cX9_undo 64 = .ok (.iinc 1 1, 3) := by decide +kernel
theorem dX9_undo_67 : decode cX9_undo 67 = .ok (.goto (-29), 3) := by decide +kernel
theorem dX9_undo_70 : decode cX9_undo 70 = .ok (.aload_n 0, 1) := by decide +kernel
theorem dX9_undo_71 : decode cX9_undo 71 = .ok (.iconst 0, 1) := by decide +kernel
theorem dX9_undo_72 : decode cX9_undo 72 = .ok (.putfield 143, 3) := by decide +kernel
theorem dX9_undo_75 : decode cX9_undo 75 = .ok (.aload_n 0, 1) := by decide +kernel
theorem dX9_undo_76 : decode cX9_undo 76 = .ok (.getfield 140, 3) := by decide +kernel
theorem dX9_undo_79 : decode cX9_undo 79 = .ok (.ireturn, 1) := by decide +kernel
theorem dX9_on_0 : decode cX9_on 0 = .ok (.iload_n 1, 1) := by decide +kernel
theorem dX9_on_1 : decode cX9_on 1 = .ok (.iconst 0, 1) := by decide +kernel
theorem dX9_on_2 : decode cX9_on 2 = .ok (.sipush 999, 3) := by decide +kernel
theorem dX9_on_5 : decode cX9_on 5 = .ok (.invokestatic 66, 3) := by decide +kernel
theorem dX9_on_8 : decode cX9_on 8 = .ok (.ifCond .eq 12, 3) := by decide +kernel
theorem dX9_on_11 : decode cX9_on 11 = .ok (.iload_n 2, 1) := by decide +kernel
theorem dX9_on_12 : decode cX9_on 12 = .ok (.iconst 0, 1) := by decide +kernel
theorem dX9_on_13 : decode cX9_on 13 = .ok (.iconst 1, 1) := by decide +kernel
theorem dX9_on_14 : decode cX9_on 14 = .ok (.invokestatic 66, 3) := by decide +kernel
theorem dX9_on_17 : decode cX9_on 17 = .ok (.ifCond .ne 5, 3) := by decide +kernel
theorem dX9_on_20 : decode cX9_on 20 = .ok (.iconst (-1), 1) := by decide +kernel
theorem dX9_on_21 : decode cX9_on 21 = .ok (.ireturn, 1) := by decide +kernel
theorem dX9_on_22 : decode cX9_on 22 = .ok (.aload_n 0, 1) := by decide +kernel
theorem dX9_on_23 : decode cX9_on 23 = .ok (.invokevirtual 193, 3) := by decide +kernel
theorem dX9_on_26 : decode cX9_on 26 = .ok (.bipush (-9), 2) := by decide +kernel
theorem dX9_on_28 : decode cX9_on 28 = .ok (.istore_n 3, 1) := by decide +kernel
theorem dX9_on_29 : decode cX9_on 29 = .ok (.bipush (-9), 2) := by decide +kernel
theorem dX9_on_31 : decode cX9_on 31 = .ok (.istore 4, 2) := by decide +kernel
theorem dX9_on_33 : decode cX9_on 33 = .ok (.iconst 0, 1) := by decide +kernel
theorem dX9_on_34 : decode cX9_on 34 = .ok (.istore 5, 2) := by decide +kernel
theorem dX9_on_36 : decode cX9_on 36 = .ok (.iload 5, 2) := by decide +kernel
theorem dX9_on_38 : decode cX9_on 38 = .ok (.aload_n 0, 1) := by decide +kernel
theorem dX9_on_39 : decode cX9_on 39 = .ok (.getfield 25, 3) := by decide +kernel
theorem dX9_on_42 : decode cX9_on 42 = .ok (.iconst 0, 1) := by decide +kernel
theorem dX9_on_43 : decode cX9_on 43 = .ok (.iaload, 1) := by decide +kernel
theorem dX9_on_44 : decode cX9_on 44 = .ok (.if_icmp .ge 89, 3) := by decide +kernel
theorem dX9_on_47 : decode cX9_on 47 = .ok (.aload_n 0, 1) := by decide +kernel
theorem dX9_on_48 : decode cX9_on 48 = .ok (.aload_n 0, 1) := by decide +kernel
theorem dX9_on_49 : decode cX9_on 49 = .ok (.getfield 174, 3) := by decide +kernel
theorem dX9_on_52 : decode cX9_on 52 = .ok (.iload 5, 2) := by decide +kernel
theorem dX9_on_54 : decode cX9_on 54 = .ok (.invokevirtual 187, 3) := by decide +kernel
theorem dX9_on_57 : decode cX9_on 57 = .ok (.iconst 2, 1) := by decide +kernel
theorem dX9_on_58 : decode cX9_on 58 = .ok (.if_icmp .eq 7, 3) := by decide +kernel
theorem dX9_on_61 : decode cX9_on 61 = .ok (.iconst 1, 1) := by decide +kernel
theorem dX9_on_62 : decode cX9_on 62 = .ok (.goto 4, 3) := by decide +kernel
theorem dX9_on_65 : decode cX9_on 65 = .ok (.iconst 0, 1) := by decide +kernel
theorem dX9_on_66 : decode cX9_on 66 = .ok (.istore 6, 2) := by decide +kernel
theorem dX9_on_68 : decode cX9_on 68 = .ok (.iload 6, 2) := by decide +kernel
theorem dX9_on_70 : decode cX9_on 70 = .ok (.ifCond .eq 21, 3) := by decide +kernel
theorem dX9_on_73 : decode cX9_on 73 = .ok (.aload_n 0, 1) := by decide +kernel
theorem dX9_on_74 : decode cX9_on 74 = .ok (.getfield 25, 3) := by decide +kernel
theorem dX9_on_77 : decode cX9_on 77 = .ok (.iconst 3, 1) := by decide +kernel
theorem dX9_on_78 : decode cX9_on 78 = .ok (.iload 5, 2) := by decide +kernel
theorem dX9_on_80 : decode cX9_on 80 = .ok (.iadd, 1) := by decide +kernel
theorem dX9_on_81 : decode cX9_on 81 = .ok (.iaload, 1) := by decide +kernel
theorem dX9_on_82 : decode cX9_on 82 = .ok (.iload_n 1, 1) := by decide +kernel
theorem dX9_on_83 : decode cX9_on 83 = .ok (.if_icmp .gt 8, 3) := by decide +kernel
theorem dX9_on_86 : decode cX9_on 86 = .ok (.iload 5, 2) := by decide +kernel
theorem dX9_on_88 : decode cX9_on 88 = .ok (.goto 4, 3) := by decide +kernel
theorem dX9_on_91 : decode cX9_on 91 = .ok (.iload_n 3, 1) := by decide +kernel
theorem dX9_on_92 : decode cX9_on 92 = .ok (.istore_n 3, 1) := by decide +kernel
theorem dX9_on_93 : decode cX9_on 93 = .ok (.iload 6, 2) := by decide +kernel
theorem dX9_on_95 : decode cX9_on 95 = .ok (.ifCond .eq 28, 3) := by decide +kernel
theorem dX9_on_98 : decode cX9_on 98 = .ok (.aload_n 0, 1) := by decide +kernel
theorem dX9_on_99 : decode cX9_on 99 = .ok (.getfield 25, 3) := by decide +kernel
theorem dX9_on_102 : decode cX9_on 102 = .ok (.iconst 3, 1) := by decide +kernel
theorem dX9_on_103 : decode cX9_on 103 = .ok (.iload 5, 2) := by decide +kernel
theorem dX9_on_105 : decode cX9_on 105 = .ok (.iadd, 1) := by decide +kernel
theorem dX9_on_106 : decode cX9_on 106 = .ok (.iaload, 1) := by decide +kernel
theorem dX9_on_107 : decode cX9_on 107 = .ok (.iload_n 1, 1) := by decide +kernel
theorem dX9_on_108 : decode cX9_on 108 = .ok (.if_icmp .le 15, 3) := by decide +kernel
theorem dX9_on_111 : decode cX9_on 111 = .ok (.iload 4, 2) := by decide +kernel
theorem dX9_on_113 : decode cX9_on 113 = .ok (.bipush (-9), 2) := by decide +kernel
theorem dX9_on_115 : decode cX9_on 115 = .ok (.if_icmp .ne 8, 3) := by decide +kernel
theorem dX9_on_118 : decode cX9_on 118 = .ok (.iload 5, 2) := by decide +kernel
theorem dX9_on_120 : decode cX9_on 120 = .ok (.goto 5, 3) := by decide +kernel
theorem dX9_on_123 : decode cX9_on 123 = .ok (.iload 4, 2) := by decide +kernel
theorem dX9_on_125 : decode cX9_on 125 = .ok (.istore 4, 2) := by decide +kernel
theorem dX9_on_127 : decode cX9_on 127 = .ok (.iinc 5 1, 3) := by decide +kernel
theorem dX9_on_130 : decode cX9_on 130 = .ok (.goto (-94), 3) := by decide +kernel
theorem dX9_on_133 : decode cX9_on 133 = .ok (.iload_n 3, 1) := by decide +kernel
theorem dX9_on_134 : decode cX9_on 134 = .ok (.bipush (-9), 2) := by decide +kernel
theorem dX9_on_136 : decode cX9_on 136 = .ok (.if_icmp .eq 10, 3) := by decide +kernel
theorem dX9_on_139 : decode cX9_on 139 = .ok (.iload 4, 2) := by decide +kernel
theorem dX9_on_141 : decode cX9_on 141 = .ok (.bipush (-9), 2) := by decide +kernel
theorem dX9_on_143 : decode cX9_on 143 = .ok (.if_icmp .ne 6, 3) := by decide +kernel
theorem dX9_on_146 : decode cX9_on 146 = .ok (.bipush (-9), 2) := by decide +kernel
theorem dX9_on_148 : decode cX9_on 148 = .ok (.ireturn, 1) := by decide +kernel
theorem dX9_on_149 : decode cX9_on 149 = .ok (.aload_n 0, 1) := by decide +kernel
theorem dX9_on_150 : decode cX9_on 150 = .ok (.iload_n 3, 1) := by decide +kernel
theorem dX9_on_151 : decode cX9_on 151 = .ok (.invokevirtual 196, 3) := by decide +kernel
theorem dX9_on_154 : decode cX9_on 154 = .ok (.istore 5, 2) := by decide +kernel
theorem dX9_on_156 : decode cX9_on 156 = .ok (.aload_n 0, 1) := by decide +kernel
theorem dX9_on_157 : decode cX9_on 157 = .ok (.iload 4, 2) := by decide +kernel
theorem dX9_on_159 : decode cX9_on 159 = .ok (.invokevirtual 196, 3) := by decide +kernel
theorem dX9_on_162 : decode cX9_on 162 = .ok (.istore 6, 2) := by decide +kernel
theorem dX9_on_164 : decode cX9_on 164 = .ok (.iload 6, 2) := by decide +kernel
theorem dX9_on_166 : decode cX9_on 166 = .ok (.aload_n 0, 1) := by decide +kernel
theorem dX9_on_167 : decode cX9_on 167 = .ok (.getfield 25, 3) := by decide +kernel
theorem dX9_on_170 : decode cX9_on 170 = .ok (.iconst 1, 1) := by decide +kernel
theorem dX9_on_171 : decode cX9_on 171 = .ok (.iaload, 1) := by decide +kernel
theorem dX9_on_172 : decode cX9_on 172 = .ok (.aload_n 0, 1) := by decide +kernel
theorem dX9_on_173 : decode cX9_on 173 = .ok (.getfield 25, 3) := by decide +kernel
theorem dX9_on_176 : decode cX9_on 176 = .ok (.iconst 3, 1) := by decide +kernel
theorem dX9_on_177 : decode cX9_on 177 = .ok (.iload 4, 2) := by decide +kernel
theorem dX9_on_179 : decode cX9_on 179 = .ok (.iadd, 1) := by decide +kernel
theorem dX9_on_180 : decode cX9_on 180 = .ok (.iaload, 1) := by decide +kernel
theorem dX9_on_181 : decode cX9_on 181 = .ok (.iload_n 1, 1) := by decide +kernel
theorem dX9_on_182 : decode cX9_on 182 = .ok (.isub, 1) := by decide +kernel
theorem dX9_on_183 : decode cX9_on 183 = .ok (.imul, 1) := by decide +kernel
theorem dX9_on_184 : decode cX9_on 184 = .ok (.isub, 1) := by decide +kernel
theorem dX9_on_185 : decode cX9_on 185 = .ok (.istore 7, 2) := by decide +kernel
theorem dX9_on_187 : decode cX9_on 187 = .ok (.iload 5, 2) := by decide +kernel
theorem dX9_on_189 : decode cX9_on 189 = .ok (.aload_n 0, 1) := by decide +kernel
theorem dX9_on_190 : decode cX9_on 190 = .ok (.getfield 25, 3) := by decide +kernel
theorem dX9_on_193 : decode cX9_on 193 = .ok (.iconst 1, 1) := by decide +kernel
theorem dX9_on_194 : decode cX9_on 194 = .ok (.iaload, 1) := by decide +kernel
theorem dX9_on_195 : decode cX9_on 195 = .ok (.iload_n 1, 1) := by decide +kernel
theorem dX9_on_196 : decode cX9_on 196 = .ok (.aload_n 0, 1) := by decide +kernel
theorem dX9_on_197 : decode cX9_on 197 = .ok (.getfield 25, 3) := by decide +kernel
theorem dX9_on_200 : decode cX9_on 200 = .ok (.iconst 3, 1) := by decide +kernel
theorem dX9_on_201 : decode cX9_on 201 = .ok (.iload_n 3, 1) := by decide +kernel
theorem dX9_on_202 : decode cX9_on 202 = .ok (.iadd, 1) := by decide +kernel
theorem dX9_on_203 : decode cX9_on 203 = .ok (.iaload, 1) := by decide +kernel
theorem dX9_on_204 : decode cX9_on 204 = .ok (.isub, 1) := by decide +kernel
theorem dX9_on_205 : decode cX9_on 205 = .ok (.imul, 1) := by decide +kernel
theorem dX9_on_206 : decode cX9_on 206 = .ok (.iadd, 1) := by decide +kernel
theorem dX9_on_207 : decode cX9_on 207 = .ok (.istore 8, 2) := by decide +kernel
theorem dX9_on_209 : decode cX9_on 209 = .ok (.iload_n 2, 1) := by decide +kernel
theorem dX9_on_210 : decode cX9_on 210 = .ok (.ifCond .ne 20, 3) := by decide +kernel
theorem dX9_on_213 : decode cX9_on 213 = .ok (.iload 7, 2) := by decide +kernel
theorem dX9_on_215 : decode cX9_on 215 = .ok (.iload 5, 2) := by decide +kernel
theorem dX9_on_217 : decode cX9_on 217 = .ok (.if_icmp .le 8, 3) := by decide +kernel
theorem dX9_on_220 : decode cX9_on 220 = .ok (.iload 7, 2) := by decide +kernel
theorem dX9_on_222 : decode cX9_on 222 = .ok (.goto 22, 3) := by decide +kernel
theorem dX9_on_225 : decode cX9_on 225 = .ok (.iload 5, 2) := by decide +kernel
theorem dX9_on_227 : decode cX9_on 227 = .ok (.goto 17, 3) := by decide +kernel
theorem dX9_on_230 : decode cX9_on 230 = .ok (.iload 8, 2) := by decide +kernel
theorem dX9_on_232 : decode cX9_on 232 = .ok (.iload 6, 2) := by decide +kernel
theorem dX9_on_234 : decode cX9_on 234 = .ok (.if_icmp .ge 8, 3) := by decide +kernel
theorem dX9_on_237 : decode cX9_on 237 = .ok (.iload 8, 2) := by decide +kernel
theorem dX9_on_239 : decode cX9_on 239 = .ok (.goto 5, 3) := by decide +kernel
theorem dX9_on_242 : decode cX9_on 242 = .ok (.iload 6, 2) := by decide +kernel
theorem dX9_on_244 : decode cX9_on 244 = .ok (.ireturn, 1) := by decide +kernel
theorem dX9_plate_0 : decode cX9_plate 0 = .ok (.iload_n 1, 1) := by decide +kernel
theorem dX9_plate_1 : decode cX9_plate 1 = .ok (.iconst 0, 1) := by decide +kernel
theorem dX9_plate_2 : decode cX9_plate 2 = .ok (.sipush 999, 3) := by decide +kernel
theorem dX9_plate_5 : decode cX9_plate 5 = .ok (.invokestatic 66, 3) := by decide +kernel
theorem dX9_plate_8 : decode cX9_plate 8 = .ok (.ifCond .ne 5, 3) := by decide +kernel
theorem dX9_plate_11 : decode cX9_plate 11 = .ok (.iconst (-1), 1) := by decide +kernel
theorem dX9_plate_12 : decode cX9_plate 12 = .ok (.ireturn, 1) := by decide +kernel
theorem dX9_plate_13 : decode cX9_plate 13 = .ok (.aload_n 0, 1) := by decide +kernel
theorem dX9_plate_14 : decode cX9_plate 14 = .ok (.getfield 137, 3) := by decide +kernel
theorem dX9_plate_17 : decode cX9_plate 17 = .ok (.istore_n 2, 1) := by decide +kernel
theorem dX9_plate_18 : decode cX9_plate 18 = .ok (.aload_n 0, 1) := by decide +kernel
theorem dX9_plate_19 : decode cX9_plate 19 = .ok (.invokevirtual 205, 3) := by decide +kernel
theorem dX9_plate_22 : decode cX9_plate 22 = .ok (.istore_n 3, 1) := by decide +kernel
theorem dX9_plate_23 : decode cX9_plate 23 = .ok (.iconst 0, 1) := by decide +kernel
theorem dX9_plate_24 : decode cX9_plate 24 = .ok (.istore 4, 2) := by decide +kernel
theorem dX9_plate_26 : decode cX9_plate 26 = .ok (.iload 4, 2) := by decide +kernel
theorem dX9_plate_28 : decode cX9_plate 28 = .ok (.aload_n 0, 1) := by decide +kernel
theorem dX9_plate_29 : decode cX9_plate 29 = .ok (.getfield 134, 3) := by decide +kernel
theorem dX9_plate_32 : decode cX9_plate 32 = .ok (.if_icmp .ge 41, 3) := by decide +kernel
theorem dX9_plate_35 : decode cX9_plate 35 = .ok (.iload_n 3, 1) := by decide +kernel
theorem dX9_plate_36 : decode cX9_plate 36 = .ok (.iload 4, 2) := by decide +kernel
theorem dX9_plate_38 : decode cX9_plate 38 = .ok (.invokestatic 112, 3) := by decide +kernel
theorem dX9_plate_41 : decode cX9_plate 41 = .ok (.ifCond .eq 24, 3) := by decide +kernel
theorem dX9_plate_44 : decode cX9_plate 44 = .ok (.aload_n 0, 1) := by decide +kernel
theorem dX9_plate_45 : decode cX9_plate 45 = .ok (.getfield 28, 3) := by decide +kernel
theorem dX9_plate_48 : decode cX9_plate 48 = .ok (.iload 4, 2) := by decide +kernel
theorem dX9_plate_50 : decode cX9_plate 50 = .ok (.iaload, 1) := by decide +kernel
theorem dX9_plate_51 : decode cX9_plate 51 = .ok (.iload_n 1, 1) := by decide +kernel
theorem dX9_plate_52 : decode cX9_plate 52 = .ok (.if_icmp .gt 13, 3) := by decide +kernel
theorem dX9_plate_55 : decode cX9_plate 55 = .ok (.aload_n 0, 1) := by decide +kernel
theorem dX9_plate_56 : decode cX9_plate 56 = .ok (.getfield 34, 3) := by decide +kernel
theorem dX9_plate_59 : decode cX9_plate 59 = .ok (.iload 4, 2) := by decide +kernel
theorem dX9_plate_61 : decode cX9_plate 61 = .ok (.iaload, 1) := by decide +kernel
theorem dX9_plate_62 : decode cX9_plate 62 = .ok (.goto 4, 3) := by decide +kernel
theorem dX9_plate_65 : decode cX9_plate 65 = .ok (.iload_n 2, 1) := by decide +kernel
theorem dX9_plate_66 : decode cX9_plate 66 = .ok (.istore_n 2, 1) := by decide +kernel
theorem dX9_plate_67 : decode cX9_plate 67 = .ok (.iinc 4 1, 3) := by decide +kernel
theorem dX9_plate_70 : decode cX9_plate 70 = .ok (.goto (-44), 3) := by decide +kernel
theorem dX9_plate_73 : decode cX9_plate 73 = .ok (.iload_n 2, 1) := by decide +kernel
theorem dX9_plate_74 : decode cX9_plate 74 = .ok (.ireturn, 1) := by decide +kernel
theorem dX9_odds_0 : decode cX9_odds 0 = .ok (.iload_n 1, 1) := by decide +kernel
theorem dX9_odds_1 : decode cX9_odds 1 = .ok (.iconst 0, 1) := by decide +kernel
theorem dX9_odds_2 : decode cX9_odds 2 = .ok (.bipush 10, 2) := by decide +kernel
theorem dX9_odds_4 : decode cX9_odds 4 = .ok (.invokestatic 66, 3) := by decide +kernel
theorem dX9_odds_7 : decode cX9_odds 7 = .ok (.ifCond .eq 23, 3) := by decide +kernel
theorem dX9_odds_10 : decode cX9_odds 10 = .ok (.iload_n 2, 1) := by decide +kernel
theorem dX9_odds_11 : decode cX9_odds 11 = .ok (.iconst 0, 1) := by decide +kernel
theorem dX9_odds_12 : decode cX9_odds 12 = .ok (.sipush 180, 3) := by decide +kernel
theorem dX9_odds_15 : decode cX9_odds 15 = .ok (.invokestatic 66, 3) := by decide +kernel
theorem dX9_odds_18 : decode cX9_odds 18 = .ok (.ifCond .eq 12, 3) := by decide +kernel
theorem dX9_odds_21 : decode cX9_odds 21 = .ok (.iload_n 3, 1) := by decide +kernel
theorem dX9_odds_22 : decode cX9_odds 22 = .ok (.iconst 0, 1) := by decide +kernel
theorem dX9_odds_23 : decode cX9_odds 23 = .ok (.iconst 1, 1) := by decide +kernel
theorem dX9_odds_24 : decode cX9_odds 24 = .ok (.invokestatic 66, 3) := by decide +kernel
theorem dX9_odds_27 : decode cX9_odds 27 = .ok (.ifCond .ne 7, 3) := by decide +kernel
theorem dX9_odds_30 : decode cX9_odds 30 = .ok (.ldc2_w 224, 3) := by decide +kernel
theorem dX9_odds_33 : decode cX9_odds 33 = .ok (.lreturn, 1) := by decide +kernel
theorem dX9_odds_34 : decode cX9_odds 34 = .ok (.aload_n 0, 1) := by decide +kernel
theorem dX9_odds_35 : decode cX9_odds 35 = .ok (.invokevirtual 193, 3) := by decide +kernel
theorem dX9_odds_38 : decode cX9_odds 38 = .ok (.aload_n 0, 1) := by decide +kernel
theorem dX9_odds_39 : decode cX9_odds 39 = .ok (.getfield 25, 3) := by decide +kernel
theorem dX9_odds_42 : decode cX9_odds 42 = .ok (.iconst 0, 1) := by decide +kernel
theorem dX9_odds_43 : decode cX9_odds 43 = .ok (.iaload, 1) := by decide +kernel
theorem dX9_odds_44 : decode cX9_odds 44 = .ok (.istore 4, 2) := by decide +kernel
theorem dX9_odds_46 : decode cX9_odds 46 = .ok (.lconst 1, 1) := by decide +kernel
theorem dX9_odds_47 : decode cX9_odds 47 = .ok (.lstore 5, 2) := by decide +kernel
theorem dX9_odds_49 : decode cX9_odds 49 = .ok (.iconst 0, 1) := by decide +kernel
theorem dX9_odds_50 : decode cX9_odds 50 = .ok (.istore 7, 2) := by decide +kernel
theorem dX9_odds_52 : decode cX9_odds 52 = .ok (.iload 7, 2) := by decide +kernel
theorem dX9_odds_54 : decode cX9_odds 54 = .ok (.iload 4, 2) := by decide +kernel
theorem dX9_odds_56 : decode cX9_odds 56 = .ok (.if_icmp .ge 17, 3) := by decide +kernel
theorem dX9_odds_59 : decode cX9_odds 59 = .ok (.lload 5, 2) := by decide +kernel
theorem dX9_odds_61 : decode cX9_odds 61 = .ok (.ldc2_w 226, 3) := by decide +kernel
theorem dX9_odds_64 : decode cX9_odds 64 = .ok (.lmul, 1) := by decide +kernel
theorem dX9_odds_65 : decode cX9_odds 65 = .ok (.lstore 5, 2) := by decide +kernel
theorem dX9_odds_67 : decode cX9_odds 67 = .ok (.iinc 7 1, 3) := by decide +kernel
theorem dX9_odds_70 : decode cX9_odds 70 = .ok (.goto (-18), 3) := by decide +kernel
theorem dX9_odds_73 : decode cX9_odds 73 = .ok (.lconst 0, 1) := by decide +kernel
theorem dX9_odds_74 : decode cX9_odds 74 = .ok (.lstore 7, 2) := by decide +kernel
theorem dX9_odds_76 : decode cX9_odds 76 = .ok (.iconst 0, 1) := by decide +kernel
theorem dX9_odds_77 : decode cX9_odds 77 = .ok (.istore 9, 2) := by decide +kernel
theorem dX9_odds_79 : decode cX9_odds 79 = .ok (.iload 9, 2) := by decide +kernel
theorem dX9_odds_81 : decode cX9_odds 81 = .ok (.iconst 1, 1) := by decide +kernel
theorem dX9_odds_82 : decode cX9_odds 82 = .ok (.iload 4, 2) := by decide +kernel
theorem dX9_odds_84 : decode cX9_odds 84 = .ok (.ishl, 1) := by decide +kernel
theorem dX9_odds_85 : decode cX9_odds 85 = .ok (.if_icmp .ge 71, 3) := by decide +kernel
theorem dX9_odds_88 : decode cX9_odds 88 = .ok (.aload_n 0, 1) := by decide +kernel
theorem dX9_odds_89 : decode cX9_odds 89 = .ok (.getfield 47, 3) := by decide +kernel
theorem dX9_odds_92 : decode cX9_odds 92 = .ok (.iload 9, 2) := by decide +kernel
theorem dX9_odds_94 : decode cX9_odds 94 = .ok (.iaload, 1) := by decide +kernel
theorem dX9_odds_95 : decode cX9_odds 95 = .ok (.iload_n 2, 1) := by decide +kernel
theorem dX9_odds_96 : decode cX9_odds 96 = .ok (.if_icmp .lt 54, 3) := by decide +kernel
theorem dX9_odds_99 : decode cX9_odds 99 = .ok (.lconst 1, 1) := by decide +kernel
theorem dX9_odds_100 : decode cX9_odds 100 = .ok (.lstore 10, 2) := by decide +kernel
theorem dX9_odds_102 : decode cX9_odds 102 = .ok (.iconst 0, 1) := by decide +kernel
theorem dX9_odds_103 : decode cX9_odds 103 = .ok (.istore 12, 2) := by decide +kernel
theorem dX9_odds_105 : decode cX9_odds 105 = .ok (.iload 12, 2) := by decide +kernel
theorem dX9_odds_107 : decode cX9_odds 107 = .ok (.iload 4, 2) := by decide +kernel
theorem dX9_odds_109 : decode cX9_odds 109 = .ok (.if_icmp .ge 34, 3) := by decide +kernel
theorem dX9_odds_112 : decode cX9_odds 112 = .ok (.lload 10, 2) := by decide +kernel
theorem dX9_odds_114 : decode cX9_odds 114 = .ok (.iload 9, 2) := by decide +kernel
theorem dX9_odds_116 : decode cX9_odds 116 = .ok (.iload 12, 2) := by decide +kernel
theorem dX9_odds_118 : decode cX9_odds 118 = .ok (.invokestatic 112, 3) := by decide +kernel
theorem dX9_odds_121 : decode cX9_odds 121 = .ok (.ifCond .eq 11, 3) := by decide +kernel
theorem dX9_odds_124 : decode cX9_odds 124 = .ok (.bipush 10, 2) := by decide +kernel
theorem dX9_odds_126 : decode cX9_odds 126 = .ok (.iload_n 1, 1) := by decide +kernel
theorem dX9_odds_127 : decode cX9_odds 127 = .ok (.isub, 1) := by decide +kernel
theorem dX9_odds_128 : decode cX9_odds 128 = .ok (.i2l, 1) := by decide +kernel
theorem dX9_odds_129 : decode cX9_odds 129 = .ok (.goto 5, 3) := by decide +kernel
theorem dX9_odds_132 : decode cX9_odds 132 = .ok (.iload_n 1, 1) := by decide +kernel
theorem dX9_odds_133 : decode cX9_odds 133 = .ok (.i2l, 1) := by decide +kernel
theorem dX9_odds_134 : decode cX9_odds 134 = .ok (.lmul, 1) := by decide +kernel
theorem dX9_odds_135 : decode cX9_odds 135 = .ok (.lstore 10, 2) := by decide +kernel
theorem dX9_odds_137 : decode cX9_odds 137 = .ok (.iinc 12 1, 3) := by decide +kernel
theorem dX9_odds_140 : decode cX9_odds 140 = .ok (.goto (-35), 3) := by decide +kernel
theorem dX9_odds_143 : decode cX9_odds 143 = .ok (.lload 7, 2) := by decide +kernel
theorem dX9_odds_145 : decode cX9_odds 145 = .ok (.lload 10, 2) := by decide +kernel
theorem dX9_odds_147 : decode cX9_odds 147 = .ok (.ladd, 1) := by decide +kernel
theorem dX9_odds_148 : decode cX9_odds 148 = .ok (.lstore 7, 2) := by decide +kernel
theorem dX9_odds_150 : decode cX9_odds 150 = .ok (.iinc 9 1, 3) := by decide +kernel
theorem dX9_odds_153 : decode cX9_odds 153 = .ok (.goto (-74), 3) := by decide +kernel
theorem dX9_odds_156 : decode cX9_odds 156 = .ok (.lload 7, 2) := by decide +kernel
theorem dX9_odds_158 : decode cX9_odds 158 = .ok (.lstore 9, 2) := by decide +kernel
theorem dX9_odds_160 : decode cX9_odds 160 = .ok (.lload 5, 2) := by decide +kernel
theorem dX9_odds_162 : decode cX9_odds 162 = .ok (.lstore 11, 2) := by decide +kernel
theorem dX9_odds_164 : decode cX9_odds 164 = .ok (.lload 11, 2) := by decide +kernel
theorem dX9_odds_166 : decode cX9_odds 166 = .ok (.lconst 0, 1) := by decide +kernel
theorem dX9_odds_167 : decode cX9_odds 167 = .ok (.lcmp, 1) := by decide +kernel
theorem dX9_odds_168 : decode cX9_odds 168 = .ok (.ifCond .eq 21, 3) := by decide +kernel
theorem dX9_odds_171 : decode cX9_odds 171 = .ok (.lload 9, 2) := by decide +kernel
theorem dX9_odds_173 : decode cX9_odds 173 = .ok (.lload 11, 2) := by decide +kernel
theorem dX9_odds_175 : decode cX9_odds 175 = .ok (.lrem, 1) := by decide +kernel
theorem dX9_odds_176 : decode cX9_odds 176 = .ok (.lstore 13, 2) := by decide +kernel
theorem dX9_odds_178 : decode cX9_odds 178 = .ok (.lload 11, 2) := by decide +kernel
theorem dX9_odds_180 : decode cX9_odds 180 = .ok (.lstore 9, 2) := by decide +kernel
theorem dX9_odds_182 : decode cX9_odds 182 = .ok (.lload 13, 2) := by decide +kernel
theorem dX9_odds_184 : decode cX9_odds 184 = .ok (.lstore 11, 2) := by decide +kernel
theorem dX9_odds_186 : decode cX9_odds 186 = .ok (.goto (-22), 3) := by decide +kernel
theorem dX9_odds_189 : decode cX9_odds 189 = .ok (.iload_n 3, 1) := by decide +kernel
theorem dX9_odds_190 : decode cX9_odds 190 = .ok (.ifCond .ne 11, 3) := by decide +kernel
theorem dX9_odds_193 : decode cX9_odds 193 = .ok (.lload 7, 2) := by decide +kernel
theorem dX9_odds_195 : decode cX9_odds 195 = .ok (.lload 9, 2) := by decide +kernel
theorem dX9_odds_197 : decode cX9_odds 197 = .ok (.ldiv, 1) := by decide +kernel
theorem dX9_odds_198 : decode cX9_odds 198 = .ok (.goto 8, 3) := by decide +kernel
theorem dX9_odds_201 : decode cX9_odds 201 = .ok (.lload 5, 2) := by decide +kernel
theorem dX9_odds_203 : decode cX9_odds 203 = .ok (.lload 9, 2) := by decide +kernel
theorem dX9_odds_205 : decode cX9_odds 205 = .ok (.ldiv, 1) := by decide +kernel
theorem dX9_odds_206 : decode cX9_odds 206 = .ok (.lreturn, 1) := by decide +kernel
theorem dX9_keep_0 : decode cX9_keep 0 = .ok (.iload_n 1, 1) := by decide +kernel
theorem dX9_keep_1 : decode cX9_keep 1 = .ok (.iconst 0, 1) := by decide +kernel
theorem dX9_keep_2 : decode cX9_keep 2 = .ok (.iconst 1, 1) := by decide +kernel
theorem dX9_keep_3 : decode cX9_keep 3 = .ok (.invokestatic 66, 3) := by decide +kernel
theorem dX9_keep_6 : decode cX9_keep 6 = .ok (.ifCond .ne 5, 3) := by decide +kernel
theorem dX9_keep_9 : decode cX9_keep 9 = .ok (.iconst (-1), 1) := by decide +kernel
theorem dX9_keep_10 : decode cX9_keep 10 = .ok (.ireturn, 1) := by decide +kernel
theorem dX9_keep_11 : decode cX9_keep 11 = .ok (.aload_n 0, 1) := by decide +kernel
theorem dX9_keep_12 : decode cX9_keep 12 = .ok (.getfield 40, 3) := by decide +kernel
theorem dX9_keep_15 : decode cX9_keep 15 = .ok (.iload_n 1, 1) := by decide +kernel
theorem dX9_keep_16 : decode cX9_keep 16 = .ok (.iconst 1, 1) := by decide +kernel
theorem dX9_keep_17 : decode cX9_keep 17 = .ok (.bastore, 1) := by decide +kernel
theorem dX9_keep_18 : decode cX9_keep 18 = .ok (.iconst 0, 1) := by decide +kernel
theorem dX9_keep_19 : decode cX9_keep 19 = .ok (.istore_n 2, 1) := by decide +kernel
theorem dX9_keep_20 : decode cX9_keep 20 = .ok (.iload_n 2, 1) := by decide +kernel
theorem dX9_keep_21 : decode cX9_keep 21 = .ok (.bipush 33, 2) := by decide +kernel
theorem dX9_keep_23 : decode cX9_keep 23 = .ok (.if_icmp .ge 26, 3) := by decide +kernel
theorem dX9_keep_26 : decode cX9_keep 26 = .ok (.aload_n 0, 1) := by decide +kernel
theorem dX9_keep_27 : decode cX9_keep 27 = .ok (.getfield 44, 3) := by decide +kernel
theorem dX9_keep_30 : decode cX9_keep 30 = .ok (.bipush 33, 2) := by decide +kernel
theorem dX9_keep_32 : decode cX9_keep 32 = .ok (.iload_n 1, 1) := by decide +kernel
theorem dX9_keep_33 : decode cX9_keep 33 = .ok (.imul, 1) := by decide +kernel
theorem dX9_keep_34 : decode cX9_keep 34 = .ok (.iload_n 2, 1) := by decide +kernel
theorem dX9_keep_35 : decode cX9_keep 35 = .ok (.iadd, 1) := by decide +kernel
theorem dX9_keep_36 : decode cX9_keep 36 = .ok (.aload_n 0, 1) := by decide +kernel
theorem dX9_keep_37 : decode cX9_keep 37 = .ok (.getfield 25, 3) := by decide +kernel
theorem dX9_keep_40 : decode cX9_keep 40 = .ok (.iload_n 2, 1) := by decide +kernel
theorem dX9_keep_41 : decode cX9_keep 41 = .ok (.iaload, 1) := by decide +kernel
theorem dX9_keep_42 : decode cX9_keep 42 = .ok (.iastore, 1) := by decide +kernel
theorem dX9_keep_43 : decode cX9_keep 43 = .ok (.iinc 2 1, 3) := by decide +kernel
theorem dX9_keep_46 : decode cX9_keep 46 = .ok (.goto (-26), 3) := by decide +kernel
theorem dX9_keep_49 : decode cX9_keep 49 = .ok (.aload_n 0, 1) := by decide +kernel
theorem dX9_keep_50 : decode cX9_keep 50 = .ok (.getfield 25, 3) := by decide +kernel
theorem dX9_keep_53 : decode cX9_keep 53 = .ok (.iconst 0, 1) := by decide +kernel
theorem dX9_keep_54 : decode cX9_keep 54 = .ok (.iaload, 1) := by decide +kernel
theorem dX9_keep_55 : decode cX9_keep 55 = .ok (.ireturn, 1) := by decide +kernel
theorem dX9_back_0 : decode cX9_back 0 = .ok (.iload_n 1, 1) := by decide +kernel
theorem dX9_back_1 : decode cX9_back 1 = .ok (.iconst 0, 1) := by decide +kernel
theorem dX9_back_2 : decode cX9_back 2 = .ok (.iconst 1, 1) := by decide +kernel
theorem dX9_back_3 : decode cX9_back 3 = .ok (.invokestatic 66, 3) := by decide +kernel
theorem dX9_back_6 : decode cX9_back 6 = .ok (.ifCond .ne 5, 3) := by decide +kernel
theorem dX9_back_9 : decode cX9_back 9 = .ok (.iconst (-1), 1) := by decide +kernel
theorem dX9_back_10 : decode cX9_back 10 = .ok (.ireturn, 1) := by decide +kernel
theorem dX9_back_11 : decode cX9_back 11 = .ok (.aload_n 0, 1) := by decide +kernel
theorem dX9_back_12 : decode cX9_back 12 = .ok (.getfield 40, 3) := by decide +kernel
theorem dX9_back_15 : decode cX9_back 15 = .ok (.iload_n 1, 1) := by decide +kernel
theorem dX9_back_16 : decode cX9_back 16 = .ok (.baload, 1) := by decide +kernel
theorem dX9_back_17 : decode cX9_back 17 = .ok (.ifCond .ne 6, 3) := by decide +kernel
theorem dX9_back_20 : decode cX9_back 20 = .ok (.bipush (-2), 2) := by decide +kernel
theorem dX9_back_22 : decode cX9_back 22 = .ok (.ireturn, 1) := by decide +kernel
theorem dX9_back_23 : decode cX9_back 23 = .ok (.iconst 0, 1) := by decide +kernel
theorem dX9_back_24 : decode cX9_back 24 = .ok (.istore_n 2, 1) := by decide +kernel
theorem dX9_back_25 : decode cX9_back 25 = .ok (.iload_n 2, 1) := by decide +kernel
theorem dX9_back_26 : decode cX9_back 26 = .ok (.bipush 33, 2) := by decide +kernel
theorem dX9_back_28 : decode cX9_back 28 = .ok (.if_icmp .ge 26, 3) := by decide +kernel
theorem dX9_back_31 : decode cX9_back 31 = .ok (.aload_n 0, 1) := by decide +kernel
theorem dX9_back_32 : decode cX9_back 32 = .ok (.getfield 25, 3) := by decide +kernel
theorem dX9_back_35 : decode cX9_back 35 = .ok (.iload_n 2, 1) := by decide +kernel
theorem dX9_back_36 : decode cX9_back 36 = .ok (.aload_n 0, 1) := by decide +kernel
theorem dX9_back_37 : decode cX9_back 37 = .ok (.getfield 44, 3) := by decide +kernel
theorem dX9_back_40 : decode cX9_back 40 = .ok (.bipush 33, 2) := by decide +kernel
theorem dX9_back_42 : decode cX9_back 42 = .ok (.iload_n 1, 1) := by decide +kernel
theorem dX9_back_43 : decode cX9_back 43 = .ok (.imul, 1) := by decide +kernel
theorem dX9_back_44 : decode cX9_back 44 = .ok (.iload_n 2, 1) := by decide +kernel
theorem dX9_back_45 : decode cX9_back 45 = .ok (.iadd, 1) := by decide +kernel
theorem dX9_back_46 : decode cX9_back 46 = .ok (.iaload, 1) := by decide +kernel
theorem dX9_back_47 : decode cX9_back 47 = .ok (.iastore, 1) := by decide +kernel
theorem dX9_back_48 : decode cX9_back 48 = .ok (.iinc 2 1, 3) := by decide +kernel
theorem dX9_back_51 : decode cX9_back 51 = .ok (.goto (-26), 3) := by decide +kernel
theorem dX9_back_54 : decode cX9_back 54 = .ok (.aload_n 0, 1) := by decide +kernel
theorem dX9_back_55 : decode cX9_back 55 = .ok (.iconst 0, 1) := by decide +kernel
theorem dX9_back_56 : decode cX9_back 56 = .ok (.putfield 140, 3) := by decide +kernel
theorem dX9_back_59 : decode cX9_back 59 = .ok (.aload_n 0, 1) := by decide +kernel
theorem dX9_back_60 : decode cX9_back 60 = .ok (.iconst 0, 1) := by decide +kernel
theorem dX9_back_61 : decode cX9_back 61 = .ok (.putfield 143, 3) := by decide +kernel
theorem dX9_back_64 : decode cX9_back 64 = .ok (.aload_n 0, 1) := by decide +kernel
theorem dX9_back_65 : decode cX9_back 65 = .ok (.getfield 25, 3) := by decide +kernel
theorem dX9_back_68 : decode cX9_back 68 = .ok (.iconst 0, 1) := by decide +kernel
theorem dX9_back_69 : decode cX9_back 69 = .ok (.iaload, 1) := by decide +kernel
theorem dX9_back_70 : decode cX9_back 70 = .ok (.ireturn, 1) := by decide +kernel
theorem dX9_count_0 : decode cX9_count 0 = .ok (.iload_n 1, 1) := by decide +kernel
theorem dX9_count_1 : decode cX9_count 1 = .ok (.tableswitch 75 0 5 #[39, 46, 51, 58, 65, 70], 39) := by decide +kernel
theorem dX9_count_40 : decode cX9_count 40 = .ok (.aload_n 0, 1) := by decide +kernel
theorem dX9_count_41 : decode cX9_count 41 = .ok (.getfield 25, 3) := by decide +kernel
theorem dX9_count_44 : decode cX9_count 44 = .ok (.iconst 0, 1) := by decide +kernel
theorem dX9_count_45 : decode cX9_count 45 = .ok (.iaload, 1) := by decide +kernel
theorem dX9_count_46 : decode cX9_count 46 = .ok (.ireturn, 1) := by decide +kernel
theorem dX9_count_47 : decode cX9_count 47 = .ok (.aload_n 0, 1) := by decide +kernel
theorem dX9_count_48 : decode cX9_count 48 = .ok (.getfield 134, 3) := by decide +kernel
theorem dX9_count_51 : decode cX9_count 51 = .ok (.ireturn, 1) := by decide +kernel
theorem dX9_count_52 : decode cX9_count 52 = .ok (.aload_n 0, 1) := by decide +kernel
theorem dX9_count_53 : decode cX9_count 53 = .ok (.getfield 25, 3) := by decide +kernel
theorem dX9_count_56 : decode cX9_count 56 = .ok (.iconst 1, 1) := by decide +kernel
theorem dX9_count_57 : decode cX9_count 57 = .ok (.iaload, 1) := by decide +kernel
theorem dX9_count_58 : decode cX9_count 58 = .ok (.ireturn, 1) := by decide +kernel
theorem dX9_count_59 : decode cX9_count 59 = .ok (.aload_n 0, 1) := by decide +kernel
theorem dX9_count_60 : decode cX9_count 60 = .ok (.getfield 25, 3) := by decide +kernel
theorem dX9_count_63 : decode cX9_count 63 = .ok (.iconst 2, 1) := by decide +kernel
theorem dX9_count_64 : decode cX9_count 64 = .ok (.iaload, 1) := by decide +kernel
theorem dX9_count_65 : decode cX9_count 65 = .ok (.ireturn, 1) := by decide +kernel
theorem dX9_count_66 : decode cX9_count 66 = .ok (.aload_n 0, 1) := by decide +kernel
theorem dX9_count_67 : decode cX9_count 67 = .ok (.getfield 137, 3) := by decide +kernel
theorem dX9_count_70 : decode cX9_count 70 = .ok (.ireturn, 1) := by decide +kernel
theorem dX9_count_71 : decode cX9_count 71 = .ok (.aload_n 0, 1) := by decide +kernel
theorem dX9_count_72 : decode cX9_count 72 = .ok (.getfield 70, 3) := by decide +kernel
theorem dX9_count_75 : decode cX9_count 75 = .ok (.ireturn, 1) := by decide +kernel
theorem dX9_count_76 : decode cX9_count 76 = .ok (.iconst (-1), 1) := by decide +kernel
theorem dX9_count_77 : decode cX9_count 77 = .ok (.ireturn, 1) := by decide +kernel
theorem dJ6_numberOfTrailingZeros_0f7a4_0 : decode cJ6_numberOfTrailingZeros_0f7a4 0 = .ok (.iload_n 0, 1) := by decide +kernel
theorem dJ6_numberOfTrailingZeros_0f7a4_1 : decode cJ6_numberOfTrailingZeros_0f7a4 1 = .ok (.iconst (-1), 1) := by decide +kernel
theorem dJ6_numberOfTrailingZeros_0f7a4_2 : decode cJ6_numberOfTrailingZeros_0f7a4 2 = .ok (.ixor, 1) := by decide +kernel
theorem dJ6_numberOfTrailingZeros_0f7a4_3 : decode cJ6_numberOfTrailingZeros_0f7a4 3 = .ok (.iload_n 0, 1) := by decide +kernel
theorem dJ6_numberOfTrailingZeros_0f7a4_4 : decode cJ6_numberOfTrailingZeros_0f7a4 4 = .ok (.iconst 1, 1) := by decide +kernel
theorem dJ6_numberOfTrailingZeros_0f7a4_5 : decode cJ6_numberOfTrailingZeros_0f7a4 5 = .ok (.isub, 1) := by decide +kernel
theorem dJ6_numberOfTrailingZeros_0f7a4_6 : decode cJ6_numberOfTrailingZeros_0f7a4 6 = .ok (.iand, 1) := by decide +kernel
theorem dJ6_numberOfTrailingZeros_0f7a4_7 : decode cJ6_numberOfTrailingZeros_0f7a4 7 = .ok (.istore_n 0, 1) := by decide +kernel
theorem dJ6_numberOfTrailingZeros_0f7a4_8 : decode cJ6_numberOfTrailingZeros_0f7a4 8 = .ok (.iload_n 0, 1) := by decide +kernel
theorem dJ6_numberOfTrailingZeros_0f7a4_9 : decode cJ6_numberOfTrailingZeros_0f7a4 9 = .ok (.ifCond .gt 8, 3) := by decide +kernel
theorem dJ6_numberOfTrailingZeros_0f7a4_12 : decode cJ6_numberOfTrailingZeros_0f7a4 12 = .ok (.iload_n 0, 1) := by decide +kernel
theorem dJ6_numberOfTrailingZeros_0f7a4_13 : decode cJ6_numberOfTrailingZeros_0f7a4 13 = .ok (.bipush 32, 2) := by decide +kernel
theorem dJ6_numberOfTrailingZeros_0f7a4_15 : decode cJ6_numberOfTrailingZeros_0f7a4 15 = .ok (.iand, 1) := by decide +kernel
theorem dJ6_numberOfTrailingZeros_0f7a4_16 : decode cJ6_numberOfTrailingZeros_0f7a4 16 = .ok (.ireturn, 1) := by decide +kernel
theorem dJ6_numberOfTrailingZeros_0f7a4_17 : decode cJ6_numberOfTrailingZeros_0f7a4 17 = .ok (.iconst 1, 1) := by decide +kernel
theorem dJ6_numberOfTrailingZeros_0f7a4_18 : decode cJ6_numberOfTrailingZeros_0f7a4 18 = .ok (.istore_n 1, 1) := by decide +kernel
theorem dJ6_numberOfTrailingZeros_0f7a4_19 : decode cJ6_numberOfTrailingZeros_0f7a4 19 = .ok (.iload_n 0, 1) := by decide +kernel
theorem dJ6_numberOfTrailingZeros_0f7a4_20 : decode cJ6_numberOfTrailingZeros_0f7a4 20 = .ok (.ldc_w 264, 3) := by decide +kernel
theorem dJ6_numberOfTrailingZeros_0f7a4_23 : decode cJ6_numberOfTrailingZeros_0f7a4 23 = .ok (.if_icmp .le 11, 3) := by decide +kernel
theorem dJ6_numberOfTrailingZeros_0f7a4_26 : decode cJ6_numberOfTrailingZeros_0f7a4 26 = .ok (.iinc 1 16, 3) := by decide +kernel
theorem dJ6_numberOfTrailingZeros_0f7a4_29 : decode cJ6_numberOfTrailingZeros_0f7a4 29 = .ok (.iload_n 0, 1) := by decide +kernel
theorem dJ6_numberOfTrailingZeros_0f7a4_30 : decode cJ6_numberOfTrailingZeros_0f7a4 30 = .ok (.bipush 16, 2) := by decide +kernel
theorem dJ6_numberOfTrailingZeros_0f7a4_32 : decode cJ6_numberOfTrailingZeros_0f7a4 32 = .ok (.iushr, 1) := by decide +kernel
theorem dJ6_numberOfTrailingZeros_0f7a4_33 : decode cJ6_numberOfTrailingZeros_0f7a4 33 = .ok (.istore_n 0, 1) := by decide +kernel
theorem dJ6_numberOfTrailingZeros_0f7a4_34 : decode cJ6_numberOfTrailingZeros_0f7a4 34 = .ok (.iload_n 0, 1) := by decide +kernel
theorem dJ6_numberOfTrailingZeros_0f7a4_35 : decode cJ6_numberOfTrailingZeros_0f7a4 35 = .ok (.sipush 256, 3) := by decide +kernel
theorem dJ6_numberOfTrailingZeros_0f7a4_38 : decode cJ6_numberOfTrailingZeros_0f7a4 38 = .ok (.if_icmp .le 11, 3) := by decide +kernel
theorem dJ6_numberOfTrailingZeros_0f7a4_41 : decode cJ6_numberOfTrailingZeros_0f7a4 41 = .ok (.iinc 1 8, 3) := by decide +kernel
theorem dJ6_numberOfTrailingZeros_0f7a4_44 : decode cJ6_numberOfTrailingZeros_0f7a4 44 = .ok (.iload_n 0, 1) := by decide +kernel
theorem dJ6_numberOfTrailingZeros_0f7a4_45 : decode cJ6_numberOfTrailingZeros_0f7a4 45 = .ok (.bipush 8, 2) := by decide +kernel
theorem dJ6_numberOfTrailingZeros_0f7a4_47 : decode cJ6_numberOfTrailingZeros_0f7a4 47 = .ok (.iushr, 1) := by decide +kernel
theorem dJ6_numberOfTrailingZeros_0f7a4_48 : decode cJ6_numberOfTrailingZeros_0f7a4 48 = .ok (.istore_n 0, 1) := by decide +kernel
theorem dJ6_numberOfTrailingZeros_0f7a4_49 : decode cJ6_numberOfTrailingZeros_0f7a4 49 = .ok (.iload_n 0, 1) := by decide +kernel
theorem dJ6_numberOfTrailingZeros_0f7a4_50 : decode cJ6_numberOfTrailingZeros_0f7a4 50 = .ok (.bipush 16, 2) := by decide +kernel
theorem dJ6_numberOfTrailingZeros_0f7a4_52 : decode cJ6_numberOfTrailingZeros_0f7a4 52 = .ok (.if_icmp .le 10, 3) := by decide +kernel
theorem dJ6_numberOfTrailingZeros_0f7a4_55 : decode cJ6_numberOfTrailingZeros_0f7a4 55 = .ok (.iinc 1 4, 3) := by decide +kernel
theorem dJ6_numberOfTrailingZeros_0f7a4_58 : decode cJ6_numberOfTrailingZeros_0f7a4 58 = .ok (.iload_n 0, 1) := by decide +kernel
theorem dJ6_numberOfTrailingZeros_0f7a4_59 : decode cJ6_numberOfTrailingZeros_0f7a4 59 = .ok (.iconst 4, 1) := by decide +kernel
theorem dJ6_numberOfTrailingZeros_0f7a4_60 : decode cJ6_numberOfTrailingZeros_0f7a4 60 = .ok (.iushr, 1) := by decide +kernel
theorem dJ6_numberOfTrailingZeros_0f7a4_61 : decode cJ6_numberOfTrailingZeros_0f7a4 61 = .ok (.istore_n 0, 1) := by decide +kernel
theorem dJ6_numberOfTrailingZeros_0f7a4_62 : decode cJ6_numberOfTrailingZeros_0f7a4 62 = .ok (.iload_n 0, 1) := by decide +kernel
theorem dJ6_numberOfTrailingZeros_0f7a4_63 : decode cJ6_numberOfTrailingZeros_0f7a4 63 = .ok (.iconst 4, 1) := by decide +kernel
theorem dJ6_numberOfTrailingZeros_0f7a4_64 : decode cJ6_numberOfTrailingZeros_0f7a4 64 = .ok (.if_icmp .le 10, 3) := by decide +kernel
theorem dJ6_numberOfTrailingZeros_0f7a4_67 : decode cJ6_numberOfTrailingZeros_0f7a4 67 = .ok (.iinc 1 2, 3) := by decide +kernel
theorem dJ6_numberOfTrailingZeros_0f7a4_70 : decode cJ6_numberOfTrailingZeros_0f7a4 70 = .ok (.iload_n 0, 1) := by decide +kernel
theorem dJ6_numberOfTrailingZeros_0f7a4_71 : decode cJ6_numberOfTrailingZeros_0f7a4 71 = .ok (.iconst 2, 1) := by decide +kernel
theorem dJ6_numberOfTrailingZeros_0f7a4_72 : decode cJ6_numberOfTrailingZeros_0f7a4 72 = .ok (.iushr, 1) := by decide +kernel
theorem dJ6_numberOfTrailingZeros_0f7a4_73 : decode cJ6_numberOfTrailingZeros_0f7a4 73 = .ok (.istore_n 0, 1) := by decide +kernel
theorem dJ6_numberOfTrailingZeros_0f7a4_74 : decode cJ6_numberOfTrailingZeros_0f7a4 74 = .ok (.iload_n 1, 1) := by decide +kernel
theorem dJ6_numberOfTrailingZeros_0f7a4_75 : decode cJ6_numberOfTrailingZeros_0f7a4 75 = .ok (.iload_n 0, 1) := by decide +kernel
theorem dJ6_numberOfTrailingZeros_0f7a4_76 : decode cJ6_numberOfTrailingZeros_0f7a4 76 = .ok (.iconst 1, 1) := by decide +kernel
theorem dJ6_numberOfTrailingZeros_0f7a4_77 : decode cJ6_numberOfTrailingZeros_0f7a4 77 = .ok (.iushr, 1) := by decide +kernel
theorem dJ6_numberOfTrailingZeros_0f7a4_78 : decode cJ6_numberOfTrailingZeros_0f7a4 78 = .ok (.iadd, 1) := by decide +kernel
theorem dJ6_numberOfTrailingZeros_0f7a4_79 : decode cJ6_numberOfTrailingZeros_0f7a4 79 = .ok (.ireturn, 1) := by decide +kernel
theorem dJ6_bitCount_0f7a4_0 : decode cJ6_bitCount_0f7a4 0 = .ok (.iload_n 0, 1) := by decide +kernel
theorem dJ6_bitCount_0f7a4_1 : decode cJ6_bitCount_0f7a4 1 = .ok (.iload_n 0, 1) := by decide +kernel
theorem dJ6_bitCount_0f7a4_2 : decode cJ6_bitCount_0f7a4 2 = .ok (.iconst 1, 1) := by decide +kernel
theorem dJ6_bitCount_0f7a4_3 : decode cJ6_bitCount_0f7a4 3 = .ok (.iushr, 1) := by decide +kernel
theorem dJ6_bitCount_0f7a4_4 : decode cJ6_bitCount_0f7a4 4 = .ok (.ldc_w 265, 3) := by decide +kernel
theorem dJ6_bitCount_0f7a4_7 : decode cJ6_bitCount_0f7a4 7 = .ok (.iand, 1) := by decide +kernel
theorem dJ6_bitCount_0f7a4_8 : decode cJ6_bitCount_0f7a4 8 = .ok (.isub, 1) := by decide +kernel
theorem dJ6_bitCount_0f7a4_9 : decode cJ6_bitCount_0f7a4 9 = .ok (.istore_n 0, 1) := by decide +kernel
theorem dJ6_bitCount_0f7a4_10 : decode cJ6_bitCount_0f7a4 10 = .ok (.iload_n 0, 1) := by decide +kernel
theorem dJ6_bitCount_0f7a4_11 : decode cJ6_bitCount_0f7a4 11 = .ok (.ldc_w 266, 3) := by decide +kernel
theorem dJ6_bitCount_0f7a4_14 : decode cJ6_bitCount_0f7a4 14 = .ok (.iand, 1) := by decide +kernel
theorem dJ6_bitCount_0f7a4_15 : decode cJ6_bitCount_0f7a4 15 = .ok (.iload_n 0, 1) := by decide +kernel
theorem dJ6_bitCount_0f7a4_16 : decode cJ6_bitCount_0f7a4 16 = .ok (.iconst 2, 1) := by decide +kernel
theorem dJ6_bitCount_0f7a4_17 : decode cJ6_bitCount_0f7a4 17 = .ok (.iushr, 1) := by decide +kernel
theorem dJ6_bitCount_0f7a4_18 : decode cJ6_bitCount_0f7a4 18 = .ok (.ldc_w 266, 3) := by decide +kernel
theorem dJ6_bitCount_0f7a4_21 : decode cJ6_bitCount_0f7a4 21 = .ok (.iand, 1) := by decide +kernel
theorem dJ6_bitCount_0f7a4_22 : decode cJ6_bitCount_0f7a4 22 = .ok (.iadd, 1) := by decide +kernel
theorem dJ6_bitCount_0f7a4_23 : decode cJ6_bitCount_0f7a4 23 = .ok (.istore_n 0, 1) := by decide +kernel
theorem dJ6_bitCount_0f7a4_24 : decode cJ6_bitCount_0f7a4 24 = .ok (.iload_n 0, 1) := by decide +kernel
theorem dJ6_bitCount_0f7a4_25 : decode cJ6_bitCount_0f7a4 25 = .ok (.iload_n 0, 1) := by decide +kernel
theorem dJ6_bitCount_0f7a4_26 : decode cJ6_bitCount_0f7a4 26 = .ok (.iconst 4, 1) := by decide +kernel
theorem dJ6_bitCount_0f7a4_27 : decode cJ6_bitCount_0f7a4 27 = .ok (.iushr, 1) := by decide +kernel
theorem dJ6_bitCount_0f7a4_28 : decode cJ6_bitCount_0f7a4 28 = .ok (.iadd, 1) := by decide +kernel
theorem dJ6_bitCount_0f7a4_29 : decode cJ6_bitCount_0f7a4 29 = .ok (.ldc_w 267, 3) := by decide +kernel
theorem dJ6_bitCount_0f7a4_32 : decode cJ6_bitCount_0f7a4 32 = .ok (.iand, 1) := by decide +kernel
theorem dJ6_bitCount_0f7a4_33 : decode cJ6_bitCount_0f7a4 33 = .ok (.istore_n 0, 1) := by decide +kernel
theorem dJ6_bitCount_0f7a4_34 : decode cJ6_bitCount_0f7a4 34 = .ok (.iload_n 0, 1) := by decide +kernel
theorem dJ6_bitCount_0f7a4_35 : decode cJ6_bitCount_0f7a4 35 = .ok (.iload_n 0, 1) := by decide +kernel
theorem dJ6_bitCount_0f7a4_36 : decode cJ6_bitCount_0f7a4 36 = .ok (.bipush 8, 2) := by decide +kernel
theorem dJ6_bitCount_0f7a4_38 : decode cJ6_bitCount_0f7a4 38 = .ok (.iushr, 1) := by decide +kernel
theorem dJ6_bitCount_0f7a4_39 : decode cJ6_bitCount_0f7a4 39 = .ok (.iadd, 1) := by decide +kernel
theorem dJ6_bitCount_0f7a4_40 : decode cJ6_bitCount_0f7a4 40 = .ok (.istore_n 0, 1) := by decide +kernel
theorem dJ6_bitCount_0f7a4_41 : decode cJ6_bitCount_0f7a4 41 = .ok (.iload_n 0, 1) := by decide +kernel
theorem dJ6_bitCount_0f7a4_42 : decode cJ6_bitCount_0f7a4 42 = .ok (.iload_n 0, 1) := by decide +kernel
theorem dJ6_bitCount_0f7a4_43 : decode cJ6_bitCount_0f7a4 43 = .ok (.bipush 16, 2) := by decide +kernel
theorem dJ6_bitCount_0f7a4_45 : decode cJ6_bitCount_0f7a4 45 = .ok (.iushr, 1) := by decide +kernel
theorem dJ6_bitCount_0f7a4_46 : decode cJ6_bitCount_0f7a4 46 = .ok (.iadd, 1) := by decide +kernel
theorem dJ6_bitCount_0f7a4_47 : decode cJ6_bitCount_0f7a4 47 = .ok (.istore_n 0, 1) := by decide +kernel
theorem dJ6_bitCount_0f7a4_48 : decode cJ6_bitCount_0f7a4 48 = .ok (.iload_n 0, 1) := by decide +kernel
theorem dJ6_bitCount_0f7a4_49 : decode cJ6_bitCount_0f7a4 49 = .ok (.bipush 63, 2) := by decide +kernel
theorem dJ6_bitCount_0f7a4_51 : decode cJ6_bitCount_0f7a4 51 = .ok (.iand, 1) := by decide +kernel
theorem dJ6_bitCount_0f7a4_52 : decode cJ6_bitCount_0f7a4 52 = .ok (.ireturn, 1) := by decide +kernel
theorem dJ9_max_7cf53_0 : decode cJ9_max_7cf53 0 = .ok (.iload_n 0, 1) := by decide +kernel
theorem dJ9_max_7cf53_1 : decode cJ9_max_7cf53 1 = .ok (.iload_n 1, 1) := by decide +kernel
theorem dJ9_max_7cf53_2 : decode cJ9_max_7cf53 2 = .ok (.if_icmp .lt 7, 3) := by decide +kernel
theorem dJ9_max_7cf53_5 : decode cJ9_max_7cf53 5 = .ok (.iload_n 0, 1) := by decide +kernel
theorem dJ9_max_7cf53_6 : decode cJ9_max_7cf53 6 = .ok (.goto 4, 3) := by decide +kernel
theorem dJ9_max_7cf53_9 : decode cJ9_max_7cf53 9 = .ok (.iload_n 1, 1) := by decide +kernel
theorem dJ9_max_7cf53_10 : decode cJ9_max_7cf53 10 = .ok (.ireturn, 1) := by decide +kernel
theorem dJ9_min_7cf53_0 : decode cJ9_min_7cf53 0 = .ok (.iload_n 0, 1) := by decide +kernel
theorem dJ9_min_7cf53_1 : decode cJ9_min_7cf53 1 = .ok (.iload_n 1, 1) := by decide +kernel
theorem dJ9_min_7cf53_2 : decode cJ9_min_7cf53 2 = .ok (.if_icmp .gt 7, 3) := by decide +kernel
theorem dJ9_min_7cf53_5 : decode cJ9_min_7cf53 5 = .ok (.iload_n 0, 1) := by decide +kernel
theorem dJ9_min_7cf53_6 : decode cJ9_min_7cf53 6 = .ok (.goto 4, 3) := by decide +kernel
theorem dJ9_min_7cf53_9 : decode cJ9_min_7cf53 9 = .ok (.iload_n 1, 1) := by decide +kernel
theorem dJ9_min_7cf53_10 : decode cJ9_min_7cf53 10 = .ok (.ireturn, 1) := by decide +kernel
theorem dJ7_fill_53178_0 : decode cJ7_fill_53178 0 = .ok (.iconst 0, 1) := by decide +kernel
theorem dJ7_fill_53178_1 : decode cJ7_fill_53178 1 = .ok (.istore_n 2, 1) := by decide +kernel
theorem dJ7_fill_53178_2 : decode cJ7_fill_53178 2 = .ok (.aload_n 0, 1) := by decide +kernel
theorem dJ7_fill_53178_3 : decode cJ7_fill_53178 3 = .ok (.arraylength, 1) := by decide +kernel
theorem dJ7_fill_53178_4 : decode cJ7_fill_53178 4 = .ok (.istore_n 3, 1) := by decide +kernel
theorem dJ7_fill_53178_5 : decode cJ7_fill_53178 5 = .ok (.iload_n 2, 1) := by decide +kernel
theorem dJ7_fill_53178_6 : decode cJ7_fill_53178 6 = .ok (.iload_n 3, 1) := by decide +kernel
theorem dJ7_fill_53178_7 : decode cJ7_fill_53178 7 = .ok (.if_icmp .ge 13, 3) := by decide +kernel
theorem dJ7_fill_53178_10 : decode cJ7_fill_53178 10 = .ok (.aload_n 0, 1) := by decide +kernel
theorem dJ7_fill_53178_11 : decode cJ7_fill_53178 11 = .ok (.iload_n 2, 1) := by decide +kernel
theorem dJ7_fill_53178_12 : decode cJ7_fill_53178 12 = .ok (.iload_n 1, 1) := by decide +kernel
theorem dJ7_fill_53178_13 : decode cJ7_fill_53178 13 = .ok (.iastore, 1) := by decide +kernel
theorem dJ7_fill_53178_14 : decode cJ7_fill_53178 14 = .ok (.iinc 2 1, 3) := by decide +kernel
theorem dJ7_fill_53178_17 : decode cJ7_fill_53178 17 = .ok (.goto (-12), 3) := by decide +kernel
theorem dJ7_fill_53178_20 : decode cJ7_fill_53178 20 = .ok (.return_, 1) := by decide +kernel
theorem dL_law_0 : decode cL_law 0 = .ok (.new 7, 3) := by decide +kernel
theorem dL_law_3 : decode cL_law 3 = .ok (.dup, 1) := by decide +kernel
theorem dL_law_4 : decode cL_law 4 = .ok (.invokespecial 9, 3) := by decide +kernel
theorem dL_law_7 : decode cL_law 7 = .ok (.astore_n 1, 1) := by decide +kernel
theorem dL_law_8 : decode cL_law 8 = .ok (.new 10, 3) := by decide +kernel
theorem dL_law_11 : decode cL_law 11 = .ok (.dup, 1) := by decide +kernel
theorem dL_law_12 : decode cL_law 12 = .ok (.invokespecial 12, 3) := by decide +kernel
theorem dL_law_15 : decode cL_law 15 = .ok (.astore_n 2, 1) := by decide +kernel
theorem dL_law_16 : decode cL_law 16 = .ok (.iconst 0, 1) := by decide +kernel
theorem dL_law_17 : decode cL_law 17 = .ok (.istore_n 3, 1) := by decide +kernel
theorem dL_law_18 : decode cL_law 18 = .ok (.iload_n 3, 1) := by decide +kernel
theorem dL_law_19 : decode cL_law 19 = .ok (.aload_n 0, 1) := by decide +kernel
theorem dL_law_20 : decode cL_law 20 = .ok (.arraylength, 1) := by decide +kernel
theorem dL_law_21 : decode cL_law 21 = .ok (.iconst 4, 1) := by decide +kernel
theorem dL_law_22 : decode cL_law 22 = .ok (.isub, 1) := by decide +kernel
theorem dL_law_23 : decode cL_law 23 = .ok (.if_icmp .gt 532, 3) := by decide +kernel
theorem dL_law_26 : decode cL_law 26 = .ok (.aload_n 0, 1) := by decide +kernel
theorem dL_law_27 : decode cL_law 27 = .ok (.iload_n 3, 1) := by decide +kernel
theorem dL_law_28 : decode cL_law 28 = .ok (.iaload, 1) := by decide +kernel
theorem dL_law_29 : decode cL_law 29 = .ok (.bipush 31, 2) := by decide +kernel
theorem dL_law_31 : decode cL_law 31 = .ok (.iand, 1) := by decide +kernel
theorem dL_law_32 : decode cL_law 32 = .ok (.tableswitch 517 0 16 #[84, 107, 120, 133, 166, 199, 222, 236, 279, 302, 335, 348, 381, 404, 448, 471, 494], 84) := by decide +kernel
theorem dL_law_116 : decode cL_law 116 = .ok (.aload_n 1, 1) := by decide +kernel
theorem dL_law_117 : decode cL_law 117 = .ok (.aload_n 0, 1) := by decide +kernel
theorem dL_law_118 : decode cL_law 118 = .ok (.iload_n 3, 1) := by decide +kernel
theorem dL_law_119 : decode cL_law 119 = .ok (.iconst 1, 1) := by decide +kernel
theorem dL_law_120 : decode cL_law 120 = .ok (.iadd, 1) := by decide +kernel
theorem dL_law_121 : decode cL_law 121 = .ok (.iaload, 1) := by decide +kernel
theorem dL_law_122 : decode cL_law 122 = .ok (.invokevirtual 13, 3) := by decide +kernel
theorem dL_law_125 : decode cL_law 125 = .ok (.aload_n 2, 1) := by decide +kernel
theorem dL_law_126 : decode cL_law 126 = .ok (.aload_n 0, 1) := by decide +kernel
theorem dL_law_127 : decode cL_law 127 = .ok (.iload_n 3, 1) := by decide +kernel
theorem dL_law_128 : decode cL_law 128 = .ok (.iconst 1, 1) := by decide +kernel
theorem dL_law_129 : decode cL_law 129 = .ok (.iadd, 1) := by decide +kernel
theorem dL_law_130 : decode cL_law 130 = .ok (.iaload, 1) := by decide +kernel
theorem dL_law_131 : decode cL_law 131 = .ok (.invokevirtual 17, 3) := by decide +kernel
theorem dL_law_134 : decode cL_law 134 = .ok (.if_icmp .eq 415, 3) := by decide +kernel
theorem dL_law_137 : decode cL_law 137 = .ok (.iconst 0, 1) := by decide +kernel
theorem dL_law_138 : decode cL_law 138 = .ok (.ireturn, 1) := by decide +kernel
theorem dL_law_139 : decode cL_law 139 = .ok (.aload_n 1, 1) := by decide +kernel
theorem dL_law_140 : decode cL_law 140 = .ok (.invokevirtual 18, 3) := by decide +kernel
theorem dL_law_143 : decode cL_law 143 = .ok (.aload_n 2, 1) := by decide +kernel
theorem dL_law_144 : decode cL_law 144 = .ok (.invokevirtual 22, 3) := by decide +kernel
theorem dL_law_147 : decode cL_law 147 = .ok (.if_icmp .eq 402, 3) := by decide +kernel
theorem dL_law_150 : decode cL_law 150 = .ok (.iconst 0, 1) := by decide +kernel
theorem dL_law_151 : decode cL_law 151 = .ok (.ireturn, 1) := by decide +kernel
theorem dL_law_152 : decode cL_law 152 = .ok (.aload_n 1, 1) := by decide +kernel
theorem dL_law_153 : decode cL_law 153 = .ok (.invokevirtual 23, 3) := by decide +kernel
theorem dL_law_156 : decode cL_law 156 = .ok (.aload_n 2, 1) := by decide +kernel
theorem dL_law_157 : decode cL_law 157 = .ok (.invokevirtual 26, 3) := by decide +kernel
theorem dL_law_160 : decode cL_law 160 = .ok (.if_icmp .eq 389, 3) := by decide +kernel
theorem dL_law_163 : decode cL_law 163 = .ok (.iconst 0, 1) := by decide +kernel
theorem dL_law_164 : decode cL_law 164 = .ok (.ireturn, 1) := by decide +kernel
theorem dL_law_165 : decode cL_law 165 = .ok (.aload_n 1, 1) := by decide +kernel
theorem dL_law_166 : decode cL_law 166 = .ok (.aload_n 0, 1) := by decide +kernel
theorem dL_law_167 : decode cL_law 167 = .ok (.iload_n 3, 1) := by decide +kernel
theorem dL_law_168 : decode cL_law 168 = .ok (.iconst 1, 1) := by decide +kernel
theorem dL_law_169 : decode cL_law 169 = .ok (.iadd, 1) := by decide +kernel
theorem dL_law_170 : decode cL_law 170 = .ok (.iaload, 1) := by decide +kernel
theorem dL_law_171 : decode cL_law 171 = .ok (.aload_n 0, 1) := by decide +kernel
theorem dL_law_172 : decode cL_law 172 = .ok (.iload_n 3, 1) := by decide +kernel
theorem dL_law_173 : decode cL_law 173 = .ok (.iconst 2, 1) := by decide +kernel
theorem dL_law_174 : decode cL_law 174 = .ok (.iadd, 1) := by decide +kernel
theorem dL_law_175 : decode cL_law 175 = .ok (.iaload, 1) := by decide +kernel
theorem dL_law_176 : decode cL_law 176 = .ok (.invokevirtual 27, 3) := by decide +kernel
theorem dL_law_179 : decode cL_law 179 = .ok (.aload_n 2, 1) := by decide +kernel
theorem dL_law_180 : decode cL_law 180 = .ok (.aload_n 0, 1) := by decide +kernel
theorem dL_law_181 : decode cL_law 181 = .ok (.iload_n 3, 1) := by decide +kernel
theorem dL_law_182 : decode cL_law 182 = .ok (.iconst 1, 1) := by decide +kernel
theorem dL_law_183 : decode cL_law 183 = .ok (.iadd, 1) := by decide +kernel
theorem dL_law_184 : decode cL_law 184 = .ok (.iaload, 1) := by decide +kernel
theorem dL_law_185 : decode cL_law 185 = .ok (.aload_n 0, 1) := by decide +kernel
theorem dL_law_186 : decode cL_law 186 = .ok (.iload_n 3, 1) := by decide +kernel
theorem dL_law_187 : decode cL_law 187 = .ok (.iconst 2, 1) := by decide +kernel
theorem dL_law_188 : decode cL_law 188 = .ok (.iadd, 1) := by decide +kernel
theorem dL_law_189 : decode cL_law 189 = .ok (.iaload, 1) := by decide +kernel
theorem dL_law_190 : decode cL_law 190 = .ok (.invokevirtual 31, 3) := by decide +kernel
theorem dL_law_193 : decode cL_law 193 = .ok (.if_icmp .eq 356, 3) := by decide +kernel
theorem dL_law_196 : decode cL_law 196 = .ok (.iconst 0, 1) := by decide +kernel
theorem dL_law_197 : decode cL_law 197 = .ok (.ireturn, 1) := by decide +kernel
theorem dL_law_198 : decode cL_law 198 = .ok (.aload_n 1, 1) := by decide +kernel
theorem dL_law_199 : decode cL_law 199 = .ok (.aload_n 0, 1) := by decide +kernel
theorem dL_law_200 : decode cL_law 200 = .ok (.iload_n 3, 1) := by decide +kernel
theorem dL_law_201 : decode cL_law 201 = .ok (.iconst 1, 1) := by decide +kernel
theorem dL_law_202 : decode cL_law 202 = .ok (.iadd, 1) := by decide +kernel
theorem dL_law_203 : decode cL_law 203 = .ok (.iaload, 1) := by decide +kernel
theorem dL_law_204 : decode cL_law 204 = .ok (.aload_n 0, 1) := by decide +kernel
theorem dL_law_205 : decode cL_law 205 = .ok (.iload_n 3, 1) := by decide +kernel
theorem dL_law_206 : decode cL_law 206 = .ok (.iconst 2, 1) := by decide +kernel
theorem dL_law_207 : decode cL_law 207 = .ok (.iadd, 1) := by decide +kernel
theorem dL_law_208 : decode cL_law 208 = .ok (.iaload, 1) := by decide +kernel
theorem dL_law_209 : decode cL_law 209 = .ok (.invokevirtual 32, 3) := by decide +kernel
theorem dL_law_212 : decode cL_law 212 = .ok (.aload_n 2, 1) := by decide +kernel
theorem dL_law_213 : decode cL_law 213 = .ok (.aload_n 0, 1) := by decide +kernel
theorem dL_law_214 : decode cL_law 214 = .ok (.iload_n 3, 1) := by decide +kernel
theorem dL_law_215 : decode cL_law 215 = .ok (.iconst 1, 1) := by decide +kernel
theorem dL_law_216 : decode cL_law 216 = .ok (.iadd, 1) := by decide +kernel
theorem dL_law_217 : decode cL_law 217 = .ok (.iaload, 1) := by decide +kernel
theorem dL_law_218 : decode cL_law 218 = .ok (.aload_n 0, 1) := by decide +kernel
theorem dL_law_219 : decode cL_law 219 = .ok (.iload_n 3, 1) := by decide +kernel
theorem dL_law_220 : decode cL_law 220 = .ok (.iconst 2, 1) := by decide +kernel
theorem dL_law_221 : decode cL_law 221 = .ok (.iadd, 1) := by decide +kernel
theorem dL_law_222 : decode cL_law 222 = .ok (.iaload, 1) := by decide +kernel
theorem dL_law_223 : decode cL_law 223 = .ok (.invokevirtual 35, 3) := by decide +kernel
theorem dL_law_226 : decode cL_law 226 = .ok (.if_icmp .eq 323, 3) := by decide +kernel
theorem dL_law_229 : decode cL_law 229 = .ok (.iconst 0, 1) := by decide +kernel
theorem dL_law_230 : decode cL_law 230 = .ok (.ireturn, 1) := by decide +kernel
theorem dL_law_231 : decode cL_law 231 = .ok (.aload_n 1, 1) := by decide +kernel
theorem dL_law_232 : decode cL_law 232 = .ok (.aload_n 0, 1) := by decide +kernel
theorem dL_law_233 : decode cL_law 233 = .ok (.iload_n 3, 1) := by decide +kernel
theorem dL_law_234 : decode cL_law 234 = .ok (.iconst 1, 1) := by decide +kernel
theorem dL_law_235 : decode cL_law 235 = .ok (.iadd, 1) := by decide +kernel
theorem dL_law_236 : decode cL_law 236 = .ok (.iaload, 1) := by decide +kernel
theorem dL_law_237 : decode cL_law 237 = .ok (.invokevirtual 36, 3) := by decide +kernel
theorem dL_law_240 : decode cL_law 240 = .ok (.aload_n 2, 1) := by decide +kernel
theorem dL_law_241 : decode cL_law 241 = .ok (.aload_n 0, 1) := by decide +kernel
theorem dL_law_242 : decode cL_law 242 = .ok (.iload_n 3, 1) := by decide +kernel
theorem dL_law_243 : decode cL_law 243 = .ok (.iconst 1, 1) := by decide +kernel
theorem dL_law_244 : decode cL_law 244 = .ok (.iadd, 1) := by decide +kernel
theorem dL_law_245 : decode cL_law 245 = .ok (.iaload, 1) := by decide +kernel
theorem dL_law_246 : decode cL_law 246 = .ok (.invokevirtual 39, 3) := by decide +kernel
theorem dL_law_249 : decode cL_law 249 = .ok (.if_icmp .eq 300, 3) := by decide +kernel
theorem dL_law_252 : decode cL_law 252 = .ok (.iconst 0, 1) := by decide +kernel
theorem dL_law_253 : decode cL_law 253 = .ok (.ireturn, 1) := by decide +kernel
theorem dL_law_254 : decode cL_law 254 = .ok (.aload_n 1, 1) := by decide +kernel
theorem dL_law_255 : decode cL_law 255 = .ok (.invokevirtual 40, 3) := by decide +kernel
theorem dL_law_258 : decode cL_law 258 = .ok (.aload_n 2, 1) := by decide +kernel
theorem dL_law_259 : decode cL_law 259 = .ok (.invokevirtual 44, 3) := by decide +kernel
theorem dL_law_262 : decode cL_law 262 = .ok (.lcmp, 1) := by decide +kernel
theorem dL_law_263 : decode cL_law 263 = .ok (.ifCond .eq 286, 3) := by decide +kernel
theorem dL_law_266 : decode cL_law 266 = .ok (.iconst 0, 1) := by decide +kernel
theorem dL_law_267 : decode cL_law 267 = .ok (.ireturn, 1) := by decide +kernel
theorem dL_law_268 : decode cL_law 268 = .ok (.aload_n 1, 1) := by decide +kernel
theorem dL_law_269 : decode cL_law 269 = .ok (.aload_n 0, 1) := by decide +kernel
theorem dL_law_270 : decode cL_law 270 = .ok (.iload_n 3, 1) := by decide +kernel
theorem dL_law_271 : decode cL_law 271 = .ok (.iconst 1, 1) := by decide +kernel
theorem dL_law_272 : decode cL_law 272 = .ok (.iadd, 1) := by decide +kernel
theorem dL_law_273 : decode cL_law 273 = .ok (.iaload, 1) := by decide +kernel
theorem dL_law_274 : decode cL_law 274 = .ok (.aload_n 0, 1) := by decide +kernel
theorem dL_law_275 : decode cL_law 275 = .ok (.iload_n 3, 1) := by decide +kernel
theorem dL_law_276 : decode cL_law 276 = .ok (.iconst 2, 1) := by decide +kernel
theorem dL_law_277 : decode cL_law 277 = .ok (.iadd, 1) := by decide +kernel
theorem dL_law_278 : decode cL_law 278 = .ok (.iaload, 1) := by decide +kernel
theorem dL_law_279 : decode cL_law 279 = .ok (.aload_n 0, 1) := by decide +kernel
theorem dL_law_280 : decode cL_law 280 = .ok (.iload_n 3, 1) := by decide +kernel
theorem dL_law_281 : decode cL_law 281 = .ok (.iconst 3, 1) := by decide +kernel
theorem dL_law_282 : decode cL_law 282 = .ok (.iadd, 1) := by decide +kernel
theorem dL_law_283 : decode cL_law 283 = .ok (.iaload, 1) := by decide +kernel
theorem dL_law_284 : decode cL_law 284 = .ok (.invokevirtual 45, 3) := by decide +kernel
theorem dL_law_287 : decode cL_law 287 = .ok (.aload_n 2, 1) := by decide +kernel
theorem dL_law_288 : decode cL_law 288 = .ok (.aload_n 0, 1) := by decide +kernel
theorem dL_law_289 : decode cL_law 289 = .ok (.iload_n 3, 1) := by decide +kernel
theorem dL_law_290 : decode cL_law 290 = .ok (.iconst 1, 1) := by decide +kernel
theorem dL_law_291 : decode cL_law 291 = .ok (.iadd, 1) := by decide +kernel
theorem dL_law_292 : decode cL_law 292 = .ok (.iaload, 1) := by decide +kernel
theorem dL_law_293 : decode cL_law 293 = .ok (.aload_n 0, 1) := by decide +kernel
theorem dL_law_294 : decode cL_law 294 = .ok (.iload_n 3, 1) := by decide +kernel
theorem dL_law_295 : decode cL_law 295 = .ok (.iconst 2, 1) := by decide +kernel
theorem dL_law_296 : decode cL_law 296 = .ok (.iadd, 1) := by decide +kernel
theorem dL_law_297 : decode cL_law 297 = .ok (.iaload, 1) := by decide +kernel
theorem dL_law_298 : decode cL_law 298 = .ok (.aload_n 0, 1) := by decide +kernel
theorem dL_law_299 : decode cL_law 299 = .ok (.iload_n 3, 1) := by decide +kernel
theorem dL_law_300 : decode cL_law 300 = .ok (.iconst 3, 1) := by decide +kernel
theorem dL_law_301 : decode cL_law 301 = .ok (.iadd, 1) := by decide +kernel
theorem dL_law_302 : decode cL_law 302 = .ok (.iaload, 1) := by decide +kernel
theorem dL_law_303 : decode cL_law 303 = .ok (.invokevirtual 49, 3) := by decide +kernel
theorem dL_law_306 : decode cL_law 306 = .ok (.if_icmp .eq 243, 3) := by decide +kernel
theorem dL_law_309 : decode cL_law 309 = .ok (.iconst 0, 1) := by decide +kernel
theorem dL_law_310 : decode cL_law 310 = .ok (.ireturn, 1) := by decide +kernel
theorem dL_law_311 : decode cL_law 311 = .ok (.aload_n 1, 1) := by decide +kernel
theorem dL_law_312 : decode cL_law 312 = .ok (.aload_n 0, 1) := by decide +kernel
theorem dL_law_313 : decode cL_law 313 = .ok (.iload_n 3, 1) := by decide +kernel
theorem dL_law_314 : decode cL_law 314 = .ok (.iconst 1, 1) := by decide +kernel
theorem dL_law_315 : decode cL_law 315 = .ok (.iadd, 1) := by decide +kernel
theorem dL_law_316 : decode cL_law 316 = .ok (.iaload, 1) := by decide +kernel
theorem dL_law_317 : decode cL_law 317 = .ok (.invokevirtual 50, 3) := by decide +kernel
theorem dL_law_320 : decode cL_law 320 = .ok (.aload_n 2, 1) := by decide +kernel
theorem dL_law_321 : decode cL_law 321 = .ok (.aload_n 0, 1) := by decide +kernel
theorem dL_law_322 : decode cL_law 322 = .ok (.iload_n 3, 1) := by decide +kernel
theorem dL_law_323 : decode cL_law 323 = .ok (.iconst 1, 1) := by decide +kernel
theorem dL_law_324 : decode cL_law 324 = .ok (.iadd, 1) := by decide +kernel
theorem dL_law_325 : decode cL_law 325 = .ok (.iaload, 1) := by decide +kernel
theorem dL_law_326 : decode cL_law 326 = .ok (.invokevirtual 53, 3) := by decide +kernel
theorem dL_law_329 : decode cL_law 329 = .ok (.if_icmp .eq 220, 3) := by decide +kernel
theorem dL_law_332 : decode cL_law 332 = .ok (.iconst 0, 1) := by decide +kernel
theorem dL_law_333 : decode cL_law 333 = .ok (.ireturn, 1) := by decide +kernel
theorem dL_law_334 : decode cL_law 334 = .ok (.aload_n 1, 1) := by decide +kernel
theorem dL_law_335 : decode cL_law 335 = .ok (.aload_n 0, 1) := by decide +kernel
theorem dL_law_336 : decode cL_law 336 = .ok (.iload_n 3, 1) := by decide +kernel
theorem dL_law_337 : decode cL_law 337 = .ok (.iconst 1, 1) := by decide +kernel
theorem dL_law_338 : decode cL_law 338 = .ok (.iadd, 1) := by decide +kernel
theorem dL_law_339 : decode cL_law 339 = .ok (.iaload, 1) := by decide +kernel
theorem dL_law_340 : decode cL_law 340 = .ok (.aload_n 0, 1) := by decide +kernel
theorem dL_law_341 : decode cL_law 341 = .ok (.iload_n 3, 1) := by decide +kernel
theorem dL_law_342 : decode cL_law 342 = .ok (.iconst 2, 1) := by decide +kernel
theorem dL_law_343 : decode cL_law 343 = .ok (.iadd, 1) := by decide +kernel
theorem dL_law_344 : decode cL_law 344 = .ok (.iaload, 1) := by decide +kernel
theorem dL_law_345 : decode cL_law 345 = .ok (.invokevirtual 54, 3) := by decide +kernel
theorem dL_law_348 : decode cL_law 348 = .ok (.aload_n 2, 1) := by decide +kernel
theorem dL_law_349 : decode cL_law 349 = .ok (.aload_n 0, 1) := by decide +kernel
theorem dL_law_350 : decode cL_law 350 = .ok (.iload_n 3, 1) := by decide +kernel
theorem dL_law_351 : decode cL_law 351 = .ok (.iconst 1, 1) := by decide +kernel
theorem dL_law_352 : decode cL_law 352 = .ok (.iadd, 1) := by decide +kernel
theorem dL_law_353 : decode cL_law 353 = .ok (.iaload, 1) := by decide +kernel
theorem dL_law_354 : decode cL_law 354 = .ok (.aload_n 0, 1) := by decide +kernel
theorem dL_law_355 : decode cL_law 355 = .ok (.iload_n 3, 1) := by decide +kernel
theorem dL_law_356 : decode cL_law 356 = .ok (.iconst 2, 1) := by decide +kernel
theorem dL_law_357 : decode cL_law 357 = .ok (.iadd, 1) := by decide +kernel
theorem dL_law_358 : decode cL_law 358 = .ok (.iaload, 1) := by decide +kernel
theorem dL_law_359 : decode cL_law 359 = .ok (.invokevirtual 57, 3) := by decide +kernel
theorem dL_law_362 : decode cL_law 362 = .ok (.if_icmp .eq 187, 3) := by decide +kernel
theorem dL_law_365 : decode cL_law 365 = .ok (.iconst 0, 1) := by decide +kernel
theorem dL_law_366 : decode cL_law 366 = .ok (.ireturn, 1) := by decide +kernel
theorem dL_law_367 : decode cL_law 367 = .ok (.aload_n 1, 1) := by decide +kernel
theorem dL_law_368 : decode cL_law 368 = .ok (.invokevirtual 58, 3) := by decide +kernel
theorem dL_law_371 : decode cL_law 371 = .ok (.aload_n 2, 1) := by decide +kernel
theorem dL_law_372 : decode cL_law 372 = .ok (.invokevirtual 61, 3) := by decide +kernel
theorem dL_law_375 : decode cL_law 375 = .ok (.if_icmp .eq 174, 3) := by decide +kernel
theorem dL_law_378 : decode cL_law 378 = .ok (.iconst 0, 1) := by decide +kernel
theorem dL_law_379 : decode cL_law 379 = .ok (.ireturn, 1) := by decide +kernel
theorem dL_law_380 : decode cL_law 380 = .ok (.aload_n 1, 1) := by decide +kernel
theorem dL_law_381 : decode cL_law 381 = .ok (.aload_n 0, 1) := by decide +kernel
theorem dL_law_382 : decode cL_law 382 = .ok (.iload_n 3, 1) := by decide +kernel
theorem dL_law_383 : decode cL_law 383 = .ok (.iconst 1, 1) := by decide +kernel
theorem dL_law_384 : decode cL_law 384 = .ok (.iadd, 1) := by decide +kernel
theorem dL_law_385 : decode cL_law 385 = .ok (.iaload, 1) := by decide +kernel
theorem dL_law_386 : decode cL_law 386 = .ok (.aload_n 0, 1) := by decide +kernel
theorem dL_law_387 : decode cL_law 387 = .ok (.iload_n 3, 1) := by decide +kernel
theorem dL_law_388 : decode cL_law 388 = .ok (.iconst 2, 1) := by decide +kernel
theorem dL_law_389 : decode cL_law 389 = .ok (.iadd, 1) := by decide +kernel
theorem dL_law_390 : decode cL_law 390 = .ok (.iaload, 1) := by decide +kernel
theorem dL_law_391 : decode cL_law 391 = .ok (.invokevirtual 62, 3) := by decide +kernel
theorem dL_law_394 : decode cL_law 394 = .ok (.aload_n 2, 1) := by decide +kernel
theorem dL_law_395 : decode cL_law 395 = .ok (.aload_n 0, 1) := by decide +kernel
theorem dL_law_396 : decode cL_law 396 = .ok (.iload_n 3, 1) := by decide +kernel
theorem dL_law_397 : decode cL_law 397 = .ok (.iconst 1, 1) := by decide +kernel
theorem dL_law_398 : decode cL_law 398 = .ok (.iadd, 1) := by decide +kernel
theorem dL_law_399 : decode cL_law 399 = .ok (.iaload, 1) := by decide +kernel
theorem dL_law_400 : decode cL_law 400 = .ok (.aload_n 0, 1) := by decide +kernel
theorem dL_law_401 : decode cL_law 401 = .ok (.iload_n 3, 1) := by decide +kernel
theorem dL_law_402 : decode cL_law 402 = .ok (.iconst 2, 1) := by decide +kernel
theorem dL_law_403 : decode cL_law 403 = .ok (.iadd, 1) := by decide +kernel
theorem dL_law_404 : decode cL_law 404 = .ok (.iaload, 1) := by decide +kernel
theorem dL_law_405 : decode cL_law 405 = .ok (.invokevirtual 65, 3) := by decide +kernel
theorem dL_law_408 : decode cL_law 408 = .ok (.if_icmp .eq 141, 3) := by decide +kernel
theorem dL_law_411 : decode cL_law 411 = .ok (.iconst 0, 1) := by decide +kernel
theorem dL_law_412 : decode cL_law 412 = .ok (.ireturn, 1) := by decide +kernel
theorem dL_law_413 : decode cL_law 413 = .ok (.aload_n 1, 1) := by decide +kernel
theorem dL_law_414 : decode cL_law 414 = .ok (.aload_n 0, 1) := by decide +kernel
theorem dL_law_415 : decode cL_law 415 = .ok (.iload_n 3, 1) := by decide +kernel
theorem dL_law_416 : decode cL_law 416 = .ok (.iconst 1, 1) := by decide +kernel
theorem dL_law_417 : decode cL_law 417 = .ok (.iadd, 1) := by decide +kernel
theorem dL_law_418 : decode cL_law 418 = .ok (.iaload, 1) := by decide +kernel
theorem dL_law_419 : decode cL_law 419 = .ok (.invokevirtual 66, 3) := by decide +kernel
theorem dL_law_422 : decode cL_law 422 = .ok (.aload_n 2, 1) := by decide +kernel
theorem dL_law_423 : decode cL_law 423 = .ok (.aload_n 0, 1) := by decide +kernel
theorem dL_law_424 : decode cL_law 424 = .ok (.iload_n 3, 1) := by decide +kernel
theorem dL_law_425 : decode cL_law 425 = .ok (.iconst 1, 1) := by decide +kernel
theorem dL_law_426 : decode cL_law 426 = .ok (.iadd, 1) := by decide +kernel
theorem dL_law_427 : decode cL_law 427 = .ok (.iaload, 1) := by decide +kernel
theorem dL_law_428 : decode cL_law 428 = .ok (.invokevirtual 69, 3) := by decide +kernel
theorem dL_law_431 : decode cL_law 431 = .ok (.if_icmp .eq 118, 3) := by decide +kernel
theorem dL_law_434 : decode cL_law 434 = .ok (.iconst 0, 1) := by decide +kernel
theorem dL_law_435 : decode cL_law 435 = .ok (.ireturn, 1) := by decide +kernel
theorem dL_law_436 : decode cL_law 436 = .ok (.aload_n 1, 1) := by decide +kernel
theorem dL_law_437 : decode cL_law 437 = .ok (.aload_n 0, 1) := by decide +kernel
theorem dL_law_438 : decode cL_law 438 = .ok (.iload_n 3, 1) := by decide +kernel
theorem dL_law_439 : decode cL_law 439 = .ok (.iconst 1, 1) := by decide +kernel
theorem dL_law_440 : decode cL_law 440 = .ok (.iadd, 1) := by decide +kernel
theorem dL_law_441 : decode cL_law 441 = .ok (.iaload, 1) := by decide +kernel
theorem dL_law_442 : decode cL_law 442 = .ok (.aload_n 0, 1) := by decide +kernel
theorem dL_law_443 : decode cL_law 443 = .ok (.iload_n 3, 1) := by decide +kernel
theorem dL_law_444 : decode cL_law 444 = .ok (.iconst 2, 1) := by decide +kernel
theorem dL_law_445 : decode cL_law 445 = .ok (.iadd, 1) := by decide +kernel
theorem dL_law_446 : decode cL_law 446 = .ok (.iaload, 1) := by decide +kernel
theorem dL_law_447 : decode cL_law 447 = .ok (.aload_n 0, 1) := by decide +kernel
theorem dL_law_448 : decode cL_law 448 = .ok (.iload_n 3, 1) := by decide +kernel
theorem dL_law_449 : decode cL_law 449 = .ok (.iconst 3, 1) := by decide +kernel
theorem dL_law_450 : decode cL_law 450 = .ok (.iadd, 1) := by decide +kernel
theorem dL_law_451 : decode cL_law 451 = .ok (.iaload, 1) := by decide +kernel
theorem dL_law_452 : decode cL_law 452 = .ok (.invokevirtual 70, 3) := by decide +kernel
theorem dL_law_455 : decode cL_law 455 = .ok (.aload_n 2, 1) := by decide +kernel
theorem dL_law_456 : decode cL_law 456 = .ok (.aload_n 0, 1) := by decide +kernel
theorem dL_law_457 : decode cL_law 457 = .ok (.iload_n 3, 1) := by decide +kernel
theorem dL_law_458 : decode cL_law 458 = .ok (.iconst 1, 1) := by decide +kernel
theorem dL_law_459 : decode cL_law 459 = .ok (.iadd, 1) := by decide +kernel
theorem dL_law_460 : decode cL_law 460 = .ok (.iaload, 1) := by decide +kernel
theorem dL_law_461 : decode cL_law 461 = .ok (.aload_n 0, 1) := by decide +kernel
theorem dL_law_462 : decode cL_law 462 = .ok (.iload_n 3, 1) := by decide +kernel
theorem dL_law_463 : decode cL_law 463 = .ok (.iconst 2, 1) := by decide +kernel
theorem dL_law_464 : decode cL_law 464 = .ok (.iadd, 1) := by decide +kernel
theorem dL_law_465 : decode cL_law 465 = .ok (.iaload, 1) := by decide +kernel
theorem dL_law_466 : decode cL_law 466 = .ok (.aload_n 0, 1) := by decide +kernel
theorem dL_law_467 : decode cL_law 467 = .ok (.iload_n 3, 1) := by decide +kernel
theorem dL_law_468 : decode cL_law 468 = .ok (.iconst 3, 1) := by decide +kernel
theorem dL_law_469 : decode cL_law 469 = .ok (.iadd, 1) := by decide +kernel
theorem dL_law_470 : decode cL_law 470 = .ok (.iaload, 1) := by decide +kernel
theorem dL_law_471 : decode cL_law 471 = .ok (.invokevirtual 74, 3) := by decide +kernel
theorem dL_law_474 : decode cL_law 474 = .ok (.lcmp, 1) := by decide +kernel
theorem dL_law_475 : decode cL_law 475 = .ok (.ifCond .eq 74, 3) := by decide +kernel
theorem dL_law_478 : decode cL_law 478 = .ok (.iconst 0, 1) := by decide +kernel
theorem dL_law_479 : decode cL_law 479 = .ok (.ireturn, 1) := by decide +kernel
theorem dL_law_480 : decode cL_law 480 = .ok (.aload_n 1, 1) := by decide +kernel
theorem dL_law_481 : decode cL_law 481 = .ok (.aload_n 0, 1) := by decide +kernel
theorem dL_law_482 : decode cL_law 482 = .ok (.iload_n 3, 1) := by decide +kernel
theorem dL_law_483 : decode cL_law 483 = .ok (.iconst 1, 1) := by decide +kernel
theorem dL_law_484 : decode cL_law 484 = .ok (.iadd, 1) := by decide +kernel
theorem dL_law_485 : decode cL_law 485 = .ok (.iaload, 1) := by decide +kernel
theorem dL_law_486 : decode cL_law 486 = .ok (.invokevirtual 75, 3) := by decide +kernel
theorem dL_law_489 : decode cL_law 489 = .ok (.aload_n 2, 1) := by decide +kernel
theorem dL_law_490 : decode cL_law 490 = .ok (.aload_n 0, 1) := by decide +kernel
theorem dL_law_491 : decode cL_law 491 = .ok (.iload_n 3, 1) := by decide +kernel
theorem dL_law_492 : decode cL_law 492 = .ok (.iconst 1, 1) := by decide +kernel
theorem dL_law_493 : decode cL_law 493 = .ok (.iadd, 1) := by decide +kernel
theorem dL_law_494 : decode cL_law 494 = .ok (.iaload, 1) := by decide +kernel
theorem dL_law_495 : decode cL_law 495 = .ok (.invokevirtual 78, 3) := by decide +kernel
theorem dL_law_498 : decode cL_law 498 = .ok (.if_icmp .eq 51, 3) := by decide +kernel
theorem dL_law_501 : decode cL_law 501 = .ok (.iconst 0, 1) := by decide +kernel
theorem dL_law_502 : decode cL_law 502 = .ok (.ireturn, 1) := by decide +kernel
theorem dL_law_503 : decode cL_law 503 = .ok (.aload_n 1, 1) := by decide +kernel
theorem dL_law_504 : decode cL_law 504 = .ok (.aload_n 0, 1) := by decide +kernel
theorem dL_law_505 : decode cL_law 505 = .ok (.iload_n 3, 1) := by decide +kernel
theorem dL_law_506 : decode cL_law 506 = .ok (.iconst 1, 1) := by decide +kernel
theorem dL_law_507 : decode cL_law 507 = .ok (.iadd, 1) := by decide +kernel
theorem dL_law_508 : decode cL_law 508 = .ok (.iaload, 1) := by decide +kernel
theorem dL_law_509 : decode cL_law 509 = .ok (.invokevirtual 79, 3) := by decide +kernel
theorem dL_law_512 : decode cL_law 512 = .ok (.aload_n 2, 1) := by decide +kernel
theorem dL_law_513 : decode cL_law 513 = .ok (.aload_n 0, 1) := by decide +kernel
theorem dL_law_514 : decode cL_law 514 = .ok (.iload_n 3, 1) := by decide +kernel
theorem dL_law_515 : decode cL_law 515 = .ok (.iconst 1, 1) := by decide +kernel
theorem dL_law_516 : decode cL_law 516 = .ok (.iadd, 1) := by decide +kernel
theorem dL_law_517 : decode cL_law 517 = .ok (.iaload, 1) := by decide +kernel
theorem dL_law_518 : decode cL_law 518 = .ok (.invokevirtual 82, 3) := by decide +kernel
theorem dL_law_521 : decode cL_law 521 = .ok (.if_icmp .eq 28, 3) := by decide +kernel
theorem dL_law_524 : decode cL_law 524 = .ok (.iconst 0, 1) := by decide +kernel
theorem dL_law_525 : decode cL_law 525 = .ok (.ireturn, 1) := by decide +kernel
theorem dL_law_526 : decode cL_law 526 = .ok (.aload_n 1, 1) := by decide +kernel
theorem dL_law_527 : decode cL_law 527 = .ok (.aload_n 0, 1) := by decide +kernel
theorem dL_law_528 : decode cL_law 528 = .ok (.iload_n 3, 1) := by decide +kernel
theorem dL_law_529 : decode cL_law 529 = .ok (.iconst 1, 1) := by decide +kernel
theorem dL_law_530 : decode cL_law 530 = .ok (.iadd, 1) := by decide +kernel
theorem dL_law_531 : decode cL_law 531 = .ok (.iaload, 1) := by decide +kernel
theorem dL_law_532 : decode cL_law 532 = .ok (.invokevirtual 83, 3) := by decide +kernel
theorem dL_law_535 : decode cL_law 535 = .ok (.aload_n 2, 1) := by decide +kernel
theorem dL_law_536 : decode cL_law 536 = .ok (.aload_n 0, 1) := by decide +kernel
theorem dL_law_537 : decode cL_law 537 = .ok (.iload_n 3, 1) := by decide +kernel
theorem dL_law_538 : decode cL_law 538 = .ok (.iconst 1, 1) := by decide +kernel
theorem dL_law_539 : decode cL_law 539 = .ok (.iadd, 1) := by decide +kernel
theorem dL_law_540 : decode cL_law 540 = .ok (.iaload, 1) := by decide +kernel
theorem dL_law_541 : decode cL_law 541 = .ok (.invokevirtual 86, 3) := by decide +kernel
theorem dL_law_544 : decode cL_law 544 = .ok (.if_icmp .eq 5, 3) := by decide +kernel
theorem dL_law_547 : decode cL_law 547 = .ok (.iconst 0, 1) := by decide +kernel
theorem dL_law_548 : decode cL_law 548 = .ok (.ireturn, 1) := by decide +kernel
theorem dL_law_549 : decode cL_law 549 = .ok (.iinc 3 4, 3) := by decide +kernel
theorem dL_law_552 : decode cL_law 552 = .ok (.goto (-534), 3) := by decide +kernel
theorem dL_law_555 : decode cL_law 555 = .ok (.iconst 1, 1) := by decide +kernel
theorem dL_law_556 : decode cL_law 556 = .ok (.ireturn, 1) := by decide +kernel
