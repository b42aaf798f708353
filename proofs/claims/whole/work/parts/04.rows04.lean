theorem dX0_init_0 : decode cX0_init 0 = .ok (.aload_n 0, 1) := by decide +kernel
theorem dX0_init_1 : decode cX0_init 1 = .ok (.invokespecial 3, 3) := by decide +kernel
theorem dX0_init_4 : decode cX0_init 4 = .ok (.aload_n 0, 1) := by decide +kernel
theorem dX0_init_5 : decode cX0_init 5 = .ok (.iload_n 1, 1) := by decide +kernel
theorem dX0_init_6 : decode cX0_init 6 = .ok (.newarray .int, 2) := by decide +kernel
theorem dX0_init_8 : decode cX0_init 8 = .ok (.putfield 9, 3) := by decide +kernel
theorem dX0_init_11 : decode cX0_init 11 = .ok (.aload_n 0, 1) := by decide +kernel
theorem dX0_init_12 : decode cX0_init 12 = .ok (.iload_n 1, 1) := by decide +kernel
theorem dX0_init_13 : decode cX0_init 13 = .ok (.newarray .int, 2) := by decide +kernel
theorem dX0_init_15 : decode cX0_init 15 = .ok (.putfield 15, 3) := by decide +kernel
theorem dX0_init_18 : decode cX0_init 18 = .ok (.aload_n 0, 1) := by decide +kernel
theorem dX0_init_19 : decode cX0_init 19 = .ok (.iload_n 1, 1) := by decide +kernel
theorem dX0_init_20 : decode cX0_init 20 = .ok (.newarray .int, 2) := by decide +kernel
theorem dX0_init_22 : decode cX0_init 22 = .ok (.putfield 18, 3) := by decide +kernel
theorem dX0_init_25 : decode cX0_init 25 = .ok (.return_, 1) := by decide +kernel
theorem dX0_has_0 : decode cX0_has 0 = .ok (.iload_n 1, 1) := by decide +kernel
theorem dX0_has_1 : decode cX0_has 1 = .ok (.ifCond .lt 15, 3) := by decide +kernel
theorem dX0_has_4 : decode cX0_has 4 = .ok (.iload_n 1, 1) := by decide +kernel
theorem dX0_has_5 : decode cX0_has 5 = .ok (.aload_n 0, 1) := by decide +kernel
theorem dX0_has_6 : decode cX0_has 6 = .ok (.getfield 21, 3) := by decide +kernel
theorem dX0_has_9 : decode cX0_has 9 = .ok (.if_icmp .ge 7, 3) := by decide +kernel
theorem dX0_has_12 : decode cX0_has 12 = .ok (.iconst 1, 1) := by decide +kernel
theorem dX0_has_13 : decode cX0_has 13 = .ok (.goto 4, 3) := by decide +kernel
theorem dX0_has_16 : decode cX0_has 16 = .ok (.iconst 0, 1) := by decide +kernel
theorem dX0_has_17 : decode cX0_has 17 = .ok (.ireturn, 1) := by decide +kernel
theorem dX0_isFull_0 : decode cX0_isFull 0 = .ok (.aload_n 0, 1) := by decide +kernel
theorem dX0_isFull_1 : decode cX0_isFull 1 = .ok (.getfield 21, 3) := by decide +kernel
theorem dX0_isFull_4 : decode cX0_isFull 4 = .ok (.aload_n 0, 1) := by decide +kernel
theorem dX0_isFull_5 : decode cX0_isFull 5 = .ok (.getfield 9, 3) := by decide +kernel
theorem dX0_isFull_8 : decode cX0_isFull 8 = .ok (.arraylength, 1) := by decide +kernel
theorem dX0_isFull_9 : decode cX0_isFull 9 = .ok (.if_icmp .lt 7, 3) := by decide +kernel
theorem dX0_isFull_12 : decode cX0_isFull 12 = .ok (.iconst 1, 1) := by decide +kernel
theorem dX0_isFull_13 : decode cX0_isFull 13 = .ok (.goto 4, 3) := by decide +kernel
theorem dX0_isFull_16 : decode cX0_isFull 16 = .ok (.iconst 0, 1) := by decide +kernel
theorem dX0_isFull_17 : decode cX0_isFull 17 = .ok (.ireturn, 1) := by decide +kernel
theorem dX0_insert_0 : decode cX0_insert 0 = .ok (.aload_n 0, 1) := by decide +kernel
theorem dX0_insert_1 : decode cX0_insert 1 = .ok (.invokevirtual 25, 3) := by decide +kernel
theorem dX0_insert_4 : decode cX0_insert 4 = .ok (.ifCond .eq 6, 3) := by decide +kernel
theorem dX0_insert_7 : decode cX0_insert 7 = .ok (.bipush (-9), 2) := by decide +kernel
theorem dX0_insert_9 : decode cX0_insert 9 = .ok (.ireturn, 1) := by decide +kernel
theorem dX0_insert_10 : decode cX0_insert 10 = .ok (.aload_n 0, 1) := by decide +kernel
theorem dX0_insert_11 : decode cX0_insert 11 = .ok (.getfield 21, 3) := by decide +kernel
theorem dX0_insert_14 : decode cX0_insert 14 = .ok (.istore 4, 2) := by decide +kernel
theorem dX0_insert_16 : decode cX0_insert 16 = .ok (.aload_n 0, 1) := by decide +kernel
theorem dX0_insert_17 : decode cX0_insert 17 = .ok (.dup, 1) := by decide +kernel
theorem dX0_insert_18 : decode cX0_insert 18 = .ok (.getfield 21, 3) := by decide +kernel
theorem dX0_insert_21 : decode cX0_insert 21 = .ok (.iconst 1, 1) := by decide +kernel
theorem dX0_insert_22 : decode cX0_insert 22 = .ok (.iadd, 1) := by decide +kernel
theorem dX0_insert_23 : decode cX0_insert 23 = .ok (.putfield 21, 3) := by decide +kernel
theorem dX0_insert_26 : decode cX0_insert 26 = .ok (.iload 4, 2) := by decide +kernel
theorem dX0_insert_28 : decode cX0_insert 28 = .ok (.ifCond .le 55, 3) := by decide +kernel
theorem dX0_insert_31 : decode cX0_insert 31 = .ok (.aload_n 0, 1) := by decide +kernel
theorem dX0_insert_32 : decode cX0_insert 32 = .ok (.getfield 9, 3) := by decide +kernel
theorem dX0_insert_35 : decode cX0_insert 35 = .ok (.iload 4, 2) := by decide +kernel
theorem dX0_insert_37 : decode cX0_insert 37 = .ok (.iconst 1, 1) := by decide +kernel
theorem dX0_insert_38 : decode cX0_insert 38 = .ok (.isub, 1) := by decide +kernel
theorem dX0_insert_39 : decode cX0_insert 39 = .ok (.iaload, 1) := by decide +kernel
theorem dX0_insert_40 : decode cX0_insert 40 = .ok (.iload_n 1, 1) := by decide +kernel
theorem dX0_insert_41 : decode cX0_insert 41 = .ok (.if_icmp .le 42, 3) := by decide +kernel
theorem dX0_insert_44 : decode cX0_insert 44 = .ok (.aload_n 0, 1) := by decide +kernel
theorem dX0_insert_45 : decode cX0_insert 45 = .ok (.iload 4, 2) := by decide +kernel
theorem dX0_insert_47 : decode cX0_insert 47 = .ok (.aload_n 0, 1) := by decide +kernel
theorem dX0_insert_48 : decode cX0_insert 48 = .ok (.getfield 9, 3) := by decide +kernel
theorem dX0_insert_51 : decode cX0_insert 51 = .ok (.iload 4, 2) := by decide +kernel
theorem dX0_insert_53 : decode cX0_insert 53 = .ok (.iconst 1, 1) := by decide +kernel
theorem dX0_insert_54 : decode cX0_insert 54 = .ok (.isub, 1) := by decide +kernel
theorem dX0_insert_55 : decode cX0_insert 55 = .ok (.iaload, 1) := by decide +kernel
theorem dX0_insert_56 : decode cX0_insert 56 = .ok (.aload_n 0, 1) := by decide +kernel
theorem dX0_insert_57 : decode cX0_insert 57 = .ok (.getfield 15, 3) := by decide +kernel
theorem dX0_insert_60 : decode cX0_insert 60 = .ok (.iload 4, 2) := by decide +kernel
theorem dX0_insert_62 : decode cX0_insert 62 = .ok (.iconst 1, 1) := by decide +kernel
theorem dX0_insert_63 : decode cX0_insert 63 = .ok (.isub, 1) := by decide +kernel
theorem dX0_insert_64 : decode cX0_insert 64 = .ok (.iaload, 1) := by decide +kernel
theorem dX0_insert_65 : decode cX0_insert 65 = .ok (.aload_n 0, 1) := by decide +kernel
theorem dX0_insert_66 : decode cX0_insert 66 = .ok (.getfield 18, 3) := by decide +kernel
theorem dX0_insert_69 : decode cX0_insert 69 = .ok (.iload 4, 2) := by decide +kernel
theorem dX0_insert_71 : decode cX0_insert 71 = .ok (.iconst 1, 1) := by decide +kernel
theorem dX0_insert_72 : decode cX0_insert 72 = .ok (.isub, 1) := by decide +kernel
theorem dX0_insert_73 : decode cX0_insert 73 = .ok (.iaload, 1) := by decide +kernel
theorem dX0_insert_74 : decode cX0_insert 74 = .ok (.invokevirtual 29, 3) := by decide +kernel
theorem dX0_insert_77 : decode cX0_insert 77 = .ok (.iinc 4 (-1), 3) := by decide +kernel
theorem dX0_insert_80 : decode cX0_insert 80 = .ok (.goto (-54), 3) := by decide +kernel
theorem dX0_insert_83 : decode cX0_insert 83 = .ok (.aload_n 0, 1) := by decide +kernel
theorem dX0_insert_84 : decode cX0_insert 84 = .ok (.iload 4, 2) := by decide +kernel
theorem dX0_insert_86 : decode cX0_insert 86 = .ok (.iload_n 1, 1) := by decide +kernel
theorem dX0_insert_87 : decode cX0_insert 87 = .ok (.iload_n 2, 1) := by decide +kernel
theorem dX0_insert_88 : decode cX0_insert 88 = .ok (.iload_n 3, 1) := by decide +kernel
theorem dX0_insert_89 : decode cX0_insert 89 = .ok (.invokevirtual 29, 3) := by decide +kernel
theorem dX0_insert_92 : decode cX0_insert 92 = .ok (.iload 4, 2) := by decide +kernel
theorem dX0_insert_94 : decode cX0_insert 94 = .ok (.ireturn, 1) := by decide +kernel
theorem dX0_remove_0 : decode cX0_remove 0 = .ok (.aload_n 0, 1) := by decide +kernel
theorem dX0_remove_1 : decode cX0_remove 1 = .ok (.iload_n 1, 1) := by decide +kernel
theorem dX0_remove_2 : decode cX0_remove 2 = .ok (.invokevirtual 33, 3) := by decide +kernel
theorem dX0_remove_5 : decode cX0_remove 5 = .ok (.ifCond .ne 4, 3) := by decide +kernel
theorem dX0_remove_8 : decode cX0_remove 8 = .ok (.return_, 1) := by decide +kernel
theorem dX0_remove_9 : decode cX0_remove 9 = .ok (.iload_n 1, 1) := by decide +kernel
theorem dX0_remove_10 : decode cX0_remove 10 = .ok (.istore_n 2, 1) := by decide +kernel
theorem dX0_remove_11 : decode cX0_remove 11 = .ok (.iload_n 2, 1) := by decide +kernel
theorem dX0_remove_12 : decode cX0_remove 12 = .ok (.iconst 1, 1) := by decide +kernel
theorem dX0_remove_13 : decode cX0_remove 13 = .ok (.iadd, 1) := by decide +kernel
theorem dX0_remove_14 : decode cX0_remove 14 = .ok (.aload_n 0, 1) := by decide +kernel
theorem dX0_remove_15 : decode cX0_remove 15 = .ok (.getfield 21, 3) := by decide +kernel
theorem dX0_remove_18 : decode cX0_remove 18 = .ok (.if_icmp .ge 38, 3) := by decide +kernel
theorem dX0_remove_21 : decode cX0_remove 21 = .ok (.aload_n 0, 1) := by decide +kernel
theorem dX0_remove_22 : decode cX0_remove 22 = .ok (.iload_n 2, 1) := by decide +kernel
theorem dX0_remove_23 : decode cX0_remove 23 = .ok (.aload_n 0, 1) := by decide +kernel
theorem dX0_remove_24 : decode cX0_remove 24 = .ok (.getfield 9, 3) := by decide +kernel
theorem dX0_remove_27 : decode cX0_remove 27 = .ok (.iload_n 2, 1) := by decide +kernel
theorem dX0_remove_28 : decode cX0_remove 28 = .ok (.iconst 1, 1) := by decide +kernel
theorem dX0_remove_29 : decode cX0_remove 29 = .ok (.iadd, 1) := by decide +kernel
theorem dX0_remove_30 : decode cX0_remove 30 = .ok (.iaload, 1) := by decide +kernel
theorem dX0_remove_31 : decode cX0_remove 31 = .ok (.aload_n 0, 1) := by decide +kernel
theorem dX0_remove_32 : decode cX0_remove 32 = .ok (.getfield 15, 3) := by decide +kernel
theorem dX0_remove_35 : decode cX0_remove 35 = .ok (.iload_n 2, 1) := by decide +kernel
theorem dX0_remove_36 : decode cX0_remove 36 = .ok (.iconst 1, 1) := by decide +kernel
theorem dX0_remove_37 : decode cX0_remove 37 = .ok (.iadd, 1) := by decide +kernel
theorem dX0_remove_38 : decode cX0_remove 38 = .ok (.iaload, 1) := by decide +kernel
theorem dX0_remove_39 : decode cX0_remove 39 = .ok (.aload_n 0, 1) := by decide +kernel
theorem dX0_remove_40 : decode cX0_remove 40 = .ok (.getfield 18, 3) := by decide +kernel
theorem dX0_remove_43 : decode cX0_remove 43 = .ok (.iload_n 2, 1) := by decide +kernel
theorem dX0_remove_44 : decode cX0_remove 44 = .ok (.iconst 1, 1) := by decide +kernel
theorem dX0_remove_45 : decode cX0_remove 45 = .ok (.iadd, 1) := by decide +kernel
theorem dX0_remove_46 : decode cX0_remove 46 = .ok (.iaload, 1) := by decide +kernel
theorem dX0_remove_47 : decode cX0_remove 47 = .ok (.invokevirtual 29, 3) := by decide +kernel
theorem dX0_remove_50 : decode cX0_remove 50 = .ok (.iinc 2 1, 3) := by decide +kernel
theorem dX0_remove_53 : decode cX0_remove 53 = .ok (.goto (-42), 3) := by decide +kernel
theorem dX0_remove_56 : decode cX0_remove 56 = .ok (.aload_n 0, 1) := by decide +kernel
theorem dX0_remove_57 : decode cX0_remove 57 = .ok (.dup, 1) := by decide +kernel
theorem dX0_remove_58 : decode cX0_remove 58 = .ok (.getfield 21, 3) := by decide +kernel
theorem dX0_remove_61 : decode cX0_remove 61 = .ok (.iconst 1, 1) := by decide +kernel
theorem dX0_remove_62 : decode cX0_remove 62 = .ok (.isub, 1) := by decide +kernel
theorem dX0_remove_63 : decode cX0_remove 63 = .ok (.putfield 21, 3) := by decide +kernel
theorem dX0_remove_66 : decode cX0_remove 66 = .ok (.return_, 1) := by decide +kernel
theorem dX0_copy_0 : decode cX0_copy 0 = .ok (.aload_n 0, 1) := by decide +kernel
theorem dX0_copy_1 : decode cX0_copy 1 = .ok (.aload_n 1, 1) := by decide +kernel
theorem dX0_copy_2 : decode cX0_copy 2 = .ok (.getfield 21, 3) := by decide +kernel
theorem dX0_copy_5 : decode cX0_copy 5 = .ok (.aload_n 0, 1) := by decide +kernel
theorem dX0_copy_6 : decode cX0_copy 6 = .ok (.getfield 9, 3) := by decide +kernel
theorem dX0_copy_9 : decode cX0_copy 9 = .ok (.arraylength, 1) := by decide +kernel
theorem dX0_copy_10 : decode cX0_copy 10 = .ok (.invokestatic 37, 3) := by decide +kernel
theorem dX0_copy_13 : decode cX0_copy 13 = .ok (.putfield 21, 3) := by decide +kernel
theorem dX0_copy_16 : decode cX0_copy 16 = .ok (.iconst 0, 1) := by decide +kernel
theorem dX0_copy_17 : decode cX0_copy 17 = .ok (.istore_n 2, 1) := by decide +kernel
theorem dX0_copy_18 : decode cX0_copy 18 = .ok (.iload_n 2, 1) := by decide +kernel
theorem dX0_copy_19 : decode cX0_copy 19 = .ok (.aload_n 0, 1) := by decide +kernel
theorem dX0_copy_20 : decode cX0_copy 20 = .ok (.getfield 21, 3) := by decide +kernel
theorem dX0_copy_23 : decode cX0_copy 23 = .ok (.if_icmp .ge 32, 3) := by decide +kernel
theorem dX0_copy_26 : decode cX0_copy 26 = .ok (.aload_n 0, 1) := by decide +kernel
theorem dX0_copy_27 : decode cX0_copy 27 = .ok (.iload_n 2, 1) := by decide +kernel
theorem dX0_copy_28 : decode cX0_copy 28 = .ok (.aload_n 1, 1) := by decide +kernel
theorem dX0_copy_29 : decode cX0_copy 29 = .ok (.getfield 9, 3) := by decide +kernel
theorem dX0_copy_32 : decode cX0_copy 32 = .ok (.iload_n 2, 1) := by decide +kernel
theorem dX0_copy_33 : decode cX0_copy 33 = .ok (.iaload, 1) := by decide +kernel
theorem dX0_copy_34 : decode cX0_copy 34 = .ok (.aload_n 1, 1) := by decide +kernel
theorem dX0_copy_35 : decode cX0_copy 35 = .ok (.getfield 15, 3) := by decide +kernel
theorem dX0_copy_38 : decode cX0_copy 38 = .ok (.iload_n 2, 1) := by decide +kernel
theorem dX0_copy_39 : decode cX0_copy 39 = .ok (.iaload, 1) := by decide +kernel
theorem dX0_copy_40 : decode cX0_copy 40 = .ok (.aload_n 1, 1) := by decide +kernel
theorem dX0_copy_41 : decode cX0_copy 41 = .ok (.getfield 18, 3) := by decide +kernel
theorem dX0_copy_44 : decode cX0_copy 44 = .ok (.iload_n 2, 1) := by decide +kernel
theorem dX0_copy_45 : decode cX0_copy 45 = .ok (.iaload, 1) := by decide +kernel
theorem dX0_copy_46 : decode cX0_copy 46 = .ok (.invokevirtual 29, 3) := by decide +kernel
theorem dX0_copy_49 : decode cX0_copy 49 = .ok (.iinc 2 1, 3) := by decide +kernel
theorem dX0_copy_52 : decode cX0_copy 52 = .ok (.goto (-34), 3) := by decide +kernel
theorem dX0_copy_55 : decode cX0_copy 55 = .ok (.return_, 1) := by decide +kernel
theorem dX0_put_0 : decode cX0_put 0 = .ok (.aload_n 0, 1) := by decide +kernel
theorem dX0_put_1 : decode cX0_put 1 = .ok (.iload_n 1, 1) := by decide +kernel
theorem dX0_put_2 : decode cX0_put 2 = .ok (.invokevirtual 33, 3) := by decide +kernel
theorem dX0_put_5 : decode cX0_put 5 = .ok (.ifCond .ne 4, 3) := by decide +kernel
theorem dX0_put_8 : decode cX0_put 8 = .ok (.return_, 1) := by decide +kernel
theorem dX0_put_9 : decode cX0_put 9 = .ok (.aload_n 0, 1) := by decide +kernel
theorem dX0_put_10 : decode cX0_put 10 = .ok (.getfield 9, 3) := by decide +kernel
theorem dX0_put_13 : decode cX0_put 13 = .ok (.iload_n 1, 1) := by decide +kernel
theorem dX0_put_14 : decode cX0_put 14 = .ok (.iload_n 2, 1) := by decide +kernel
theorem dX0_put_15 : decode cX0_put 15 = .ok (.iastore, 1) := by decide +kernel
theorem dX0_put_16 : decode cX0_put 16 = .ok (.aload_n 0, 1) := by decide +kernel
theorem dX0_put_17 : decode cX0_put 17 = .ok (.getfield 15, 3) := by decide +kernel
theorem dX0_put_20 : decode cX0_put 20 = .ok (.iload_n 1, 1) := by decide +kernel
theorem dX0_put_21 : decode cX0_put 21 = .ok (.iload_n 3, 1) := by decide +kernel
theorem dX0_put_22 : decode cX0_put 22 = .ok (.iastore, 1) := by decide +kernel
theorem dX0_put_23 : decode cX0_put 23 = .ok (.aload_n 0, 1) := by decide +kernel
theorem dX0_put_24 : decode cX0_put 24 = .ok (.getfield 18, 3) := by decide +kernel
theorem dX0_put_27 : decode cX0_put 27 = .ok (.iload_n 1, 1) := by decide +kernel
theorem dX0_put_28 : decode cX0_put 28 = .ok (.iload 4, 2) := by decide +kernel
theorem dX0_put_30 : decode cX0_put 30 = .ok (.iastore, 1) := by decide +kernel
theorem dX0_put_31 : decode cX0_put 31 = .ok (.return_, 1) := by decide +kernel
theorem dX1_init_0 : decode cX1_init 0 = .ok (.aload_n 0, 1) := by decide +kernel
theorem dX1_init_1 : decode cX1_init 1 = .ok (.invokespecial 3, 3) := by decide +kernel
theorem dX1_init_4 : decode cX1_init 4 = .ok (.aload_n 0, 1) := by decide +kernel
theorem dX1_init_5 : decode cX1_init 5 = .ok (.new 9, 3) := by decide +kernel
theorem dX1_init_8 : decode cX1_init 8 = .ok (.dup, 1) := by decide +kernel
theorem dX1_init_9 : decode cX1_init 9 = .ok (.bipush 10, 2) := by decide +kernel
theorem dX1_init_11 : decode cX1_init 11 = .ok (.invokespecial 11, 3) := by decide +kernel
theorem dX1_init_14 : decode cX1_init 14 = .ok (.putfield 14, 3) := by decide +kernel
theorem dX1_init_17 : decode cX1_init 17 = .ok (.aload_n 0, 1) := by decide +kernel
theorem dX1_init_18 : decode cX1_init 18 = .ok (.bipush 20, 2) := by decide +kernel
theorem dX1_init_20 : decode cX1_init 20 = .ok (.putfield 20, 3) := by decide +kernel
theorem dX1_init_23 : decode cX1_init 23 = .ok (.aload_n 0, 1) := by decide +kernel
theorem dX1_init_24 : decode cX1_init 24 = .ok (.iconst 0, 1) := by decide +kernel
theorem dX1_init_25 : decode cX1_init 25 = .ok (.putfield 24, 3) := by decide +kernel
theorem dX1_init_28 : decode cX1_init 28 = .ok (.return_, 1) := by decide +kernel
theorem dX1_reset_0 : decode cX1_reset 0 = .ok (.aload_n 0, 1) := by decide +kernel
theorem dX1_reset_1 : decode cX1_reset 1 = .ok (.getfield 14, 3) := by decide +kernel
theorem dX1_reset_4 : decode cX1_reset 4 = .ok (.iconst 0, 1) := by decide +kernel
theorem dX1_reset_5 : decode cX1_reset 5 = .ok (.putfield 27, 3) := by decide +kernel
theorem dX1_reset_8 : decode cX1_reset 8 = .ok (.aload_n 0, 1) := by decide +kernel
theorem dX1_reset_9 : decode cX1_reset 9 = .ok (.bipush 20, 2) := by decide +kernel
theorem dX1_reset_11 : decode cX1_reset 11 = .ok (.putfield 20, 3) := by decide +kernel
theorem dX1_reset_14 : decode cX1_reset 14 = .ok (.aload_n 0, 1) := by decide +kernel
theorem dX1_reset_15 : decode cX1_reset 15 = .ok (.iconst 0, 1) := by decide +kernel
theorem dX1_reset_16 : decode cX1_reset 16 = .ok (.putfield 24, 3) := by decide +kernel
theorem dX1_reset_19 : decode cX1_reset 19 = .ok (.return_, 1) := by decide +kernel
theorem dX1_copy_0 : decode cX1_copy 0 = .ok (.aload_n 0, 1) := by decide +kernel
theorem dX1_copy_1 : decode cX1_copy 1 = .ok (.getfield 14, 3) := by decide +kernel
theorem dX1_copy_4 : decode cX1_copy 4 = .ok (.aload_n 1, 1) := by decide +kernel
theorem dX1_copy_5 : decode cX1_copy 5 = .ok (.getfield 14, 3) := by decide +kernel
theorem dX1_copy_8 : decode cX1_copy 8 = .ok (.invokevirtual 30, 3) := by decide +kernel
theorem dX1_copy_11 : decode cX1_copy 11 = .ok (.aload_n 0, 1) := by decide +kernel
theorem dX1_copy_12 : decode cX1_copy 12 = .ok (.aload_n 1, 1) := by decide +kernel
theorem dX1_copy_13 : decode cX1_copy 13 = .ok (.getfield 20, 3) := by decide +kernel
theorem dX1_copy_16 : decode cX1_copy 16 = .ok (.putfield 20, 3) := by decide +kernel
theorem dX1_copy_19 : decode cX1_copy 19 = .ok (.aload_n 0, 1) := by decide +kernel
theorem dX1_copy_20 : decode cX1_copy 20 = .ok (.aload_n 1, 1) := by decide +kernel
theorem dX1_copy_21 : decode cX1_copy 21 = .ok (.getfield 24, 3) := by decide +kernel
theorem dX1_copy_24 : decode cX1_copy 24 = .ok (.putfield 24, 3) := by decide +kernel
theorem dX1_copy_27 : decode cX1_copy 27 = .ok (.return_, 1) := by decide +kernel
theorem dX2_init_0 : decode cX2_init 0 = .ok (.aload_n 0, 1) := by decide +kernel
theorem dX2_init_1 : decode cX2_init 1 = .ok (.invokespecial 3, 3) := by decide +kernel
theorem dX2_init_4 : decode cX2_init 4 = .ok (.aload_n 0, 1) := by decide +kernel
theorem dX2_init_5 : decode cX2_init 5 = .ok (.sipush 1024, 3) := by decide +kernel
theorem dX2_init_8 : decode cX2_init 8 = .ok (.newarray .int, 2) := by decide +kernel
theorem dX2_init_10 : decode cX2_init 10 = .ok (.putfield 9, 3) := by decide +kernel
theorem dX2_init_13 : decode cX2_init 13 = .ok (.aload_n 0, 1) := by decide +kernel
theorem dX2_init_14 : decode cX2_init 14 = .ok (.bipush 88, 2) := by decide +kernel
theorem dX2_init_16 : decode cX2_init 16 = .ok (.newarray .int, 2) := by decide +kernel
theorem dX2_init_18 : decode cX2_init 18 = .ok (.putfield 15, 3) := by decide +kernel
theorem dX2_init_21 : decode cX2_init 21 = .ok (.aload_n 0, 1) := by decide +kernel
theorem dX2_init_22 : decode cX2_init 22 = .ok (.bipush 11, 2) := by decide +kernel
theorem dX2_init_24 : decode cX2_init 24 = .ok (.newarray .int, 2) := by decide +kernel
theorem dX2_init_26 : decode cX2_init 26 = .ok (.putfield 18, 3) := by decide +kernel
theorem dX2_init_29 : decode cX2_init 29 = .ok (.aload_n 0, 1) := by decide +kernel
theorem dX2_init_30 : decode cX2_init 30 = .ok (.aload_n 1, 1) := by decide +kernel
theorem dX2_init_31 : decode cX2_init 31 = .ok (.putfield 21, 3) := by decide +kernel
theorem dX2_init_34 : decode cX2_init 34 = .ok (.return_, 1) := by decide +kernel
theorem dX2_forget_0 : decode cX2_forget 0 = .ok (.aload_n 0, 1) := by decide +kernel
theorem dX2_forget_1 : decode cX2_forget 1 = .ok (.iconst 0, 1) := by decide +kernel
theorem dX2_forget_2 : decode cX2_forget 2 = .ok (.putfield 25, 3) := by decide +kernel
theorem dX2_forget_5 : decode cX2_forget 5 = .ok (.return_, 1) := by decide +kernel
theorem dX2_weightOf_0 : decode cX2_weightOf 0 = .ok (.aload_n 0, 1) := by decide +kernel
theorem dX2_weightOf_1 : decode cX2_weightOf 1 = .ok (.getfield 25, 3) := by decide +kernel
theorem dX2_weightOf_4 : decode cX2_weightOf 4 = .ok (.ifCond .ne 7, 3) := by decide +kernel
theorem dX2_weightOf_7 : decode cX2_weightOf 7 = .ok (.aload_n 0, 1) := by decide +kernel
theorem dX2_weightOf_8 : decode cX2_weightOf 8 = .ok (.invokevirtual 29, 3) := by decide +kernel
theorem dX2_weightOf_11 : decode cX2_weightOf 11 = .ok (.aload_n 0, 1) := by decide +kernel
theorem dX2_weightOf_12 : decode cX2_weightOf 12 = .ok (.iload_n 2, 1) := by decide +kernel
theorem dX2_weightOf_13 : decode cX2_weightOf 13 = .ok (.invokevirtual 32, 3) := by decide +kernel
theorem dX2_weightOf_16 : decode cX2_weightOf 16 = .ok (.aload_n 0, 1) := by decide +kernel
theorem dX2_weightOf_17 : decode cX2_weightOf 17 = .ok (.getfield 21, 3) := by decide +kernel
theorem dX2_weightOf_20 : decode cX2_weightOf 20 = .ok (.invokevirtual 36, 3) := by decide +kernel
theorem dX2_weightOf_23 : decode cX2_weightOf 23 = .ok (.istore_n 3, 1) := by decide +kernel
theorem dX2_weightOf_24 : decode cX2_weightOf 24 = .ok (.lconst 0, 1) := by decide +kernel
theorem dX2_weightOf_25 : decode cX2_weightOf 25 = .ok (.lstore 4, 2) := by decide +kernel
theorem dX2_weightOf_27 : decode cX2_weightOf 27 = .ok (.iconst 0, 1) := by decide +kernel
theorem dX2_weightOf_28 : decode cX2_weightOf 28 = .ok (.istore 6, 2) := by decide +kernel
theorem dX2_weightOf_30 : decode cX2_weightOf 30 = .ok (.iload 6, 2) := by decide +kernel
theorem dX2_weightOf_32 : decode cX2_weightOf 32 = .ok (.iload_n 3, 1) := by decide +kernel
theorem dX2_weightOf_33 : decode cX2_weightOf 33 = .ok (.if_icmp .gt 41, 3) := by decide +kernel
theorem dX2_weightOf_36 : decode cX2_weightOf 36 = .ok (.lload 4, 2) := by decide +kernel
theorem dX2_weightOf_38 : decode cX2_weightOf 38 = .ok (.aload_n 0, 1) := by decide +kernel
theorem dX2_weightOf_39 : decode cX2_weightOf 39 = .ok (.getfield 18, 3) := by decide +kernel
theorem dX2_weightOf_42 : decode cX2_weightOf 42 = .ok (.iload 6, 2) := by decide +kernel
theorem dX2_weightOf_44 : decode cX2_weightOf 44 = .ok (.iaload, 1) := by decide +kernel
theorem dX2_weightOf_45 : decode cX2_weightOf 45 = .ok (.i2l, 1) := by decide +kernel
theorem dX2_weightOf_46 : decode cX2_weightOf 46 = .ok (.bipush 10, 2) := by decide +kernel
theorem dX2_weightOf_48 : decode cX2_weightOf 48 = .ok (.iload_n 1, 1) := by decide +kernel
theorem dX2_weightOf_49 : decode cX2_weightOf 49 = .ok (.isub, 1) := by decide +kernel
theorem dX2_weightOf_50 : decode cX2_weightOf 50 = .ok (.iload 6, 2) := by decide +kernel
theorem dX2_weightOf_52 : decode cX2_weightOf 52 = .ok (.invokestatic 42, 3) := by decide +kernel
theorem dX2_weightOf_55 : decode cX2_weightOf 55 = .ok (.lmul, 1) := by decide +kernel
theorem dX2_weightOf_56 : decode cX2_weightOf 56 = .ok (.iload_n 1, 1) := by decide +kernel
theorem dX2_weightOf_57 : decode cX2_weightOf 57 = .ok (.iload_n 3, 1) := by decide +kernel
theorem dX2_weightOf_58 : decode cX2_weightOf 58 = .ok (.iload 6, 2) := by decide +kernel
theorem dX2_weightOf_60 : decode cX2_weightOf 60 = .ok (.isub, 1) := by decide +kernel
theorem dX2_weightOf_61 : decode cX2_weightOf 61 = .ok (.invokestatic 42, 3) := by decide +kernel
theorem dX2_weightOf_64 : decode cX2_weightOf 64 = .ok (.lmul, 1) := by decide +kernel
theorem dX2_weightOf_65 : decode cX2_weightOf 65 = .ok (.ladd, 1) := by decide +kernel
theorem dX2_weightOf_66 : decode cX2_weightOf 66 = .ok (.lstore 4, 2) := by decide +kernel
theorem dX2_weightOf_68 : decode cX2_weightOf 68 = .ok (.iinc 6 1, 3) := by decide +kernel
theorem dX2_weightOf_71 : decode cX2_weightOf 71 = .ok (.goto (-41), 3) := by decide +kernel
theorem dX2_weightOf_74 : decode cX2_weightOf 74 = .ok (.lload 4, 2) := by decide +kernel
theorem dX2_weightOf_76 : decode cX2_weightOf 76 = .ok (.lreturn, 1) := by decide +kernel
theorem dX2_countEnough_0 : decode cX2_countEnough 0 = .ok (.aload_n 0, 1) := by decide +kernel
theorem dX2_countEnough_1 : decode cX2_countEnough 1 = .ok (.getfield 18, 3) := by decide +kernel
theorem dX2_countEnough_4 : decode cX2_countEnough 4 = .ok (.iconst 0, 1) := by decide +kernel
theorem dX2_countEnough_5 : decode cX2_countEnough 5 = .ok (.invokestatic 46, 3) := by decide +kernel
theorem dX2_countEnough_8 : decode cX2_countEnough 8 = .ok (.iconst 0, 1) := by decide +kernel
theorem dX2_countEnough_9 : decode cX2_countEnough 9 = .ok (.istore_n 2, 1) := by decide +kernel
theorem dX2_countEnough_10 : decode cX2_countEnough 10 = .ok (.iload_n 2, 1) := by decide +kernel
theorem dX2_countEnough_11 : decode cX2_countEnough 11 = .ok (.iconst 1, 1) := by decide +kernel
theorem dX2_countEnough_12 : decode cX2_countEnough 12 = .ok (.aload_n 0, 1) := by decide +kernel
theorem dX2_countEnough_13 : decode cX2_countEnough 13 = .ok (.getfield 21, 3) := by decide +kernel
theorem dX2_countEnough_16 : decode cX2_countEnough 16 = .ok (.invokevirtual 36, 3) := by decide +kernel
theorem dX2_countEnough_19 : decode cX2_countEnough 19 = .ok (.ishl, 1) := by decide +kernel
theorem dX2_countEnough_20 : decode cX2_countEnough 20 = .ok (.if_icmp .ge 32, 3) := by decide +kernel
theorem dX2_countEnough_23 : decode cX2_countEnough 23 = .ok (.aload_n 0, 1) := by decide +kernel
theorem dX2_countEnough_24 : decode cX2_countEnough 24 = .ok (.getfield 9, 3) := by decide +kernel
theorem dX2_countEnough_27 : decode cX2_countEnough 27 = .ok (.iload_n 2, 1) := by decide +kernel
theorem dX2_countEnough_28 : decode cX2_countEnough 28 = .ok (.iaload, 1) := by decide +kernel
theorem dX2_countEnough_29 : decode cX2_countEnough 29 = .ok (.iload_n 1, 1) := by decide +kernel
theorem dX2_countEnough_30 : decode cX2_countEnough 30 = .ok (.if_icmp .lt 16, 3) := by decide +kernel
theorem dX2_countEnough_33 : decode cX2_countEnough 33 = .ok (.aload_n 0, 1) := by decide +kernel
theorem dX2_countEnough_34 : decode cX2_countEnough 34 = .ok (.getfield 18, 3) := by decide +kernel
theorem dX2_countEnough_37 : decode cX2_countEnough 37 = .ok (.iload_n 2, 1) := by decide +kernel
theorem dX2_countEnough_38 : decode cX2_countEnough 38 = .ok (.invokestatic 52, 3) := by decide +kernel
theorem dX2_countEnough_41 : decode cX2_countEnough 41 = .ok (.dup2, 1) := by decide +kernel
theorem dX2_countEnough_42 : decode cX2_countEnough 42 = .ok (.iaload, 1) := by decide +kernel
theorem dX2_countEnough_43 : decode cX2_countEnough 43 = .ok (.iconst 1, 1) := by decide +kernel
theorem dX2_countEnough_44 : decode cX2_countEnough 44 = .ok (.iadd, 1) := by decide +kernel
theorem dX2_countEnough_45 : decode cX2_countEnough 45 = .ok (.iastore, 1) := by decide +kernel
theorem dX2_countEnough_46 : decode cX2_countEnough 46 = .ok (.iinc 2 1, 3) := by decide +kernel
theorem dX2_countEnough_49 : decode cX2_countEnough 49 = .ok (.goto (-39), 3) := by decide +kernel
theorem dX2_countEnough_52 : decode cX2_countEnough 52 = .ok (.return_, 1) := by decide +kernel
theorem dX2_power_0 : decode cX2_power 0 = .ok (.lconst 1, 1) := by decide +kernel
theorem dX2_power_1 : decode cX2_power 1 = .ok (.lstore_n 2, 1) := by decide +kernel
theorem dX2_power_2 : decode cX2_power 2 = .ok (.iconst 0, 1) := by decide +kernel
theorem dX2_power_3 : decode cX2_power 3 = .ok (.istore 4, 2) := by decide +kernel
theorem dX2_power_5 : decode cX2_power 5 = .ok (.iload 4, 2) := by decide +kernel
theorem dX2_power_7 : decode cX2_power 7 = .ok (.iload_n 1, 1) := by decide +kernel
theorem dX2_power_8 : decode cX2_power 8 = .ok (.if_icmp .ge 14, 3) := by decide +kernel
theorem dX2_power_11 : decode cX2_power 11 = .ok (.lload_n 2, 1) := by decide +kernel
theorem dX2_power_12 : decode cX2_power 12 = .ok (.iload_n 0, 1) := by decide +kernel
theorem dX2_power_13 : decode cX2_power 13 = .ok (.i2l, 1) := by decide +kernel
theorem dX2_power_14 : decode cX2_power 14 = .ok (.lmul, 1) := by decide +kernel
theorem dX2_power_15 : decode cX2_power 15 = .ok (.lstore_n 2, 1) := by decide +kernel
theorem dX2_power_16 : decode cX2_power 16 = .ok (.iinc 4 1, 3) := by decide +kernel
theorem dX2_power_19 : decode cX2_power 19 = .ok (.goto (-14), 3) := by decide +kernel
theorem dX2_power_22 : decode cX2_power 22 = .ok (.lload_n 2, 1) := by decide +kernel
theorem dX2_power_23 : decode cX2_power 23 = .ok (.lreturn, 1) := by decide +kernel
theorem dX2_findBests_0 : decode cX2_findBests 0 = .ok (.aload_n 0, 1) := by decide +kernel
theorem dX2_findBests_1 : decode cX2_findBests 1 = .ok (.getfield 15, 3) := by decide +kernel
theorem dX2_findBests_4 : decode cX2_findBests 4 = .ok (.iconst (-1), 1) := by decide +kernel
theorem dX2_findBests_5 : decode cX2_findBests 5 = .ok (.invokestatic 46, 3) := by decide +kernel
theorem dX2_findBests_8 : decode cX2_findBests 8 = .ok (.aload_n 0, 1) := by decide +kernel
theorem dX2_findBests_9 : decode cX2_findBests 9 = .ok (.getfield 15, 3) := by decide +kernel
theorem dX2_findBests_12 : decode cX2_findBests 12 = .ok (.iconst 0, 1) := by decide +kernel
theorem dX2_findBests_13 : decode cX2_findBests 13 = .ok (.iconst 0, 1) := by decide +kernel
theorem dX2_findBests_14 : decode cX2_findBests 14 = .ok (.iastore, 1) := by decide +kernel
theorem dX2_findBests_15 : decode cX2_findBests 15 = .ok (.aload_n 0, 1) := by decide +kernel
theorem dX2_findBests_16 : decode cX2_findBests 16 = .ok (.getfield 9, 3) := by decide +kernel
theorem dX2_findBests_19 : decode cX2_findBests 19 = .ok (.iconst 0, 1) := by decide +kernel
theorem dX2_findBests_20 : decode cX2_findBests 20 = .ok (.iconst 0, 1) := by decide +kernel
theorem dX2_findBests_21 : decode cX2_findBests 21 = .ok (.iastore, 1) := by decide +kernel
theorem dX2_findBests_22 : decode cX2_findBests 22 = .ok (.iconst 1, 1) := by decide +kernel
theorem dX2_findBests_23 : decode cX2_findBests 23 = .ok (.istore_n 1, 1) := by decide +kernel
theorem dX2_findBests_24 : decode cX2_findBests 24 = .ok (.iload_n 1, 1) := by decide +kernel
theorem dX2_findBests_25 : decode cX2_findBests 25 = .ok (.iconst 1, 1) := by decide +kernel
theorem dX2_findBests_26 : decode cX2_findBests 26 = .ok (.aload_n 0, 1) := by decide +kernel
theorem dX2_findBests_27 : decode cX2_findBests 27 = .ok (.getfield 21, 3) := by decide +kernel
theorem dX2_findBests_30 : decode cX2_findBests 30 = .ok (.invokevirtual 36, 3) := by decide +kernel
theorem dX2_findBests_33 : decode cX2_findBests 33 = .ok (.ishl, 1) := by decide +kernel
theorem dX2_findBests_34 : decode cX2_findBests 34 = .ok (.if_icmp .ge 43, 3) := by decide +kernel
theorem dX2_findBests_37 : decode cX2_findBests 37 = .ok (.aload_n 0, 1) := by decide +kernel
theorem dX2_findBests_38 : decode cX2_findBests 38 = .ok (.aload_n 0, 1) := by decide +kernel
theorem dX2_findBests_39 : decode cX2_findBests 39 = .ok (.iload_n 1, 1) := by decide +kernel
theorem dX2_findBests_40 : decode cX2_findBests 40 = .ok (.iload_n 1, 1) := by decide +kernel
theorem dX2_findBests_41 : decode cX2_findBests 41 = .ok (.iconst 1, 1) := by decide +kernel
theorem dX2_findBests_42 : decode cX2_findBests 42 = .ok (.isub, 1) := by decide +kernel
theorem dX2_findBests_43 : decode cX2_findBests 43 = .ok (.iand, 1) := by decide +kernel
theorem dX2_findBests_44 : decode cX2_findBests 44 = .ok (.invokevirtual 58, 3) := by decide +kernel
theorem dX2_findBests_47 : decode cX2_findBests 47 = .ok (.aload_n 0, 1) := by decide +kernel
theorem dX2_findBests_48 : decode cX2_findBests 48 = .ok (.iload_n 1, 1) := by decide +kernel
theorem dX2_findBests_49 : decode cX2_findBests 49 = .ok (.invokevirtual 58, 3) := by decide +kernel
theorem dX2_findBests_52 : decode cX2_findBests 52 = .ok (.invokevirtual 61, 3) := by decide +kernel
theorem dX2_findBests_55 : decode cX2_findBests 55 = .ok (.istore_n 2, 1) := by decide +kernel
theorem dX2_findBests_56 : decode cX2_findBests 56 = .ok (.aload_n 0, 1) := by decide +kernel
theorem dX2_findBests_57 : decode cX2_findBests 57 = .ok (.getfield 9, 3) := by decide +kernel
theorem dX2_findBests_60 : decode cX2_findBests 60 = .ok (.iload_n 1, 1) := by decide +kernel
theorem dX2_findBests_61 : decode cX2_findBests 61 = .ok (.iload_n 2, 1) := by decide +kernel
theorem dX2_findBests_62 : decode cX2_findBests 62 = .ok (.aload_n 0, 1) := by decide +kernel
theorem dX2_findBests_63 : decode cX2_findBests 63 = .ok (.iload_n 1, 1) := by decide +kernel
theorem dX2_findBests_64 : decode cX2_findBests 64 = .ok (.invokevirtual 65, 3) := by decide +kernel
theorem dX2_findBests_67 : decode cX2_findBests 67 = .ok (.invokestatic 68, 3) := by decide +kernel
theorem dX2_findBests_70 : decode cX2_findBests 70 = .ok (.iastore, 1) := by decide +kernel
theorem dX2_findBests_71 : decode cX2_findBests 71 = .ok (.iinc 1 1, 3) := by decide +kernel
theorem dX2_findBests_74 : decode cX2_findBests 74 = .ok (.goto (-50), 3) := by decide +kernel
theorem dX2_findBests_77 : decode cX2_findBests 77 = .ok (.aload_n 0, 1) := by decide +kernel
theorem dX2_findBests_78 : decode cX2_findBests 78 = .ok (.iconst 1, 1) := by decide +kernel
theorem dX2_findBests_79 : decode cX2_findBests 79 = .ok (.putfield 25, 3) := by decide +kernel
theorem dX2_findBests_82 : decode cX2_findBests 82 = .ok (.return_, 1) := by decide +kernel
theorem dX2_lastOf_0 : decode cX2_lastOf 0 = .ok (.iload_n 1, 1) := by decide +kernel
theorem dX2_lastOf_1 : decode cX2_lastOf 1 = .ok (.ifCond .ne 7, 3) := by decide +kernel
theorem dX2_lastOf_4 : decode cX2_lastOf 4 = .ok (.iconst (-1), 1) := by decide +kernel
theorem dX2_lastOf_5 : decode cX2_lastOf 5 = .ok (.goto 17, 3) := by decide +kernel
theorem dX2_lastOf_8 : decode cX2_lastOf 8 = .ok (.aload_n 0, 1) := by decide +kernel
theorem dX2_lastOf_9 : decode cX2_lastOf 9 = .ok (.getfield 21, 3) := by decide +kernel
theorem dX2_lastOf_12 : decode cX2_lastOf 12 = .ok (.invokevirtual 36, 3) := by decide +kernel
theorem dX2_lastOf_15 : decode cX2_lastOf 15 = .ok (.iconst 1, 1) := by decide +kernel
theorem dX2_lastOf_16 : decode cX2_lastOf 16 = .ok (.isub, 1) := by decide +kernel
theorem dX2_lastOf_17 : decode cX2_lastOf 17 = .ok (.iload_n 1, 1) := by decide +kernel
theorem dX2_lastOf_18 : decode cX2_lastOf 18 = .ok (.invokestatic 73, 3) := by decide +kernel
theorem dX2_lastOf_21 : decode cX2_lastOf 21 = .ok (.isub, 1) := by decide +kernel
theorem dX2_lastOf_22 : decode cX2_lastOf 22 = .ok (.ireturn, 1) := by decide +kernel
theorem dX2_keepLast_0 : decode cX2_keepLast 0 = .ok (.iload_n 2, 1) := by decide +kernel
theorem dX2_keepLast_1 : decode cX2_keepLast 1 = .ok (.iconst 0, 1) := by decide +kernel
theorem dX2_keepLast_2 : decode cX2_keepLast 2 = .ok (.invokestatic 76, 3) := by decide +kernel
theorem dX2_keepLast_5 : decode cX2_keepLast 5 = .ok (.istore_n 3, 1) := by decide +kernel
theorem dX2_keepLast_6 : decode cX2_keepLast 6 = .ok (.iconst 0, 1) := by decide +kernel
theorem dX2_keepLast_7 : decode cX2_keepLast 7 = .ok (.istore 4, 2) := by decide +kernel
theorem dX2_keepLast_9 : decode cX2_keepLast 9 = .ok (.iload 4, 2) := by decide +kernel
theorem dX2_keepLast_11 : decode cX2_keepLast 11 = .ok (.bipush 8, 2) := by decide +kernel
theorem dX2_keepLast_13 : decode cX2_keepLast 13 = .ok (.if_icmp .ge 19, 3) := by decide +kernel
theorem dX2_keepLast_16 : decode cX2_keepLast 16 = .ok (.aload_n 0, 1) := by decide +kernel
theorem dX2_keepLast_17 : decode cX2_keepLast 17 = .ok (.getfield 15, 3) := by decide +kernel
theorem dX2_keepLast_20 : decode cX2_keepLast 20 = .ok (.iload_n 3, 1) := by decide +kernel
theorem dX2_keepLast_21 : decode cX2_keepLast 21 = .ok (.iload 4, 2) := by decide +kernel
theorem dX2_keepLast_23 : decode cX2_keepLast 23 = .ok (.iadd, 1) := by decide +kernel
theorem dX2_keepLast_24 : decode cX2_keepLast 24 = .ok (.iconst (-1), 1) := by decide +kernel
theorem dX2_keepLast_25 : decode cX2_keepLast 25 = .ok (.iastore, 1) := by decide +kernel
theorem dX2_keepLast_26 : decode cX2_keepLast 26 = .ok (.iinc 4 1, 3) := by decide +kernel
theorem dX2_keepLast_29 : decode cX2_keepLast 29 = .ok (.goto (-20), 3) := by decide +kernel
theorem dX2_keepLast_32 : decode cX2_keepLast 32 = .ok (.iload_n 1, 1) := by decide +kernel
theorem dX2_keepLast_33 : decode cX2_keepLast 33 = .ok (.iconst 0, 1) := by decide +kernel
theorem dX2_keepLast_34 : decode cX2_keepLast 34 = .ok (.invokestatic 76, 3) := by decide +kernel
theorem dX2_keepLast_37 : decode cX2_keepLast 37 = .ok (.istore 4, 2) := by decide +kernel
theorem dX2_keepLast_39 : decode cX2_keepLast 39 = .ok (.iconst (-1), 1) := by decide +kernel
theorem dX2_keepLast_40 : decode cX2_keepLast 40 = .ok (.istore 5, 2) := by decide +kernel
theorem dX2_keepLast_42 : decode cX2_keepLast 42 = .ok (.iload 4, 2) := by decide +kernel
theorem dX2_keepLast_44 : decode cX2_keepLast 44 = .ok (.istore 6, 2) := by decide +kernel
theorem dX2_keepLast_46 : decode cX2_keepLast 46 = .ok (.iload 6, 2) := by decide +kernel
theorem dX2_keepLast_48 : decode cX2_keepLast 48 = .ok (.iload 4, 2) := by decide +kernel
theorem dX2_keepLast_50 : decode cX2_keepLast 50 = .ok (.bipush 8, 2) := by decide +kernel
theorem dX2_keepLast_52 : decode cX2_keepLast 52 = .ok (.iadd, 1) := by decide +kernel
theorem dX2_keepLast_53 : decode cX2_keepLast 53 = .ok (.if_icmp .ge 45, 3) := by decide +kernel
theorem dX2_keepLast_56 : decode cX2_keepLast 56 = .ok (.aload_n 0, 1) := by decide +kernel
theorem dX2_keepLast_57 : decode cX2_keepLast 57 = .ok (.getfield 15, 3) := by decide +kernel
theorem dX2_keepLast_60 : decode cX2_keepLast 60 = .ok (.iload 6, 2) := by decide +kernel
theorem dX2_keepLast_62 : decode cX2_keepLast 62 = .ok (.iaload, 1) := by decide +kernel
theorem dX2_keepLast_63 : decode cX2_keepLast 63 = .ok (.ifCond .lt 29, 3) := by decide +kernel
theorem dX2_keepLast_66 : decode cX2_keepLast 66 = .ok (.iload 5, 2) := by decide +kernel
theorem dX2_keepLast_68 : decode cX2_keepLast 68 = .ok (.aload_n 0, 1) := by decide +kernel
theorem dX2_keepLast_69 : decode cX2_keepLast 69 = .ok (.iload 6, 2) := by decide +kernel
theorem dX2_keepLast_71 : decode cX2_keepLast 71 = .ok (.iload_n 2, 1) := by decide +kernel
theorem dX2_keepLast_72 : decode cX2_keepLast 72 = .ok (.iconst 0, 1) := by decide +kernel
theorem dX2_keepLast_73 : decode cX2_keepLast 73 = .ok (.invokevirtual 79, 3) := by decide +kernel
theorem dX2_keepLast_76 : decode cX2_keepLast 76 = .ok (.aload_n 0, 1) := by decide +kernel
theorem dX2_keepLast_77 : decode cX2_keepLast 77 = .ok (.iload 6, 2) := by decide +kernel
theorem dX2_keepLast_79 : decode cX2_keepLast 79 = .ok (.iload_n 2, 1) := by decide +kernel
theorem dX2_keepLast_80 : decode cX2_keepLast 80 = .ok (.iconst 1, 1) := by decide +kernel
theorem dX2_keepLast_81 : decode cX2_keepLast 81 = .ok (.invokevirtual 79, 3) := by decide +kernel
theorem dX2_keepLast_84 : decode cX2_keepLast 84 = .ok (.invokestatic 68, 3) := by decide +kernel
theorem dX2_keepLast_87 : decode cX2_keepLast 87 = .ok (.invokestatic 68, 3) := by decide +kernel
theorem dX2_keepLast_90 : decode cX2_keepLast 90 = .ok (.istore 5, 2) := by decide +kernel
theorem dX2_keepLast_92 : decode cX2_keepLast 92 = .ok (.iinc 6 1, 3) := by decide +kernel
theorem dX2_keepLast_95 : decode cX2_keepLast 95 = .ok (.goto (-49), 3) := by decide +kernel
theorem dX2_keepLast_98 : decode cX2_keepLast 98 = .ok (.iload 5, 2) := by decide +kernel
theorem dX2_keepLast_100 : decode cX2_keepLast 100 = .ok (.ireturn, 1) := by decide +kernel
theorem dX2_keepBehind_0 : decode cX2_keepBehind 0 = .ok (.aload_n 0, 1) := by decide +kernel
theorem dX2_keepBehind_1 : decode cX2_keepBehind 1 = .ok (.getfield 21, 3) := by decide +kernel
theorem dX2_keepBehind_4 : decode cX2_keepBehind 4 = .ok (.iload_n 1, 1) := by decide +kernel
theorem dX2_keepBehind_5 : decode cX2_keepBehind 5 = .ok (.iload_n 2, 1) := by decide +kernel
theorem dX2_keepBehind_6 : decode cX2_keepBehind 6 = .ok (.iload_n 3, 1) := by decide +kernel
theorem dX2_keepBehind_7 : decode cX2_keepBehind 7 = .ok (.invokevirtual 83, 3) := by decide +kernel
theorem dX2_keepBehind_10 : decode cX2_keepBehind 10 = .ok (.istore 4, 2) := by decide +kernel
theorem dX2_keepBehind_12 : decode cX2_keepBehind 12 = .ok (.iload 4, 2) := by decide +kernel
theorem dX2_keepBehind_14 : decode cX2_keepBehind 14 = .ok (.ifCond .ge 5, 3) := by decide +kernel
theorem dX2_keepBehind_17 : decode cX2_keepBehind 17 = .ok (.iconst (-1), 1) := by decide +kernel
theorem dX2_keepBehind_18 : decode cX2_keepBehind 18 = .ok (.ireturn, 1) := by decide +kernel
theorem dX2_keepBehind_19 : decode cX2_keepBehind 19 = .ok (.aload_n 0, 1) := by decide +kernel
theorem dX2_keepBehind_20 : decode cX2_keepBehind 20 = .ok (.getfield 15, 3) := by decide +kernel
theorem dX2_keepBehind_23 : decode cX2_keepBehind 23 = .ok (.iload 4, 2) := by decide +kernel
theorem dX2_keepBehind_25 : decode cX2_keepBehind 25 = .ok (.aload_n 0, 1) := by decide +kernel
theorem dX2_keepBehind_26 : decode cX2_keepBehind 26 = .ok (.getfield 15, 3) := by decide +kernel
theorem dX2_keepBehind_29 : decode cX2_keepBehind 29 = .ok (.iload 4, 2) := by decide +kernel
theorem dX2_keepBehind_31 : decode cX2_keepBehind 31 = .ok (.iaload, 1) := by decide +kernel
theorem dX2_keepBehind_32 : decode cX2_keepBehind 32 = .ok (.aload_n 0, 1) := by decide +kernel
theorem dX2_keepBehind_33 : decode cX2_keepBehind 33 = .ok (.getfield 15, 3) := by decide +kernel
theorem dX2_keepBehind_36 : decode cX2_keepBehind 36 = .ok (.iload_n 1, 1) := by decide +kernel
theorem dX2_keepBehind_37 : decode cX2_keepBehind 37 = .ok (.iaload, 1) := by decide +kernel
theorem dX2_keepBehind_38 : decode cX2_keepBehind 38 = .ok (.aload_n 0, 1) := by decide +kernel
theorem dX2_keepBehind_39 : decode cX2_keepBehind 39 = .ok (.getfield 21, 3) := by decide +kernel
theorem dX2_keepBehind_42 : decode cX2_keepBehind 42 = .ok (.getfield 86, 3) := by decide +kernel
theorem dX2_keepBehind_45 : decode cX2_keepBehind 45 = .ok (.iload 4, 2) := by decide +kernel
theorem dX2_keepBehind_47 : decode cX2_keepBehind 47 = .ok (.iaload, 1) := by decide +kernel
theorem dX2_keepBehind_48 : decode cX2_keepBehind 48 = .ok (.iadd, 1) := by decide +kernel
theorem dX2_keepBehind_49 : decode cX2_keepBehind 49 = .ok (.invokestatic 68, 3) := by decide +kernel
theorem dX2_keepBehind_52 : decode cX2_keepBehind 52 = .ok (.iastore, 1) := by decide +kernel
theorem dX2_keepBehind_53 : decode cX2_keepBehind 53 = .ok (.aload_n 0, 1) := by decide +kernel
theorem dX2_keepBehind_54 : decode cX2_keepBehind 54 = .ok (.getfield 15, 3) := by decide +kernel
theorem dX2_keepBehind_57 : decode cX2_keepBehind 57 = .ok (.iload 4, 2) := by decide +kernel
theorem dX2_keepBehind_59 : decode cX2_keepBehind 59 = .ok (.iaload, 1) := by decide +kernel
theorem dX2_keepBehind_60 : decode cX2_keepBehind 60 = .ok (.ireturn, 1) := by decide +kernel
theorem dX2_bestWithoutOne_0 : decode cX2_bestWithoutOne 0 = .ok (.iconst 0, 1) := by decide +kernel
theorem dX2_bestWithoutOne_1 : decode cX2_bestWithoutOne 1 = .ok (.istore_n 2, 1) := by decide +kernel
theorem dX2_bestWithoutOne_2 : decode cX2_bestWithoutOne 2 = .ok (.iconst 1, 1) := by decide +kernel
theorem dX2_bestWithoutOne_3 : decode cX2_bestWithoutOne 3 = .ok (.istore_n 3, 1) := by decide +kernel
theorem dX2_bestWithoutOne_4 : decode cX2_bestWithoutOne 4 = .ok (.iload_n 3, 1) := by decide +kernel
theorem dX2_bestWithoutOne_5 : decode cX2_bestWithoutOne 5 = .ok (.iload_n 1, 1) := by decide +kernel
theorem dX2_bestWithoutOne_6 : decode cX2_bestWithoutOne 6 = .ok (.if_icmp .gt 29, 3) := by decide +kernel
theorem dX2_bestWithoutOne_9 : decode cX2_bestWithoutOne 9 = .ok (.iload_n 1, 1) := by decide +kernel
theorem dX2_bestWithoutOne_10 : decode cX2_bestWithoutOne 10 = .ok (.iload_n 3, 1) := by decide +kernel
theorem dX2_bestWithoutOne_11 : decode cX2_bestWithoutOne 11 = .ok (.iand, 1) := by decide +kernel
theorem dX2_bestWithoutOne_12 : decode cX2_bestWithoutOne 12 = .ok (.ifCond .eq 16, 3) := by decide +kernel
theorem dX2_bestWithoutOne_15 : decode cX2_bestWithoutOne 15 = .ok (.iload_n 2, 1) := by decide +kernel
theorem dX2_bestWithoutOne_16 : decode cX2_bestWithoutOne 16 = .ok (.aload_n 0, 1) := by decide +kernel
theorem dX2_bestWithoutOne_17 : decode cX2_bestWithoutOne 17 = .ok (.getfield 9, 3) := by decide +kernel
theorem dX2_bestWithoutOne_20 : decode cX2_bestWithoutOne 20 = .ok (.iload_n 1, 1) := by decide +kernel
theorem dX2_bestWithoutOne_21 : decode cX2_bestWithoutOne 21 = .ok (.iload_n 3, 1) := by decide +kernel
theorem dX2_bestWithoutOne_22 : decode cX2_bestWithoutOne 22 = .ok (.isub, 1) := by decide +kernel
theorem dX2_bestWithoutOne_23 : decode cX2_bestWithoutOne 23 = .ok (.iaload, 1) := by decide +kernel
theorem dX2_bestWithoutOne_24 : decode cX2_bestWithoutOne 24 = .ok (.invokestatic 68, 3) := by decide +kernel
theorem dX2_bestWithoutOne_27 : decode cX2_bestWithoutOne 27 = .ok (.istore_n 2, 1) := by decide +kernel
theorem dX2_bestWithoutOne_28 : decode cX2_bestWithoutOne 28 = .ok (.iload_n 3, 1) := by decide +kernel
theorem dX2_bestWithoutOne_29 : decode cX2_bestWithoutOne 29 = .ok (.iconst 1, 1) := by decide +kernel
theorem dX2_bestWithoutOne_30 : decode cX2_bestWithoutOne 30 = .ok (.ishl, 1) := by decide +kernel
theorem dX2_bestWithoutOne_31 : decode cX2_bestWithoutOne 31 = .ok (.istore_n 3, 1) := by decide +kernel
theorem dX2_bestWithoutOne_32 : decode cX2_bestWithoutOne 32 = .ok (.goto (-28), 3) := by decide +kernel
theorem dX2_bestWithoutOne_35 : decode cX2_bestWithoutOne 35 = .ok (.iload_n 2, 1) := by decide +kernel
theorem dX2_bestWithoutOne_36 : decode cX2_bestWithoutOne 36 = .ok (.ireturn, 1) := by decide +kernel
theorem dX3_init_0 : decode cX3_init 0 = .ok (.aload_n 0, 1) := by decide +kernel
theorem dX3_init_1 : decode cX3_init 1 = .ok (.invokespecial 3, 3) := by decide +kernel
theorem dX3_init_4 : decode cX3_init 4 = .ok (.aload_n 0, 1) := by decide +kernel
theorem dX3_init_5 : decode cX3_init 5 = .ok (.bipush 10, 2) := by decide +kernel
theorem dX3_init_7 : decode cX3_init 7 = .ok (.anewarray 9, 3) := by decide +kernel
theorem dX3_init_10 : decode cX3_init 10 = .ok (.putfield 11, 3) := by decide +kernel
theorem dX3_init_13 : decode cX3_init 13 = .ok (.iconst 0, 1) := by decide +kernel
theorem dX3_init_14 : decode cX3_init 14 = .ok (.istore_n 1, 1) := by decide +kernel
theorem dX3_init_15 : decode cX3_init 15 = .ok (.iload_n 1, 1) := by decide +kernel
theorem dX3_init_16 : decode cX3_init 16 = .ok (.bipush 10, 2) := by decide +kernel
theorem dX3_init_18 : decode cX3_init 18 = .ok (.if_icmp .ge 22, 3) := by decide +kernel
theorem dX3_init_21 : decode cX3_init 21 = .ok (.aload_n 0, 1) := by decide +kernel
theorem dX3_init_22 : decode cX3_init 22 = .ok (.getfield 11, 3) := by decide +kernel
theorem dX3_init_25 : decode cX3_init 25 = .ok (.iload_n 1, 1) := by decide +kernel
theorem dX3_init_26 : decode cX3_init 26 = .ok (.new 9, 3) := by decide +kernel
theorem dX3_init_29 : decode cX3_init 29 = .ok (.dup, 1) := by decide +kernel
theorem dX3_init_30 : decode cX3_init 30 = .ok (.invokespecial 17, 3) := by decide +kernel
theorem dX3_init_33 : decode cX3_init 33 = .ok (.aastore, 1) := by decide +kernel
theorem dX3_init_34 : decode cX3_init 34 = .ok (.iinc 1 1, 3) := by decide +kernel
theorem dX3_init_37 : decode cX3_init 37 = .ok (.goto (-22), 3) := by decide +kernel
theorem dX3_init_40 : decode cX3_init 40 = .ok (.return_, 1) := by decide +kernel
theorem dX3_forget_0 : decode cX3_forget 0 = .ok (.aload_n 0, 1) := by decide +kernel
theorem dX3_forget_1 : decode cX3_forget 1 = .ok (.iconst 0, 1) := by decide +kernel
theorem dX3_forget_2 : decode cX3_forget 2 = .ok (.putfield 18, 3) := by decide +kernel
theorem dX3_forget_5 : decode cX3_forget 5 = .ok (.return_, 1) := by decide +kernel
theorem dX3_remember_0 : decode cX3_remember 0 = .ok (.aload_n 0, 1) := by decide +kernel
theorem dX3_remember_1 : decode cX3_remember 1 = .ok (.getfield 11, 3) := by decide +kernel
theorem dX3_remember_4 : decode cX3_remember 4 = .ok (.aload_n 0, 1) := by decide +kernel
theorem dX3_remember_5 : decode cX3_remember 5 = .ok (.getfield 22, 3) := by decide +kernel
theorem dX3_remember_8 : decode cX3_remember 8 = .ok (.aaload, 1) := by decide +kernel
theorem dX3_remember_9 : decode cX3_remember 9 = .ok (.aload_n 1, 1) := by decide +kernel
theorem dX3_remember_10 : decode cX3_remember 10 = .ok (.invokevirtual 25, 3) := by decide +kernel
theorem dX3_remember_13 : decode cX3_remember 13 = .ok (.aload_n 0, 1) := by decide +kernel
theorem dX3_remember_14 : decode cX3_remember 14 = .ok (.aload_n 0, 1) := by decide +kernel
theorem dX3_remember_15 : decode cX3_remember 15 = .ok (.getfield 22, 3) := by decide +kernel
theorem dX3_remember_18 : decode cX3_remember 18 = .ok (.iconst 1, 1) := by decide +kernel
theorem dX3_remember_19 : decode cX3_remember 19 = .ok (.iadd, 1) := by decide +kernel
theorem dX3_remember_20 : decode cX3_remember 20 = .ok (.bipush 10, 2) := by decide +kernel
theorem dX3_remember_22 : decode cX3_remember 22 = .ok (.if_icmp .ge 12, 3) := by decide +kernel
theorem dX3_remember_25 : decode cX3_remember 25 = .ok (.aload_n 0, 1) := by decide +kernel
theorem dX3_remember_26 : decode cX3_remember 26 = .ok (.getfield 22, 3) := by decide +kernel
theorem dX3_remember_29 : decode cX3_remember 29 = .ok (.iconst 1, 1) := by decide +kernel
theorem dX3_remember_30 : decode cX3_remember 30 = .ok (.iadd, 1) := by decide +kernel
theorem dX3_remember_31 : decode cX3_remember 31 = .ok (.goto 4, 3) := by decide +kernel
theorem dX3_remember_34 : decode cX3_remember 34 = .ok (.iconst 0, 1) := by decide +kernel
theorem dX3_remember_35 : decode cX3_remember 35 = .ok (.putfield 22, 3) := by decide +kernel
theorem dX3_remember_38 : decode cX3_remember 38 = .ok (.aload_n 0, 1) := by decide +kernel
theorem dX3_remember_39 : decode cX3_remember 39 = .ok (.aload_n 0, 1) := by decide +kernel
theorem dX3_remember_40 : decode cX3_remember 40 = .ok (.getfield 18, 3) := by decide +kernel
theorem dX3_remember_43 : decode cX3_remember 43 = .ok (.iconst 1, 1) := by decide +kernel
theorem dX3_remember_44 : decode cX3_remember 44 = .ok (.iadd, 1) := by decide +kernel
theorem dX3_remember_45 : decode cX3_remember 45 = .ok (.bipush 10, 2) := by decide +kernel
theorem dX3_remember_47 : decode cX3_remember 47 = .ok (.invokestatic 29, 3) := by decide +kernel
theorem dX3_remember_50 : decode cX3_remember 50 = .ok (.putfield 18, 3) := by decide +kernel
theorem dX3_remember_53 : decode cX3_remember 53 = .ok (.return_, 1) := by decide +kernel
theorem dX3_recall_0 : decode cX3_recall 0 = .ok (.aload_n 0, 1) := by decide +kernel
theorem dX3_recall_1 : decode cX3_recall 1 = .ok (.getfield 18, 3) := by decide +kernel
theorem dX3_recall_4 : decode cX3_recall 4 = .ok (.ifCond .ne 4, 3) := by decide +kernel
theorem dX3_recall_7 : decode cX3_recall 7 = .ok (.return_, 1) := by decide +kernel
theorem dX3_recall_8 : decode cX3_recall 8 = .ok (.aload_n 0, 1) := by decide +kernel
theorem dX3_recall_9 : decode cX3_recall 9 = .ok (.aload_n 0, 1) := by decide +kernel
theorem dX3_recall_10 : decode cX3_recall 10 = .ok (.getfield 22, 3) := by decide +kernel
theorem dX3_recall_13 : decode cX3_recall 13 = .ok (.ifCond .le 12, 3) := by decide +kernel
theorem dX3_recall_16 : decode cX3_recall 16 = .ok (.aload_n 0, 1) := by decide +kernel
theorem dX3_recall_17 : decode cX3_recall 17 = .ok (.getfield 22, 3) := by decide +kernel
theorem dX3_recall_20 : decode cX3_recall 20 = .ok (.iconst 1, 1) := by decide +kernel
theorem dX3_recall_21 : decode cX3_recall 21 = .ok (.isub, 1) := by decide +kernel
theorem dX3_recall_22 : decode cX3_recall 22 = .ok (.goto 5, 3) := by decide +kernel
theorem dX3_recall_25 : decode cX3_recall 25 = .ok (.bipush 9, 2) := by decide +kernel
theorem dX3_recall_27 : decode cX3_recall 27 = .ok (.putfield 22, 3) := by decide +kernel
theorem dX3_recall_30 : decode cX3_recall 30 = .ok (.aload_n 0, 1) := by decide +kernel
theorem dX3_recall_31 : decode cX3_recall 31 = .ok (.dup, 1) := by decide +kernel
theorem dX3_recall_32 : decode cX3_recall 32 = .ok (.getfield 18, 3) := by decide +kernel
theorem dX3_recall_35 : decode cX3_recall 35 = .ok (.iconst 1, 1) := by decide +kernel
theorem dX3_recall_36 : decode cX3_recall 36 = .ok (.isub, 1) := by decide +kernel
theorem dX3_recall_37 : decode cX3_recall 37 = .ok (.putfield 18, 3) := by decide +kernel
theorem dX3_recall_40 : decode cX3_recall 40 = .ok (.aload_n 1, 1) := by decide +kernel
theorem dX3_recall_41 : decode cX3_recall 41 = .ok (.aload_n 0, 1) := by decide +kernel
theorem dX3_recall_42 : decode cX3_recall 42 = .ok (.getfield 11, 3) := by decide +kernel
theorem dX3_recall_45 : decode cX3_recall 45 = .ok (.aload_n 0, 1) := by decide +kernel
theorem dX3_recall_46 : decode cX3_recall 46 = .ok (.getfield 22, 3) := by decide +kernel
theorem dX3_recall_49 : decode cX3_recall 49 = .ok (.aaload, 1) := by decide +kernel
theorem dX3_recall_50 : decode cX3_recall 50 = .ok (.invokevirtual 25, 3) := by decide +kernel
theorem dX3_recall_53 : decode cX3_recall 53 = .ok (.return_, 1) := by decide +kernel
theorem dX4_init_0 : decode cX4_init 0 = .ok (.aload_n 0, 1) := by decide +kernel
theorem dX4_init_1 : decode cX4_init 1 = .ok (.invokespecial 3, 3) := by decide +kernel
theorem dX4_init_4 : decode cX4_init 4 = .ok (.aload_n 0, 1) := by decide +kernel
theorem dX4_init_5 : decode cX4_init 5 = .ok (.new 9, 3) := by decide +kernel
theorem dX4_init_8 : decode cX4_init 8 = .ok (.dup, 1) := by decide +kernel
theorem dX4_init_9 : decode cX4_init 9 = .ok (.bipush 6, 2) := by decide +kernel
theorem dX4_init_11 : decode cX4_init 11 = .ok (.invokespecial 11, 3) := by decide +kernel
theorem dX4_init_14 : decode cX4_init 14 = .ok (.putfield 14, 3) := by decide +kernel
theorem dX4_init_17 : decode cX4_init 17 = .ok (.aload_n 0, 1) := by decide +kernel
theorem dX4_init_18 : decode cX4_init 18 = .ok (.bipush 6, 2) := by decide +kernel
theorem dX4_init_20 : decode cX4_init 20 = .ok (.newarray .boolean, 2) := by decide +kernel
theorem dX4_init_22 : decode cX4_init 22 = .ok (.putfield 20, 3) := by decide +kernel
theorem dX4_init_25 : decode cX4_init 25 = .ok (.aload_n 0, 1) := by decide +kernel
theorem dX4_init_26 : decode cX4_init 26 = .ok (.bipush 56, 2) := by decide +kernel
theorem dX4_init_28 : decode cX4_init 28 = .ok (.newarray .int, 2) := by decide +kernel
theorem dX4_init_30 : decode cX4_init 30 = .ok (.putfield 24, 3) := by decide +kernel
theorem dX4_init_33 : decode cX4_init 33 = .ok (.aload_n 0, 1) := by decide +kernel
theorem dX4_init_34 : decode cX4_init 34 = .ok (.iconst 0, 1) := by decide +kernel
theorem dX4_init_35 : decode cX4_init 35 = .ok (.putfield 28, 3) := by decide +kernel
theorem dX4_init_38 : decode cX4_init 38 = .ok (.return_, 1) := by decide +kernel
theorem dX4_reset_0 : decode cX4_reset 0 = .ok (.aload_n 0, 1) := by decide +kernel
theorem dX4_reset_1 : decode cX4_reset 1 = .ok (.getfield 14, 3) := by decide +kernel
theorem dX4_reset_4 : decode cX4_reset 4 = .ok (.iconst 0, 1) := by decide +kernel
theorem dX4_reset_5 : decode cX4_reset 5 = .ok (.putfield 32, 3) := by decide +kernel
theorem dX4_reset_8 : decode cX4_reset 8 = .ok (.aload_n 0, 1) := by decide +kernel
theorem dX4_reset_9 : decode cX4_reset 9 = .ok (.iconst 0, 1) := by decide +kernel
theorem dX4_reset_10 : decode cX4_reset 10 = .ok (.putfield 28, 3) := by decide +kernel
theorem dX4_reset_13 : decode cX4_reset 13 = .ok (.return_, 1) := by decide +kernel
theorem dX4_copy_0 : decode cX4_copy 0 = .ok (.aload_n 0, 1) := by decide +kernel
theorem dX4_copy_1 : decode cX4_copy 1 = .ok (.getfield 14, 3) := by decide +kernel
theorem dX4_copy_4 : decode cX4_copy 4 = .ok (.aload_n 1, 1) := by decide +kernel
theorem dX4_copy_5 : decode cX4_copy 5 = .ok (.getfield 14, 3) := by decide +kernel
theorem dX4_copy_8 : decode cX4_copy 8 = .ok (.invokevirtual 35, 3) := by decide +kernel
theorem dX4_copy_11 : decode cX4_copy 11 = .ok (.aload_n 0, 1) := by decide +kernel
theorem dX4_copy_12 : decode cX4_copy 12 = .ok (.aload_n 1, 1) := by decide +kernel
theorem dX4_copy_13 : decode cX4_copy 13 = .ok (.getfield 28, 3) := by decide +kernel
theorem dX4_copy_16 : decode cX4_copy 16 = .ok (.putfield 28, 3) := by decide +kernel
theorem dX4_copy_19 : decode cX4_copy 19 = .ok (.return_, 1) := by decide +kernel
theorem dX4_follow_0 : decode cX4_follow 0 = .ok (.aload_n 0, 1) := by decide +kernel
theorem dX4_follow_1 : decode cX4_follow 1 = .ok (.invokevirtual 39, 3) := by decide +kernel
theorem dX4_follow_4 : decode cX4_follow 4 = .ok (.aload_n 0, 1) := by decide +kernel
theorem dX4_follow_5 : decode cX4_follow 5 = .ok (.iconst 0, 1) := by decide +kernel
theorem dX4_follow_6 : decode cX4_follow 6 = .ok (.putfield 42, 3) := by decide +kernel
theorem dX4_follow_9 : decode cX4_follow 9 = .ok (.aload_n 0, 1) := by decide +kernel
theorem dX4_follow_10 : decode cX4_follow 10 = .ok (.getfield 28, 3) := by decide +kernel
theorem dX4_follow_13 : decode cX4_follow 13 = .ok (.istore_n 1, 1) := by decide +kernel
theorem dX4_follow_14 : decode cX4_follow 14 = .ok (.iconst 0, 1) := by decide +kernel
theorem dX4_follow_15 : decode cX4_follow 15 = .ok (.istore_n 2, 1) := by decide +kernel
theorem dX4_follow_16 : decode cX4_follow 16 = .ok (.iload_n 2, 1) := by decide +kernel
theorem dX4_follow_17 : decode cX4_follow 17 = .ok (.aload_n 0, 1) := by decide +kernel
theorem dX4_follow_18 : decode cX4_follow 18 = .ok (.getfield 14, 3) := by decide +kernel
theorem dX4_follow_21 : decode cX4_follow 21 = .ok (.getfield 32, 3) := by decide +kernel
theorem dX4_follow_24 : decode cX4_follow 24 = .ok (.if_icmp .ge 74, 3) := by decide +kernel
theorem dX4_follow_27 : decode cX4_follow 27 = .ok (.aload_n 0, 1) := by decide +kernel
theorem dX4_follow_28 : decode cX4_follow 28 = .ok (.getfield 20, 3) := by decide +kernel
theorem dX4_follow_31 : decode cX4_follow 31 = .ok (.iload_n 2, 1) := by decide +kernel
theorem dX4_follow_32 : decode cX4_follow 32 = .ok (.aload_n 0, 1) := by decide +kernel
theorem dX4_follow_33 : decode cX4_follow 33 = .ok (.iload_n 2, 1) := by decide +kernel
theorem dX4_follow_34 : decode cX4_follow 34 = .ok (.iload_n 1, 1) := by decide +kernel
theorem dX4_follow_35 : decode cX4_follow 35 = .ok (.invokevirtual 45, 3) := by decide +kernel
theorem dX4_follow_38 : decode cX4_follow 38 = .ok (.ifCond .eq 23, 3) := by decide +kernel
theorem dX4_follow_41 : decode cX4_follow 41 = .ok (.aload_n 0, 1) := by decide +kernel
theorem dX4_follow_42 : decode cX4_follow 42 = .ok (.iload_n 2, 1) := by decide +kernel
theorem dX4_follow_43 : decode cX4_follow 43 = .ok (.invokevirtual 49, 3) := by decide +kernel
theorem dX4_follow_46 : decode cX4_follow 46 = .ok (.aload_n 0, 1) := by decide +kernel
theorem dX4_follow_47 : decode cX4_follow 47 = .ok (.iload_n 2, 1) := by decide +kernel
theorem dX4_follow_48 : decode cX4_follow 48 = .ok (.iconst 1, 1) := by decide +kernel
theorem dX4_follow_49 : decode cX4_follow 49 = .ok (.iadd, 1) := by decide +kernel
theorem dX4_follow_50 : decode cX4_follow 50 = .ok (.iload_n 1, 1) := by decide +kernel
theorem dX4_follow_51 : decode cX4_follow 51 = .ok (.invokevirtual 53, 3) := by decide +kernel
theorem dX4_follow_54 : decode cX4_follow 54 = .ok (.if_icmp .lt 7, 3) := by decide +kernel
theorem dX4_follow_57 : decode cX4_follow 57 = .ok (.iconst 1, 1) := by decide +kernel
theorem dX4_follow_58 : decode cX4_follow 58 = .ok (.goto 4, 3) := by decide +kernel
theorem dX4_follow_61 : decode cX4_follow 61 = .ok (.iconst 0, 1) := by decide +kernel
theorem dX4_follow_62 : decode cX4_follow 62 = .ok (.bastore, 1) := by decide +kernel
theorem dX4_follow_63 : decode cX4_follow 63 = .ok (.aload_n 0, 1) := by decide +kernel
theorem dX4_follow_64 : decode cX4_follow 64 = .ok (.getfield 20, 3) := by decide +kernel
theorem dX4_follow_67 : decode cX4_follow 67 = .ok (.iload_n 2, 1) := by decide +kernel
theorem dX4_follow_68 : decode cX4_follow 68 = .ok (.baload, 1) := by decide +kernel
theorem dX4_follow_69 : decode cX4_follow 69 = .ok (.ifCond .eq 23, 3) := by decide +kernel
theorem dX4_follow_72 : decode cX4_follow 72 = .ok (.aload_n 0, 1) := by decide +kernel
theorem dX4_follow_73 : decode cX4_follow 73 = .ok (.getfield 14, 3) := by decide +kernel
theorem dX4_follow_76 : decode cX4_follow 76 = .ok (.getfield 57, 3) := by decide +kernel
theorem dX4_follow_79 : decode cX4_follow 79 = .ok (.iload_n 2, 1) := by decide +kernel
theorem dX4_follow_80 : decode cX4_follow 80 = .ok (.iaload, 1) := by decide +kernel
theorem dX4_follow_81 : decode cX4_follow 81 = .ok (.istore_n 1, 1) := by decide +kernel
theorem dX4_follow_82 : decode cX4_follow 82 = .ok (.aload_n 0, 1) := by decide +kernel
theorem dX4_follow_83 : decode cX4_follow 83 = .ok (.dup, 1) := by decide +kernel
theorem dX4_follow_84 : decode cX4_follow 84 = .ok (.getfield 42, 3) := by decide +kernel
theorem dX4_follow_87 : decode cX4_follow 87 = .ok (.iconst 1, 1) := by decide +kernel
theorem dX4_follow_88 : decode cX4_follow 88 = .ok (.iadd, 1) := by decide +kernel
theorem dX4_follow_89 : decode cX4_follow 89 = .ok (.putfield 42, 3) := by decide +kernel
theorem dX4_follow_92 : decode cX4_follow 92 = .ok (.iinc 2 1, 3) := by decide +kernel
theorem dX4_follow_95 : decode cX4_follow 95 = .ok (.goto (-79), 3) := by decide +kernel
theorem dX4_follow_98 : decode cX4_follow 98 = .ok (.return_, 1) := by decide +kernel
theorem dX4_plateOn_0 : decode cX4_plateOn 0 = .ok (.aload_n 0, 1) := by decide +kernel
theorem dX4_plateOn_1 : decode cX4_plateOn 1 = .ok (.getfield 28, 3) := by decide +kernel
theorem dX4_plateOn_4 : decode cX4_plateOn 4 = .ok (.istore_n 2, 1) := by decide +kernel
theorem dX4_plateOn_5 : decode cX4_plateOn 5 = .ok (.iconst 0, 1) := by decide +kernel
theorem dX4_plateOn_6 : decode cX4_plateOn 6 = .ok (.istore_n 3, 1) := by decide +kernel
theorem dX4_plateOn_7 : decode cX4_plateOn 7 = .ok (.iload_n 3, 1) := by decide +kernel
theorem dX4_plateOn_8 : decode cX4_plateOn 8 = .ok (.aload_n 0, 1) := by decide +kernel
theorem dX4_plateOn_9 : decode cX4_plateOn 9 = .ok (.getfield 14, 3) := by decide +kernel
theorem dX4_plateOn_12 : decode cX4_plateOn 12 = .ok (.getfield 32, 3) := by decide +kernel
theorem dX4_plateOn_15 : decode cX4_plateOn 15 = .ok (.if_icmp .ge 41, 3) := by decide +kernel
theorem dX4_plateOn_18 : decode cX4_plateOn 18 = .ok (.aload_n 0, 1) := by decide +kernel
theorem dX4_plateOn_19 : decode cX4_plateOn 19 = .ok (.getfield 20, 3) := by decide +kernel
theorem dX4_plateOn_22 : decode cX4_plateOn 22 = .ok (.iload_n 3, 1) := by decide +kernel
theorem dX4_plateOn_23 : decode cX4_plateOn 23 = .ok (.baload, 1) := by decide +kernel
theorem dX4_plateOn_24 : decode cX4_plateOn 24 = .ok (.ifCond .eq 26, 3) := by decide +kernel
theorem dX4_plateOn_27 : decode cX4_plateOn 27 = .ok (.aload_n 0, 1) := by decide +kernel
theorem dX4_plateOn_28 : decode cX4_plateOn 28 = .ok (.getfield 14, 3) := by decide +kernel
theorem dX4_plateOn_31 : decode cX4_plateOn 31 = .ok (.getfield 60, 3) := by decide +kernel
theorem dX4_plateOn_34 : decode cX4_plateOn 34 = .ok (.iload_n 3, 1) := by decide +kernel
theorem dX4_plateOn_35 : decode cX4_plateOn 35 = .ok (.iaload, 1) := by decide +kernel
theorem dX4_plateOn_36 : decode cX4_plateOn 36 = .ok (.iload_n 1, 1) := by decide +kernel
theorem dX4_plateOn_37 : decode cX4_plateOn 37 = .ok (.if_icmp .gt 13, 3) := by decide +kernel
theorem dX4_plateOn_40 : decode cX4_plateOn 40 = .ok (.aload_n 0, 1) := by decide +kernel
theorem dX4_plateOn_41 : decode cX4_plateOn 41 = .ok (.getfield 14, 3) := by decide +kernel
theorem dX4_plateOn_44 : decode cX4_plateOn 44 = .ok (.getfield 57, 3) := by decide +kernel
theorem dX4_plateOn_47 : decode cX4_plateOn 47 = .ok (.iload_n 3, 1) := by decide +kernel
theorem dX4_plateOn_48 : decode cX4_plateOn 48 = .ok (.iaload, 1) := by decide +kernel
theorem dX4_plateOn_49 : decode cX4_plateOn 49 = .ok (.istore_n 2, 1) := by decide +kernel
theorem dX4_plateOn_50 : decode cX4_plateOn 50 = .ok (.iinc 3 1, 3) := by decide +kernel
theorem dX4_plateOn_53 : decode cX4_plateOn 53 = .ok (.goto (-46), 3) := by decide +kernel
theorem dX4_plateOn_56 : decode cX4_plateOn 56 = .ok (.iload_n 2, 1) := by decide +kernel
theorem dX4_plateOn_57 : decode cX4_plateOn 57 = .ok (.ireturn, 1) := by decide +kernel
theorem dX4_countBackward_0 : decode cX4_countBackward 0 = .ok (.aload_n 0, 1) := by decide +kernel
theorem dX4_countBackward_1 : decode cX4_countBackward 1 = .ok (.getfield 24, 3) := by decide +kernel
theorem dX4_countBackward_4 : decode cX4_countBackward 4 = .ok (.iconst 0, 1) := by decide +kernel
theorem dX4_countBackward_5 : decode cX4_countBackward 5 = .ok (.invokestatic 63, 3) := by decide +kernel
theorem dX4_countBackward_8 : decode cX4_countBackward 8 = .ok (.aload_n 0, 1) := by decide +kernel
theorem dX4_countBackward_9 : decode cX4_countBackward 9 = .ok (.getfield 14, 3) := by decide +kernel
theorem dX4_countBackward_12 : decode cX4_countBackward 12 = .ok (.getfield 32, 3) := by decide +kernel
theorem dX4_countBackward_15 : decode cX4_countBackward 15 = .ok (.iconst 1, 1) := by decide +kernel
theorem dX4_countBackward_16 : decode cX4_countBackward 16 = .ok (.isub, 1) := by decide +kernel
theorem dX4_countBackward_17 : decode cX4_countBackward 17 = .ok (.istore_n 1, 1) := by decide +kernel
theorem dX4_countBackward_18 : decode cX4_countBackward 18 = .ok (.iload_n 1, 1) := by decide +kernel
theorem dX4_countBackward_19 : decode cX4_countBackward 19 = .ok (.ifCond .lt 65, 3) := by decide +kernel
theorem dX4_countBackward_22 : decode cX4_countBackward 22 = .ok (.iconst 0, 1) := by decide +kernel
theorem dX4_countBackward_23 : decode cX4_countBackward 23 = .ok (.istore_n 2, 1) := by decide +kernel
theorem dX4_countBackward_24 : decode cX4_countBackward 24 = .ok (.iload_n 2, 1) := by decide +kernel
theorem dX4_countBackward_25 : decode cX4_countBackward 25 = .ok (.bipush 8, 2) := by decide +kernel
theorem dX4_countBackward_27 : decode cX4_countBackward 27 = .ok (.if_icmp .ge 51, 3) := by decide +kernel
theorem dX4_countBackward_30 : decode cX4_countBackward 30 = .ok (.aload_n 0, 1) := by decide +kernel
theorem dX4_countBackward_31 : decode cX4_countBackward 31 = .ok (.iload_n 1, 1) := by decide +kernel
theorem dX4_countBackward_32 : decode cX4_countBackward 32 = .ok (.iconst 1, 1) := by decide +kernel
theorem dX4_countBackward_33 : decode cX4_countBackward 33 = .ok (.iadd, 1) := by decide +kernel
theorem dX4_countBackward_34 : decode cX4_countBackward 34 = .ok (.iload_n 2, 1) := by decide +kernel
theorem dX4_countBackward_35 : decode cX4_countBackward 35 = .ok (.invokevirtual 53, 3) := by decide +kernel
theorem dX4_countBackward_38 : decode cX4_countBackward 38 = .ok (.istore_n 3, 1) := by decide +kernel
theorem dX4_countBackward_39 : decode cX4_countBackward 39 = .ok (.aload_n 0, 1) := by decide +kernel
theorem dX4_countBackward_40 : decode cX4_countBackward 40 = .ok (.getfield 24, 3) := by decide +kernel
theorem dX4_countBackward_43 : decode cX4_countBackward 43 = .ok (.iload_n 1, 1) := by decide +kernel
theorem dX4_countBackward_44 : decode cX4_countBackward 44 = .ok (.bipush 8, 2) := by decide +kernel
theorem dX4_countBackward_46 : decode cX4_countBackward 46 = .ok (.imul, 1) := by decide +kernel
theorem dX4_countBackward_47 : decode cX4_countBackward 47 = .ok (.iload_n 2, 1) := by decide +kernel
theorem dX4_countBackward_48 : decode cX4_countBackward 48 = .ok (.iadd, 1) := by decide +kernel
theorem dX4_countBackward_49 : decode cX4_countBackward 49 = .ok (.aload_n 0, 1) := by decide +kernel
theorem dX4_countBackward_50 : decode cX4_countBackward 50 = .ok (.iload_n 1, 1) := by decide +kernel
theorem dX4_countBackward_51 : decode cX4_countBackward 51 = .ok (.iload_n 2, 1) := by decide +kernel
theorem dX4_countBackward_52 : decode cX4_countBackward 52 = .ok (.invokevirtual 45, 3) := by decide +kernel
theorem dX4_countBackward_55 : decode cX4_countBackward 55 = .ok (.ifCond .eq 15, 3) := by decide +kernel
theorem dX4_countBackward_58 : decode cX4_countBackward 58 = .ok (.iload_n 3, 1) := by decide +kernel
theorem dX4_countBackward_59 : decode cX4_countBackward 59 = .ok (.aload_n 0, 1) := by decide +kernel
theorem dX4_countBackward_60 : decode cX4_countBackward 60 = .ok (.iload_n 1, 1) := by decide +kernel
theorem dX4_countBackward_61 : decode cX4_countBackward 61 = .ok (.invokevirtual 49, 3) := by decide +kernel
theorem dX4_countBackward_64 : decode cX4_countBackward 64 = .ok (.invokestatic 69, 3) := by decide +kernel
theorem dX4_countBackward_67 : decode cX4_countBackward 67 = .ok (.goto 4, 3) := by decide +kernel
theorem dX4_countBackward_70 : decode cX4_countBackward 70 = .ok (.iload_n 3, 1) := by decide +kernel
theorem dX4_countBackward_71 : decode cX4_countBackward 71 = .ok (.iastore, 1) := by decide +kernel
theorem dX4_countBackward_72 : decode cX4_countBackward 72 = .ok (.iinc 2 1, 3) := by decide +kernel
theorem dX4_countBackward_75 : decode cX4_countBackward 75 = .ok (.goto (-51), 3) := by decide +kernel
theorem dX4_countBackward_78 : decode cX4_countBackward 78 = .ok (.iinc 1 (-1), 3) := by decide +kernel
theorem dX4_countBackward_81 : decode cX4_countBackward 81 = .ok (.goto (-63), 3) := by decide +kernel
theorem dX4_countBackward_84 : decode cX4_countBackward 84 = .ok (.return_, 1) := by decide +kernel
theorem dX4_isLink_0 : decode cX4_isLink 0 = .ok (.aload_n 0, 1) := by decide +kernel
theorem dX4_isLink_1 : decode cX4_isLink 1 = .ok (.getfield 14, 3) := by decide +kernel
theorem dX4_isLink_4 : decode cX4_isLink 4 = .ok (.getfield 74, 3) := by decide +kernel
theorem dX4_isLink_7 : decode cX4_isLink 7 = .ok (.iload_n 1, 1) := by decide +kernel
theorem dX4_isLink_8 : decode cX4_isLink 8 = .ok (.iaload, 1) := by decide +kernel
theorem dX4_isLink_9 : decode cX4_isLink 9 = .ok (.iload_n 2, 1) := by decide +kernel
theorem dX4_isLink_10 : decode cX4_isLink 10 = .ok (.if_icmp .ne 7, 3) := by decide +kernel
theorem dX4_isLink_13 : decode cX4_isLink 13 = .ok (.iconst 1, 1) := by decide +kernel
theorem dX4_isLink_14 : decode cX4_isLink 14 = .ok (.goto 4, 3) := by decide +kernel
theorem dX4_isLink_17 : decode cX4_isLink 17 = .ok (.iconst 0, 1) := by decide +kernel
theorem dX4_isLink_18 : decode cX4_isLink 18 = .ok (.ireturn, 1) := by decide +kernel
theorem dX4_withLink_0 : decode cX4_withLink 0 = .ok (.iconst 1, 1) := by decide +kernel
theorem dX4_withLink_1 : decode cX4_withLink 1 = .ok (.aload_n 0, 1) := by decide +kernel
theorem dX4_withLink_2 : decode cX4_withLink 2 = .ok (.iload_n 1, 1) := by decide +kernel
theorem dX4_withLink_3 : decode cX4_withLink 3 = .ok (.iconst 1, 1) := by decide +kernel
theorem dX4_withLink_4 : decode cX4_withLink 4 = .ok (.iadd, 1) := by decide +kernel
theorem dX4_withLink_5 : decode cX4_withLink 5 = .ok (.aload_n 0, 1) := by decide +kernel
theorem dX4_withLink_6 : decode cX4_withLink 6 = .ok (.getfield 14, 3) := by decide +kernel
theorem dX4_withLink_9 : decode cX4_withLink 9 = .ok (.getfield 57, 3) := by decide +kernel
theorem dX4_withLink_12 : decode cX4_withLink 12 = .ok (.iload_n 1, 1) := by decide +kernel
theorem dX4_withLink_13 : decode cX4_withLink 13 = .ok (.iaload, 1) := by decide +kernel
theorem dX4_withLink_14 : decode cX4_withLink 14 = .ok (.invokevirtual 53, 3) := by decide +kernel
theorem dX4_withLink_17 : decode cX4_withLink 17 = .ok (.iadd, 1) := by decide +kernel
theorem dX4_withLink_18 : decode cX4_withLink 18 = .ok (.ireturn, 1) := by decide +kernel
theorem dX4_mostFrom_0 : decode cX4_mostFrom 0 = .ok (.aload_n 0, 1) := by decide +kernel
theorem dX4_mostFrom_1 : decode cX4_mostFrom 1 = .ok (.getfield 24, 3) := by decide +kernel
theorem dX4_mostFrom_4 : decode cX4_mostFrom 4 = .ok (.iload_n 1, 1) := by decide +kernel
theorem dX4_mostFrom_5 : decode cX4_mostFrom 5 = .ok (.bipush 8, 2) := by decide +kernel
theorem dX4_mostFrom_7 : decode cX4_mostFrom 7 = .ok (.imul, 1) := by decide +kernel
theorem dX4_mostFrom_8 : decode cX4_mostFrom 8 = .ok (.iload_n 2, 1) := by decide +kernel
theorem dX4_mostFrom_9 : decode cX4_mostFrom 9 = .ok (.iadd, 1) := by decide +kernel
theorem dX4_mostFrom_10 : decode cX4_mostFrom 10 = .ok (.iaload, 1) := by decide +kernel
theorem dX4_mostFrom_11 : decode cX4_mostFrom 11 = .ok (.ireturn, 1) := by decide +kernel
theorem dX5_init_0 : decode cX5_init 0 = .ok (.aload_n 0, 1) := by decide +kernel
theorem dX5_init_1 : decode cX5_init 1 = .ok (.invokespecial 3, 3) := by decide +kernel
theorem dX5_init_4 : decode cX5_init 4 = .ok (.aload_n 0, 1) := by decide +kernel
theorem dX5_init_5 : decode cX5_init 5 = .ok (.bipush 88, 2) := by decide +kernel
theorem dX5_init_7 : decode cX5_init 7 = .ok (.newarray .int, 2) := by decide +kernel
theorem dX5_init_9 : decode cX5_init 9 = .ok (.putfield 9, 3) := by decide +kernel
theorem dX5_init_12 : decode cX5_init 12 = .ok (.aload_n 0, 1) := by decide +kernel
theorem dX5_init_13 : decode cX5_init 13 = .ok (.bipush 88, 2) := by decide +kernel
theorem dX5_init_15 : decode cX5_init 15 = .ok (.newarray .int, 2) := by decide +kernel
theorem dX5_init_17 : decode cX5_init 17 = .ok (.putfield 15, 3) := by decide +kernel
theorem dX5_init_20 : decode cX5_init 20 = .ok (.aload_n 0, 1) := by decide +kernel
theorem dX5_init_21 : decode cX5_init 21 = .ok (.bipush 88, 2) := by decide +kernel
theorem dX5_init_23 : decode cX5_init 23 = .ok (.newarray .long, 2) := by decide +kernel
theorem dX5_init_25 : decode cX5_init 25 = .ok (.putfield 18, 3) := by decide +kernel
theorem dX5_init_28 : decode cX5_init 28 = .ok (.aload_n 0, 1) := by decide +kernel
theorem dX5_init_29 : decode cX5_init 29 = .ok (.bipush 88, 2) := by decide +kernel
theorem dX5_init_31 : decode cX5_init 31 = .ok (.newarray .int, 2) := by decide +kernel
theorem dX5_init_33 : decode cX5_init 33 = .ok (.putfield 22, 3) := by decide +kernel
theorem dX5_init_36 : decode cX5_init 36 = .ok (.aload_n 0, 1) := by decide +kernel
theorem dX5_init_37 : decode cX5_init 37 = .ok (.bipush 88, 2) := by decide +kernel
theorem dX5_init_39 : decode cX5_init 39 = .ok (.newarray .int, 2) := by decide +kernel
theorem dX5_init_41 : decode cX5_init 41 = .ok (.putfield 25, 3) := by decide +kernel
theorem dX5_init_44 : decode cX5_init 44 = .ok (.aload_n 0, 1) := by decide +kernel
theorem dX5_init_45 : decode cX5_init 45 = .ok (.bipush 10, 2) := by decide +kernel
theorem dX5_init_47 : decode cX5_init 47 = .ok (.newarray .int, 2) := by decide +kernel
theorem dX5_init_49 : decode cX5_init 49 = .ok (.putfield 28, 3) := by decide +kernel
theorem dX5_init_52 : decode cX5_init 52 = .ok (.aload_n 0, 1) := by decide +kernel
theorem dX5_init_53 : decode cX5_init 53 = .ok (.bipush 10, 2) := by decide +kernel
theorem dX5_init_55 : decode cX5_init 55 = .ok (.newarray .int, 2) := by decide +kernel
theorem dX5_init_57 : decode cX5_init 57 = .ok (.putfield 31, 3) := by decide +kernel
theorem dX5_init_60 : decode cX5_init 60 = .ok (.aload_n 0, 1) := by decide +kernel
theorem dX5_init_61 : decode cX5_init 61 = .ok (.aload_n 1, 1) := by decide +kernel
theorem dX5_init_62 : decode cX5_init 62 = .ok (.putfield 34, 3) := by decide +kernel
theorem dX5_init_65 : decode cX5_init 65 = .ok (.return_, 1) := by decide +kernel
theorem dX5_solve_0 : decode cX5_solve 0 = .ok (.aload_n 0, 1) := by decide +kernel
theorem dX5_solve_1 : decode cX5_solve 1 = .ok (.getfield 34, 3) := by decide +kernel
theorem dX5_solve_4 : decode cX5_solve 4 = .ok (.invokevirtual 38, 3) := by decide +kernel
theorem dX5_solve_7 : decode cX5_solve 7 = .ok (.aload_n 0, 1) := by decide +kernel
theorem dX5_solve_8 : decode cX5_solve 8 = .ok (.invokevirtual 43, 3) := by decide +kernel
theorem dX5_solve_11 : decode cX5_solve 11 = .ok (.aload_n 0, 1) := by decide +kernel
theorem dX5_solve_12 : decode cX5_solve 12 = .ok (.invokevirtual 46, 3) := by decide +kernel
theorem dX5_solve_15 : decode cX5_solve 15 = .ok (.aload_n 0, 1) := by decide +kernel
theorem dX5_solve_16 : decode cX5_solve 16 = .ok (.invokevirtual 49, 3) := by decide +kernel
theorem dX5_solve_19 : decode cX5_solve 19 = .ok (.aload_n 0, 1) := by decide +kernel
theorem dX5_solve_20 : decode cX5_solve 20 = .ok (.invokevirtual 52, 3) := by decide +kernel
theorem dX5_solve_23 : decode cX5_solve 23 = .ok (.return_, 1) := by decide +kernel
theorem dX5_bestGood_0 : decode cX5_bestGood 0 = .ok (.aload_n 0, 1) := by decide +kernel
theorem dX5_bestGood_1 : decode cX5_bestGood 1 = .ok (.getfield 15, 3) := by decide +kernel
theorem dX5_bestGood_4 : decode cX5_bestGood 4 = .ok (.iconst 0, 1) := by decide +kernel
theorem dX5_bestGood_5 : decode cX5_bestGood 5 = .ok (.iaload, 1) := by decide +kernel
theorem dX5_bestGood_6 : decode cX5_bestGood 6 = .ok (.ireturn, 1) := by decide +kernel
theorem dX5_bestWays_0 : decode cX5_bestWays 0 = .ok (.aload_n 0, 1) := by decide +kernel
theorem dX5_bestWays_1 : decode cX5_bestWays 1 = .ok (.getfield 18, 3) := by decide +kernel
theorem dX5_bestWays_4 : decode cX5_bestWays 4 = .ok (.iconst 0, 1) := by decide +kernel
theorem dX5_bestWays_5 : decode cX5_bestWays 5 = .ok (.laload, 1) := by decide +kernel
theorem dX5_bestWays_6 : decode cX5_bestWays 6 = .ok (.lreturn, 1) := by decide +kernel
theorem dX5_certain_0 : decode cX5_certain 0 = .ok (.aload_n 0, 1) := by decide +kernel
theorem dX5_certain_1 : decode cX5_certain 1 = .ok (.getfield 22, 3) := by decide +kernel
theorem dX5_certain_4 : decode cX5_certain 4 = .ok (.iconst 0, 1) := by decide +kernel
theorem dX5_certain_5 : decode cX5_certain 5 = .ok (.iaload, 1) := by decide +kernel
theorem dX5_certain_6 : decode cX5_certain 6 = .ok (.ireturn, 1) := by decide +kernel
theorem dX5_possible_0 : decode cX5_possible 0 = .ok (.aload_n 0, 1) := by decide +kernel
theorem dX5_possible_1 : decode cX5_possible 1 = .ok (.getfield 25, 3) := by decide +kernel
theorem dX5_possible_4 : decode cX5_possible 4 = .ok (.iconst 0, 1) := by decide +kernel
theorem dX5_possible_5 : decode cX5_possible 5 = .ok (.iaload, 1) := by decide +kernel
theorem dX5_possible_6 : decode cX5_possible 6 = .ok (.ireturn, 1) := by decide +kernel
theorem dX5_howKept_0 : decode cX5_howKept 0 = .ok (.aload_n 0, 1) := by decide +kernel
theorem dX5_howKept_1 : decode cX5_howKept 1 = .ok (.getfield 28, 3) := by decide +kernel
theorem dX5_howKept_4 : decode cX5_howKept 4 = .ok (.iload_n 1, 1) := by decide +kernel
theorem dX5_howKept_5 : decode cX5_howKept 5 = .ok (.iaload, 1) := by decide +kernel
theorem dX5_howKept_6 : decode cX5_howKept 6 = .ok (.ifCond .ne 7, 3) := by decide +kernel
theorem dX5_howKept_9 : decode cX5_howKept 9 = .ok (.iconst 0, 1) := by decide +kernel
theorem dX5_howKept_10 : decode cX5_howKept 10 = .ok (.goto 14, 3) := by decide +kernel
theorem dX5_howKept_13 : decode cX5_howKept 13 = .ok (.iconst 1, 1) := by decide +kernel
theorem dX5_howKept_14 : decode cX5_howKept 14 = .ok (.aload_n 0, 1) := by decide +kernel
theorem dX5_howKept_15 : decode cX5_howKept 15 = .ok (.getfield 28, 3) := by decide +kernel
theorem dX5_howKept_18 : decode cX5_howKept 18 = .ok (.iload_n 1, 1) := by decide +kernel
theorem dX5_howKept_19 : decode cX5_howKept 19 = .ok (.iaload, 1) := by decide +kernel
theorem dX5_howKept_20 : decode cX5_howKept 20 = .ok (.invokestatic 55, 3) := by decide +kernel
theorem dX5_howKept_23 : decode cX5_howKept 23 = .ok (.iadd, 1) := by decide +kernel
theorem dX5_howKept_24 : decode cX5_howKept 24 = .ok (.ireturn, 1) := by decide +kernel
theorem dX5_farOf_0 : decode cX5_farOf 0 = .ok (.aload_n 0, 1) := by decide +kernel
theorem dX5_farOf_1 : decode cX5_farOf 1 = .ok (.getfield 28, 3) := by decide +kernel
theorem dX5_farOf_4 : decode cX5_farOf 4 = .ok (.iload_n 1, 1) := by decide +kernel
theorem dX5_farOf_5 : decode cX5_farOf 5 = .ok (.iaload, 1) := by decide +kernel
theorem dX5_farOf_6 : decode cX5_farOf 6 = .ok (.ifCond .ne 8, 3) := by decide +kernel
theorem dX5_farOf_9 : decode cX5_farOf 9 = .ok (.bipush (-9), 2) := by decide +kernel
theorem dX5_farOf_11 : decode cX5_farOf 11 = .ok (.goto 17, 3) := by decide +kernel
theorem dX5_farOf_14 : decode cX5_farOf 14 = .ok (.aload_n 0, 1) := by decide +kernel
theorem dX5_farOf_15 : decode cX5_farOf 15 = .ok (.getfield 34, 3) := by decide +kernel
theorem dX5_farOf_18 : decode cX5_farOf 18 = .ok (.getfield 59, 3) := by decide +kernel
theorem dX5_farOf_21 : decode cX5_farOf 21 = .ok (.aload_n 0, 1) := by decide +kernel
theorem dX5_farOf_22 : decode cX5_farOf 22 = .ok (.getfield 28, 3) := by decide +kernel
theorem dX5_farOf_25 : decode cX5_farOf 25 = .ok (.iload_n 1, 1) := by decide +kernel
theorem dX5_farOf_26 : decode cX5_farOf 26 = .ok (.iaload, 1) := by decide +kernel
theorem dX5_farOf_27 : decode cX5_farOf 27 = .ok (.iaload, 1) := by decide +kernel
theorem dX5_farOf_28 : decode cX5_farOf 28 = .ok (.ireturn, 1) := by decide +kernel
theorem dX5_reasonOf_0 : decode cX5_reasonOf 0 = .ok (.aload_n 0, 1) := by decide +kernel
theorem dX5_reasonOf_1 : decode cX5_reasonOf 1 = .ok (.getfield 31, 3) := by decide +kernel
theorem dX5_reasonOf_4 : decode cX5_reasonOf 4 = .ok (.iload_n 1, 1) := by decide +kernel
theorem dX5_reasonOf_5 : decode cX5_reasonOf 5 = .ok (.iaload, 1) := by decide +kernel
theorem dX5_reasonOf_6 : decode cX5_reasonOf 6 = .ok (.ireturn, 1) := by decide +kernel
theorem dX5_farOn_0 : decode cX5_farOn 0 = .ok (.aload_n 0, 1) := by decide +kernel
theorem dX5_farOn_1 : decode cX5_farOn 1 = .ok (.iload_n 1, 1) := by decide +kernel
theorem dX5_farOn_2 : decode cX5_farOn 2 = .ok (.invokevirtual 62, 3) := by decide +kernel
theorem dX5_farOn_5 : decode cX5_farOn 5 = .ok (.istore_n 3, 1) := by decide +kernel
theorem dX5_farOn_6 : decode cX5_farOn 6 = .ok (.aload_n 0, 1) := by decide +kernel
theorem dX5_farOn_7 : decode cX5_farOn 7 = .ok (.iload_n 1, 1) := by decide +kernel
theorem dX5_farOn_8 : decode cX5_farOn 8 = .ok (.invokevirtual 65, 3) := by decide +kernel
theorem dX5_farOn_11 : decode cX5_farOn 11 = .ok (.istore 4, 2) := by decide +kernel
theorem dX5_farOn_13 : decode cX5_farOn 13 = .ok (.iload_n 3, 1) := by decide +kernel
theorem dX5_farOn_14 : decode cX5_farOn 14 = .ok (.ifCond .eq 8, 3) := by decide +kernel
theorem dX5_farOn_17 : decode cX5_farOn 17 = .ok (.iload 4, 2) := by decide +kernel
theorem dX5_farOn_19 : decode cX5_farOn 19 = .ok (.ifCond .ne 6, 3) := by decide +kernel
theorem dX5_farOn_22 : decode cX5_farOn 22 = .ok (.bipush (-9), 2) := by decide +kernel
theorem dX5_farOn_24 : decode cX5_farOn 24 = .ok (.ireturn, 1) := by decide +kernel
theorem dX5_farOn_25 : decode cX5_farOn 25 = .ok (.aload_n 0, 1) := by decide +kernel
theorem dX5_farOn_26 : decode cX5_farOn 26 = .ok (.getfield 34, 3) := by decide +kernel
theorem dX5_farOn_29 : decode cX5_farOn 29 = .ok (.aload_n 0, 1) := by decide +kernel
theorem dX5_farOn_30 : decode cX5_farOn 30 = .ok (.getfield 34, 3) := by decide +kernel
theorem dX5_farOn_33 : decode cX5_farOn 33 = .ok (.getfield 68, 3) := by decide +kernel
theorem dX5_farOn_36 : decode cX5_farOn 36 = .ok (.iload_n 3, 1) := by decide +kernel
theorem dX5_farOn_37 : decode cX5_farOn 37 = .ok (.iaload, 1) := by decide +kernel
theorem dX5_farOn_38 : decode cX5_farOn 38 = .ok (.iload_n 1, 1) := by decide +kernel
theorem dX5_farOn_39 : decode cX5_farOn 39 = .ok (.invokevirtual 71, 3) := by decide +kernel
theorem dX5_farOn_42 : decode cX5_farOn 42 = .ok (.istore 5, 2) := by decide +kernel
theorem dX5_farOn_44 : decode cX5_farOn 44 = .ok (.aload_n 0, 1) := by decide +kernel
theorem dX5_farOn_45 : decode cX5_farOn 45 = .ok (.getfield 34, 3) := by decide +kernel
theorem dX5_farOn_48 : decode cX5_farOn 48 = .ok (.iload_n 1, 1) := by decide +kernel
theorem dX5_farOn_49 : decode cX5_farOn 49 = .ok (.aload_n 0, 1) := by decide +kernel
theorem dX5_farOn_50 : decode cX5_farOn 50 = .ok (.getfield 34, 3) := by decide +kernel
theorem dX5_farOn_53 : decode cX5_farOn 53 = .ok (.getfield 68, 3) := by decide +kernel
theorem dX5_farOn_56 : decode cX5_farOn 56 = .ok (.iload 4, 2) := by decide +kernel
theorem dX5_farOn_58 : decode cX5_farOn 58 = .ok (.iaload, 1) := by decide +kernel
theorem dX5_farOn_59 : decode cX5_farOn 59 = .ok (.invokevirtual 71, 3) := by decide +kernel
theorem dX5_farOn_62 : decode cX5_farOn 62 = .ok (.istore 6, 2) := by decide +kernel
theorem dX5_farOn_64 : decode cX5_farOn 64 = .ok (.iload_n 2, 1) := by decide +kernel
theorem dX5_farOn_65 : decode cX5_farOn 65 = .ok (.ifCond .eq 31, 3) := by decide +kernel
theorem dX5_farOn_68 : decode cX5_farOn 68 = .ok (.aload_n 0, 1) := by decide +kernel
theorem dX5_farOn_69 : decode cX5_farOn 69 = .ok (.getfield 34, 3) := by decide +kernel
theorem dX5_farOn_72 : decode cX5_farOn 72 = .ok (.getfield 59, 3) := by decide +kernel
theorem dX5_farOn_75 : decode cX5_farOn 75 = .ok (.iload 4, 2) := by decide +kernel
theorem dX5_farOn_77 : decode cX5_farOn 77 = .ok (.iaload, 1) := by decide +kernel
theorem dX5_farOn_78 : decode cX5_farOn 78 = .ok (.aload_n 0, 1) := by decide +kernel
theorem dX5_farOn_79 : decode cX5_farOn 79 = .ok (.getfield 34, 3) := by decide +kernel
theorem dX5_farOn_82 : decode cX5_farOn 82 = .ok (.getfield 59, 3) := by decide +kernel
theorem dX5_farOn_85 : decode cX5_farOn 85 = .ok (.iload_n 3, 1) := by decide +kernel
theorem dX5_farOn_86 : decode cX5_farOn 86 = .ok (.iaload, 1) := by decide +kernel
theorem dX5_farOn_87 : decode cX5_farOn 87 = .ok (.iload 5, 2) := by decide +kernel
theorem dX5_farOn_89 : decode cX5_farOn 89 = .ok (.iadd, 1) := by decide +kernel
theorem dX5_farOn_90 : decode cX5_farOn 90 = .ok (.invokestatic 75, 3) := by decide +kernel
theorem dX5_farOn_93 : decode cX5_farOn 93 = .ok (.goto 28, 3) := by decide +kernel
theorem dX5_farOn_96 : decode cX5_farOn 96 = .ok (.aload_n 0, 1) := by decide +kernel
theorem dX5_farOn_97 : decode cX5_farOn 97 = .ok (.getfield 34, 3) := by decide +kernel
theorem dX5_farOn_100 : decode cX5_farOn 100 = .ok (.getfield 59, 3) := by decide +kernel
theorem dX5_farOn_103 : decode cX5_farOn 103 = .ok (.iload_n 3, 1) := by decide +kernel
theorem dX5_farOn_104 : decode cX5_farOn 104 = .ok (.iaload, 1) := by decide +kernel
theorem dX5_farOn_105 : decode cX5_farOn 105 = .ok (.aload_n 0, 1) := by decide +kernel
theorem dX5_farOn_106 : decode cX5_farOn 106 = .ok (.getfield 34, 3) := by decide +kernel
theorem dX5_farOn_109 : decode cX5_farOn 109 = .ok (.getfield 59, 3) := by decide +kernel
theorem dX5_farOn_112 : decode cX5_farOn 112 = .ok (.iload 4, 2) := by decide +kernel
theorem dX5_farOn_114 : decode cX5_farOn 114 = .ok (.iaload, 1) := by decide +kernel
theorem dX5_farOn_115 : decode cX5_farOn 115 = .ok (.iload 6, 2) := by decide +kernel
theorem dX5_farOn_117 : decode cX5_farOn 117 = .ok (.isub, 1) := by decide +kernel
theorem dX5_farOn_118 : decode cX5_farOn 118 = .ok (.invokestatic 80, 3) := by decide +kernel
theorem dX5_farOn_121 : decode cX5_farOn 121 = .ok (.ireturn, 1) := by decide +kernel
theorem dX5_lastUntil_0 : decode cX5_lastUntil 0 = .ok (.iconst 0, 1) := by decide +kernel
theorem dX5_lastUntil_1 : decode cX5_lastUntil 1 = .ok (.istore_n 2, 1) := by decide +kernel
theorem dX5_lastUntil_2 : decode cX5_lastUntil 2 = .ok (.iconst 0, 1) := by decide +kernel
theorem dX5_lastUntil_3 : decode cX5_lastUntil 3 = .ok (.istore_n 3, 1) := by decide +kernel
theorem dX5_lastUntil_4 : decode cX5_lastUntil 4 = .ok (.iload_n 3, 1) := by decide +kernel
theorem dX5_lastUntil_5 : decode cX5_lastUntil 5 = .ok (.aload_n 0, 1) := by decide +kernel
theorem dX5_lastUntil_6 : decode cX5_lastUntil 6 = .ok (.getfield 34, 3) := by decide +kernel
theorem dX5_lastUntil_9 : decode cX5_lastUntil 9 = .ok (.invokevirtual 83, 3) := by decide +kernel
theorem dX5_lastUntil_12 : decode cX5_lastUntil 12 = .ok (.if_icmp .ge 43, 3) := by decide +kernel
theorem dX5_lastUntil_15 : decode cX5_lastUntil 15 = .ok (.aload_n 0, 1) := by decide +kernel
theorem dX5_lastUntil_16 : decode cX5_lastUntil 16 = .ok (.getfield 28, 3) := by decide +kernel
theorem dX5_lastUntil_19 : decode cX5_lastUntil 19 = .ok (.iload_n 3, 1) := by decide +kernel
theorem dX5_lastUntil_20 : decode cX5_lastUntil 20 = .ok (.iaload, 1) := by decide +kernel
theorem dX5_lastUntil_21 : decode cX5_lastUntil 21 = .ok (.ifCond .eq 28, 3) := by decide +kernel
theorem dX5_lastUntil_24 : decode cX5_lastUntil 24 = .ok (.aload_n 0, 1) := by decide +kernel
theorem dX5_lastUntil_25 : decode cX5_lastUntil 25 = .ok (.getfield 34, 3) := by decide +kernel
theorem dX5_lastUntil_28 : decode cX5_lastUntil 28 = .ok (.getfield 68, 3) := by decide +kernel
theorem dX5_lastUntil_31 : decode cX5_lastUntil 31 = .ok (.aload_n 0, 1) := by decide +kernel
theorem dX5_lastUntil_32 : decode cX5_lastUntil 32 = .ok (.getfield 28, 3) := by decide +kernel
theorem dX5_lastUntil_35 : decode cX5_lastUntil 35 = .ok (.iload_n 3, 1) := by decide +kernel
theorem dX5_lastUntil_36 : decode cX5_lastUntil 36 = .ok (.iaload, 1) := by decide +kernel
theorem dX5_lastUntil_37 : decode cX5_lastUntil 37 = .ok (.iaload, 1) := by decide +kernel
theorem dX5_lastUntil_38 : decode cX5_lastUntil 38 = .ok (.iload_n 1, 1) := by decide +kernel
theorem dX5_lastUntil_39 : decode cX5_lastUntil 39 = .ok (.if_icmp .gt 10, 3) := by decide +kernel
theorem dX5_lastUntil_42 : decode cX5_lastUntil 42 = .ok (.aload_n 0, 1) := by decide +kernel
theorem dX5_lastUntil_43 : decode cX5_lastUntil 43 = .ok (.getfield 28, 3) := by decide +kernel
theorem dX5_lastUntil_46 : decode cX5_lastUntil 46 = .ok (.iload_n 3, 1) := by decide +kernel
theorem dX5_lastUntil_47 : decode cX5_lastUntil 47 = .ok (.iaload, 1) := by decide +kernel
theorem dX5_lastUntil_48 : decode cX5_lastUntil 48 = .ok (.istore_n 2, 1) := by decide +kernel
theorem dX5_lastUntil_49 : decode cX5_lastUntil 49 = .ok (.iinc 3 1, 3) := by decide +kernel
theorem dX5_lastUntil_52 : decode cX5_lastUntil 52 = .ok (.goto (-48), 3) := by decide +kernel
theorem dX5_lastUntil_55 : decode cX5_lastUntil 55 = .ok (.iload_n 2, 1) := by decide +kernel
theorem dX5_lastUntil_56 : decode cX5_lastUntil 56 = .ok (.ireturn, 1) := by decide +kernel
theorem dX5_firstAfter_0 : decode cX5_firstAfter 0 = .ok (.iconst 0, 1) := by decide +kernel
theorem dX5_firstAfter_1 : decode cX5_firstAfter 1 = .ok (.istore_n 2, 1) := by decide +kernel
theorem dX5_firstAfter_2 : decode cX5_firstAfter 2 = .ok (.iload_n 2, 1) := by decide +kernel
theorem dX5_firstAfter_3 : decode cX5_firstAfter 3 = .ok (.aload_n 0, 1) := by decide +kernel
theorem dX5_firstAfter_4 : decode cX5_firstAfter 4 = .ok (.getfield 34, 3) := by decide +kernel
theorem dX5_firstAfter_7 : decode cX5_firstAfter 7 = .ok (.invokevirtual 83, 3) := by decide +kernel
theorem dX5_firstAfter_10 : decode cX5_firstAfter 10 = .ok (.if_icmp .ge 43, 3) := by decide +kernel
theorem dX5_firstAfter_13 : decode cX5_firstAfter 13 = .ok (.aload_n 0, 1) := by decide +kernel
theorem dX5_firstAfter_14 : decode cX5_firstAfter 14 = .ok (.getfield 28, 3) := by decide +kernel
theorem dX5_firstAfter_17 : decode cX5_firstAfter 17 = .ok (.iload_n 2, 1) := by decide +kernel
theorem dX5_firstAfter_18 : decode cX5_firstAfter 18 = .ok (.iaload, 1) := by decide +kernel
theorem dX5_firstAfter_19 : decode cX5_firstAfter 19 = .ok (.ifCond .eq 28, 3) := by decide +kernel
theorem dX5_firstAfter_22 : decode cX5_firstAfter 22 = .ok (.aload_n 0, 1) := by decide +kernel
theorem dX5_firstAfter_23 : decode cX5_firstAfter 23 = .ok (.getfield 34, 3) := by decide +kernel
theorem dX5_firstAfter_26 : decode cX5_firstAfter 26 = .ok (.getfield 68, 3) := by decide +kernel
theorem dX5_firstAfter_29 : decode cX5_firstAfter 29 = .ok (.aload_n 0, 1) := by decide +kernel
theorem dX5_firstAfter_30 : decode cX5_firstAfter 30 = .ok (.getfield 28, 3) := by decide +kernel
theorem dX5_firstAfter_33 : decode cX5_firstAfter 33 = .ok (.iload_n 2, 1) := by decide +kernel
theorem dX5_firstAfter_34 : decode cX5_firstAfter 34 = .ok (.iaload, 1) := by decide +kernel
theorem dX5_firstAfter_35 : decode cX5_firstAfter 35 = .ok (.iaload, 1) := by decide +kernel
theorem dX5_firstAfter_36 : decode cX5_firstAfter 36 = .ok (.iload_n 1, 1) := by decide +kernel
theorem dX5_firstAfter_37 : decode cX5_firstAfter 37 = .ok (.if_icmp .le 10, 3) := by decide +kernel
theorem dX5_firstAfter_40 : decode cX5_firstAfter 40 = .ok (.aload_n 0, 1) := by decide +kernel
theorem dX5_firstAfter_41 : decode cX5_firstAfter 41 = .ok (.getfield 28, 3) := by decide +kernel
theorem dX5_firstAfter_44 : decode cX5_firstAfter 44 = .ok (.iload_n 2, 1) := by decide +kernel
theorem dX5_firstAfter_45 : decode cX5_firstAfter 45 = .ok (.iaload, 1) := by decide +kernel
theorem dX5_firstAfter_46 : decode cX5_firstAfter 46 = .ok (.ireturn, 1) := by decide +kernel
theorem dX5_firstAfter_47 : decode cX5_firstAfter 47 = .ok (.iinc 2 1, 3) := by decide +kernel
theorem dX5_firstAfter_50 : decode cX5_firstAfter 50 = .ok (.goto (-48), 3) := by decide +kernel
theorem dX5_firstAfter_53 : decode cX5_firstAfter 53 = .ok (.iconst 0, 1) := by decide +kernel
theorem dX5_firstAfter_54 : decode cX5_firstAfter 54 = .ok (.ireturn, 1) := by decide +kernel
theorem dX5_goForward_0 : decode cX5_goForward 0 = .ok (.aload_n 0, 1) := by decide +kernel
theorem dX5_goForward_1 : decode cX5_goForward 1 = .ok (.getfield 9, 3) := by decide +kernel
theorem dX5_goForward_4 : decode cX5_goForward 4 = .ok (.iconst (-1), 1) := by decide +kernel
theorem dX5_goForward_5 : decode cX5_goForward 5 = .ok (.invokestatic 87, 3) := by decide +kernel
theorem dX5_goForward_8 : decode cX5_goForward 8 = .ok (.aload_n 0, 1) := by decide +kernel
theorem dX5_goForward_9 : decode cX5_goForward 9 = .ok (.getfield 9, 3) := by decide +kernel
theorem dX5_goForward_12 : decode cX5_goForward 12 = .ok (.iconst 0, 1) := by decide +kernel
theorem dX5_goForward_13 : decode cX5_goForward 13 = .ok (.iconst 0, 1) := by decide +kernel
theorem dX5_goForward_14 : decode cX5_goForward 14 = .ok (.iastore, 1) := by decide +kernel
theorem dX5_goForward_15 : decode cX5_goForward 15 = .ok (.iconst 0, 1) := by decide +kernel
theorem dX5_goForward_16 : decode cX5_goForward 16 = .ok (.istore_n 1, 1) := by decide +kernel
theorem dX5_goForward_17 : decode cX5_goForward 17 = .ok (.iload_n 1, 1) := by decide +kernel
theorem dX5_goForward_18 : decode cX5_goForward 18 = .ok (.aload_n 0, 1) := by decide +kernel
theorem dX5_goForward_19 : decode cX5_goForward 19 = .ok (.getfield 34, 3) := by decide +kernel
theorem dX5_goForward_22 : decode cX5_goForward 22 = .ok (.invokevirtual 93, 3) := by decide +kernel
theorem dX5_goForward_25 : decode cX5_goForward 25 = .ok (.if_icmp .ge 23, 3) := by decide +kernel
theorem dX5_goForward_28 : decode cX5_goForward 28 = .ok (.aload_n 0, 1) := by decide +kernel
theorem dX5_goForward_29 : decode cX5_goForward 29 = .ok (.getfield 9, 3) := by decide +kernel
theorem dX5_goForward_32 : decode cX5_goForward 32 = .ok (.iload_n 1, 1) := by decide +kernel
theorem dX5_goForward_33 : decode cX5_goForward 33 = .ok (.iaload, 1) := by decide +kernel
theorem dX5_goForward_34 : decode cX5_goForward 34 = .ok (.ifCond .lt 8, 3) := by decide +kernel
theorem dX5_goForward_37 : decode cX5_goForward 37 = .ok (.aload_n 0, 1) := by decide +kernel
theorem dX5_goForward_38 : decode cX5_goForward 38 = .ok (.iload_n 1, 1) := by decide +kernel
theorem dX5_goForward_39 : decode cX5_goForward 39 = .ok (.invokevirtual 96, 3) := by decide +kernel
theorem dX5_goForward_42 : decode cX5_goForward 42 = .ok (.iinc 1 1, 3) := by decide +kernel
theorem dX5_goForward_45 : decode cX5_goForward 45 = .ok (.goto (-28), 3) := by decide +kernel
theorem dX5_goForward_48 : decode cX5_goForward 48 = .ok (.return_, 1) := by decide +kernel
theorem dX5_spread_0 : decode cX5_spread 0 = .ok (.iload_n 1, 1) := by decide +kernel
theorem dX5_spread_1 : decode cX5_spread 1 = .ok (.invokestatic 100, 3) := by decide +kernel
theorem dX5_spread_4 : decode cX5_spread 4 = .ok (.iconst 1, 1) := by decide +kernel
theorem dX5_spread_5 : decode cX5_spread 5 = .ok (.iadd, 1) := by decide +kernel
theorem dX5_spread_6 : decode cX5_spread 6 = .ok (.istore_n 2, 1) := by decide +kernel
theorem dX5_spread_7 : decode cX5_spread 7 = .ok (.iload_n 2, 1) := by decide +kernel
theorem dX5_spread_8 : decode cX5_spread 8 = .ok (.aload_n 0, 1) := by decide +kernel
theorem dX5_spread_9 : decode cX5_spread 9 = .ok (.getfield 34, 3) := by decide +kernel
theorem dX5_spread_12 : decode cX5_spread 12 = .ok (.invokevirtual 83, 3) := by decide +kernel
theorem dX5_spread_15 : decode cX5_spread 15 = .ok (.if_icmp .ge 73, 3) := by decide +kernel
theorem dX5_spread_18 : decode cX5_spread 18 = .ok (.iconst 0, 1) := by decide +kernel
theorem dX5_spread_19 : decode cX5_spread 19 = .ok (.istore_n 3, 1) := by decide +kernel
theorem dX5_spread_20 : decode cX5_spread 20 = .ok (.iload_n 3, 1) := by decide +kernel
theorem dX5_spread_21 : decode cX5_spread 21 = .ok (.iconst 2, 1) := by decide +kernel
theorem dX5_spread_22 : decode cX5_spread 22 = .ok (.if_icmp .ge 60, 3) := by decide +kernel
theorem dX5_spread_25 : decode cX5_spread 25 = .ok (.aload_n 0, 1) := by decide +kernel
theorem dX5_spread_26 : decode cX5_spread 26 = .ok (.getfield 34, 3) := by decide +kernel
theorem dX5_spread_29 : decode cX5_spread 29 = .ok (.iload_n 1, 1) := by decide +kernel
theorem dX5_spread_30 : decode cX5_spread 30 = .ok (.iload_n 2, 1) := by decide +kernel
theorem dX5_spread_31 : decode cX5_spread 31 = .ok (.iload_n 3, 1) := by decide +kernel
theorem dX5_spread_32 : decode cX5_spread 32 = .ok (.invokevirtual 103, 3) := by decide +kernel
theorem dX5_spread_35 : decode cX5_spread 35 = .ok (.istore 4, 2) := by decide +kernel
theorem dX5_spread_37 : decode cX5_spread 37 = .ok (.iload 4, 2) := by decide +kernel
theorem dX5_spread_39 : decode cX5_spread 39 = .ok (.ifCond .lt 37, 3) := by decide +kernel
theorem dX5_spread_42 : decode cX5_spread 42 = .ok (.aload_n 0, 1) := by decide +kernel
theorem dX5_spread_43 : decode cX5_spread 43 = .ok (.getfield 9, 3) := by decide +kernel
theorem dX5_spread_46 : decode cX5_spread 46 = .ok (.iload 4, 2) := by decide +kernel
theorem dX5_spread_48 : decode cX5_spread 48 = .ok (.aload_n 0, 1) := by decide +kernel
theorem dX5_spread_49 : decode cX5_spread 49 = .ok (.getfield 9, 3) := by decide +kernel
theorem dX5_spread_52 : decode cX5_spread 52 = .ok (.iload 4, 2) := by decide +kernel
theorem dX5_spread_54 : decode cX5_spread 54 = .ok (.iaload, 1) := by decide +kernel
theorem dX5_spread_55 : decode cX5_spread 55 = .ok (.aload_n 0, 1) := by decide +kernel
