theorem dX6_set_4 : decode cX6_set 4 = .ok (.iload_n 2, 1) := by decide +kernel
theorem dX6_set_5 : decode cX6_set 5 = .ok (.i2l, 1) := by decide +kernel
theorem dX6_set_6 : decode cX6_set 6 = .ok (.lconst 1, 1) := by decide +kernel
theorem dX6_set_7 : decode cX6_set 7 = .ok (.ldc2_w 72, 3) := by decide +kernel
theorem dX6_set_10 : decode cX6_set 10 = .ok (.invokestatic 45, 3) := by decide +kernel
theorem dX6_set_13 : decode cX6_set 13 = .ok (.ifCond .ne 37, 3) := by decide +kernel
theorem dX6_set_16 : decode cX6_set 16 = .ok (.iload_n 1, 1) := by decide +kernel
theorem dX6_set_17 : decode cX6_set 17 = .ok (.iconst 1, 1) := by decide +kernel
theorem dX6_set_18 : decode cX6_set 18 = .ok (.if_icmp .ne 15, 3) := by decide +kernel
theorem dX6_set_21 : decode cX6_set 21 = .ok (.iload_n 2, 1) := by decide +kernel
theorem dX6_set_22 : decode cX6_set 22 = .ok (.i2l, 1) := by decide +kernel
theorem dX6_set_23 : decode cX6_set 23 = .ok (.lconst 1, 1) := by decide +kernel
theorem dX6_set_24 : decode cX6_set 24 = .ok (.ldc2_w 74, 3) := by decide +kernel
theorem dX6_set_27 : decode cX6_set 27 = .ok (.invokestatic 45, 3) := by decide +kernel
theorem dX6_set_30 : decode cX6_set 30 = .ok (.ifCond .ne 20, 3) := by decide +kernel
theorem dX6_set_33 : decode cX6_set 33 = .ok (.iload_n 1, 1) := by decide +kernel
theorem dX6_set_34 : decode cX6_set 34 = .ok (.iconst 2, 1) := by decide +kernel
theorem dX6_set_35 : decode cX6_set 35 = .ok (.if_icmp .ne 19, 3) := by decide +kernel
theorem dX6_set_38 : decode cX6_set 38 = .ok (.iload_n 2, 1) := by decide +kernel
theorem dX6_set_39 : decode cX6_set 39 = .ok (.i2l, 1) := by decide +kernel
theorem dX6_set_40 : decode cX6_set 40 = .ok (.lconst 0, 1) := by decide +kernel
theorem dX6_set_41 : decode cX6_set 41 = .ok (.ldc2_w 76, 3) := by decide +kernel
theorem dX6_set_44 : decode cX6_set 44 = .ok (.invokestatic 45, 3) := by decide +kernel
theorem dX6_set_47 : decode cX6_set 47 = .ok (.ifCond .eq 7, 3) := by decide +kernel
theorem dX6_set_50 : decode cX6_set 50 = .ok (.iconst 1, 1) := by decide +kernel
theorem dX6_set_51 : decode cX6_set 51 = .ok (.goto 4, 3) := by decide +kernel
theorem dX6_set_54 : decode cX6_set 54 = .ok (.iconst 0, 1) := by decide +kernel
theorem dX6_set_55 : decode cX6_set 55 = .ok (.istore_n 3, 1) := by decide +kernel
theorem dX6_set_56 : decode cX6_set 56 = .ok (.iload_n 3, 1) := by decide +kernel
theorem dX6_set_57 : decode cX6_set 57 = .ok (.ifCond .ne 5, 3) := by decide +kernel
theorem dX6_set_60 : decode cX6_set 60 = .ok (.iconst (-1), 1) := by decide +kernel
theorem dX6_set_61 : decode cX6_set 61 = .ok (.ireturn, 1) := by decide +kernel
theorem dX6_set_62 : decode cX6_set 62 = .ok (.aload_n 0, 1) := by decide +kernel
theorem dX6_set_63 : decode cX6_set 63 = .ok (.getfield 7, 3) := by decide +kernel
theorem dX6_set_66 : decode cX6_set 66 = .ok (.iload_n 1, 1) := by decide +kernel
theorem dX6_set_67 : decode cX6_set 67 = .ok (.iaload, 1) := by decide +kernel
theorem dX6_set_68 : decode cX6_set 68 = .ok (.istore 4, 2) := by decide +kernel
theorem dX6_set_70 : decode cX6_set 70 = .ok (.aload_n 0, 1) := by decide +kernel
theorem dX6_set_71 : decode cX6_set 71 = .ok (.getfield 7, 3) := by decide +kernel
theorem dX6_set_74 : decode cX6_set 74 = .ok (.iload_n 1, 1) := by decide +kernel
theorem dX6_set_75 : decode cX6_set 75 = .ok (.iload_n 2, 1) := by decide +kernel
theorem dX6_set_76 : decode cX6_set 76 = .ok (.iastore, 1) := by decide +kernel
theorem dX6_set_77 : decode cX6_set 77 = .ok (.iload 4, 2) := by decide +kernel
theorem dX6_set_79 : decode cX6_set 79 = .ok (.ireturn, 1) := by decide +kernel
theorem dX6_many_0 : decode cX6_many 0 = .ok (.aload_n 0, 1) := by decide +kernel
theorem dX6_many_1 : decode cX6_many 1 = .ok (.getfield 7, 3) := by decide +kernel
theorem dX6_many_4 : decode cX6_many 4 = .ok (.iload_n 1, 1) := by decide +kernel
theorem dX6_many_5 : decode cX6_many 5 = .ok (.invokestatic 24, 3) := by decide +kernel
theorem dX6_many_8 : decode cX6_many 8 = .ok (.iaload, 1) := by decide +kernel
theorem dX6_many_9 : decode cX6_many 9 = .ok (.ireturn, 1) := by decide +kernel
theorem dX6_remove_0 : decode cX6_remove 0 = .ok (.aload_n 0, 1) := by decide +kernel
theorem dX6_remove_1 : decode cX6_remove 1 = .ok (.iload_n 1, 1) := by decide +kernel
theorem dX6_remove_2 : decode cX6_remove 2 = .ok (.invokevirtual 78, 3) := by decide +kernel
theorem dX6_remove_5 : decode cX6_remove 5 = .ok (.istore_n 3, 1) := by decide +kernel
theorem dX6_remove_6 : decode cX6_remove 6 = .ok (.iload_n 1, 1) := by decide +kernel
theorem dX6_remove_7 : decode cX6_remove 7 = .ok (.iload_n 2, 1) := by decide +kernel
theorem dX6_remove_8 : decode cX6_remove 8 = .ok (.invokestatic 81, 3) := by decide +kernel
theorem dX6_remove_11 : decode cX6_remove 11 = .ok (.istore 4, 2) := by decide +kernel
theorem dX6_remove_13 : decode cX6_remove 13 = .ok (.iload 4, 2) := by decide +kernel
theorem dX6_remove_15 : decode cX6_remove 15 = .ok (.iload_n 1, 1) := by decide +kernel
theorem dX6_remove_16 : decode cX6_remove 16 = .ok (.iload_n 3, 1) := by decide +kernel
theorem dX6_remove_17 : decode cX6_remove 17 = .ok (.iconst 1, 1) := by decide +kernel
theorem dX6_remove_18 : decode cX6_remove 18 = .ok (.isub, 1) := by decide +kernel
theorem dX6_remove_19 : decode cX6_remove 19 = .ok (.invokestatic 81, 3) := by decide +kernel
theorem dX6_remove_22 : decode cX6_remove 22 = .ok (.if_icmp .ge 26, 3) := by decide +kernel
theorem dX6_remove_25 : decode cX6_remove 25 = .ok (.aload_n 0, 1) := by decide +kernel
theorem dX6_remove_26 : decode cX6_remove 26 = .ok (.getfield 7, 3) := by decide +kernel
theorem dX6_remove_29 : decode cX6_remove 29 = .ok (.iload 4, 2) := by decide +kernel
theorem dX6_remove_31 : decode cX6_remove 31 = .ok (.aload_n 0, 1) := by decide +kernel
theorem dX6_remove_32 : decode cX6_remove 32 = .ok (.getfield 7, 3) := by decide +kernel
theorem dX6_remove_35 : decode cX6_remove 35 = .ok (.iload 4, 2) := by decide +kernel
theorem dX6_remove_37 : decode cX6_remove 37 = .ok (.bipush 36, 2) := by decide +kernel
theorem dX6_remove_39 : decode cX6_remove 39 = .ok (.iadd, 1) := by decide +kernel
theorem dX6_remove_40 : decode cX6_remove 40 = .ok (.iaload, 1) := by decide +kernel
theorem dX6_remove_41 : decode cX6_remove 41 = .ok (.iastore, 1) := by decide +kernel
theorem dX6_remove_42 : decode cX6_remove 42 = .ok (.iinc 4 1, 3) := by decide +kernel
theorem dX6_remove_45 : decode cX6_remove 45 = .ok (.goto (-32), 3) := by decide +kernel
theorem dX6_remove_48 : decode cX6_remove 48 = .ok (.iload_n 1, 1) := by decide +kernel
theorem dX6_remove_49 : decode cX6_remove 49 = .ok (.iload_n 3, 1) := by decide +kernel
theorem dX6_remove_50 : decode cX6_remove 50 = .ok (.iconst 1, 1) := by decide +kernel
theorem dX6_remove_51 : decode cX6_remove 51 = .ok (.isub, 1) := by decide +kernel
theorem dX6_remove_52 : decode cX6_remove 52 = .ok (.invokestatic 81, 3) := by decide +kernel
theorem dX6_remove_55 : decode cX6_remove 55 = .ok (.istore 4, 2) := by decide +kernel
theorem dX6_remove_57 : decode cX6_remove 57 = .ok (.iload 4, 2) := by decide +kernel
theorem dX6_remove_59 : decode cX6_remove 59 = .ok (.iload_n 1, 1) := by decide +kernel
theorem dX6_remove_60 : decode cX6_remove 60 = .ok (.iload_n 3, 1) := by decide +kernel
theorem dX6_remove_61 : decode cX6_remove 61 = .ok (.invokestatic 81, 3) := by decide +kernel
theorem dX6_remove_64 : decode cX6_remove 64 = .ok (.if_icmp .ge 17, 3) := by decide +kernel
theorem dX6_remove_67 : decode cX6_remove 67 = .ok (.aload_n 0, 1) := by decide +kernel
theorem dX6_remove_68 : decode cX6_remove 68 = .ok (.getfield 7, 3) := by decide +kernel
theorem dX6_remove_71 : decode cX6_remove 71 = .ok (.iload 4, 2) := by decide +kernel
theorem dX6_remove_73 : decode cX6_remove 73 = .ok (.iconst 0, 1) := by decide +kernel
theorem dX6_remove_74 : decode cX6_remove 74 = .ok (.iastore, 1) := by decide +kernel
theorem dX6_remove_75 : decode cX6_remove 75 = .ok (.iinc 4 1, 3) := by decide +kernel
theorem dX6_remove_78 : decode cX6_remove 78 = .ok (.goto (-21), 3) := by decide +kernel
theorem dX6_remove_81 : decode cX6_remove 81 = .ok (.aload_n 0, 1) := by decide +kernel
theorem dX6_remove_82 : decode cX6_remove 82 = .ok (.getfield 7, 3) := by decide +kernel
theorem dX6_remove_85 : decode cX6_remove 85 = .ok (.iload_n 1, 1) := by decide +kernel
theorem dX6_remove_86 : decode cX6_remove 86 = .ok (.invokestatic 24, 3) := by decide +kernel
theorem dX6_remove_89 : decode cX6_remove 89 = .ok (.dup2, 1) := by decide +kernel
theorem dX6_remove_90 : decode cX6_remove 90 = .ok (.iaload, 1) := by decide +kernel
theorem dX6_remove_91 : decode cX6_remove 91 = .ok (.iconst 1, 1) := by decide +kernel
theorem dX6_remove_92 : decode cX6_remove 92 = .ok (.isub, 1) := by decide +kernel
theorem dX6_remove_93 : decode cX6_remove 93 = .ok (.iastore, 1) := by decide +kernel
theorem dX6_remove_94 : decode cX6_remove 94 = .ok (.return_, 1) := by decide +kernel
theorem dX6_beginsFrame_0 : decode cX6_beginsFrame 0 = .ok (.aload_n 0, 1) := by decide +kernel
theorem dX6_beginsFrame_1 : decode cX6_beginsFrame 1 = .ok (.iload_n 1, 1) := by decide +kernel
theorem dX6_beginsFrame_2 : decode cX6_beginsFrame 2 = .ok (.invokevirtual 78, 3) := by decide +kernel
theorem dX6_beginsFrame_5 : decode cX6_beginsFrame 5 = .ok (.bipush 12, 2) := by decide +kernel
theorem dX6_beginsFrame_7 : decode cX6_beginsFrame 7 = .ok (.if_icmp .ne 9, 3) := by decide +kernel
theorem dX6_beginsFrame_10 : decode cX6_beginsFrame 10 = .ok (.aload_n 0, 1) := by decide +kernel
theorem dX6_beginsFrame_11 : decode cX6_beginsFrame 11 = .ok (.iload_n 1, 1) := by decide +kernel
theorem dX6_beginsFrame_12 : decode cX6_beginsFrame 12 = .ok (.iconst 0, 1) := by decide +kernel
theorem dX6_beginsFrame_13 : decode cX6_beginsFrame 13 = .ok (.invokevirtual 84, 3) := by decide +kernel
theorem dX6_beginsFrame_16 : decode cX6_beginsFrame 16 = .ok (.aload_n 0, 1) := by decide +kernel
theorem dX6_beginsFrame_17 : decode cX6_beginsFrame 17 = .ok (.iload_n 1, 1) := by decide +kernel
theorem dX6_beginsFrame_18 : decode cX6_beginsFrame 18 = .ok (.aload_n 0, 1) := by decide +kernel
theorem dX6_beginsFrame_19 : decode cX6_beginsFrame 19 = .ok (.iload_n 1, 1) := by decide +kernel
theorem dX6_beginsFrame_20 : decode cX6_beginsFrame 20 = .ok (.invokevirtual 78, 3) := by decide +kernel
theorem dX6_beginsFrame_23 : decode cX6_beginsFrame 23 = .ok (.invokestatic 81, 3) := by decide +kernel
theorem dX6_beginsFrame_26 : decode cX6_beginsFrame 26 = .ok (.putfield 88, 3) := by decide +kernel
theorem dX6_beginsFrame_29 : decode cX6_beginsFrame 29 = .ok (.aload_n 0, 1) := by decide +kernel
theorem dX6_beginsFrame_30 : decode cX6_beginsFrame 30 = .ok (.iconst 0, 1) := by decide +kernel
theorem dX6_beginsFrame_31 : decode cX6_beginsFrame 31 = .ok (.putfield 92, 3) := by decide +kernel
theorem dX6_beginsFrame_34 : decode cX6_beginsFrame 34 = .ok (.aload_n 0, 1) := by decide +kernel
theorem dX6_beginsFrame_35 : decode cX6_beginsFrame 35 = .ok (.getfield 7, 3) := by decide +kernel
theorem dX6_beginsFrame_38 : decode cX6_beginsFrame 38 = .ok (.iload_n 1, 1) := by decide +kernel
theorem dX6_beginsFrame_39 : decode cX6_beginsFrame 39 = .ok (.invokestatic 24, 3) := by decide +kernel
theorem dX6_beginsFrame_42 : decode cX6_beginsFrame 42 = .ok (.dup2, 1) := by decide +kernel
theorem dX6_beginsFrame_43 : decode cX6_beginsFrame 43 = .ok (.iaload, 1) := by decide +kernel
theorem dX6_beginsFrame_44 : decode cX6_beginsFrame 44 = .ok (.iconst 1, 1) := by decide +kernel
theorem dX6_beginsFrame_45 : decode cX6_beginsFrame 45 = .ok (.iadd, 1) := by decide +kernel
theorem dX6_beginsFrame_46 : decode cX6_beginsFrame 46 = .ok (.iastore, 1) := by decide +kernel
theorem dX6_beginsFrame_47 : decode cX6_beginsFrame 47 = .ok (.aload_n 0, 1) := by decide +kernel
theorem dX6_beginsFrame_48 : decode cX6_beginsFrame 48 = .ok (.getfield 7, 3) := by decide +kernel
theorem dX6_beginsFrame_51 : decode cX6_beginsFrame 51 = .ok (.aload_n 0, 1) := by decide +kernel
theorem dX6_beginsFrame_52 : decode cX6_beginsFrame 52 = .ok (.getfield 88, 3) := by decide +kernel
theorem dX6_beginsFrame_55 : decode cX6_beginsFrame 55 = .ok (.iconst 1, 1) := by decide +kernel
theorem dX6_beginsFrame_56 : decode cX6_beginsFrame 56 = .ok (.iadd, 1) := by decide +kernel
theorem dX6_beginsFrame_57 : decode cX6_beginsFrame 57 = .ok (.aload_n 0, 1) := by decide +kernel
theorem dX6_beginsFrame_58 : decode cX6_beginsFrame 58 = .ok (.getfield 7, 3) := by decide +kernel
theorem dX6_beginsFrame_61 : decode cX6_beginsFrame 61 = .ok (.iconst 3, 1) := by decide +kernel
theorem dX6_beginsFrame_62 : decode cX6_beginsFrame 62 = .ok (.iaload, 1) := by decide +kernel
theorem dX6_beginsFrame_63 : decode cX6_beginsFrame 63 = .ok (.aload_n 0, 1) := by decide +kernel
theorem dX6_beginsFrame_64 : decode cX6_beginsFrame 64 = .ok (.getfield 7, 3) := by decide +kernel
theorem dX6_beginsFrame_67 : decode cX6_beginsFrame 67 = .ok (.iconst 0, 1) := by decide +kernel
theorem dX6_beginsFrame_68 : decode cX6_beginsFrame 68 = .ok (.iaload, 1) := by decide +kernel
theorem dX6_beginsFrame_69 : decode cX6_beginsFrame 69 = .ok (.iadd, 1) := by decide +kernel
theorem dX6_beginsFrame_70 : decode cX6_beginsFrame 70 = .ok (.iastore, 1) := by decide +kernel
theorem dX6_beginsFrame_71 : decode cX6_beginsFrame 71 = .ok (.return_, 1) := by decide +kernel
theorem dX6_lays_0 : decode cX6_lays 0 = .ok (.aload_n 0, 1) := by decide +kernel
theorem dX6_lays_1 : decode cX6_lays 1 = .ok (.getfield 7, 3) := by decide +kernel
theorem dX6_lays_4 : decode cX6_lays 4 = .ok (.aload_n 0, 1) := by decide +kernel
theorem dX6_lays_5 : decode cX6_lays 5 = .ok (.getfield 88, 3) := by decide +kernel
theorem dX6_lays_8 : decode cX6_lays 8 = .ok (.iconst 2, 1) := by decide +kernel
theorem dX6_lays_9 : decode cX6_lays 9 = .ok (.iadd, 1) := by decide +kernel
theorem dX6_lays_10 : decode cX6_lays 10 = .ok (.aload_n 0, 1) := by decide +kernel
theorem dX6_lays_11 : decode cX6_lays 11 = .ok (.getfield 92, 3) := by decide +kernel
theorem dX6_lays_14 : decode cX6_lays 14 = .ok (.iadd, 1) := by decide +kernel
theorem dX6_lays_15 : decode cX6_lays 15 = .ok (.iload_n 1, 1) := by decide +kernel
theorem dX6_lays_16 : decode cX6_lays 16 = .ok (.sipush 255, 3) := by decide +kernel
theorem dX6_lays_19 : decode cX6_lays 19 = .ok (.iand, 1) := by decide +kernel
theorem dX6_lays_20 : decode cX6_lays 20 = .ok (.iastore, 1) := by decide +kernel
theorem dX6_lays_21 : decode cX6_lays 21 = .ok (.aload_n 0, 1) := by decide +kernel
theorem dX6_lays_22 : decode cX6_lays 22 = .ok (.dup, 1) := by decide +kernel
theorem dX6_lays_23 : decode cX6_lays 23 = .ok (.getfield 92, 3) := by decide +kernel
theorem dX6_lays_26 : decode cX6_lays 26 = .ok (.iconst 1, 1) := by decide +kernel
theorem dX6_lays_27 : decode cX6_lays 27 = .ok (.iadd, 1) := by decide +kernel
theorem dX6_lays_28 : decode cX6_lays 28 = .ok (.putfield 92, 3) := by decide +kernel
theorem dX6_lays_31 : decode cX6_lays 31 = .ok (.aload_n 0, 1) := by decide +kernel
theorem dX6_lays_32 : decode cX6_lays 32 = .ok (.getfield 7, 3) := by decide +kernel
theorem dX6_lays_35 : decode cX6_lays 35 = .ok (.aload_n 0, 1) := by decide +kernel
theorem dX6_lays_36 : decode cX6_lays 36 = .ok (.getfield 88, 3) := by decide +kernel
theorem dX6_lays_39 : decode cX6_lays 39 = .ok (.aload_n 0, 1) := by decide +kernel
theorem dX6_lays_40 : decode cX6_lays 40 = .ok (.getfield 92, 3) := by decide +kernel
theorem dX6_lays_43 : decode cX6_lays 43 = .ok (.iastore, 1) := by decide +kernel
theorem dX6_lays_44 : decode cX6_lays 44 = .ok (.return_, 1) := by decide +kernel
theorem dX6_laysWord_0 : decode cX6_laysWord 0 = .ok (.aload_n 0, 1) := by decide +kernel
theorem dX6_laysWord_1 : decode cX6_laysWord 1 = .ok (.getfield 7, 3) := by decide +kernel
theorem dX6_laysWord_4 : decode cX6_laysWord 4 = .ok (.iload_n 1, 1) := by decide +kernel
theorem dX6_laysWord_5 : decode cX6_laysWord 5 = .ok (.invokestatic 20, 3) := by decide +kernel
theorem dX6_laysWord_8 : decode cX6_laysWord 8 = .ok (.bipush 7, 2) := by decide +kernel
theorem dX6_laysWord_10 : decode cX6_laysWord 10 = .ok (.iadd, 1) := by decide +kernel
theorem dX6_laysWord_11 : decode cX6_laysWord 11 = .ok (.iaload, 1) := by decide +kernel
theorem dX6_laysWord_12 : decode cX6_laysWord 12 = .ok (.iconst 1, 1) := by decide +kernel
theorem dX6_laysWord_13 : decode cX6_laysWord 13 = .ok (.isub, 1) := by decide +kernel
theorem dX6_laysWord_14 : decode cX6_laysWord 14 = .ok (.invokestatic 95, 3) := by decide +kernel
theorem dX6_laysWord_17 : decode cX6_laysWord 17 = .ok (.istore_n 3, 1) := by decide +kernel
theorem dX6_laysWord_18 : decode cX6_laysWord 18 = .ok (.aload_n 0, 1) := by decide +kernel
theorem dX6_laysWord_19 : decode cX6_laysWord 19 = .ok (.iload_n 1, 1) := by decide +kernel
theorem dX6_laysWord_20 : decode cX6_laysWord 20 = .ok (.invokevirtual 98, 3) := by decide +kernel
theorem dX6_laysWord_23 : decode cX6_laysWord 23 = .ok (.aload_n 0, 1) := by decide +kernel
theorem dX6_laysWord_24 : decode cX6_laysWord 24 = .ok (.iconst 0, 1) := by decide +kernel
theorem dX6_laysWord_25 : decode cX6_laysWord 25 = .ok (.invokevirtual 60, 3) := by decide +kernel
theorem dX6_laysWord_28 : decode cX6_laysWord 28 = .ok (.aload_n 0, 1) := by decide +kernel
theorem dX6_laysWord_29 : decode cX6_laysWord 29 = .ok (.iload_n 2, 1) := by decide +kernel
theorem dX6_laysWord_30 : decode cX6_laysWord 30 = .ok (.iconst 0, 1) := by decide +kernel
theorem dX6_laysWord_31 : decode cX6_laysWord 31 = .ok (.invokevirtual 64, 3) := by decide +kernel
theorem dX6_laysWord_34 : decode cX6_laysWord 34 = .ok (.aload_n 0, 1) := by decide +kernel
theorem dX6_laysWord_35 : decode cX6_laysWord 35 = .ok (.iload_n 3, 1) := by decide +kernel
theorem dX6_laysWord_36 : decode cX6_laysWord 36 = .ok (.iconst 0, 1) := by decide +kernel
theorem dX6_laysWord_37 : decode cX6_laysWord 37 = .ok (.invokevirtual 64, 3) := by decide +kernel
theorem dX6_laysWord_40 : decode cX6_laysWord 40 = .ok (.aload_n 0, 1) := by decide +kernel
theorem dX6_laysWord_41 : decode cX6_laysWord 41 = .ok (.iconst 0, 1) := by decide +kernel
theorem dX6_laysWord_42 : decode cX6_laysWord 42 = .ok (.invokevirtual 68, 3) := by decide +kernel
theorem dX6_laysWord_45 : decode cX6_laysWord 45 = .ok (.l2i, 1) := by decide +kernel
theorem dX6_laysWord_46 : decode cX6_laysWord 46 = .ok (.istore 4, 2) := by decide +kernel
theorem dX6_laysWord_48 : decode cX6_laysWord 48 = .ok (.aload_n 0, 1) := by decide +kernel
theorem dX6_laysWord_49 : decode cX6_laysWord 49 = .ok (.bipush 92, 2) := by decide +kernel
theorem dX6_laysWord_51 : decode cX6_laysWord 51 = .ok (.invokevirtual 102, 3) := by decide +kernel
theorem dX6_laysWord_54 : decode cX6_laysWord 54 = .ok (.aload_n 0, 1) := by decide +kernel
theorem dX6_laysWord_55 : decode cX6_laysWord 55 = .ok (.iload_n 2, 1) := by decide +kernel
theorem dX6_laysWord_56 : decode cX6_laysWord 56 = .ok (.invokevirtual 102, 3) := by decide +kernel
theorem dX6_laysWord_59 : decode cX6_laysWord 59 = .ok (.aload_n 0, 1) := by decide +kernel
theorem dX6_laysWord_60 : decode cX6_laysWord 60 = .ok (.iload_n 3, 1) := by decide +kernel
theorem dX6_laysWord_61 : decode cX6_laysWord 61 = .ok (.invokevirtual 102, 3) := by decide +kernel
theorem dX6_laysWord_64 : decode cX6_laysWord 64 = .ok (.aload_n 0, 1) := by decide +kernel
theorem dX6_laysWord_65 : decode cX6_laysWord 65 = .ok (.iload 4, 2) := by decide +kernel
theorem dX6_laysWord_67 : decode cX6_laysWord 67 = .ok (.invokevirtual 102, 3) := by decide +kernel
theorem dX6_laysWord_70 : decode cX6_laysWord 70 = .ok (.aload_n 0, 1) := by decide +kernel
theorem dX6_laysWord_71 : decode cX6_laysWord 71 = .ok (.iload 4, 2) := by decide +kernel
theorem dX6_laysWord_73 : decode cX6_laysWord 73 = .ok (.bipush 8, 2) := by decide +kernel
theorem dX6_laysWord_75 : decode cX6_laysWord 75 = .ok (.ishr, 1) := by decide +kernel
theorem dX6_laysWord_76 : decode cX6_laysWord 76 = .ok (.invokevirtual 102, 3) := by decide +kernel
theorem dX6_laysWord_79 : decode cX6_laysWord 79 = .ok (.aload_n 0, 1) := by decide +kernel
theorem dX6_laysWord_80 : decode cX6_laysWord 80 = .ok (.sipush 253, 3) := by decide +kernel
theorem dX6_laysWord_83 : decode cX6_laysWord 83 = .ok (.invokevirtual 102, 3) := by decide +kernel
theorem dX6_laysWord_86 : decode cX6_laysWord 86 = .ok (.return_, 1) := by decide +kernel
theorem dX6_laysData_0 : decode cX6_laysData 0 = .ok (.iload_n 2, 1) := by decide +kernel
theorem dX6_laysData_1 : decode cX6_laysData 1 = .ok (.bipush 64, 2) := by decide +kernel
theorem dX6_laysData_3 : decode cX6_laysData 3 = .ok (.irem, 1) := by decide +kernel
theorem dX6_laysData_4 : decode cX6_laysData 4 = .ok (.istore 4, 2) := by decide +kernel
theorem dX6_laysData_6 : decode cX6_laysData 6 = .ok (.iload_n 1, 1) := by decide +kernel
theorem dX6_laysData_7 : decode cX6_laysData 7 = .ok (.iload_n 2, 1) := by decide +kernel
theorem dX6_laysData_8 : decode cX6_laysData 8 = .ok (.invokestatic 54, 3) := by decide +kernel
theorem dX6_laysData_11 : decode cX6_laysData 11 = .ok (.istore 5, 2) := by decide +kernel
theorem dX6_laysData_13 : decode cX6_laysData 13 = .ok (.aload_n 0, 1) := by decide +kernel
theorem dX6_laysData_14 : decode cX6_laysData 14 = .ok (.iload_n 1, 1) := by decide +kernel
theorem dX6_laysData_15 : decode cX6_laysData 15 = .ok (.invokevirtual 98, 3) := by decide +kernel
theorem dX6_laysData_18 : decode cX6_laysData 18 = .ok (.aload_n 0, 1) := by decide +kernel
theorem dX6_laysData_19 : decode cX6_laysData 19 = .ok (.iconst 1, 1) := by decide +kernel
theorem dX6_laysData_20 : decode cX6_laysData 20 = .ok (.invokevirtual 60, 3) := by decide +kernel
theorem dX6_laysData_23 : decode cX6_laysData 23 = .ok (.aload_n 0, 1) := by decide +kernel
theorem dX6_laysData_24 : decode cX6_laysData 24 = .ok (.iconst 0, 1) := by decide +kernel
theorem dX6_laysData_25 : decode cX6_laysData 25 = .ok (.iconst 1, 1) := by decide +kernel
theorem dX6_laysData_26 : decode cX6_laysData 26 = .ok (.invokevirtual 64, 3) := by decide +kernel
theorem dX6_laysData_29 : decode cX6_laysData 29 = .ok (.aload_n 0, 1) := by decide +kernel
theorem dX6_laysData_30 : decode cX6_laysData 30 = .ok (.iload 4, 2) := by decide +kernel
theorem dX6_laysData_32 : decode cX6_laysData 32 = .ok (.iconst 1, 1) := by decide +kernel
theorem dX6_laysData_33 : decode cX6_laysData 33 = .ok (.invokevirtual 64, 3) := by decide +kernel
theorem dX6_laysData_36 : decode cX6_laysData 36 = .ok (.aload_n 0, 1) := by decide +kernel
theorem dX6_laysData_37 : decode cX6_laysData 37 = .ok (.sipush 251, 3) := by decide +kernel
theorem dX6_laysData_40 : decode cX6_laysData 40 = .ok (.invokevirtual 102, 3) := by decide +kernel
theorem dX6_laysData_43 : decode cX6_laysData 43 = .ok (.aload_n 0, 1) := by decide +kernel
theorem dX6_laysData_44 : decode cX6_laysData 44 = .ok (.iconst 0, 1) := by decide +kernel
theorem dX6_laysData_45 : decode cX6_laysData 45 = .ok (.invokevirtual 102, 3) := by decide +kernel
theorem dX6_laysData_48 : decode cX6_laysData 48 = .ok (.aload_n 0, 1) := by decide +kernel
theorem dX6_laysData_49 : decode cX6_laysData 49 = .ok (.iload 4, 2) := by decide +kernel
theorem dX6_laysData_51 : decode cX6_laysData 51 = .ok (.invokevirtual 102, 3) := by decide +kernel
theorem dX6_laysData_54 : decode cX6_laysData 54 = .ok (.iconst 0, 1) := by decide +kernel
theorem dX6_laysData_55 : decode cX6_laysData 55 = .ok (.istore 6, 2) := by decide +kernel
theorem dX6_laysData_57 : decode cX6_laysData 57 = .ok (.iload 6, 2) := by decide +kernel
theorem dX6_laysData_59 : decode cX6_laysData 59 = .ok (.aload_n 0, 1) := by decide +kernel
theorem dX6_laysData_60 : decode cX6_laysData 60 = .ok (.getfield 7, 3) := by decide +kernel
theorem dX6_laysData_63 : decode cX6_laysData 63 = .ok (.iload 5, 2) := by decide +kernel
theorem dX6_laysData_65 : decode cX6_laysData 65 = .ok (.iaload, 1) := by decide +kernel
theorem dX6_laysData_66 : decode cX6_laysData 66 = .ok (.if_icmp .ge 42, 3) := by decide +kernel
theorem dX6_laysData_69 : decode cX6_laysData 69 = .ok (.aload_n 0, 1) := by decide +kernel
theorem dX6_laysData_70 : decode cX6_laysData 70 = .ok (.aload_n 0, 1) := by decide +kernel
theorem dX6_laysData_71 : decode cX6_laysData 71 = .ok (.getfield 7, 3) := by decide +kernel
theorem dX6_laysData_74 : decode cX6_laysData 74 = .ok (.iload 5, 2) := by decide +kernel
theorem dX6_laysData_76 : decode cX6_laysData 76 = .ok (.iconst 1, 1) := by decide +kernel
theorem dX6_laysData_77 : decode cX6_laysData 77 = .ok (.iadd, 1) := by decide +kernel
theorem dX6_laysData_78 : decode cX6_laysData 78 = .ok (.iload 6, 2) := by decide +kernel
theorem dX6_laysData_80 : decode cX6_laysData 80 = .ok (.iadd, 1) := by decide +kernel
theorem dX6_laysData_81 : decode cX6_laysData 81 = .ok (.iaload, 1) := by decide +kernel
theorem dX6_laysData_82 : decode cX6_laysData 82 = .ok (.invokevirtual 102, 3) := by decide +kernel
theorem dX6_laysData_85 : decode cX6_laysData 85 = .ok (.aload_n 0, 1) := by decide +kernel
theorem dX6_laysData_86 : decode cX6_laysData 86 = .ok (.aload_n 0, 1) := by decide +kernel
theorem dX6_laysData_87 : decode cX6_laysData 87 = .ok (.getfield 7, 3) := by decide +kernel
theorem dX6_laysData_90 : decode cX6_laysData 90 = .ok (.iload 5, 2) := by decide +kernel
theorem dX6_laysData_92 : decode cX6_laysData 92 = .ok (.iconst 1, 1) := by decide +kernel
theorem dX6_laysData_93 : decode cX6_laysData 93 = .ok (.iadd, 1) := by decide +kernel
theorem dX6_laysData_94 : decode cX6_laysData 94 = .ok (.iload 6, 2) := by decide +kernel
theorem dX6_laysData_96 : decode cX6_laysData 96 = .ok (.iadd, 1) := by decide +kernel
theorem dX6_laysData_97 : decode cX6_laysData 97 = .ok (.iaload, 1) := by decide +kernel
theorem dX6_laysData_98 : decode cX6_laysData 98 = .ok (.iconst 1, 1) := by decide +kernel
theorem dX6_laysData_99 : decode cX6_laysData 99 = .ok (.invokevirtual 64, 3) := by decide +kernel
theorem dX6_laysData_102 : decode cX6_laysData 102 = .ok (.iinc 6 1, 3) := by decide +kernel
theorem dX6_laysData_105 : decode cX6_laysData 105 = .ok (.goto (-48), 3) := by decide +kernel
theorem dX6_laysData_108 : decode cX6_laysData 108 = .ok (.iload_n 3, 1) := by decide +kernel
theorem dX6_laysData_109 : decode cX6_laysData 109 = .ok (.ifCond .eq 15, 3) := by decide +kernel
theorem dX6_laysData_112 : decode cX6_laysData 112 = .ok (.aload_n 0, 1) := by decide +kernel
theorem dX6_laysData_113 : decode cX6_laysData 113 = .ok (.iconst 1, 1) := by decide +kernel
theorem dX6_laysData_114 : decode cX6_laysData 114 = .ok (.invokevirtual 68, 3) := by decide +kernel
theorem dX6_laysData_117 : decode cX6_laysData 117 = .ok (.ldc2_w 27, 3) := by decide +kernel
theorem dX6_laysData_120 : decode cX6_laysData 120 = .ok (.lxor, 1) := by decide +kernel
theorem dX6_laysData_121 : decode cX6_laysData 121 = .ok (.goto 8, 3) := by decide +kernel
theorem dX6_laysData_124 : decode cX6_laysData 124 = .ok (.aload_n 0, 1) := by decide +kernel
theorem dX6_laysData_125 : decode cX6_laysData 125 = .ok (.iconst 1, 1) := by decide +kernel
theorem dX6_laysData_126 : decode cX6_laysData 126 = .ok (.invokevirtual 68, 3) := by decide +kernel
theorem dX6_laysData_129 : decode cX6_laysData 129 = .ok (.lstore 6, 2) := by decide +kernel
theorem dX6_laysData_131 : decode cX6_laysData 131 = .ok (.iconst 0, 1) := by decide +kernel
theorem dX6_laysData_132 : decode cX6_laysData 132 = .ok (.istore 8, 2) := by decide +kernel
theorem dX6_laysData_134 : decode cX6_laysData 134 = .ok (.iload 8, 2) := by decide +kernel
theorem dX6_laysData_136 : decode cX6_laysData 136 = .ok (.iconst 4, 1) := by decide +kernel
theorem dX6_laysData_137 : decode cX6_laysData 137 = .ok (.if_icmp .ge 26, 3) := by decide +kernel
theorem dX6_laysData_140 : decode cX6_laysData 140 = .ok (.aload_n 0, 1) := by decide +kernel
theorem dX6_laysData_141 : decode cX6_laysData 141 = .ok (.lload 6, 2) := by decide +kernel
theorem dX6_laysData_143 : decode cX6_laysData 143 = .ok (.bipush 8, 2) := by decide +kernel
theorem dX6_laysData_145 : decode cX6_laysData 145 = .ok (.iload 8, 2) := by decide +kernel
theorem dX6_laysData_147 : decode cX6_laysData 147 = .ok (.imul, 1) := by decide +kernel
theorem dX6_laysData_148 : decode cX6_laysData 148 = .ok (.lshr, 1) := by decide +kernel
theorem dX6_laysData_149 : decode cX6_laysData 149 = .ok (.ldc2_w 49, 3) := by decide +kernel
theorem dX6_laysData_152 : decode cX6_laysData 152 = .ok (.land, 1) := by decide +kernel
theorem dX6_laysData_153 : decode cX6_laysData 153 = .ok (.l2i, 1) := by decide +kernel
theorem dX6_laysData_154 : decode cX6_laysData 154 = .ok (.invokevirtual 102, 3) := by decide +kernel
theorem dX6_laysData_157 : decode cX6_laysData 157 = .ok (.iinc 8 1, 3) := by decide +kernel
theorem dX6_laysData_160 : decode cX6_laysData 160 = .ok (.goto (-26), 3) := by decide +kernel
theorem dX6_laysData_163 : decode cX6_laysData 163 = .ok (.aload_n 0, 1) := by decide +kernel
theorem dX6_laysData_164 : decode cX6_laysData 164 = .ok (.iload_n 3, 1) := by decide +kernel
theorem dX6_laysData_165 : decode cX6_laysData 165 = .ok (.ifCond .eq 9, 3) := by decide +kernel
theorem dX6_laysData_168 : decode cX6_laysData 168 = .ok (.sipush 254, 3) := by decide +kernel
theorem dX6_laysData_171 : decode cX6_laysData 171 = .ok (.goto 6, 3) := by decide +kernel
theorem dX6_laysData_174 : decode cX6_laysData 174 = .ok (.sipush 253, 3) := by decide +kernel
theorem dX6_laysData_177 : decode cX6_laysData 177 = .ok (.invokevirtual 102, 3) := by decide +kernel
theorem dX6_laysData_180 : decode cX6_laysData 180 = .ok (.return_, 1) := by decide +kernel
theorem dX6_read_0 : decode cX6_read 0 = .ok (.aload_n 0, 1) := by decide +kernel
theorem dX6_read_1 : decode cX6_read 1 = .ok (.getfield 7, 3) := by decide +kernel
theorem dX6_read_4 : decode cX6_read 4 = .ok (.iload_n 1, 1) := by decide +kernel
theorem dX6_read_5 : decode cX6_read 5 = .ok (.iaload, 1) := by decide +kernel
theorem dX6_read_6 : decode cX6_read 6 = .ok (.istore_n 2, 1) := by decide +kernel
theorem dX6_read_7 : decode cX6_read 7 = .ok (.iload_n 1, 1) := by decide +kernel
theorem dX6_read_8 : decode cX6_read 8 = .ok (.iconst 2, 1) := by decide +kernel
theorem dX6_read_9 : decode cX6_read 9 = .ok (.iadd, 1) := by decide +kernel
theorem dX6_read_10 : decode cX6_read 10 = .ok (.istore_n 3, 1) := by decide +kernel
theorem dX6_read_11 : decode cX6_read 11 = .ok (.aload_n 0, 1) := by decide +kernel
theorem dX6_read_12 : decode cX6_read 12 = .ok (.getfield 7, 3) := by decide +kernel
theorem dX6_read_15 : decode cX6_read 15 = .ok (.iload_n 3, 1) := by decide +kernel
theorem dX6_read_16 : decode cX6_read 16 = .ok (.iaload, 1) := by decide +kernel
theorem dX6_read_17 : decode cX6_read 17 = .ok (.bipush 92, 2) := by decide +kernel
theorem dX6_read_19 : decode cX6_read 19 = .ok (.if_icmp .ne 165, 3) := by decide +kernel
theorem dX6_read_22 : decode cX6_read 22 = .ok (.aload_n 0, 1) := by decide +kernel
theorem dX6_read_23 : decode cX6_read 23 = .ok (.iconst 0, 1) := by decide +kernel
theorem dX6_read_24 : decode cX6_read 24 = .ok (.invokevirtual 60, 3) := by decide +kernel
theorem dX6_read_27 : decode cX6_read 27 = .ok (.aload_n 0, 1) := by decide +kernel
theorem dX6_read_28 : decode cX6_read 28 = .ok (.aload_n 0, 1) := by decide +kernel
theorem dX6_read_29 : decode cX6_read 29 = .ok (.getfield 7, 3) := by decide +kernel
theorem dX6_read_32 : decode cX6_read 32 = .ok (.iload_n 3, 1) := by decide +kernel
theorem dX6_read_33 : decode cX6_read 33 = .ok (.iconst 1, 1) := by decide +kernel
theorem dX6_read_34 : decode cX6_read 34 = .ok (.iadd, 1) := by decide +kernel
theorem dX6_read_35 : decode cX6_read 35 = .ok (.iaload, 1) := by decide +kernel
theorem dX6_read_36 : decode cX6_read 36 = .ok (.iconst 0, 1) := by decide +kernel
theorem dX6_read_37 : decode cX6_read 37 = .ok (.invokevirtual 64, 3) := by decide +kernel
theorem dX6_read_40 : decode cX6_read 40 = .ok (.aload_n 0, 1) := by decide +kernel
theorem dX6_read_41 : decode cX6_read 41 = .ok (.aload_n 0, 1) := by decide +kernel
theorem dX6_read_42 : decode cX6_read 42 = .ok (.getfield 7, 3) := by decide +kernel
theorem dX6_read_45 : decode cX6_read 45 = .ok (.iload_n 3, 1) := by decide +kernel
theorem dX6_read_46 : decode cX6_read 46 = .ok (.iconst 2, 1) := by decide +kernel
theorem dX6_read_47 : decode cX6_read 47 = .ok (.iadd, 1) := by decide +kernel
theorem dX6_read_48 : decode cX6_read 48 = .ok (.iaload, 1) := by decide +kernel
theorem dX6_read_49 : decode cX6_read 49 = .ok (.iconst 0, 1) := by decide +kernel
theorem dX6_read_50 : decode cX6_read 50 = .ok (.invokevirtual 64, 3) := by decide +kernel
theorem dX6_read_53 : decode cX6_read 53 = .ok (.aload_n 0, 1) := by decide +kernel
theorem dX6_read_54 : decode cX6_read 54 = .ok (.iconst 0, 1) := by decide +kernel
theorem dX6_read_55 : decode cX6_read 55 = .ok (.invokevirtual 68, 3) := by decide +kernel
theorem dX6_read_58 : decode cX6_read 58 = .ok (.l2i, 1) := by decide +kernel
theorem dX6_read_59 : decode cX6_read 59 = .ok (.istore 4, 2) := by decide +kernel
theorem dX6_read_61 : decode cX6_read 61 = .ok (.iload_n 2, 1) := by decide +kernel
theorem dX6_read_62 : decode cX6_read 62 = .ok (.bipush 6, 2) := by decide +kernel
theorem dX6_read_64 : decode cX6_read 64 = .ok (.if_icmp .ne 91, 3) := by decide +kernel
theorem dX6_read_67 : decode cX6_read 67 = .ok (.aload_n 0, 1) := by decide +kernel
theorem dX6_read_68 : decode cX6_read 68 = .ok (.getfield 7, 3) := by decide +kernel
theorem dX6_read_71 : decode cX6_read 71 = .ok (.iload_n 3, 1) := by decide +kernel
theorem dX6_read_72 : decode cX6_read 72 = .ok (.iconst 1, 1) := by decide +kernel
theorem dX6_read_73 : decode cX6_read 73 = .ok (.iadd, 1) := by decide +kernel
theorem dX6_read_74 : decode cX6_read 74 = .ok (.iaload, 1) := by decide +kernel
theorem dX6_read_75 : decode cX6_read 75 = .ok (.ifCond .eq 16, 3) := by decide +kernel
theorem dX6_read_78 : decode cX6_read 78 = .ok (.aload_n 0, 1) := by decide +kernel
theorem dX6_read_79 : decode cX6_read 79 = .ok (.getfield 7, 3) := by decide +kernel
theorem dX6_read_82 : decode cX6_read 82 = .ok (.iload_n 3, 1) := by decide +kernel
theorem dX6_read_83 : decode cX6_read 83 = .ok (.iconst 1, 1) := by decide +kernel
theorem dX6_read_84 : decode cX6_read 84 = .ok (.iadd, 1) := by decide +kernel
theorem dX6_read_85 : decode cX6_read 85 = .ok (.iaload, 1) := by decide +kernel
theorem dX6_read_86 : decode cX6_read 86 = .ok (.bipush 16, 2) := by decide +kernel
theorem dX6_read_88 : decode cX6_read 88 = .ok (.if_icmp .ne 67, 3) := by decide +kernel
theorem dX6_read_91 : decode cX6_read 91 = .ok (.aload_n 0, 1) := by decide +kernel
theorem dX6_read_92 : decode cX6_read 92 = .ok (.getfield 7, 3) := by decide +kernel
theorem dX6_read_95 : decode cX6_read 95 = .ok (.iload_n 3, 1) := by decide +kernel
theorem dX6_read_96 : decode cX6_read 96 = .ok (.iconst 2, 1) := by decide +kernel
theorem dX6_read_97 : decode cX6_read 97 = .ok (.iadd, 1) := by decide +kernel
theorem dX6_read_98 : decode cX6_read 98 = .ok (.iaload, 1) := by decide +kernel
theorem dX6_read_99 : decode cX6_read 99 = .ok (.bipush 64, 2) := by decide +kernel
theorem dX6_read_101 : decode cX6_read 101 = .ok (.if_icmp .ge 54, 3) := by decide +kernel
theorem dX6_read_104 : decode cX6_read 104 = .ok (.aload_n 0, 1) := by decide +kernel
theorem dX6_read_105 : decode cX6_read 105 = .ok (.getfield 7, 3) := by decide +kernel
theorem dX6_read_108 : decode cX6_read 108 = .ok (.iload_n 3, 1) := by decide +kernel
theorem dX6_read_109 : decode cX6_read 109 = .ok (.iconst 3, 1) := by decide +kernel
theorem dX6_read_110 : decode cX6_read 110 = .ok (.iadd, 1) := by decide +kernel
theorem dX6_read_111 : decode cX6_read 111 = .ok (.iaload, 1) := by decide +kernel
theorem dX6_read_112 : decode cX6_read 112 = .ok (.iload 4, 2) := by decide +kernel
theorem dX6_read_114 : decode cX6_read 114 = .ok (.sipush 255, 3) := by decide +kernel
theorem dX6_read_117 : decode cX6_read 117 = .ok (.iand, 1) := by decide +kernel
theorem dX6_read_118 : decode cX6_read 118 = .ok (.if_icmp .ne 37, 3) := by decide +kernel
theorem dX6_read_121 : decode cX6_read 121 = .ok (.aload_n 0, 1) := by decide +kernel
theorem dX6_read_122 : decode cX6_read 122 = .ok (.getfield 7, 3) := by decide +kernel
theorem dX6_read_125 : decode cX6_read 125 = .ok (.iload_n 3, 1) := by decide +kernel
theorem dX6_read_126 : decode cX6_read 126 = .ok (.iconst 4, 1) := by decide +kernel
theorem dX6_read_127 : decode cX6_read 127 = .ok (.iadd, 1) := by decide +kernel
theorem dX6_read_128 : decode cX6_read 128 = .ok (.iaload, 1) := by decide +kernel
theorem dX6_read_129 : decode cX6_read 129 = .ok (.iload 4, 2) := by decide +kernel
theorem dX6_read_131 : decode cX6_read 131 = .ok (.bipush 8, 2) := by decide +kernel
theorem dX6_read_133 : decode cX6_read 133 = .ok (.ishr, 1) := by decide +kernel
theorem dX6_read_134 : decode cX6_read 134 = .ok (.if_icmp .ne 21, 3) := by decide +kernel
theorem dX6_read_137 : decode cX6_read 137 = .ok (.aload_n 0, 1) := by decide +kernel
theorem dX6_read_138 : decode cX6_read 138 = .ok (.getfield 7, 3) := by decide +kernel
theorem dX6_read_141 : decode cX6_read 141 = .ok (.iload_n 3, 1) := by decide +kernel
theorem dX6_read_142 : decode cX6_read 142 = .ok (.iconst 5, 1) := by decide +kernel
theorem dX6_read_143 : decode cX6_read 143 = .ok (.iadd, 1) := by decide +kernel
theorem dX6_read_144 : decode cX6_read 144 = .ok (.iaload, 1) := by decide +kernel
theorem dX6_read_145 : decode cX6_read 145 = .ok (.sipush 253, 3) := by decide +kernel
theorem dX6_read_148 : decode cX6_read 148 = .ok (.if_icmp .ne 7, 3) := by decide +kernel
theorem dX6_read_151 : decode cX6_read 151 = .ok (.iconst 1, 1) := by decide +kernel
theorem dX6_read_152 : decode cX6_read 152 = .ok (.goto 4, 3) := by decide +kernel
theorem dX6_read_155 : decode cX6_read 155 = .ok (.iconst 0, 1) := by decide +kernel
theorem dX6_read_156 : decode cX6_read 156 = .ok (.istore 5, 2) := by decide +kernel
theorem dX6_read_158 : decode cX6_read 158 = .ok (.iload 5, 2) := by decide +kernel
theorem dX6_read_160 : decode cX6_read 160 = .ok (.ifCond .ne 7, 3) := by decide +kernel
theorem dX6_read_163 : decode cX6_read 163 = .ok (.iconst 5, 1) := by decide +kernel
theorem dX6_read_164 : decode cX6_read 164 = .ok (.goto 19, 3) := by decide +kernel
theorem dX6_read_167 : decode cX6_read 167 = .ok (.aload_n 0, 1) := by decide +kernel
theorem dX6_read_168 : decode cX6_read 168 = .ok (.getfield 7, 3) := by decide +kernel
theorem dX6_read_171 : decode cX6_read 171 = .ok (.iload_n 3, 1) := by decide +kernel
theorem dX6_read_172 : decode cX6_read 172 = .ok (.iconst 1, 1) := by decide +kernel
theorem dX6_read_173 : decode cX6_read 173 = .ok (.iadd, 1) := by decide +kernel
theorem dX6_read_174 : decode cX6_read 174 = .ok (.iaload, 1) := by decide +kernel
theorem dX6_read_175 : decode cX6_read 175 = .ok (.ifCond .ne 7, 3) := by decide +kernel
theorem dX6_read_178 : decode cX6_read 178 = .ok (.iconst 2, 1) := by decide +kernel
theorem dX6_read_179 : decode cX6_read 179 = .ok (.goto 4, 3) := by decide +kernel
theorem dX6_read_182 : decode cX6_read 182 = .ok (.iconst 3, 1) := by decide +kernel
theorem dX6_read_183 : decode cX6_read 183 = .ok (.ireturn, 1) := by decide +kernel
theorem dX6_read_184 : decode cX6_read 184 = .ok (.iload_n 2, 1) := by decide +kernel
theorem dX6_read_185 : decode cX6_read 185 = .ok (.bipush 8, 2) := by decide +kernel
theorem dX6_read_187 : decode cX6_read 187 = .ok (.isub, 1) := by decide +kernel
theorem dX6_read_188 : decode cX6_read 188 = .ok (.istore 4, 2) := by decide +kernel
theorem dX6_read_190 : decode cX6_read 190 = .ok (.iload 4, 2) := by decide +kernel
theorem dX6_read_192 : decode cX6_read 192 = .ok (.i2l, 1) := by decide +kernel
theorem dX6_read_193 : decode cX6_read 193 = .ok (.lconst 1, 1) := by decide +kernel
theorem dX6_read_194 : decode cX6_read 194 = .ok (.ldc2_w 105, 3) := by decide +kernel
theorem dX6_read_197 : decode cX6_read 197 = .ok (.invokestatic 45, 3) := by decide +kernel
theorem dX6_read_200 : decode cX6_read 200 = .ok (.ifCond .eq 39, 3) := by decide +kernel
theorem dX6_read_203 : decode cX6_read 203 = .ok (.aload_n 0, 1) := by decide +kernel
theorem dX6_read_204 : decode cX6_read 204 = .ok (.getfield 7, 3) := by decide +kernel
theorem dX6_read_207 : decode cX6_read 207 = .ok (.iload_n 3, 1) := by decide +kernel
theorem dX6_read_208 : decode cX6_read 208 = .ok (.iaload, 1) := by decide +kernel
theorem dX6_read_209 : decode cX6_read 209 = .ok (.sipush 251, 3) := by decide +kernel
theorem dX6_read_212 : decode cX6_read 212 = .ok (.if_icmp .ne 27, 3) := by decide +kernel
theorem dX6_read_215 : decode cX6_read 215 = .ok (.aload_n 0, 1) := by decide +kernel
theorem dX6_read_216 : decode cX6_read 216 = .ok (.getfield 7, 3) := by decide +kernel
theorem dX6_read_219 : decode cX6_read 219 = .ok (.iload_n 3, 1) := by decide +kernel
theorem dX6_read_220 : decode cX6_read 220 = .ok (.iconst 1, 1) := by decide +kernel
theorem dX6_read_221 : decode cX6_read 221 = .ok (.iadd, 1) := by decide +kernel
theorem dX6_read_222 : decode cX6_read 222 = .ok (.iaload, 1) := by decide +kernel
theorem dX6_read_223 : decode cX6_read 223 = .ok (.ifCond .ne 16, 3) := by decide +kernel
theorem dX6_read_226 : decode cX6_read 226 = .ok (.aload_n 0, 1) := by decide +kernel
theorem dX6_read_227 : decode cX6_read 227 = .ok (.getfield 7, 3) := by decide +kernel
theorem dX6_read_230 : decode cX6_read 230 = .ok (.iload_n 3, 1) := by decide +kernel
theorem dX6_read_231 : decode cX6_read 231 = .ok (.iconst 2, 1) := by decide +kernel
theorem dX6_read_232 : decode cX6_read 232 = .ok (.iadd, 1) := by decide +kernel
theorem dX6_read_233 : decode cX6_read 233 = .ok (.iaload, 1) := by decide +kernel
theorem dX6_read_234 : decode cX6_read 234 = .ok (.bipush 63, 2) := by decide +kernel
theorem dX6_read_236 : decode cX6_read 236 = .ok (.if_icmp .le 5, 3) := by decide +kernel
theorem dX6_read_239 : decode cX6_read 239 = .ok (.iconst 4, 1) := by decide +kernel
theorem dX6_read_240 : decode cX6_read 240 = .ok (.ireturn, 1) := by decide +kernel
theorem dX6_read_241 : decode cX6_read 241 = .ok (.aload_n 0, 1) := by decide +kernel
theorem dX6_read_242 : decode cX6_read 242 = .ok (.iconst 1, 1) := by decide +kernel
theorem dX6_read_243 : decode cX6_read 243 = .ok (.invokevirtual 60, 3) := by decide +kernel
theorem dX6_read_246 : decode cX6_read 246 = .ok (.aload_n 0, 1) := by decide +kernel
theorem dX6_read_247 : decode cX6_read 247 = .ok (.iconst 0, 1) := by decide +kernel
theorem dX6_read_248 : decode cX6_read 248 = .ok (.iconst 1, 1) := by decide +kernel
theorem dX6_read_249 : decode cX6_read 249 = .ok (.invokevirtual 64, 3) := by decide +kernel
theorem dX6_read_252 : decode cX6_read 252 = .ok (.aload_n 0, 1) := by decide +kernel
theorem dX6_read_253 : decode cX6_read 253 = .ok (.aload_n 0, 1) := by decide +kernel
theorem dX6_read_254 : decode cX6_read 254 = .ok (.getfield 7, 3) := by decide +kernel
theorem dX6_read_257 : decode cX6_read 257 = .ok (.iload_n 3, 1) := by decide +kernel
theorem dX6_read_258 : decode cX6_read 258 = .ok (.iconst 2, 1) := by decide +kernel
theorem dX6_read_259 : decode cX6_read 259 = .ok (.iadd, 1) := by decide +kernel
theorem dX6_read_260 : decode cX6_read 260 = .ok (.iaload, 1) := by decide +kernel
theorem dX6_read_261 : decode cX6_read 261 = .ok (.iconst 1, 1) := by decide +kernel
theorem dX6_read_262 : decode cX6_read 262 = .ok (.invokevirtual 64, 3) := by decide +kernel
theorem dX6_read_265 : decode cX6_read 265 = .ok (.iconst 0, 1) := by decide +kernel
theorem dX6_read_266 : decode cX6_read 266 = .ok (.istore 5, 2) := by decide +kernel
theorem dX6_read_268 : decode cX6_read 268 = .ok (.iload 5, 2) := by decide +kernel
theorem dX6_read_270 : decode cX6_read 270 = .ok (.iload 4, 2) := by decide +kernel
theorem dX6_read_272 : decode cX6_read 272 = .ok (.if_icmp .ge 25, 3) := by decide +kernel
theorem dX6_read_275 : decode cX6_read 275 = .ok (.aload_n 0, 1) := by decide +kernel
theorem dX6_read_276 : decode cX6_read 276 = .ok (.aload_n 0, 1) := by decide +kernel
theorem dX6_read_277 : decode cX6_read 277 = .ok (.getfield 7, 3) := by decide +kernel
theorem dX6_read_280 : decode cX6_read 280 = .ok (.iload_n 3, 1) := by decide +kernel
theorem dX6_read_281 : decode cX6_read 281 = .ok (.iconst 3, 1) := by decide +kernel
theorem dX6_read_282 : decode cX6_read 282 = .ok (.iadd, 1) := by decide +kernel
theorem dX6_read_283 : decode cX6_read 283 = .ok (.iload 5, 2) := by decide +kernel
theorem dX6_read_285 : decode cX6_read 285 = .ok (.iadd, 1) := by decide +kernel
theorem dX6_read_286 : decode cX6_read 286 = .ok (.iaload, 1) := by decide +kernel
theorem dX6_read_287 : decode cX6_read 287 = .ok (.iconst 1, 1) := by decide +kernel
theorem dX6_read_288 : decode cX6_read 288 = .ok (.invokevirtual 64, 3) := by decide +kernel
theorem dX6_read_291 : decode cX6_read 291 = .ok (.iinc 5 1, 3) := by decide +kernel
theorem dX6_read_294 : decode cX6_read 294 = .ok (.goto (-26), 3) := by decide +kernel
theorem dX6_read_297 : decode cX6_read 297 = .ok (.lconst 0, 1) := by decide +kernel
theorem dX6_read_298 : decode cX6_read 298 = .ok (.lstore 5, 2) := by decide +kernel
theorem dX6_read_300 : decode cX6_read 300 = .ok (.iconst 3, 1) := by decide +kernel
theorem dX6_read_301 : decode cX6_read 301 = .ok (.istore 7, 2) := by decide +kernel
theorem dX6_read_303 : decode cX6_read 303 = .ok (.iload 7, 2) := by decide +kernel
theorem dX6_read_305 : decode cX6_read 305 = .ok (.ifCond .lt 32, 3) := by decide +kernel
theorem dX6_read_308 : decode cX6_read 308 = .ok (.lload 5, 2) := by decide +kernel
theorem dX6_read_310 : decode cX6_read 310 = .ok (.bipush 8, 2) := by decide +kernel
theorem dX6_read_312 : decode cX6_read 312 = .ok (.lshl, 1) := by decide +kernel
theorem dX6_read_313 : decode cX6_read 313 = .ok (.aload_n 0, 1) := by decide +kernel
theorem dX6_read_314 : decode cX6_read 314 = .ok (.getfield 7, 3) := by decide +kernel
theorem dX6_read_317 : decode cX6_read 317 = .ok (.iload_n 3, 1) := by decide +kernel
theorem dX6_read_318 : decode cX6_read 318 = .ok (.iconst 3, 1) := by decide +kernel
theorem dX6_read_319 : decode cX6_read 319 = .ok (.iadd, 1) := by decide +kernel
theorem dX6_read_320 : decode cX6_read 320 = .ok (.iload 4, 2) := by decide +kernel
theorem dX6_read_322 : decode cX6_read 322 = .ok (.iadd, 1) := by decide +kernel
theorem dX6_read_323 : decode cX6_read 323 = .ok (.iload 7, 2) := by decide +kernel
theorem dX6_read_325 : decode cX6_read 325 = .ok (.iadd, 1) := by decide +kernel
theorem dX6_read_326 : decode cX6_read 326 = .ok (.iaload, 1) := by decide +kernel
theorem dX6_read_327 : decode cX6_read 327 = .ok (.i2l, 1) := by decide +kernel
theorem dX6_read_328 : decode cX6_read 328 = .ok (.lor, 1) := by decide +kernel
theorem dX6_read_329 : decode cX6_read 329 = .ok (.lstore 5, 2) := by decide +kernel
theorem dX6_read_331 : decode cX6_read 331 = .ok (.iinc 7 (-1), 3) := by decide +kernel
theorem dX6_read_334 : decode cX6_read 334 = .ok (.goto (-31), 3) := by decide +kernel
theorem dX6_read_337 : decode cX6_read 337 = .ok (.aload_n 0, 1) := by decide +kernel
theorem dX6_read_338 : decode cX6_read 338 = .ok (.getfield 7, 3) := by decide +kernel
theorem dX6_read_341 : decode cX6_read 341 = .ok (.iload_n 3, 1) := by decide +kernel
theorem dX6_read_342 : decode cX6_read 342 = .ok (.iload_n 2, 1) := by decide +kernel
theorem dX6_read_343 : decode cX6_read 343 = .ok (.iadd, 1) := by decide +kernel
theorem dX6_read_344 : decode cX6_read 344 = .ok (.iconst 1, 1) := by decide +kernel
theorem dX6_read_345 : decode cX6_read 345 = .ok (.isub, 1) := by decide +kernel
theorem dX6_read_346 : decode cX6_read 346 = .ok (.iaload, 1) := by decide +kernel
theorem dX6_read_347 : decode cX6_read 347 = .ok (.istore 7, 2) := by decide +kernel
theorem dX6_read_349 : decode cX6_read 349 = .ok (.iload 7, 2) := by decide +kernel
theorem dX6_read_351 : decode cX6_read 351 = .ok (.sipush 253, 3) := by decide +kernel
theorem dX6_read_354 : decode cX6_read 354 = .ok (.if_icmp .ne 16, 3) := by decide +kernel
theorem dX6_read_357 : decode cX6_read 357 = .ok (.lload 5, 2) := by decide +kernel
theorem dX6_read_359 : decode cX6_read 359 = .ok (.aload_n 0, 1) := by decide +kernel
theorem dX6_read_360 : decode cX6_read 360 = .ok (.iconst 1, 1) := by decide +kernel
theorem dX6_read_361 : decode cX6_read 361 = .ok (.invokevirtual 68, 3) := by decide +kernel
theorem dX6_read_364 : decode cX6_read 364 = .ok (.lcmp, 1) := by decide +kernel
theorem dX6_read_365 : decode cX6_read 365 = .ok (.ifCond .ne 5, 3) := by decide +kernel
theorem dX6_read_368 : decode cX6_read 368 = .ok (.iconst 0, 1) := by decide +kernel
theorem dX6_read_369 : decode cX6_read 369 = .ok (.ireturn, 1) := by decide +kernel
theorem dX6_read_370 : decode cX6_read 370 = .ok (.iload 7, 2) := by decide +kernel
theorem dX6_read_372 : decode cX6_read 372 = .ok (.sipush 254, 3) := by decide +kernel
theorem dX6_read_375 : decode cX6_read 375 = .ok (.if_icmp .ne 22, 3) := by decide +kernel
theorem dX6_read_378 : decode cX6_read 378 = .ok (.lload 5, 2) := by decide +kernel
theorem dX6_read_380 : decode cX6_read 380 = .ok (.aload_n 0, 1) := by decide +kernel
theorem dX6_read_381 : decode cX6_read 381 = .ok (.iconst 1, 1) := by decide +kernel
theorem dX6_read_382 : decode cX6_read 382 = .ok (.invokevirtual 68, 3) := by decide +kernel
theorem dX6_read_385 : decode cX6_read 385 = .ok (.ldc2_w 27, 3) := by decide +kernel
theorem dX6_read_388 : decode cX6_read 388 = .ok (.lxor, 1) := by decide +kernel
theorem dX6_read_389 : decode cX6_read 389 = .ok (.lcmp, 1) := by decide +kernel
theorem dX6_read_390 : decode cX6_read 390 = .ok (.ifCond .ne 7, 3) := by decide +kernel
theorem dX6_read_393 : decode cX6_read 393 = .ok (.iconst 1, 1) := by decide +kernel
theorem dX6_read_394 : decode cX6_read 394 = .ok (.goto 4, 3) := by decide +kernel
theorem dX6_read_397 : decode cX6_read 397 = .ok (.iconst 4, 1) := by decide +kernel
theorem dX6_read_398 : decode cX6_read 398 = .ok (.ireturn, 1) := by decide +kernel
theorem dX6_sendsAgain_0 : decode cX6_sendsAgain 0 = .ok (.iload_n 1, 1) := by decide +kernel
theorem dX6_sendsAgain_1 : decode cX6_sendsAgain 1 = .ok (.invokestatic 20, 3) := by decide +kernel
theorem dX6_sendsAgain_4 : decode cX6_sendsAgain 4 = .ok (.istore_n 2, 1) := by decide +kernel
theorem dX6_sendsAgain_5 : decode cX6_sendsAgain 5 = .ok (.aload_n 0, 1) := by decide +kernel
theorem dX6_sendsAgain_6 : decode cX6_sendsAgain 6 = .ok (.getfield 7, 3) := by decide +kernel
theorem dX6_sendsAgain_9 : decode cX6_sendsAgain 9 = .ok (.bipush 6, 2) := by decide +kernel
theorem dX6_sendsAgain_11 : decode cX6_sendsAgain 11 = .ok (.dup2, 1) := by decide +kernel
theorem dX6_sendsAgain_12 : decode cX6_sendsAgain 12 = .ok (.iaload, 1) := by decide +kernel
theorem dX6_sendsAgain_13 : decode cX6_sendsAgain 13 = .ok (.iconst 1, 1) := by decide +kernel
theorem dX6_sendsAgain_14 : decode cX6_sendsAgain 14 = .ok (.iadd, 1) := by decide +kernel
theorem dX6_sendsAgain_15 : decode cX6_sendsAgain 15 = .ok (.iastore, 1) := by decide +kernel
theorem dX6_sendsAgain_16 : decode cX6_sendsAgain 16 = .ok (.aload_n 0, 1) := by decide +kernel
theorem dX6_sendsAgain_17 : decode cX6_sendsAgain 17 = .ok (.getfield 7, 3) := by decide +kernel
theorem dX6_sendsAgain_20 : decode cX6_sendsAgain 20 = .ok (.iload_n 2, 1) := by decide +kernel
theorem dX6_sendsAgain_21 : decode cX6_sendsAgain 21 = .ok (.iconst 5, 1) := by decide +kernel
theorem dX6_sendsAgain_22 : decode cX6_sendsAgain 22 = .ok (.iadd, 1) := by decide +kernel
theorem dX6_sendsAgain_23 : decode cX6_sendsAgain 23 = .ok (.dup2, 1) := by decide +kernel
theorem dX6_sendsAgain_24 : decode cX6_sendsAgain 24 = .ok (.iaload, 1) := by decide +kernel
theorem dX6_sendsAgain_25 : decode cX6_sendsAgain 25 = .ok (.iconst 1, 1) := by decide +kernel
theorem dX6_sendsAgain_26 : decode cX6_sendsAgain 26 = .ok (.iadd, 1) := by decide +kernel
theorem dX6_sendsAgain_27 : decode cX6_sendsAgain 27 = .ok (.iastore, 1) := by decide +kernel
theorem dX6_sendsAgain_28 : decode cX6_sendsAgain 28 = .ok (.aload_n 0, 1) := by decide +kernel
theorem dX6_sendsAgain_29 : decode cX6_sendsAgain 29 = .ok (.getfield 7, 3) := by decide +kernel
theorem dX6_sendsAgain_32 : decode cX6_sendsAgain 32 = .ok (.iload_n 2, 1) := by decide +kernel
theorem dX6_sendsAgain_33 : decode cX6_sendsAgain 33 = .ok (.iconst 4, 1) := by decide +kernel
theorem dX6_sendsAgain_34 : decode cX6_sendsAgain 34 = .ok (.iadd, 1) := by decide +kernel
theorem dX6_sendsAgain_35 : decode cX6_sendsAgain 35 = .ok (.iconst 0, 1) := by decide +kernel
theorem dX6_sendsAgain_36 : decode cX6_sendsAgain 36 = .ok (.iastore, 1) := by decide +kernel
theorem dX6_sendsAgain_37 : decode cX6_sendsAgain 37 = .ok (.aload_n 0, 1) := by decide +kernel
theorem dX6_sendsAgain_38 : decode cX6_sendsAgain 38 = .ok (.getfield 7, 3) := by decide +kernel
theorem dX6_sendsAgain_41 : decode cX6_sendsAgain 41 = .ok (.iload_n 2, 1) := by decide +kernel
theorem dX6_sendsAgain_42 : decode cX6_sendsAgain 42 = .ok (.bipush 6, 2) := by decide +kernel
theorem dX6_sendsAgain_44 : decode cX6_sendsAgain 44 = .ok (.iadd, 1) := by decide +kernel
theorem dX6_sendsAgain_45 : decode cX6_sendsAgain 45 = .ok (.aload_n 0, 1) := by decide +kernel
theorem dX6_sendsAgain_46 : decode cX6_sendsAgain 46 = .ok (.getfield 7, 3) := by decide +kernel
theorem dX6_sendsAgain_49 : decode cX6_sendsAgain 49 = .ok (.iload_n 2, 1) := by decide +kernel
theorem dX6_sendsAgain_50 : decode cX6_sendsAgain 50 = .ok (.iconst 2, 1) := by decide +kernel
theorem dX6_sendsAgain_51 : decode cX6_sendsAgain 51 = .ok (.iadd, 1) := by decide +kernel
theorem dX6_sendsAgain_52 : decode cX6_sendsAgain 52 = .ok (.iaload, 1) := by decide +kernel
theorem dX6_sendsAgain_53 : decode cX6_sendsAgain 53 = .ok (.iastore, 1) := by decide +kernel
theorem dX6_sendsAgain_54 : decode cX6_sendsAgain 54 = .ok (.aload_n 0, 1) := by decide +kernel
theorem dX6_sendsAgain_55 : decode cX6_sendsAgain 55 = .ok (.getfield 7, 3) := by decide +kernel
theorem dX6_sendsAgain_58 : decode cX6_sendsAgain 58 = .ok (.iload_n 2, 1) := by decide +kernel
theorem dX6_sendsAgain_59 : decode cX6_sendsAgain 59 = .ok (.iconst 5, 1) := by decide +kernel
theorem dX6_sendsAgain_60 : decode cX6_sendsAgain 60 = .ok (.iadd, 1) := by decide +kernel
theorem dX6_sendsAgain_61 : decode cX6_sendsAgain 61 = .ok (.iaload, 1) := by decide +kernel
theorem dX6_sendsAgain_62 : decode cX6_sendsAgain 62 = .ok (.iconst 4, 1) := by decide +kernel
theorem dX6_sendsAgain_63 : decode cX6_sendsAgain 63 = .ok (.if_icmp .ne 63, 3) := by decide +kernel
theorem dX6_sendsAgain_66 : decode cX6_sendsAgain 66 = .ok (.aload_n 0, 1) := by decide +kernel
theorem dX6_sendsAgain_67 : decode cX6_sendsAgain 67 = .ok (.getfield 7, 3) := by decide +kernel
theorem dX6_sendsAgain_70 : decode cX6_sendsAgain 70 = .ok (.iload_n 2, 1) := by decide +kernel
theorem dX6_sendsAgain_71 : decode cX6_sendsAgain 71 = .ok (.iconst 5, 1) := by decide +kernel
theorem dX6_sendsAgain_72 : decode cX6_sendsAgain 72 = .ok (.iadd, 1) := by decide +kernel
theorem dX6_sendsAgain_73 : decode cX6_sendsAgain 73 = .ok (.iconst 0, 1) := by decide +kernel
theorem dX6_sendsAgain_74 : decode cX6_sendsAgain 74 = .ok (.iastore, 1) := by decide +kernel
theorem dX6_sendsAgain_75 : decode cX6_sendsAgain 75 = .ok (.aload_n 0, 1) := by decide +kernel
theorem dX6_sendsAgain_76 : decode cX6_sendsAgain 76 = .ok (.getfield 7, 3) := by decide +kernel
theorem dX6_sendsAgain_79 : decode cX6_sendsAgain 79 = .ok (.iconst 4, 1) := by decide +kernel
theorem dX6_sendsAgain_80 : decode cX6_sendsAgain 80 = .ok (.iconst 5, 1) := by decide +kernel
theorem dX6_sendsAgain_81 : decode cX6_sendsAgain 81 = .ok (.iastore, 1) := by decide +kernel
theorem dX6_sendsAgain_82 : decode cX6_sendsAgain 82 = .ok (.aload_n 0, 1) := by decide +kernel
theorem dX6_sendsAgain_83 : decode cX6_sendsAgain 83 = .ok (.getfield 7, 3) := by decide +kernel
theorem dX6_sendsAgain_86 : decode cX6_sendsAgain 86 = .ok (.iconst 5, 1) := by decide +kernel
theorem dX6_sendsAgain_87 : decode cX6_sendsAgain 87 = .ok (.dup2, 1) := by decide +kernel
theorem dX6_sendsAgain_88 : decode cX6_sendsAgain 88 = .ok (.iaload, 1) := by decide +kernel
theorem dX6_sendsAgain_89 : decode cX6_sendsAgain 89 = .ok (.iconst 1, 1) := by decide +kernel
theorem dX6_sendsAgain_90 : decode cX6_sendsAgain 90 = .ok (.iadd, 1) := by decide +kernel
theorem dX6_sendsAgain_91 : decode cX6_sendsAgain 91 = .ok (.iastore, 1) := by decide +kernel
theorem dX6_sendsAgain_92 : decode cX6_sendsAgain 92 = .ok (.aload_n 0, 1) := by decide +kernel
theorem dX6_sendsAgain_93 : decode cX6_sendsAgain 93 = .ok (.iconst 0, 1) := by decide +kernel
theorem dX6_sendsAgain_94 : decode cX6_sendsAgain 94 = .ok (.invokevirtual 78, 3) := by decide +kernel
theorem dX6_sendsAgain_97 : decode cX6_sendsAgain 97 = .ok (.ifCond .le 12, 3) := by decide +kernel
theorem dX6_sendsAgain_100 : decode cX6_sendsAgain 100 = .ok (.aload_n 0, 1) := by decide +kernel
theorem dX6_sendsAgain_101 : decode cX6_sendsAgain 101 = .ok (.iconst 0, 1) := by decide +kernel
theorem dX6_sendsAgain_102 : decode cX6_sendsAgain 102 = .ok (.iconst 0, 1) := by decide +kernel
theorem dX6_sendsAgain_103 : decode cX6_sendsAgain 103 = .ok (.invokevirtual 84, 3) := by decide +kernel
theorem dX6_sendsAgain_106 : decode cX6_sendsAgain 106 = .ok (.goto (-14), 3) := by decide +kernel
theorem dX6_sendsAgain_109 : decode cX6_sendsAgain 109 = .ok (.aload_n 0, 1) := by decide +kernel
theorem dX6_sendsAgain_110 : decode cX6_sendsAgain 110 = .ok (.iconst 1, 1) := by decide +kernel
theorem dX6_sendsAgain_111 : decode cX6_sendsAgain 111 = .ok (.invokevirtual 78, 3) := by decide +kernel
theorem dX6_sendsAgain_114 : decode cX6_sendsAgain 114 = .ok (.ifCond .le 12, 3) := by decide +kernel
theorem dX6_sendsAgain_117 : decode cX6_sendsAgain 117 = .ok (.aload_n 0, 1) := by decide +kernel
theorem dX6_sendsAgain_118 : decode cX6_sendsAgain 118 = .ok (.iconst 1, 1) := by decide +kernel
theorem dX6_sendsAgain_119 : decode cX6_sendsAgain 119 = .ok (.iconst 0, 1) := by decide +kernel
theorem dX6_sendsAgain_120 : decode cX6_sendsAgain 120 = .ok (.invokevirtual 84, 3) := by decide +kernel
theorem dX6_sendsAgain_123 : decode cX6_sendsAgain 123 = .ok (.goto (-14), 3) := by decide +kernel
theorem dX6_sendsAgain_126 : decode cX6_sendsAgain 126 = .ok (.return_, 1) := by decide +kernel
theorem dX6_comesWord_0 : decode cX6_comesWord 0 = .ok (.iload_n 1, 1) := by decide +kernel
theorem dX6_comesWord_1 : decode cX6_comesWord 1 = .ok (.invokestatic 20, 3) := by decide +kernel
theorem dX6_comesWord_4 : decode cX6_comesWord 4 = .ok (.istore 4, 2) := by decide +kernel
theorem dX6_comesWord_6 : decode cX6_comesWord 6 = .ok (.aload_n 0, 1) := by decide +kernel
theorem dX6_comesWord_7 : decode cX6_comesWord 7 = .ok (.getfield 7, 3) := by decide +kernel
theorem dX6_comesWord_10 : decode cX6_comesWord 10 = .ok (.bipush 28, 2) := by decide +kernel
theorem dX6_comesWord_12 : decode cX6_comesWord 12 = .ok (.dup2, 1) := by decide +kernel
theorem dX6_comesWord_13 : decode cX6_comesWord 13 = .ok (.iaload, 1) := by decide +kernel
theorem dX6_comesWord_14 : decode cX6_comesWord 14 = .ok (.iconst 1, 1) := by decide +kernel
theorem dX6_comesWord_15 : decode cX6_comesWord 15 = .ok (.iadd, 1) := by decide +kernel
theorem dX6_comesWord_16 : decode cX6_comesWord 16 = .ok (.iastore, 1) := by decide +kernel
theorem dX6_comesWord_17 : decode cX6_comesWord 17 = .ok (.aload_n 0, 1) := by decide +kernel
theorem dX6_comesWord_18 : decode cX6_comesWord 18 = .ok (.getfield 7, 3) := by decide +kernel
theorem dX6_comesWord_21 : decode cX6_comesWord 21 = .ok (.iload 4, 2) := by decide +kernel
theorem dX6_comesWord_23 : decode cX6_comesWord 23 = .ok (.iconst 1, 1) := by decide +kernel
theorem dX6_comesWord_24 : decode cX6_comesWord 24 = .ok (.iadd, 1) := by decide +kernel
theorem dX6_comesWord_25 : decode cX6_comesWord 25 = .ok (.iaload, 1) := by decide +kernel
theorem dX6_comesWord_26 : decode cX6_comesWord 26 = .ok (.iconst 1, 1) := by decide +kernel
theorem dX6_comesWord_27 : decode cX6_comesWord 27 = .ok (.isub, 1) := by decide +kernel
theorem dX6_comesWord_28 : decode cX6_comesWord 28 = .ok (.iload_n 3, 1) := by decide +kernel
theorem dX6_comesWord_29 : decode cX6_comesWord 29 = .ok (.isub, 1) := by decide +kernel
theorem dX6_comesWord_30 : decode cX6_comesWord 30 = .ok (.invokestatic 95, 3) := by decide +kernel
theorem dX6_comesWord_33 : decode cX6_comesWord 33 = .ok (.bipush 32, 2) := by decide +kernel
theorem dX6_comesWord_35 : decode cX6_comesWord 35 = .ok (.if_icmp .lt 15, 3) := by decide +kernel
theorem dX6_comesWord_38 : decode cX6_comesWord 38 = .ok (.aload_n 0, 1) := by decide +kernel
theorem dX6_comesWord_39 : decode cX6_comesWord 39 = .ok (.getfield 7, 3) := by decide +kernel
theorem dX6_comesWord_42 : decode cX6_comesWord 42 = .ok (.bipush 29, 2) := by decide +kernel
theorem dX6_comesWord_44 : decode cX6_comesWord 44 = .ok (.dup2, 1) := by decide +kernel
theorem dX6_comesWord_45 : decode cX6_comesWord 45 = .ok (.iaload, 1) := by decide +kernel
theorem dX6_comesWord_46 : decode cX6_comesWord 46 = .ok (.iconst 1, 1) := by decide +kernel
theorem dX6_comesWord_47 : decode cX6_comesWord 47 = .ok (.iadd, 1) := by decide +kernel
theorem dX6_comesWord_48 : decode cX6_comesWord 48 = .ok (.iastore, 1) := by decide +kernel
theorem dX6_comesWord_49 : decode cX6_comesWord 49 = .ok (.return_, 1) := by decide +kernel
theorem dX6_comesWord_50 : decode cX6_comesWord 50 = .ok (.iload_n 3, 1) := by decide +kernel
theorem dX6_comesWord_51 : decode cX6_comesWord 51 = .ok (.aload_n 0, 1) := by decide +kernel
theorem dX6_comesWord_52 : decode cX6_comesWord 52 = .ok (.getfield 7, 3) := by decide +kernel
theorem dX6_comesWord_55 : decode cX6_comesWord 55 = .ok (.iload 4, 2) := by decide +kernel
theorem dX6_comesWord_57 : decode cX6_comesWord 57 = .ok (.iconst 3, 1) := by decide +kernel
theorem dX6_comesWord_58 : decode cX6_comesWord 58 = .ok (.iadd, 1) := by decide +kernel
theorem dX6_comesWord_59 : decode cX6_comesWord 59 = .ok (.iaload, 1) := by decide +kernel
theorem dX6_comesWord_60 : decode cX6_comesWord 60 = .ok (.isub, 1) := by decide +kernel
theorem dX6_comesWord_61 : decode cX6_comesWord 61 = .ok (.invokestatic 95, 3) := by decide +kernel
theorem dX6_comesWord_64 : decode cX6_comesWord 64 = .ok (.istore 5, 2) := by decide +kernel
theorem dX6_comesWord_66 : decode cX6_comesWord 66 = .ok (.iload 5, 2) := by decide +kernel
theorem dX6_comesWord_68 : decode cX6_comesWord 68 = .ok (.iconst 1, 1) := by decide +kernel
theorem dX6_comesWord_69 : decode cX6_comesWord 69 = .ok (.if_icmp .lt 115, 3) := by decide +kernel
theorem dX6_comesWord_72 : decode cX6_comesWord 72 = .ok (.iload 5, 2) := by decide +kernel
theorem dX6_comesWord_74 : decode cX6_comesWord 74 = .ok (.aload_n 0, 1) := by decide +kernel
theorem dX6_comesWord_75 : decode cX6_comesWord 75 = .ok (.getfield 7, 3) := by decide +kernel
theorem dX6_comesWord_78 : decode cX6_comesWord 78 = .ok (.iload 4, 2) := by decide +kernel
theorem dX6_comesWord_80 : decode cX6_comesWord 80 = .ok (.iconst 2, 1) := by decide +kernel
theorem dX6_comesWord_81 : decode cX6_comesWord 81 = .ok (.iadd, 1) := by decide +kernel
theorem dX6_comesWord_82 : decode cX6_comesWord 82 = .ok (.iaload, 1) := by decide +kernel
theorem dX6_comesWord_83 : decode cX6_comesWord 83 = .ok (.if_icmp .gt 101, 3) := by decide +kernel
theorem dX6_comesWord_86 : decode cX6_comesWord 86 = .ok (.aload_n 0, 1) := by decide +kernel
theorem dX6_comesWord_87 : decode cX6_comesWord 87 = .ok (.getfield 7, 3) := by decide +kernel
theorem dX6_comesWord_90 : decode cX6_comesWord 90 = .ok (.iload 4, 2) := by decide +kernel
theorem dX6_comesWord_92 : decode cX6_comesWord 92 = .ok (.iconst 2, 1) := by decide +kernel
theorem dX6_comesWord_93 : decode cX6_comesWord 93 = .ok (.iadd, 1) := by decide +kernel
theorem dX6_comesWord_94 : decode cX6_comesWord 94 = .ok (.dup2, 1) := by decide +kernel
theorem dX6_comesWord_95 : decode cX6_comesWord 95 = .ok (.iaload, 1) := by decide +kernel
theorem dX6_comesWord_96 : decode cX6_comesWord 96 = .ok (.iload 5, 2) := by decide +kernel
theorem dX6_comesWord_98 : decode cX6_comesWord 98 = .ok (.isub, 1) := by decide +kernel
theorem dX6_comesWord_99 : decode cX6_comesWord 99 = .ok (.iastore, 1) := by decide +kernel
theorem dX6_comesWord_100 : decode cX6_comesWord 100 = .ok (.aload_n 0, 1) := by decide +kernel
theorem dX6_comesWord_101 : decode cX6_comesWord 101 = .ok (.getfield 7, 3) := by decide +kernel
theorem dX6_comesWord_104 : decode cX6_comesWord 104 = .ok (.iload 4, 2) := by decide +kernel
theorem dX6_comesWord_106 : decode cX6_comesWord 106 = .ok (.iconst 3, 1) := by decide +kernel
theorem dX6_comesWord_107 : decode cX6_comesWord 107 = .ok (.iadd, 1) := by decide +kernel
theorem dX6_comesWord_108 : decode cX6_comesWord 108 = .ok (.iload_n 3, 1) := by decide +kernel
theorem dX6_comesWord_109 : decode cX6_comesWord 109 = .ok (.iastore, 1) := by decide +kernel
theorem dX6_comesWord_110 : decode cX6_comesWord 110 = .ok (.aload_n 0, 1) := by decide +kernel
theorem dX6_comesWord_111 : decode cX6_comesWord 111 = .ok (.getfield 7, 3) := by decide +kernel
theorem dX6_comesWord_114 : decode cX6_comesWord 114 = .ok (.iload 4, 2) := by decide +kernel
theorem dX6_comesWord_116 : decode cX6_comesWord 116 = .ok (.iconst 4, 1) := by decide +kernel
theorem dX6_comesWord_117 : decode cX6_comesWord 117 = .ok (.iadd, 1) := by decide +kernel
theorem dX6_comesWord_118 : decode cX6_comesWord 118 = .ok (.iconst 0, 1) := by decide +kernel
theorem dX6_comesWord_119 : decode cX6_comesWord 119 = .ok (.iastore, 1) := by decide +kernel
theorem dX6_comesWord_120 : decode cX6_comesWord 120 = .ok (.aload_n 0, 1) := by decide +kernel
theorem dX6_comesWord_121 : decode cX6_comesWord 121 = .ok (.getfield 7, 3) := by decide +kernel
theorem dX6_comesWord_124 : decode cX6_comesWord 124 = .ok (.iload 4, 2) := by decide +kernel
theorem dX6_comesWord_126 : decode cX6_comesWord 126 = .ok (.iconst 5, 1) := by decide +kernel
theorem dX6_comesWord_127 : decode cX6_comesWord 127 = .ok (.iadd, 1) := by decide +kernel
theorem dX6_comesWord_128 : decode cX6_comesWord 128 = .ok (.iconst 0, 1) := by decide +kernel
theorem dX6_comesWord_129 : decode cX6_comesWord 129 = .ok (.iastore, 1) := by decide +kernel
theorem dX6_comesWord_130 : decode cX6_comesWord 130 = .ok (.aload_n 0, 1) := by decide +kernel
theorem dX6_comesWord_131 : decode cX6_comesWord 131 = .ok (.getfield 7, 3) := by decide +kernel
theorem dX6_comesWord_134 : decode cX6_comesWord 134 = .ok (.iload 4, 2) := by decide +kernel
theorem dX6_comesWord_136 : decode cX6_comesWord 136 = .ok (.bipush 6, 2) := by decide +kernel
theorem dX6_comesWord_138 : decode cX6_comesWord 138 = .ok (.iadd, 1) := by decide +kernel
theorem dX6_comesWord_139 : decode cX6_comesWord 139 = .ok (.aload_n 0, 1) := by decide +kernel
theorem dX6_comesWord_140 : decode cX6_comesWord 140 = .ok (.getfield 7, 3) := by decide +kernel
theorem dX6_comesWord_143 : decode cX6_comesWord 143 = .ok (.iload 4, 2) := by decide +kernel
theorem dX6_comesWord_145 : decode cX6_comesWord 145 = .ok (.bipush 6, 2) := by decide +kernel
theorem dX6_comesWord_147 : decode cX6_comesWord 147 = .ok (.iadd, 1) := by decide +kernel
theorem dX6_comesWord_148 : decode cX6_comesWord 148 = .ok (.iaload, 1) := by decide +kernel
theorem dX6_comesWord_149 : decode cX6_comesWord 149 = .ok (.aload_n 0, 1) := by decide +kernel
theorem dX6_comesWord_150 : decode cX6_comesWord 150 = .ok (.getfield 7, 3) := by decide +kernel
theorem dX6_comesWord_153 : decode cX6_comesWord 153 = .ok (.iload 4, 2) := by decide +kernel
theorem dX6_comesWord_155 : decode cX6_comesWord 155 = .ok (.iconst 2, 1) := by decide +kernel
theorem dX6_comesWord_156 : decode cX6_comesWord 156 = .ok (.iadd, 1) := by decide +kernel
theorem dX6_comesWord_157 : decode cX6_comesWord 157 = .ok (.iaload, 1) := by decide +kernel
theorem dX6_comesWord_158 : decode cX6_comesWord 158 = .ok (.if_icmp .ge 16, 3) := by decide +kernel
theorem dX6_comesWord_161 : decode cX6_comesWord 161 = .ok (.aload_n 0, 1) := by decide +kernel
theorem dX6_comesWord_162 : decode cX6_comesWord 162 = .ok (.getfield 7, 3) := by decide +kernel
theorem dX6_comesWord_165 : decode cX6_comesWord 165 = .ok (.iload 4, 2) := by decide +kernel
theorem dX6_comesWord_167 : decode cX6_comesWord 167 = .ok (.bipush 6, 2) := by decide +kernel
theorem dX6_comesWord_169 : decode cX6_comesWord 169 = .ok (.iadd, 1) := by decide +kernel
theorem dX6_comesWord_170 : decode cX6_comesWord 170 = .ok (.iaload, 1) := by decide +kernel
theorem dX6_comesWord_171 : decode cX6_comesWord 171 = .ok (.goto 12, 3) := by decide +kernel
theorem dX6_comesWord_174 : decode cX6_comesWord 174 = .ok (.aload_n 0, 1) := by decide +kernel
theorem dX6_comesWord_175 : decode cX6_comesWord 175 = .ok (.getfield 7, 3) := by decide +kernel
theorem dX6_comesWord_178 : decode cX6_comesWord 178 = .ok (.iload 4, 2) := by decide +kernel
theorem dX6_comesWord_180 : decode cX6_comesWord 180 = .ok (.iconst 2, 1) := by decide +kernel
theorem dX6_comesWord_181 : decode cX6_comesWord 181 = .ok (.iadd, 1) := by decide +kernel
theorem dX6_comesWord_182 : decode cX6_comesWord 182 = .ok (.iaload, 1) := by decide +kernel
theorem dX6_comesWord_183 : decode cX6_comesWord 183 = .ok (.iastore, 1) := by decide +kernel
theorem dX6_comesWord_184 : decode cX6_comesWord 184 = .ok (.iload_n 2, 1) := by decide +kernel
theorem dX6_comesWord_185 : decode cX6_comesWord 185 = .ok (.iconst 3, 1) := by decide +kernel
theorem dX6_comesWord_186 : decode cX6_comesWord 186 = .ok (.if_icmp .ne 20, 3) := by decide +kernel
theorem dX6_comesWord_189 : decode cX6_comesWord 189 = .ok (.aload_n 0, 1) := by decide +kernel
theorem dX6_comesWord_190 : decode cX6_comesWord 190 = .ok (.getfield 7, 3) := by decide +kernel
theorem dX6_comesWord_193 : decode cX6_comesWord 193 = .ok (.iload 4, 2) := by decide +kernel
theorem dX6_comesWord_195 : decode cX6_comesWord 195 = .ok (.iconst 2, 1) := by decide +kernel
theorem dX6_comesWord_196 : decode cX6_comesWord 196 = .ok (.iadd, 1) := by decide +kernel
theorem dX6_comesWord_197 : decode cX6_comesWord 197 = .ok (.iaload, 1) := by decide +kernel
theorem dX6_comesWord_198 : decode cX6_comesWord 198 = .ok (.ifCond .le 8, 3) := by decide +kernel
theorem dX6_comesWord_201 : decode cX6_comesWord 201 = .ok (.aload_n 0, 1) := by decide +kernel
theorem dX6_comesWord_202 : decode cX6_comesWord 202 = .ok (.iload_n 1, 1) := by decide +kernel
theorem dX6_comesWord_203 : decode cX6_comesWord 203 = .ok (.invokevirtual 107, 3) := by decide +kernel
theorem dX6_comesWord_206 : decode cX6_comesWord 206 = .ok (.return_, 1) := by decide +kernel
theorem dX6_dropped_0 : decode cX6_dropped 0 = .ok (.iload_n 1, 1) := by decide +kernel
theorem dX6_dropped_1 : decode cX6_dropped 1 = .ok (.invokestatic 20, 3) := by decide +kernel
theorem dX6_dropped_4 : decode cX6_dropped 4 = .ok (.istore_n 2, 1) := by decide +kernel
theorem dX6_dropped_5 : decode cX6_dropped 5 = .ok (.aload_n 0, 1) := by decide +kernel
theorem dX6_dropped_6 : decode cX6_dropped 6 = .ok (.getfield 7, 3) := by decide +kernel
theorem dX6_dropped_9 : decode cX6_dropped 9 = .ok (.iload_n 2, 1) := by decide +kernel
theorem dX6_dropped_10 : decode cX6_dropped 10 = .ok (.bipush 8, 2) := by decide +kernel
theorem dX6_dropped_12 : decode cX6_dropped 12 = .ok (.iadd, 1) := by decide +kernel
theorem dX6_dropped_13 : decode cX6_dropped 13 = .ok (.iaload, 1) := by decide +kernel
theorem dX6_dropped_14 : decode cX6_dropped 14 = .ok (.ifCond .ne 23, 3) := by decide +kernel
theorem dX6_dropped_17 : decode cX6_dropped 17 = .ok (.aload_n 0, 1) := by decide +kernel
theorem dX6_dropped_18 : decode cX6_dropped 18 = .ok (.getfield 7, 3) := by decide +kernel
theorem dX6_dropped_21 : decode cX6_dropped 21 = .ok (.iload_n 2, 1) := by decide +kernel
theorem dX6_dropped_22 : decode cX6_dropped 22 = .ok (.bipush 8, 2) := by decide +kernel
theorem dX6_dropped_24 : decode cX6_dropped 24 = .ok (.iadd, 1) := by decide +kernel
theorem dX6_dropped_25 : decode cX6_dropped 25 = .ok (.iconst 1, 1) := by decide +kernel
theorem dX6_dropped_26 : decode cX6_dropped 26 = .ok (.iastore, 1) := by decide +kernel
theorem dX6_dropped_27 : decode cX6_dropped 27 = .ok (.aload_n 0, 1) := by decide +kernel
theorem dX6_dropped_28 : decode cX6_dropped 28 = .ok (.getfield 7, 3) := by decide +kernel
theorem dX6_dropped_31 : decode cX6_dropped 31 = .ok (.iload_n 2, 1) := by decide +kernel
theorem dX6_dropped_32 : decode cX6_dropped 32 = .ok (.bipush 10, 2) := by decide +kernel
theorem dX6_dropped_34 : decode cX6_dropped 34 = .ok (.iadd, 1) := by decide +kernel
theorem dX6_dropped_35 : decode cX6_dropped 35 = .ok (.iconst 1, 1) := by decide +kernel
theorem dX6_dropped_36 : decode cX6_dropped 36 = .ok (.iastore, 1) := by decide +kernel
theorem dX6_dropped_37 : decode cX6_dropped 37 = .ok (.return_, 1) := by decide +kernel
theorem dX6_comesData_0 : decode cX6_comesData 0 = .ok (.iload_n 1, 1) := by decide +kernel
theorem dX6_comesData_1 : decode cX6_comesData 1 = .ok (.invokestatic 20, 3) := by decide +kernel
theorem dX6_comesData_4 : decode cX6_comesData 4 = .ok (.istore_n 3, 1) := by decide +kernel
theorem dX6_comesData_5 : decode cX6_comesData 5 = .ok (.aload_n 0, 1) := by decide +kernel
theorem dX6_comesData_6 : decode cX6_comesData 6 = .ok (.getfield 7, 3) := by decide +kernel
theorem dX6_comesData_9 : decode cX6_comesData 9 = .ok (.iload_n 2, 1) := by decide +kernel
theorem dX6_comesData_10 : decode cX6_comesData 10 = .ok (.iconst 2, 1) := by decide +kernel
theorem dX6_comesData_11 : decode cX6_comesData 11 = .ok (.iadd, 1) := by decide +kernel
theorem dX6_comesData_12 : decode cX6_comesData 12 = .ok (.iconst 2, 1) := by decide +kernel
theorem dX6_comesData_13 : decode cX6_comesData 13 = .ok (.iadd, 1) := by decide +kernel
theorem dX6_comesData_14 : decode cX6_comesData 14 = .ok (.iaload, 1) := by decide +kernel
theorem dX6_comesData_15 : decode cX6_comesData 15 = .ok (.aload_n 0, 1) := by decide +kernel
theorem dX6_comesData_16 : decode cX6_comesData 16 = .ok (.getfield 7, 3) := by decide +kernel
theorem dX6_comesData_19 : decode cX6_comesData 19 = .ok (.iload_n 3, 1) := by decide +kernel
theorem dX6_comesData_20 : decode cX6_comesData 20 = .ok (.bipush 7, 2) := by decide +kernel
theorem dX6_comesData_22 : decode cX6_comesData 22 = .ok (.iadd, 1) := by decide +kernel
theorem dX6_comesData_23 : decode cX6_comesData 23 = .ok (.iaload, 1) := by decide +kernel
theorem dX6_comesData_24 : decode cX6_comesData 24 = .ok (.isub, 1) := by decide +kernel
theorem dX6_comesData_25 : decode cX6_comesData 25 = .ok (.invokestatic 95, 3) := by decide +kernel
theorem dX6_comesData_28 : decode cX6_comesData 28 = .ok (.istore 4, 2) := by decide +kernel
theorem dX6_comesData_30 : decode cX6_comesData 30 = .ok (.iload 4, 2) := by decide +kernel
theorem dX6_comesData_32 : decode cX6_comesData 32 = .ok (.iconst 1, 1) := by decide +kernel
theorem dX6_comesData_33 : decode cX6_comesData 33 = .ok (.if_icmp .lt 27, 3) := by decide +kernel
theorem dX6_comesData_36 : decode cX6_comesData 36 = .ok (.iload 4, 2) := by decide +kernel
theorem dX6_comesData_38 : decode cX6_comesData 38 = .ok (.bipush 32, 2) := by decide +kernel
theorem dX6_comesData_40 : decode cX6_comesData 40 = .ok (.if_icmp .ge 20, 3) := by decide +kernel
theorem dX6_comesData_43 : decode cX6_comesData 43 = .ok (.aload_n 0, 1) := by decide +kernel
theorem dX6_comesData_44 : decode cX6_comesData 44 = .ok (.getfield 7, 3) := by decide +kernel
theorem dX6_comesData_47 : decode cX6_comesData 47 = .ok (.bipush 26, 2) := by decide +kernel
theorem dX6_comesData_49 : decode cX6_comesData 49 = .ok (.dup2, 1) := by decide +kernel
theorem dX6_comesData_50 : decode cX6_comesData 50 = .ok (.iaload, 1) := by decide +kernel
theorem dX6_comesData_51 : decode cX6_comesData 51 = .ok (.iconst 1, 1) := by decide +kernel
theorem dX6_comesData_52 : decode cX6_comesData 52 = .ok (.iadd, 1) := by decide +kernel
theorem dX6_comesData_53 : decode cX6_comesData 53 = .ok (.iastore, 1) := by decide +kernel
theorem dX6_comesData_54 : decode cX6_comesData 54 = .ok (.aload_n 0, 1) := by decide +kernel
theorem dX6_comesData_55 : decode cX6_comesData 55 = .ok (.iload_n 1, 1) := by decide +kernel
theorem dX6_comesData_56 : decode cX6_comesData 56 = .ok (.invokevirtual 110, 3) := by decide +kernel
theorem dX6_comesData_59 : decode cX6_comesData 59 = .ok (.return_, 1) := by decide +kernel
theorem dX6_comesData_60 : decode cX6_comesData 60 = .ok (.iload 4, 2) := by decide +kernel
theorem dX6_comesData_62 : decode cX6_comesData 62 = .ok (.ifCond .ne 56, 3) := by decide +kernel
theorem dX6_comesData_65 : decode cX6_comesData 65 = .ok (.aload_n 0, 1) := by decide +kernel
theorem dX6_comesData_66 : decode cX6_comesData 66 = .ok (.getfield 7, 3) := by decide +kernel
theorem dX6_comesData_69 : decode cX6_comesData 69 = .ok (.bipush 24, 2) := by decide +kernel
theorem dX6_comesData_71 : decode cX6_comesData 71 = .ok (.dup2, 1) := by decide +kernel
theorem dX6_comesData_72 : decode cX6_comesData 72 = .ok (.iaload, 1) := by decide +kernel
theorem dX6_comesData_73 : decode cX6_comesData 73 = .ok (.iconst 1, 1) := by decide +kernel
theorem dX6_comesData_74 : decode cX6_comesData 74 = .ok (.iadd, 1) := by decide +kernel
theorem dX6_comesData_75 : decode cX6_comesData 75 = .ok (.iastore, 1) := by decide +kernel
theorem dX6_comesData_76 : decode cX6_comesData 76 = .ok (.aload_n 0, 1) := by decide +kernel
theorem dX6_comesData_77 : decode cX6_comesData 77 = .ok (.iload_n 1, 1) := by decide +kernel
theorem dX6_comesData_78 : decode cX6_comesData 78 = .ok (.iload_n 2, 1) := by decide +kernel
theorem dX6_comesData_79 : decode cX6_comesData 79 = .ok (.invokevirtual 113, 3) := by decide +kernel
theorem dX6_comesData_82 : decode cX6_comesData 82 = .ok (.aload_n 0, 1) := by decide +kernel
theorem dX6_comesData_83 : decode cX6_comesData 83 = .ok (.getfield 7, 3) := by decide +kernel
theorem dX6_comesData_86 : decode cX6_comesData 86 = .ok (.iload_n 3, 1) := by decide +kernel
theorem dX6_comesData_87 : decode cX6_comesData 87 = .ok (.bipush 7, 2) := by decide +kernel
theorem dX6_comesData_89 : decode cX6_comesData 89 = .ok (.iadd, 1) := by decide +kernel
theorem dX6_comesData_90 : decode cX6_comesData 90 = .ok (.aload_n 0, 1) := by decide +kernel
theorem dX6_comesData_91 : decode cX6_comesData 91 = .ok (.getfield 7, 3) := by decide +kernel
theorem dX6_comesData_94 : decode cX6_comesData 94 = .ok (.iload_n 3, 1) := by decide +kernel
theorem dX6_comesData_95 : decode cX6_comesData 95 = .ok (.bipush 7, 2) := by decide +kernel
theorem dX6_comesData_97 : decode cX6_comesData 97 = .ok (.iadd, 1) := by decide +kernel
theorem dX6_comesData_98 : decode cX6_comesData 98 = .ok (.iaload, 1) := by decide +kernel
theorem dX6_comesData_99 : decode cX6_comesData 99 = .ok (.iconst 1, 1) := by decide +kernel
theorem dX6_comesData_100 : decode cX6_comesData 100 = .ok (.iadd, 1) := by decide +kernel
theorem dX6_comesData_101 : decode cX6_comesData 101 = .ok (.invokestatic 95, 3) := by decide +kernel
theorem dX6_comesData_104 : decode cX6_comesData 104 = .ok (.iastore, 1) := by decide +kernel
theorem dX6_comesData_105 : decode cX6_comesData 105 = .ok (.aload_n 0, 1) := by decide +kernel
theorem dX6_comesData_106 : decode cX6_comesData 106 = .ok (.getfield 7, 3) := by decide +kernel
theorem dX6_comesData_109 : decode cX6_comesData 109 = .ok (.iload_n 3, 1) := by decide +kernel
theorem dX6_comesData_110 : decode cX6_comesData 110 = .ok (.bipush 8, 2) := by decide +kernel
theorem dX6_comesData_112 : decode cX6_comesData 112 = .ok (.iadd, 1) := by decide +kernel
theorem dX6_comesData_113 : decode cX6_comesData 113 = .ok (.iconst 0, 1) := by decide +kernel
theorem dX6_comesData_114 : decode cX6_comesData 114 = .ok (.iastore, 1) := by decide +kernel
theorem dX6_comesData_115 : decode cX6_comesData 115 = .ok (.goto 14, 3) := by decide +kernel
theorem dX6_comesData_118 : decode cX6_comesData 118 = .ok (.aload_n 0, 1) := by decide +kernel
theorem dX6_comesData_119 : decode cX6_comesData 119 = .ok (.getfield 7, 3) := by decide +kernel
theorem dX6_comesData_122 : decode cX6_comesData 122 = .ok (.bipush 25, 2) := by decide +kernel
theorem dX6_comesData_124 : decode cX6_comesData 124 = .ok (.dup2, 1) := by decide +kernel
theorem dX6_comesData_125 : decode cX6_comesData 125 = .ok (.iaload, 1) := by decide +kernel
theorem dX6_comesData_126 : decode cX6_comesData 126 = .ok (.iconst 1, 1) := by decide +kernel
theorem dX6_comesData_127 : decode cX6_comesData 127 = .ok (.iadd, 1) := by decide +kernel
theorem dX6_comesData_128 : decode cX6_comesData 128 = .ok (.iastore, 1) := by decide +kernel
theorem dX6_comesData_129 : decode cX6_comesData 129 = .ok (.aload_n 0, 1) := by decide +kernel
theorem dX6_comesData_130 : decode cX6_comesData 130 = .ok (.getfield 7, 3) := by decide +kernel
theorem dX6_comesData_133 : decode cX6_comesData 133 = .ok (.iload_n 3, 1) := by decide +kernel
theorem dX6_comesData_134 : decode cX6_comesData 134 = .ok (.bipush 9, 2) := by decide +kernel
theorem dX6_comesData_136 : decode cX6_comesData 136 = .ok (.iadd, 1) := by decide +kernel
theorem dX6_comesData_137 : decode cX6_comesData 137 = .ok (.aload_n 0, 1) := by decide +kernel
theorem dX6_comesData_138 : decode cX6_comesData 138 = .ok (.getfield 7, 3) := by decide +kernel
theorem dX6_comesData_141 : decode cX6_comesData 141 = .ok (.iload_n 3, 1) := by decide +kernel
theorem dX6_comesData_142 : decode cX6_comesData 142 = .ok (.bipush 9, 2) := by decide +kernel
theorem dX6_comesData_144 : decode cX6_comesData 144 = .ok (.iadd, 1) := by decide +kernel
theorem dX6_comesData_145 : decode cX6_comesData 145 = .ok (.iaload, 1) := by decide +kernel
theorem dX6_comesData_146 : decode cX6_comesData 146 = .ok (.bipush (-4), 2) := by decide +kernel
theorem dX6_comesData_148 : decode cX6_comesData 148 = .ok (.if_icmp .ne 12, 3) := by decide +kernel
theorem dX6_comesData_151 : decode cX6_comesData 151 = .ok (.aload_n 0, 1) := by decide +kernel
theorem dX6_comesData_152 : decode cX6_comesData 152 = .ok (.getfield 7, 3) := by decide +kernel
theorem dX6_comesData_155 : decode cX6_comesData 155 = .ok (.iconst 2, 1) := by decide +kernel
theorem dX6_comesData_156 : decode cX6_comesData 156 = .ok (.iaload, 1) := by decide +kernel
theorem dX6_comesData_157 : decode cX6_comesData 157 = .ok (.goto 12, 3) := by decide +kernel
theorem dX6_comesData_160 : decode cX6_comesData 160 = .ok (.aload_n 0, 1) := by decide +kernel
theorem dX6_comesData_161 : decode cX6_comesData 161 = .ok (.getfield 7, 3) := by decide +kernel
theorem dX6_comesData_164 : decode cX6_comesData 164 = .ok (.iload_n 3, 1) := by decide +kernel
theorem dX6_comesData_165 : decode cX6_comesData 165 = .ok (.bipush 9, 2) := by decide +kernel
theorem dX6_comesData_167 : decode cX6_comesData 167 = .ok (.iadd, 1) := by decide +kernel
theorem dX6_comesData_168 : decode cX6_comesData 168 = .ok (.iaload, 1) := by decide +kernel
theorem dX6_comesData_169 : decode cX6_comesData 169 = .ok (.iastore, 1) := by decide +kernel
theorem dX6_comesData_170 : decode cX6_comesData 170 = .ok (.return_, 1) := by decide +kernel
theorem dX6_handsUp_0 : decode cX6_handsUp 0 = .ok (.iload_n 1, 1) := by decide +kernel
theorem dX6_handsUp_1 : decode cX6_handsUp 1 = .ok (.invokestatic 20, 3) := by decide +kernel
theorem dX6_handsUp_4 : decode cX6_handsUp 4 = .ok (.istore_n 3, 1) := by decide +kernel
theorem dX6_handsUp_5 : decode cX6_handsUp 5 = .ok (.aload_n 0, 1) := by decide +kernel
theorem dX6_handsUp_6 : decode cX6_handsUp 6 = .ok (.getfield 7, 3) := by decide +kernel
theorem dX6_handsUp_9 : decode cX6_handsUp 9 = .ok (.iload_n 3, 1) := by decide +kernel
theorem dX6_handsUp_10 : decode cX6_handsUp 10 = .ok (.bipush 11, 2) := by decide +kernel
theorem dX6_handsUp_12 : decode cX6_handsUp 12 = .ok (.iadd, 1) := by decide +kernel
theorem dX6_handsUp_13 : decode cX6_handsUp 13 = .ok (.iaload, 1) := by decide +kernel
theorem dX6_handsUp_14 : decode cX6_handsUp 14 = .ok (.bipush 60, 2) := by decide +kernel
theorem dX6_handsUp_16 : decode cX6_handsUp 16 = .ok (.if_icmp .ge 80, 3) := by decide +kernel
theorem dX6_handsUp_19 : decode cX6_handsUp 19 = .ok (.iload_n 1, 1) := by decide +kernel
theorem dX6_handsUp_20 : decode cX6_handsUp 20 = .ok (.aload_n 0, 1) := by decide +kernel
theorem dX6_handsUp_21 : decode cX6_handsUp 21 = .ok (.getfield 7, 3) := by decide +kernel
theorem dX6_handsUp_24 : decode cX6_handsUp 24 = .ok (.iload_n 3, 1) := by decide +kernel
theorem dX6_handsUp_25 : decode cX6_handsUp 25 = .ok (.bipush 11, 2) := by decide +kernel
theorem dX6_handsUp_27 : decode cX6_handsUp 27 = .ok (.iadd, 1) := by decide +kernel
theorem dX6_handsUp_28 : decode cX6_handsUp 28 = .ok (.iaload, 1) := by decide +kernel
theorem dX6_handsUp_29 : decode cX6_handsUp 29 = .ok (.invokestatic 116, 3) := by decide +kernel
theorem dX6_handsUp_32 : decode cX6_handsUp 32 = .ok (.istore 4, 2) := by decide +kernel
theorem dX6_handsUp_34 : decode cX6_handsUp 34 = .ok (.aload_n 0, 1) := by decide +kernel
theorem dX6_handsUp_35 : decode cX6_handsUp 35 = .ok (.getfield 7, 3) := by decide +kernel
theorem dX6_handsUp_38 : decode cX6_handsUp 38 = .ok (.iload 4, 2) := by decide +kernel
theorem dX6_handsUp_40 : decode cX6_handsUp 40 = .ok (.aload_n 0, 1) := by decide +kernel
theorem dX6_handsUp_41 : decode cX6_handsUp 41 = .ok (.getfield 7, 3) := by decide +kernel
theorem dX6_handsUp_44 : decode cX6_handsUp 44 = .ok (.iload_n 2, 1) := by decide +kernel
theorem dX6_handsUp_45 : decode cX6_handsUp 45 = .ok (.iaload, 1) := by decide +kernel
theorem dX6_handsUp_46 : decode cX6_handsUp 46 = .ok (.bipush 8, 2) := by decide +kernel
theorem dX6_handsUp_48 : decode cX6_handsUp 48 = .ok (.isub, 1) := by decide +kernel
theorem dX6_handsUp_49 : decode cX6_handsUp 49 = .ok (.iastore, 1) := by decide +kernel
theorem dX6_handsUp_50 : decode cX6_handsUp 50 = .ok (.iconst 0, 1) := by decide +kernel
theorem dX6_handsUp_51 : decode cX6_handsUp 51 = .ok (.istore 5, 2) := by decide +kernel
theorem dX6_handsUp_53 : decode cX6_handsUp 53 = .ok (.iload 5, 2) := by decide +kernel
theorem dX6_handsUp_55 : decode cX6_handsUp 55 = .ok (.aload_n 0, 1) := by decide +kernel
theorem dX6_handsUp_56 : decode cX6_handsUp 56 = .ok (.getfield 7, 3) := by decide +kernel
theorem dX6_handsUp_59 : decode cX6_handsUp 59 = .ok (.iload 4, 2) := by decide +kernel
theorem dX6_handsUp_61 : decode cX6_handsUp 61 = .ok (.iaload, 1) := by decide +kernel
theorem dX6_handsUp_62 : decode cX6_handsUp 62 = .ok (.if_icmp .ge 34, 3) := by decide +kernel
theorem dX6_handsUp_65 : decode cX6_handsUp 65 = .ok (.aload_n 0, 1) := by decide +kernel
theorem dX6_handsUp_66 : decode cX6_handsUp 66 = .ok (.getfield 7, 3) := by decide +kernel
theorem dX6_handsUp_69 : decode cX6_handsUp 69 = .ok (.iload 4, 2) := by decide +kernel
theorem dX6_handsUp_71 : decode cX6_handsUp 71 = .ok (.iconst 1, 1) := by decide +kernel
theorem dX6_handsUp_72 : decode cX6_handsUp 72 = .ok (.iadd, 1) := by decide +kernel
theorem dX6_handsUp_73 : decode cX6_handsUp 73 = .ok (.iload 5, 2) := by decide +kernel
theorem dX6_handsUp_75 : decode cX6_handsUp 75 = .ok (.iadd, 1) := by decide +kernel
theorem dX6_handsUp_76 : decode cX6_handsUp 76 = .ok (.aload_n 0, 1) := by decide +kernel
theorem dX6_handsUp_77 : decode cX6_handsUp 77 = .ok (.getfield 7, 3) := by decide +kernel
theorem dX6_handsUp_80 : decode cX6_handsUp 80 = .ok (.iload_n 2, 1) := by decide +kernel
theorem dX6_handsUp_81 : decode cX6_handsUp 81 = .ok (.iconst 2, 1) := by decide +kernel
theorem dX6_handsUp_82 : decode cX6_handsUp 82 = .ok (.iadd, 1) := by decide +kernel
theorem dX6_handsUp_83 : decode cX6_handsUp 83 = .ok (.iconst 3, 1) := by decide +kernel
theorem dX6_handsUp_84 : decode cX6_handsUp 84 = .ok (.iadd, 1) := by decide +kernel
theorem dX6_handsUp_85 : decode cX6_handsUp 85 = .ok (.iload 5, 2) := by decide +kernel
theorem dX6_handsUp_87 : decode cX6_handsUp 87 = .ok (.iadd, 1) := by decide +kernel
theorem dX6_handsUp_88 : decode cX6_handsUp 88 = .ok (.iaload, 1) := by decide +kernel
theorem dX6_handsUp_89 : decode cX6_handsUp 89 = .ok (.iastore, 1) := by decide +kernel
theorem dX6_handsUp_90 : decode cX6_handsUp 90 = .ok (.iinc 5 1, 3) := by decide +kernel
theorem dX6_handsUp_93 : decode cX6_handsUp 93 = .ok (.goto (-40), 3) := by decide +kernel
theorem dX6_handsUp_96 : decode cX6_handsUp 96 = .ok (.aload_n 0, 1) := by decide +kernel
theorem dX6_handsUp_97 : decode cX6_handsUp 97 = .ok (.getfield 7, 3) := by decide +kernel
theorem dX6_handsUp_100 : decode cX6_handsUp 100 = .ok (.iload_n 3, 1) := by decide +kernel
theorem dX6_handsUp_101 : decode cX6_handsUp 101 = .ok (.bipush 11, 2) := by decide +kernel
theorem dX6_handsUp_103 : decode cX6_handsUp 103 = .ok (.iadd, 1) := by decide +kernel
theorem dX6_handsUp_104 : decode cX6_handsUp 104 = .ok (.dup2, 1) := by decide +kernel
theorem dX6_handsUp_105 : decode cX6_handsUp 105 = .ok (.iaload, 1) := by decide +kernel
theorem dX6_handsUp_106 : decode cX6_handsUp 106 = .ok (.iconst 1, 1) := by decide +kernel
theorem dX6_handsUp_107 : decode cX6_handsUp 107 = .ok (.iadd, 1) := by decide +kernel
theorem dX6_handsUp_108 : decode cX6_handsUp 108 = .ok (.iastore, 1) := by decide +kernel
theorem dX6_handsUp_109 : decode cX6_handsUp 109 = .ok (.return_, 1) := by decide +kernel
theorem dX6_comes_0 : decode cX6_comes 0 = .ok (.iload_n 1, 1) := by decide +kernel
theorem dX6_comes_1 : decode cX6_comes 1 = .ok (.iload_n 2, 1) := by decide +kernel
theorem dX6_comes_2 : decode cX6_comes 2 = .ok (.invokestatic 81, 3) := by decide +kernel
theorem dX6_comes_5 : decode cX6_comes 5 = .ok (.istore_n 3, 1) := by decide +kernel
theorem dX6_comes_6 : decode cX6_comes 6 = .ok (.iconst 0, 1) := by decide +kernel
theorem dX6_comes_7 : decode cX6_comes 7 = .ok (.istore 4, 2) := by decide +kernel
theorem dX6_comes_9 : decode cX6_comes 9 = .ok (.iload 4, 2) := by decide +kernel
theorem dX6_comes_11 : decode cX6_comes 11 = .ok (.bipush 36, 2) := by decide +kernel
theorem dX6_comes_13 : decode cX6_comes 13 = .ok (.if_icmp .ge 29, 3) := by decide +kernel
theorem dX6_comes_16 : decode cX6_comes 16 = .ok (.aload_n 0, 1) := by decide +kernel
theorem dX6_comes_17 : decode cX6_comes 17 = .ok (.getfield 7, 3) := by decide +kernel
theorem dX6_comes_20 : decode cX6_comes 20 = .ok (.sipush 7900, 3) := by decide +kernel
theorem dX6_comes_23 : decode cX6_comes 23 = .ok (.iload 4, 2) := by decide +kernel
theorem dX6_comes_25 : decode cX6_comes 25 = .ok (.iadd, 1) := by decide +kernel
theorem dX6_comes_26 : decode cX6_comes 26 = .ok (.aload_n 0, 1) := by decide +kernel
theorem dX6_comes_27 : decode cX6_comes 27 = .ok (.getfield 7, 3) := by decide +kernel
theorem dX6_comes_30 : decode cX6_comes 30 = .ok (.iload_n 3, 1) := by decide +kernel
theorem dX6_comes_31 : decode cX6_comes 31 = .ok (.iload 4, 2) := by decide +kernel
theorem dX6_comes_33 : decode cX6_comes 33 = .ok (.iadd, 1) := by decide +kernel
theorem dX6_comes_34 : decode cX6_comes 34 = .ok (.iaload, 1) := by decide +kernel
theorem dX6_comes_35 : decode cX6_comes 35 = .ok (.iastore, 1) := by decide +kernel
theorem dX6_comes_36 : decode cX6_comes 36 = .ok (.iinc 4 1, 3) := by decide +kernel
theorem dX6_comes_39 : decode cX6_comes 39 = .ok (.goto (-30), 3) := by decide +kernel
theorem dX6_comes_42 : decode cX6_comes 42 = .ok (.aload_n 0, 1) := by decide +kernel
theorem dX6_comes_43 : decode cX6_comes 43 = .ok (.iload_n 1, 1) := by decide +kernel
theorem dX6_comes_44 : decode cX6_comes 44 = .ok (.iload_n 2, 1) := by decide +kernel
theorem dX6_comes_45 : decode cX6_comes 45 = .ok (.invokevirtual 84, 3) := by decide +kernel
theorem dX6_comes_48 : decode cX6_comes 48 = .ok (.iconst 1, 1) := by decide +kernel
theorem dX6_comes_49 : decode cX6_comes 49 = .ok (.iload_n 1, 1) := by decide +kernel
theorem dX6_comes_50 : decode cX6_comes 50 = .ok (.isub, 1) := by decide +kernel
theorem dX6_comes_51 : decode cX6_comes 51 = .ok (.istore 4, 2) := by decide +kernel
theorem dX6_comes_53 : decode cX6_comes 53 = .ok (.aload_n 0, 1) := by decide +kernel
theorem dX6_comes_54 : decode cX6_comes 54 = .ok (.sipush 7900, 3) := by decide +kernel
theorem dX6_comes_57 : decode cX6_comes 57 = .ok (.invokevirtual 119, 3) := by decide +kernel
theorem dX6_comes_60 : decode cX6_comes 60 = .ok (.istore 5, 2) := by decide +kernel
theorem dX6_comes_62 : decode cX6_comes 62 = .ok (.iload 5, 2) := by decide +kernel
theorem dX6_comes_64 : decode cX6_comes 64 = .ok (.ifCond .ne 15, 3) := by decide +kernel
theorem dX6_comes_67 : decode cX6_comes 67 = .ok (.aload_n 0, 1) := by decide +kernel
theorem dX6_comes_68 : decode cX6_comes 68 = .ok (.iload 4, 2) := by decide +kernel
theorem dX6_comes_70 : decode cX6_comes 70 = .ok (.sipush 7900, 3) := by decide +kernel
theorem dX6_comes_73 : decode cX6_comes 73 = .ok (.invokevirtual 122, 3) := by decide +kernel
theorem dX6_comes_76 : decode cX6_comes 76 = .ok (.goto 85, 3) := by decide +kernel
theorem dX6_comes_79 : decode cX6_comes 79 = .ok (.iload 5, 2) := by decide +kernel
theorem dX6_comes_81 : decode cX6_comes 81 = .ok (.iconst 1, 1) := by decide +kernel
theorem dX6_comes_82 : decode cX6_comes 82 = .ok (.if_icmp .ne 17, 3) := by decide +kernel
theorem dX6_comes_85 : decode cX6_comes 85 = .ok (.aload_n 0, 1) := by decide +kernel
theorem dX6_comes_86 : decode cX6_comes 86 = .ok (.getfield 7, 3) := by decide +kernel
theorem dX6_comes_89 : decode cX6_comes 89 = .ok (.bipush 27, 2) := by decide +kernel
theorem dX6_comes_91 : decode cX6_comes 91 = .ok (.dup2, 1) := by decide +kernel
theorem dX6_comes_92 : decode cX6_comes 92 = .ok (.iaload, 1) := by decide +kernel
theorem dX6_comes_93 : decode cX6_comes 93 = .ok (.iconst 1, 1) := by decide +kernel
theorem dX6_comes_94 : decode cX6_comes 94 = .ok (.iadd, 1) := by decide +kernel
theorem dX6_comes_95 : decode cX6_comes 95 = .ok (.iastore, 1) := by decide +kernel
theorem dX6_comes_96 : decode cX6_comes 96 = .ok (.goto 65, 3) := by decide +kernel
theorem dX6_comes_99 : decode cX6_comes 99 = .ok (.iload 5, 2) := by decide +kernel
theorem dX6_comes_101 : decode cX6_comes 101 = .ok (.iconst 4, 1) := by decide +kernel
theorem dX6_comes_102 : decode cX6_comes 102 = .ok (.if_icmp .ge 22, 3) := by decide +kernel
theorem dX6_comes_105 : decode cX6_comes 105 = .ok (.aload_n 0, 1) := by decide +kernel
theorem dX6_comes_106 : decode cX6_comes 106 = .ok (.iload 4, 2) := by decide +kernel
theorem dX6_comes_108 : decode cX6_comes 108 = .ok (.iload 5, 2) := by decide +kernel
theorem dX6_comes_110 : decode cX6_comes 110 = .ok (.aload_n 0, 1) := by decide +kernel
theorem dX6_comes_111 : decode cX6_comes 111 = .ok (.getfield 7, 3) := by decide +kernel
theorem dX6_comes_114 : decode cX6_comes 114 = .ok (.sipush 7904, 3) := by decide +kernel
theorem dX6_comes_117 : decode cX6_comes 117 = .ok (.iaload, 1) := by decide +kernel
theorem dX6_comes_118 : decode cX6_comes 118 = .ok (.invokevirtual 125, 3) := by decide +kernel
theorem dX6_comes_121 : decode cX6_comes 121 = .ok (.goto 40, 3) := by decide +kernel
theorem dX6_comes_124 : decode cX6_comes 124 = .ok (.iload 5, 2) := by decide +kernel
theorem dX6_comes_126 : decode cX6_comes 126 = .ok (.iconst 4, 1) := by decide +kernel
theorem dX6_comes_127 : decode cX6_comes 127 = .ok (.if_icmp .ne 23, 3) := by decide +kernel
theorem dX6_comes_130 : decode cX6_comes 130 = .ok (.aload_n 0, 1) := by decide +kernel
theorem dX6_comes_131 : decode cX6_comes 131 = .ok (.getfield 7, 3) := by decide +kernel
theorem dX6_comes_134 : decode cX6_comes 134 = .ok (.bipush 30, 2) := by decide +kernel
theorem dX6_comes_136 : decode cX6_comes 136 = .ok (.dup2, 1) := by decide +kernel
theorem dX6_comes_137 : decode cX6_comes 137 = .ok (.iaload, 1) := by decide +kernel
theorem dX6_comes_138 : decode cX6_comes 138 = .ok (.iconst 1, 1) := by decide +kernel
theorem dX6_comes_139 : decode cX6_comes 139 = .ok (.iadd, 1) := by decide +kernel
theorem dX6_comes_140 : decode cX6_comes 140 = .ok (.iastore, 1) := by decide +kernel
theorem dX6_comes_141 : decode cX6_comes 141 = .ok (.aload_n 0, 1) := by decide +kernel
theorem dX6_comes_142 : decode cX6_comes 142 = .ok (.iload 4, 2) := by decide +kernel
theorem dX6_comes_144 : decode cX6_comes 144 = .ok (.invokevirtual 110, 3) := by decide +kernel
theorem dX6_comes_147 : decode cX6_comes 147 = .ok (.goto 14, 3) := by decide +kernel
theorem dX6_comes_150 : decode cX6_comes 150 = .ok (.aload_n 0, 1) := by decide +kernel
theorem dX6_comes_151 : decode cX6_comes 151 = .ok (.getfield 7, 3) := by decide +kernel
theorem dX6_comes_154 : decode cX6_comes 154 = .ok (.bipush 31, 2) := by decide +kernel
theorem dX6_comes_156 : decode cX6_comes 156 = .ok (.dup2, 1) := by decide +kernel
theorem dX6_comes_157 : decode cX6_comes 157 = .ok (.iaload, 1) := by decide +kernel
theorem dX6_comes_158 : decode cX6_comes 158 = .ok (.iconst 1, 1) := by decide +kernel
theorem dX6_comes_159 : decode cX6_comes 159 = .ok (.iadd, 1) := by decide +kernel
theorem dX6_comes_160 : decode cX6_comes 160 = .ok (.iastore, 1) := by decide +kernel
theorem dX6_comes_161 : decode cX6_comes 161 = .ok (.return_, 1) := by decide +kernel
theorem dX6_coming_0 : decode cX6_coming 0 = .ok (.iconst 0, 1) := by decide +kernel
theorem dX6_coming_1 : decode cX6_coming 1 = .ok (.istore_n 1, 1) := by decide +kernel
theorem dX6_coming_2 : decode cX6_coming 2 = .ok (.iconst 0, 1) := by decide +kernel
theorem dX6_coming_3 : decode cX6_coming 3 = .ok (.istore_n 2, 1) := by decide +kernel
theorem dX6_coming_4 : decode cX6_coming 4 = .ok (.iload_n 2, 1) := by decide +kernel
theorem dX6_coming_5 : decode cX6_coming 5 = .ok (.iconst 2, 1) := by decide +kernel
theorem dX6_coming_6 : decode cX6_coming 6 = .ok (.if_icmp .ge 59, 3) := by decide +kernel
theorem dX6_coming_9 : decode cX6_coming 9 = .ok (.iconst 0, 1) := by decide +kernel
theorem dX6_coming_10 : decode cX6_coming 10 = .ok (.istore_n 3, 1) := by decide +kernel
theorem dX6_coming_11 : decode cX6_coming 11 = .ok (.iload_n 3, 1) := by decide +kernel
theorem dX6_coming_12 : decode cX6_coming 12 = .ok (.aload_n 0, 1) := by decide +kernel
theorem dX6_coming_13 : decode cX6_coming 13 = .ok (.iload_n 2, 1) := by decide +kernel
theorem dX6_coming_14 : decode cX6_coming 14 = .ok (.invokevirtual 78, 3) := by decide +kernel
theorem dX6_coming_17 : decode cX6_coming 17 = .ok (.if_icmp .ge 42, 3) := by decide +kernel
theorem dX6_coming_20 : decode cX6_coming 20 = .ok (.aload_n 0, 1) := by decide +kernel
theorem dX6_coming_21 : decode cX6_coming 21 = .ok (.getfield 7, 3) := by decide +kernel
theorem dX6_coming_24 : decode cX6_coming 24 = .ok (.iload_n 2, 1) := by decide +kernel
theorem dX6_coming_25 : decode cX6_coming 25 = .ok (.iload_n 3, 1) := by decide +kernel
theorem dX6_coming_26 : decode cX6_coming 26 = .ok (.invokestatic 81, 3) := by decide +kernel
theorem dX6_coming_29 : decode cX6_coming 29 = .ok (.iconst 1, 1) := by decide +kernel
theorem dX6_coming_30 : decode cX6_coming 30 = .ok (.iadd, 1) := by decide +kernel
theorem dX6_coming_31 : decode cX6_coming 31 = .ok (.iaload, 1) := by decide +kernel
theorem dX6_coming_32 : decode cX6_coming 32 = .ok (.aload_n 0, 1) := by decide +kernel
theorem dX6_coming_33 : decode cX6_coming 33 = .ok (.getfield 7, 3) := by decide +kernel
theorem dX6_coming_36 : decode cX6_coming 36 = .ok (.iconst 3, 1) := by decide +kernel
theorem dX6_coming_37 : decode cX6_coming 37 = .ok (.iaload, 1) := by decide +kernel
theorem dX6_coming_38 : decode cX6_coming 38 = .ok (.if_icmp .gt 15, 3) := by decide +kernel
theorem dX6_coming_41 : decode cX6_coming 41 = .ok (.aload_n 0, 1) := by decide +kernel
theorem dX6_coming_42 : decode cX6_coming 42 = .ok (.iload_n 2, 1) := by decide +kernel
theorem dX6_coming_43 : decode cX6_coming 43 = .ok (.iload_n 3, 1) := by decide +kernel
theorem dX6_coming_44 : decode cX6_coming 44 = .ok (.invokevirtual 129, 3) := by decide +kernel
theorem dX6_coming_47 : decode cX6_coming 47 = .ok (.iinc 1 1, 3) := by decide +kernel
theorem dX6_coming_50 : decode cX6_coming 50 = .ok (.goto (-39), 3) := by decide +kernel
theorem dX6_coming_53 : decode cX6_coming 53 = .ok (.iinc 3 1, 3) := by decide +kernel
theorem dX6_coming_56 : decode cX6_coming 56 = .ok (.goto (-45), 3) := by decide +kernel
theorem dX6_coming_59 : decode cX6_coming 59 = .ok (.iinc 2 1, 3) := by decide +kernel
theorem dX6_coming_62 : decode cX6_coming 62 = .ok (.goto (-58), 3) := by decide +kernel
theorem dX6_coming_65 : decode cX6_coming 65 = .ok (.iload_n 1, 1) := by decide +kernel
theorem dX6_coming_66 : decode cX6_coming 66 = .ok (.ireturn, 1) := by decide +kernel
theorem dX6_timers_0 : decode cX6_timers 0 = .ok (.iload_n 1, 1) := by decide +kernel
theorem dX6_timers_1 : decode cX6_timers 1 = .ok (.invokestatic 20, 3) := by decide +kernel
theorem dX6_timers_4 : decode cX6_timers 4 = .ok (.istore_n 2, 1) := by decide +kernel
theorem dX6_timers_5 : decode cX6_timers 5 = .ok (.aload_n 0, 1) := by decide +kernel
theorem dX6_timers_6 : decode cX6_timers 6 = .ok (.getfield 7, 3) := by decide +kernel
theorem dX6_timers_9 : decode cX6_timers 9 = .ok (.iload_n 2, 1) := by decide +kernel
theorem dX6_timers_10 : decode cX6_timers 10 = .ok (.bipush 9, 2) := by decide +kernel
theorem dX6_timers_12 : decode cX6_timers 12 = .ok (.iadd, 1) := by decide +kernel
theorem dX6_timers_13 : decode cX6_timers 13 = .ok (.aload_n 0, 1) := by decide +kernel
theorem dX6_timers_14 : decode cX6_timers 14 = .ok (.getfield 7, 3) := by decide +kernel
theorem dX6_timers_17 : decode cX6_timers 17 = .ok (.iload_n 2, 1) := by decide +kernel
theorem dX6_timers_18 : decode cX6_timers 18 = .ok (.bipush 9, 2) := by decide +kernel
theorem dX6_timers_20 : decode cX6_timers 20 = .ok (.iadd, 1) := by decide +kernel
theorem dX6_timers_21 : decode cX6_timers 21 = .ok (.iaload, 1) := by decide +kernel
theorem dX6_timers_22 : decode cX6_timers 22 = .ok (.ifCond .le 17, 3) := by decide +kernel
theorem dX6_timers_25 : decode cX6_timers 25 = .ok (.aload_n 0, 1) := by decide +kernel
theorem dX6_timers_26 : decode cX6_timers 26 = .ok (.getfield 7, 3) := by decide +kernel
theorem dX6_timers_29 : decode cX6_timers 29 = .ok (.iload_n 2, 1) := by decide +kernel
theorem dX6_timers_30 : decode cX6_timers 30 = .ok (.bipush 9, 2) := by decide +kernel
theorem dX6_timers_32 : decode cX6_timers 32 = .ok (.iadd, 1) := by decide +kernel
theorem dX6_timers_33 : decode cX6_timers 33 = .ok (.iaload, 1) := by decide +kernel
theorem dX6_timers_34 : decode cX6_timers 34 = .ok (.iconst 1, 1) := by decide +kernel
theorem dX6_timers_35 : decode cX6_timers 35 = .ok (.isub, 1) := by decide +kernel
theorem dX6_timers_36 : decode cX6_timers 36 = .ok (.goto 12, 3) := by decide +kernel
theorem dX6_timers_39 : decode cX6_timers 39 = .ok (.aload_n 0, 1) := by decide +kernel
theorem dX6_timers_40 : decode cX6_timers 40 = .ok (.getfield 7, 3) := by decide +kernel
theorem dX6_timers_43 : decode cX6_timers 43 = .ok (.iload_n 2, 1) := by decide +kernel
theorem dX6_timers_44 : decode cX6_timers 44 = .ok (.bipush 9, 2) := by decide +kernel
theorem dX6_timers_46 : decode cX6_timers 46 = .ok (.iadd, 1) := by decide +kernel
theorem dX6_timers_47 : decode cX6_timers 47 = .ok (.iaload, 1) := by decide +kernel
theorem dX6_timers_48 : decode cX6_timers 48 = .ok (.iastore, 1) := by decide +kernel
theorem dX6_timers_49 : decode cX6_timers 49 = .ok (.aload_n 0, 1) := by decide +kernel
theorem dX6_timers_50 : decode cX6_timers 50 = .ok (.getfield 7, 3) := by decide +kernel
theorem dX6_timers_53 : decode cX6_timers 53 = .ok (.iload_n 2, 1) := by decide +kernel
theorem dX6_timers_54 : decode cX6_timers 54 = .ok (.iconst 2, 1) := by decide +kernel
theorem dX6_timers_55 : decode cX6_timers 55 = .ok (.iadd, 1) := by decide +kernel
theorem dX6_timers_56 : decode cX6_timers 56 = .ok (.iaload, 1) := by decide +kernel
theorem dX6_timers_57 : decode cX6_timers 57 = .ok (.ifCond .le 49, 3) := by decide +kernel
theorem dX6_timers_60 : decode cX6_timers 60 = .ok (.aload_n 0, 1) := by decide +kernel
theorem dX6_timers_61 : decode cX6_timers 61 = .ok (.getfield 7, 3) := by decide +kernel
theorem dX6_timers_64 : decode cX6_timers 64 = .ok (.iload_n 2, 1) := by decide +kernel
theorem dX6_timers_65 : decode cX6_timers 65 = .ok (.bipush 6, 2) := by decide +kernel
theorem dX6_timers_67 : decode cX6_timers 67 = .ok (.iadd, 1) := by decide +kernel
theorem dX6_timers_68 : decode cX6_timers 68 = .ok (.iaload, 1) := by decide +kernel
theorem dX6_timers_69 : decode cX6_timers 69 = .ok (.ifCond .ne 37, 3) := by decide +kernel
theorem dX6_timers_72 : decode cX6_timers 72 = .ok (.aload_n 0, 1) := by decide +kernel
theorem dX6_timers_73 : decode cX6_timers 73 = .ok (.getfield 7, 3) := by decide +kernel
theorem dX6_timers_76 : decode cX6_timers 76 = .ok (.iload_n 2, 1) := by decide +kernel
theorem dX6_timers_77 : decode cX6_timers 77 = .ok (.iconst 4, 1) := by decide +kernel
theorem dX6_timers_78 : decode cX6_timers 78 = .ok (.iadd, 1) := by decide +kernel
theorem dX6_timers_79 : decode cX6_timers 79 = .ok (.dup2, 1) := by decide +kernel
theorem dX6_timers_80 : decode cX6_timers 80 = .ok (.iaload, 1) := by decide +kernel
theorem dX6_timers_81 : decode cX6_timers 81 = .ok (.iconst 1, 1) := by decide +kernel
theorem dX6_timers_82 : decode cX6_timers 82 = .ok (.iadd, 1) := by decide +kernel
theorem dX6_timers_83 : decode cX6_timers 83 = .ok (.iastore, 1) := by decide +kernel
theorem dX6_timers_84 : decode cX6_timers 84 = .ok (.aload_n 0, 1) := by decide +kernel
theorem dX6_timers_85 : decode cX6_timers 85 = .ok (.getfield 7, 3) := by decide +kernel
theorem dX6_timers_88 : decode cX6_timers 88 = .ok (.iload_n 2, 1) := by decide +kernel
theorem dX6_timers_89 : decode cX6_timers 89 = .ok (.iconst 4, 1) := by decide +kernel
theorem dX6_timers_90 : decode cX6_timers 90 = .ok (.iadd, 1) := by decide +kernel
theorem dX6_timers_91 : decode cX6_timers 91 = .ok (.iaload, 1) := by decide +kernel
theorem dX6_timers_92 : decode cX6_timers 92 = .ok (.aload_n 0, 1) := by decide +kernel
theorem dX6_timers_93 : decode cX6_timers 93 = .ok (.getfield 7, 3) := by decide +kernel
theorem dX6_timers_96 : decode cX6_timers 96 = .ok (.iconst 1, 1) := by decide +kernel
theorem dX6_timers_97 : decode cX6_timers 97 = .ok (.iaload, 1) := by decide +kernel
theorem dX6_timers_98 : decode cX6_timers 98 = .ok (.if_icmp .lt 8, 3) := by decide +kernel
theorem dX6_timers_101 : decode cX6_timers 101 = .ok (.aload_n 0, 1) := by decide +kernel
theorem dX6_timers_102 : decode cX6_timers 102 = .ok (.iload_n 1, 1) := by decide +kernel
theorem dX6_timers_103 : decode cX6_timers 103 = .ok (.invokevirtual 107, 3) := by decide +kernel
theorem dX6_timers_106 : decode cX6_timers 106 = .ok (.return_, 1) := by decide +kernel
theorem dX6_laying_0 : decode cX6_laying 0 = .ok (.iload_n 1, 1) := by decide +kernel
theorem dX6_laying_1 : decode cX6_laying 1 = .ok (.invokestatic 20, 3) := by decide +kernel
theorem dX6_laying_4 : decode cX6_laying 4 = .ok (.istore_n 2, 1) := by decide +kernel
theorem dX6_laying_5 : decode cX6_laying 5 = .ok (.aload_n 0, 1) := by decide +kernel
theorem dX6_laying_6 : decode cX6_laying 6 = .ok (.getfield 7, 3) := by decide +kernel
theorem dX6_laying_9 : decode cX6_laying 9 = .ok (.iload_n 2, 1) := by decide +kernel
theorem dX6_laying_10 : decode cX6_laying 10 = .ok (.bipush 10, 2) := by decide +kernel
theorem dX6_laying_12 : decode cX6_laying 12 = .ok (.iadd, 1) := by decide +kernel
theorem dX6_laying_13 : decode cX6_laying 13 = .ok (.iaload, 1) := by decide +kernel
theorem dX6_laying_14 : decode cX6_laying 14 = .ok (.iconst 1, 1) := by decide +kernel
theorem dX6_laying_15 : decode cX6_laying 15 = .ok (.if_icmp .ne 45, 3) := by decide +kernel
theorem dX6_laying_18 : decode cX6_laying 18 = .ok (.aload_n 0, 1) := by decide +kernel
theorem dX6_laying_19 : decode cX6_laying 19 = .ok (.getfield 7, 3) := by decide +kernel
theorem dX6_laying_22 : decode cX6_laying 22 = .ok (.iload_n 2, 1) := by decide +kernel
theorem dX6_laying_23 : decode cX6_laying 23 = .ok (.bipush 10, 2) := by decide +kernel
theorem dX6_laying_25 : decode cX6_laying 25 = .ok (.iadd, 1) := by decide +kernel
theorem dX6_laying_26 : decode cX6_laying 26 = .ok (.iconst 0, 1) := by decide +kernel
theorem dX6_laying_27 : decode cX6_laying 27 = .ok (.iastore, 1) := by decide +kernel
theorem dX6_laying_28 : decode cX6_laying 28 = .ok (.aload_n 0, 1) := by decide +kernel
theorem dX6_laying_29 : decode cX6_laying 29 = .ok (.getfield 7, 3) := by decide +kernel
theorem dX6_laying_32 : decode cX6_laying 32 = .ok (.iload_n 2, 1) := by decide +kernel
theorem dX6_laying_33 : decode cX6_laying 33 = .ok (.bipush 9, 2) := by decide +kernel
theorem dX6_laying_35 : decode cX6_laying 35 = .ok (.iadd, 1) := by decide +kernel
theorem dX6_laying_36 : decode cX6_laying 36 = .ok (.bipush (-4), 2) := by decide +kernel
theorem dX6_laying_38 : decode cX6_laying 38 = .ok (.iastore, 1) := by decide +kernel
theorem dX6_laying_39 : decode cX6_laying 39 = .ok (.aload_n 0, 1) := by decide +kernel
theorem dX6_laying_40 : decode cX6_laying 40 = .ok (.iload_n 1, 1) := by decide +kernel
theorem dX6_laying_41 : decode cX6_laying 41 = .ok (.bipush 16, 2) := by decide +kernel
theorem dX6_laying_43 : decode cX6_laying 43 = .ok (.invokevirtual 132, 3) := by decide +kernel
theorem dX6_laying_46 : decode cX6_laying 46 = .ok (.aload_n 0, 1) := by decide +kernel
theorem dX6_laying_47 : decode cX6_laying 47 = .ok (.getfield 7, 3) := by decide +kernel
theorem dX6_laying_50 : decode cX6_laying 50 = .ok (.bipush 11, 2) := by decide +kernel
theorem dX6_laying_52 : decode cX6_laying 52 = .ok (.dup2, 1) := by decide +kernel
theorem dX6_laying_53 : decode cX6_laying 53 = .ok (.iaload, 1) := by decide +kernel
theorem dX6_laying_54 : decode cX6_laying 54 = .ok (.iconst 1, 1) := by decide +kernel
theorem dX6_laying_55 : decode cX6_laying 55 = .ok (.iadd, 1) := by decide +kernel
theorem dX6_laying_56 : decode cX6_laying 56 = .ok (.iastore, 1) := by decide +kernel
theorem dX6_laying_57 : decode cX6_laying 57 = .ok (.goto 222, 3) := by decide +kernel
theorem dX6_laying_60 : decode cX6_laying 60 = .ok (.aload_n 0, 1) := by decide +kernel
theorem dX6_laying_61 : decode cX6_laying 61 = .ok (.getfield 7, 3) := by decide +kernel
theorem dX6_laying_64 : decode cX6_laying 64 = .ok (.iload_n 2, 1) := by decide +kernel
theorem dX6_laying_65 : decode cX6_laying 65 = .ok (.bipush 9, 2) := by decide +kernel
theorem dX6_laying_67 : decode cX6_laying 67 = .ok (.iadd, 1) := by decide +kernel
theorem dX6_laying_68 : decode cX6_laying 68 = .ok (.iaload, 1) := by decide +kernel
theorem dX6_laying_69 : decode cX6_laying 69 = .ok (.ifCond .ne 34, 3) := by decide +kernel
theorem dX6_laying_72 : decode cX6_laying 72 = .ok (.aload_n 0, 1) := by decide +kernel
theorem dX6_laying_73 : decode cX6_laying 73 = .ok (.getfield 7, 3) := by decide +kernel
theorem dX6_laying_76 : decode cX6_laying 76 = .ok (.iload_n 2, 1) := by decide +kernel
theorem dX6_laying_77 : decode cX6_laying 77 = .ok (.bipush 9, 2) := by decide +kernel
theorem dX6_laying_79 : decode cX6_laying 79 = .ok (.iadd, 1) := by decide +kernel
theorem dX6_laying_80 : decode cX6_laying 80 = .ok (.bipush (-4), 2) := by decide +kernel
theorem dX6_laying_82 : decode cX6_laying 82 = .ok (.iastore, 1) := by decide +kernel
theorem dX6_laying_83 : decode cX6_laying 83 = .ok (.aload_n 0, 1) := by decide +kernel
theorem dX6_laying_84 : decode cX6_laying 84 = .ok (.iload_n 1, 1) := by decide +kernel
theorem dX6_laying_85 : decode cX6_laying 85 = .ok (.iconst 0, 1) := by decide +kernel
theorem dX6_laying_86 : decode cX6_laying 86 = .ok (.invokevirtual 132, 3) := by decide +kernel
theorem dX6_laying_89 : decode cX6_laying 89 = .ok (.aload_n 0, 1) := by decide +kernel
theorem dX6_laying_90 : decode cX6_laying 90 = .ok (.getfield 7, 3) := by decide +kernel
theorem dX6_laying_93 : decode cX6_laying 93 = .ok (.bipush 10, 2) := by decide +kernel
theorem dX6_laying_95 : decode cX6_laying 95 = .ok (.dup2, 1) := by decide +kernel
theorem dX6_laying_96 : decode cX6_laying 96 = .ok (.iaload, 1) := by decide +kernel
theorem dX6_laying_97 : decode cX6_laying 97 = .ok (.iconst 1, 1) := by decide +kernel
theorem dX6_laying_98 : decode cX6_laying 98 = .ok (.iadd, 1) := by decide +kernel
theorem dX6_laying_99 : decode cX6_laying 99 = .ok (.iastore, 1) := by decide +kernel
theorem dX6_laying_100 : decode cX6_laying 100 = .ok (.goto 179, 3) := by decide +kernel
theorem dX6_laying_103 : decode cX6_laying 103 = .ok (.aload_n 0, 1) := by decide +kernel
theorem dX6_laying_104 : decode cX6_laying 104 = .ok (.getfield 7, 3) := by decide +kernel
theorem dX6_laying_107 : decode cX6_laying 107 = .ok (.iload_n 2, 1) := by decide +kernel
theorem dX6_laying_108 : decode cX6_laying 108 = .ok (.bipush 6, 2) := by decide +kernel
theorem dX6_laying_110 : decode cX6_laying 110 = .ok (.iadd, 1) := by decide +kernel
theorem dX6_laying_111 : decode cX6_laying 111 = .ok (.iaload, 1) := by decide +kernel
theorem dX6_laying_112 : decode cX6_laying 112 = .ok (.ifCond .le 54, 3) := by decide +kernel
theorem dX6_laying_115 : decode cX6_laying 115 = .ok (.aload_n 0, 1) := by decide +kernel
theorem dX6_laying_116 : decode cX6_laying 116 = .ok (.iload_n 1, 1) := by decide +kernel
theorem dX6_laying_117 : decode cX6_laying 117 = .ok (.aload_n 0, 1) := by decide +kernel
theorem dX6_laying_118 : decode cX6_laying 118 = .ok (.getfield 7, 3) := by decide +kernel
theorem dX6_laying_121 : decode cX6_laying 121 = .ok (.iload_n 2, 1) := by decide +kernel
theorem dX6_laying_122 : decode cX6_laying 122 = .ok (.iconst 1, 1) := by decide +kernel
theorem dX6_laying_123 : decode cX6_laying 123 = .ok (.iadd, 1) := by decide +kernel
theorem dX6_laying_124 : decode cX6_laying 124 = .ok (.iaload, 1) := by decide +kernel
theorem dX6_laying_125 : decode cX6_laying 125 = .ok (.aload_n 0, 1) := by decide +kernel
theorem dX6_laying_126 : decode cX6_laying 126 = .ok (.getfield 7, 3) := by decide +kernel
theorem dX6_laying_129 : decode cX6_laying 129 = .ok (.iload_n 2, 1) := by decide +kernel
theorem dX6_laying_130 : decode cX6_laying 130 = .ok (.bipush 6, 2) := by decide +kernel
theorem dX6_laying_132 : decode cX6_laying 132 = .ok (.iadd, 1) := by decide +kernel
theorem dX6_laying_133 : decode cX6_laying 133 = .ok (.iaload, 1) := by decide +kernel
theorem dX6_laying_134 : decode cX6_laying 134 = .ok (.isub, 1) := by decide +kernel
theorem dX6_laying_135 : decode cX6_laying 135 = .ok (.iconst 0, 1) := by decide +kernel
theorem dX6_laying_136 : decode cX6_laying 136 = .ok (.invokevirtual 135, 3) := by decide +kernel
theorem dX6_laying_139 : decode cX6_laying 139 = .ok (.aload_n 0, 1) := by decide +kernel
theorem dX6_laying_140 : decode cX6_laying 140 = .ok (.getfield 7, 3) := by decide +kernel
theorem dX6_laying_143 : decode cX6_laying 143 = .ok (.iload_n 2, 1) := by decide +kernel
theorem dX6_laying_144 : decode cX6_laying 144 = .ok (.bipush 6, 2) := by decide +kernel
theorem dX6_laying_146 : decode cX6_laying 146 = .ok (.iadd, 1) := by decide +kernel
theorem dX6_laying_147 : decode cX6_laying 147 = .ok (.dup2, 1) := by decide +kernel
theorem dX6_laying_148 : decode cX6_laying 148 = .ok (.iaload, 1) := by decide +kernel
theorem dX6_laying_149 : decode cX6_laying 149 = .ok (.iconst 1, 1) := by decide +kernel
theorem dX6_laying_150 : decode cX6_laying 150 = .ok (.isub, 1) := by decide +kernel
theorem dX6_laying_151 : decode cX6_laying 151 = .ok (.iastore, 1) := by decide +kernel
theorem dX6_laying_152 : decode cX6_laying 152 = .ok (.aload_n 0, 1) := by decide +kernel
theorem dX6_laying_153 : decode cX6_laying 153 = .ok (.getfield 7, 3) := by decide +kernel
theorem dX6_laying_156 : decode cX6_laying 156 = .ok (.bipush 8, 2) := by decide +kernel
theorem dX6_laying_158 : decode cX6_laying 158 = .ok (.dup2, 1) := by decide +kernel
theorem dX6_laying_159 : decode cX6_laying 159 = .ok (.iaload, 1) := by decide +kernel
theorem dX6_laying_160 : decode cX6_laying 160 = .ok (.iconst 1, 1) := by decide +kernel
theorem dX6_laying_161 : decode cX6_laying 161 = .ok (.iadd, 1) := by decide +kernel
theorem dX6_laying_162 : decode cX6_laying 162 = .ok (.iastore, 1) := by decide +kernel
theorem dX6_laying_163 : decode cX6_laying 163 = .ok (.goto 116, 3) := by decide +kernel
theorem dX6_laying_166 : decode cX6_laying 166 = .ok (.aload_n 0, 1) := by decide +kernel
theorem dX6_laying_167 : decode cX6_laying 167 = .ok (.getfield 7, 3) := by decide +kernel
theorem dX6_laying_170 : decode cX6_laying 170 = .ok (.iload_n 2, 1) := by decide +kernel
theorem dX6_laying_171 : decode cX6_laying 171 = .ok (.iconst 2, 1) := by decide +kernel
theorem dX6_laying_172 : decode cX6_laying 172 = .ok (.iadd, 1) := by decide +kernel
