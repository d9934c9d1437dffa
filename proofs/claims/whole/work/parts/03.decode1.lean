theorem dX7_firstWrong_4 : decode cX7_firstWrong 4 = .ok (.if_icmp .ge 33, 3) := by decide +kernel
theorem dX7_firstWrong_7 : decode cX7_firstWrong 7 = .ok (.aload_n 0, 1) := by decide +kernel
theorem dX7_firstWrong_8 : decode cX7_firstWrong 8 = .ok (.iload_n 3, 1) := by decide +kernel
theorem dX7_firstWrong_9 : decode cX7_firstWrong 9 = .ok (.invokevirtual 31, 3) := by decide +kernel
theorem dX7_firstWrong_12 : decode cX7_firstWrong 12 = .ok (.ifCond .eq 17, 3) := by decide +kernel
theorem dX7_firstWrong_15 : decode cX7_firstWrong 15 = .ok (.aload_n 1, 1) := by decide +kernel
theorem dX7_firstWrong_16 : decode cX7_firstWrong 16 = .ok (.iload_n 3, 1) := by decide +kernel
theorem dX7_firstWrong_17 : decode cX7_firstWrong 17 = .ok (.invokevirtual 58, 3) := by decide +kernel
theorem dX7_firstWrong_20 : decode cX7_firstWrong 20 = .ok (.aload_n 0, 1) := by decide +kernel
theorem dX7_firstWrong_21 : decode cX7_firstWrong 21 = .ok (.getfield 9, 3) := by decide +kernel
theorem dX7_firstWrong_24 : decode cX7_firstWrong 24 = .ok (.iload_n 3, 1) := by decide +kernel
theorem dX7_firstWrong_25 : decode cX7_firstWrong 25 = .ok (.iaload, 1) := by decide +kernel
theorem dX7_firstWrong_26 : decode cX7_firstWrong 26 = .ok (.if_icmp .eq 5, 3) := by decide +kernel
theorem dX7_firstWrong_29 : decode cX7_firstWrong 29 = .ok (.iload_n 3, 1) := by decide +kernel
theorem dX7_firstWrong_30 : decode cX7_firstWrong 30 = .ok (.ireturn, 1) := by decide +kernel
theorem dX7_firstWrong_31 : decode cX7_firstWrong 31 = .ok (.iinc 3 1, 3) := by decide +kernel
theorem dX7_firstWrong_34 : decode cX7_firstWrong 34 = .ok (.goto (-32), 3) := by decide +kernel
theorem dX7_firstWrong_37 : decode cX7_firstWrong 37 = .ok (.aload_n 0, 1) := by decide +kernel
theorem dX7_firstWrong_38 : decode cX7_firstWrong 38 = .ok (.getfield 21, 3) := by decide +kernel
theorem dX7_firstWrong_41 : decode cX7_firstWrong 41 = .ok (.iload_n 2, 1) := by decide +kernel
theorem dX7_firstWrong_42 : decode cX7_firstWrong 42 = .ok (.if_icmp .le 7, 3) := by decide +kernel
theorem dX7_firstWrong_45 : decode cX7_firstWrong 45 = .ok (.iload_n 2, 1) := by decide +kernel
theorem dX7_firstWrong_46 : decode cX7_firstWrong 46 = .ok (.goto 4, 3) := by decide +kernel
theorem dX7_firstWrong_49 : decode cX7_firstWrong 49 = .ok (.iconst (-1), 1) := by decide +kernel
theorem dX7_firstWrong_50 : decode cX7_firstWrong 50 = .ok (.ireturn, 1) := by decide +kernel
theorem dX7_rename_0 : decode cX7_rename 0 = .ok (.aload_n 0, 1) := by decide +kernel
theorem dX7_rename_1 : decode cX7_rename 1 = .ok (.iload_n 1, 1) := by decide +kernel
theorem dX7_rename_2 : decode cX7_rename 2 = .ok (.invokevirtual 31, 3) := by decide +kernel
theorem dX7_rename_5 : decode cX7_rename 5 = .ok (.ifCond .eq 10, 3) := by decide +kernel
theorem dX7_rename_8 : decode cX7_rename 8 = .ok (.aload_n 0, 1) := by decide +kernel
theorem dX7_rename_9 : decode cX7_rename 9 = .ok (.getfield 15, 3) := by decide +kernel
theorem dX7_rename_12 : decode cX7_rename 12 = .ok (.iload_n 1, 1) := by decide +kernel
theorem dX7_rename_13 : decode cX7_rename 13 = .ok (.iload_n 2, 1) := by decide +kernel
theorem dX7_rename_14 : decode cX7_rename 14 = .ok (.iastore, 1) := by decide +kernel
theorem dX7_rename_15 : decode cX7_rename 15 = .ok (.return_, 1) := by decide +kernel
theorem dX7_insert_0 : decode cX7_insert 0 = .ok (.iload_n 1, 1) := by decide +kernel
theorem dX7_insert_1 : decode cX7_insert 1 = .ok (.ifCond .lt 20, 3) := by decide +kernel
theorem dX7_insert_4 : decode cX7_insert 4 = .ok (.iload_n 1, 1) := by decide +kernel
theorem dX7_insert_5 : decode cX7_insert 5 = .ok (.aload_n 0, 1) := by decide +kernel
theorem dX7_insert_6 : decode cX7_insert 6 = .ok (.getfield 21, 3) := by decide +kernel
theorem dX7_insert_9 : decode cX7_insert 9 = .ok (.if_icmp .gt 12, 3) := by decide +kernel
theorem dX7_insert_12 : decode cX7_insert 12 = .ok (.aload_n 0, 1) := by decide +kernel
theorem dX7_insert_13 : decode cX7_insert 13 = .ok (.getfield 21, 3) := by decide +kernel
theorem dX7_insert_16 : decode cX7_insert 16 = .ok (.bipush 80, 2) := by decide +kernel
theorem dX7_insert_18 : decode cX7_insert 18 = .ok (.if_icmp .lt 4, 3) := by decide +kernel
theorem dX7_insert_21 : decode cX7_insert 21 = .ok (.return_, 1) := by decide +kernel
theorem dX7_insert_22 : decode cX7_insert 22 = .ok (.aload_n 0, 1) := by decide +kernel
theorem dX7_insert_23 : decode cX7_insert 23 = .ok (.getfield 21, 3) := by decide +kernel
theorem dX7_insert_26 : decode cX7_insert 26 = .ok (.iload_n 1, 1) := by decide +kernel
theorem dX7_insert_27 : decode cX7_insert 27 = .ok (.isub, 1) := by decide +kernel
theorem dX7_insert_28 : decode cX7_insert 28 = .ok (.istore 5, 2) := by decide +kernel
theorem dX7_insert_30 : decode cX7_insert 30 = .ok (.aload_n 0, 1) := by decide +kernel
theorem dX7_insert_31 : decode cX7_insert 31 = .ok (.getfield 9, 3) := by decide +kernel
theorem dX7_insert_34 : decode cX7_insert 34 = .ok (.iload_n 1, 1) := by decide +kernel
theorem dX7_insert_35 : decode cX7_insert 35 = .ok (.aload_n 0, 1) := by decide +kernel
theorem dX7_insert_36 : decode cX7_insert 36 = .ok (.getfield 9, 3) := by decide +kernel
theorem dX7_insert_39 : decode cX7_insert 39 = .ok (.iload_n 1, 1) := by decide +kernel
theorem dX7_insert_40 : decode cX7_insert 40 = .ok (.iconst 1, 1) := by decide +kernel
theorem dX7_insert_41 : decode cX7_insert 41 = .ok (.iadd, 1) := by decide +kernel
theorem dX7_insert_42 : decode cX7_insert 42 = .ok (.iload 5, 2) := by decide +kernel
theorem dX7_insert_44 : decode cX7_insert 44 = .ok (.invokestatic 25, 3) := by decide +kernel
theorem dX7_insert_47 : decode cX7_insert 47 = .ok (.aload_n 0, 1) := by decide +kernel
theorem dX7_insert_48 : decode cX7_insert 48 = .ok (.getfield 15, 3) := by decide +kernel
theorem dX7_insert_51 : decode cX7_insert 51 = .ok (.iload_n 1, 1) := by decide +kernel
theorem dX7_insert_52 : decode cX7_insert 52 = .ok (.aload_n 0, 1) := by decide +kernel
theorem dX7_insert_53 : decode cX7_insert 53 = .ok (.getfield 15, 3) := by decide +kernel
theorem dX7_insert_56 : decode cX7_insert 56 = .ok (.iload_n 1, 1) := by decide +kernel
theorem dX7_insert_57 : decode cX7_insert 57 = .ok (.iconst 1, 1) := by decide +kernel
theorem dX7_insert_58 : decode cX7_insert 58 = .ok (.iadd, 1) := by decide +kernel
theorem dX7_insert_59 : decode cX7_insert 59 = .ok (.iload 5, 2) := by decide +kernel
theorem dX7_insert_61 : decode cX7_insert 61 = .ok (.invokestatic 25, 3) := by decide +kernel
theorem dX7_insert_64 : decode cX7_insert 64 = .ok (.aload_n 0, 1) := by decide +kernel
theorem dX7_insert_65 : decode cX7_insert 65 = .ok (.getfield 18, 3) := by decide +kernel
theorem dX7_insert_68 : decode cX7_insert 68 = .ok (.iload_n 1, 1) := by decide +kernel
theorem dX7_insert_69 : decode cX7_insert 69 = .ok (.aload_n 0, 1) := by decide +kernel
theorem dX7_insert_70 : decode cX7_insert 70 = .ok (.getfield 18, 3) := by decide +kernel
theorem dX7_insert_73 : decode cX7_insert 73 = .ok (.iload_n 1, 1) := by decide +kernel
theorem dX7_insert_74 : decode cX7_insert 74 = .ok (.iconst 1, 1) := by decide +kernel
theorem dX7_insert_75 : decode cX7_insert 75 = .ok (.iadd, 1) := by decide +kernel
theorem dX7_insert_76 : decode cX7_insert 76 = .ok (.iload 5, 2) := by decide +kernel
theorem dX7_insert_78 : decode cX7_insert 78 = .ok (.invokestatic 25, 3) := by decide +kernel
theorem dX7_insert_81 : decode cX7_insert 81 = .ok (.aload_n 0, 1) := by decide +kernel
theorem dX7_insert_82 : decode cX7_insert 82 = .ok (.getfield 9, 3) := by decide +kernel
theorem dX7_insert_85 : decode cX7_insert 85 = .ok (.iload_n 1, 1) := by decide +kernel
theorem dX7_insert_86 : decode cX7_insert 86 = .ok (.iload_n 2, 1) := by decide +kernel
theorem dX7_insert_87 : decode cX7_insert 87 = .ok (.iastore, 1) := by decide +kernel
theorem dX7_insert_88 : decode cX7_insert 88 = .ok (.aload_n 0, 1) := by decide +kernel
theorem dX7_insert_89 : decode cX7_insert 89 = .ok (.getfield 15, 3) := by decide +kernel
theorem dX7_insert_92 : decode cX7_insert 92 = .ok (.iload_n 1, 1) := by decide +kernel
theorem dX7_insert_93 : decode cX7_insert 93 = .ok (.iload_n 3, 1) := by decide +kernel
theorem dX7_insert_94 : decode cX7_insert 94 = .ok (.iastore, 1) := by decide +kernel
theorem dX7_insert_95 : decode cX7_insert 95 = .ok (.aload_n 0, 1) := by decide +kernel
theorem dX7_insert_96 : decode cX7_insert 96 = .ok (.getfield 18, 3) := by decide +kernel
theorem dX7_insert_99 : decode cX7_insert 99 = .ok (.iload_n 1, 1) := by decide +kernel
theorem dX7_insert_100 : decode cX7_insert 100 = .ok (.iload 4, 2) := by decide +kernel
theorem dX7_insert_102 : decode cX7_insert 102 = .ok (.iastore, 1) := by decide +kernel
theorem dX7_insert_103 : decode cX7_insert 103 = .ok (.aload_n 0, 1) := by decide +kernel
theorem dX7_insert_104 : decode cX7_insert 104 = .ok (.dup, 1) := by decide +kernel
theorem dX7_insert_105 : decode cX7_insert 105 = .ok (.getfield 21, 3) := by decide +kernel
theorem dX7_insert_108 : decode cX7_insert 108 = .ok (.iconst 1, 1) := by decide +kernel
theorem dX7_insert_109 : decode cX7_insert 109 = .ok (.iadd, 1) := by decide +kernel
theorem dX7_insert_110 : decode cX7_insert 110 = .ok (.putfield 21, 3) := by decide +kernel
theorem dX7_insert_113 : decode cX7_insert 113 = .ok (.return_, 1) := by decide +kernel
theorem dX7_remove_0 : decode cX7_remove 0 = .ok (.aload_n 0, 1) := by decide +kernel
theorem dX7_remove_1 : decode cX7_remove 1 = .ok (.iload_n 1, 1) := by decide +kernel
theorem dX7_remove_2 : decode cX7_remove 2 = .ok (.invokevirtual 31, 3) := by decide +kernel
theorem dX7_remove_5 : decode cX7_remove 5 = .ok (.ifCond .ne 4, 3) := by decide +kernel
theorem dX7_remove_8 : decode cX7_remove 8 = .ok (.return_, 1) := by decide +kernel
theorem dX7_remove_9 : decode cX7_remove 9 = .ok (.aload_n 0, 1) := by decide +kernel
theorem dX7_remove_10 : decode cX7_remove 10 = .ok (.getfield 21, 3) := by decide +kernel
theorem dX7_remove_13 : decode cX7_remove 13 = .ok (.iload_n 1, 1) := by decide +kernel
theorem dX7_remove_14 : decode cX7_remove 14 = .ok (.isub, 1) := by decide +kernel
theorem dX7_remove_15 : decode cX7_remove 15 = .ok (.iconst 1, 1) := by decide +kernel
theorem dX7_remove_16 : decode cX7_remove 16 = .ok (.isub, 1) := by decide +kernel
theorem dX7_remove_17 : decode cX7_remove 17 = .ok (.istore_n 2, 1) := by decide +kernel
theorem dX7_remove_18 : decode cX7_remove 18 = .ok (.aload_n 0, 1) := by decide +kernel
theorem dX7_remove_19 : decode cX7_remove 19 = .ok (.getfield 9, 3) := by decide +kernel
theorem dX7_remove_22 : decode cX7_remove 22 = .ok (.iload_n 1, 1) := by decide +kernel
theorem dX7_remove_23 : decode cX7_remove 23 = .ok (.iconst 1, 1) := by decide +kernel
theorem dX7_remove_24 : decode cX7_remove 24 = .ok (.iadd, 1) := by decide +kernel
theorem dX7_remove_25 : decode cX7_remove 25 = .ok (.aload_n 0, 1) := by decide +kernel
theorem dX7_remove_26 : decode cX7_remove 26 = .ok (.getfield 9, 3) := by decide +kernel
theorem dX7_remove_29 : decode cX7_remove 29 = .ok (.iload_n 1, 1) := by decide +kernel
theorem dX7_remove_30 : decode cX7_remove 30 = .ok (.iload_n 2, 1) := by decide +kernel
theorem dX7_remove_31 : decode cX7_remove 31 = .ok (.invokestatic 25, 3) := by decide +kernel
theorem dX7_remove_34 : decode cX7_remove 34 = .ok (.aload_n 0, 1) := by decide +kernel
theorem dX7_remove_35 : decode cX7_remove 35 = .ok (.getfield 15, 3) := by decide +kernel
theorem dX7_remove_38 : decode cX7_remove 38 = .ok (.iload_n 1, 1) := by decide +kernel
theorem dX7_remove_39 : decode cX7_remove 39 = .ok (.iconst 1, 1) := by decide +kernel
theorem dX7_remove_40 : decode cX7_remove 40 = .ok (.iadd, 1) := by decide +kernel
theorem dX7_remove_41 : decode cX7_remove 41 = .ok (.aload_n 0, 1) := by decide +kernel
theorem dX7_remove_42 : decode cX7_remove 42 = .ok (.getfield 15, 3) := by decide +kernel
theorem dX7_remove_45 : decode cX7_remove 45 = .ok (.iload_n 1, 1) := by decide +kernel
theorem dX7_remove_46 : decode cX7_remove 46 = .ok (.iload_n 2, 1) := by decide +kernel
theorem dX7_remove_47 : decode cX7_remove 47 = .ok (.invokestatic 25, 3) := by decide +kernel
theorem dX7_remove_50 : decode cX7_remove 50 = .ok (.aload_n 0, 1) := by decide +kernel
theorem dX7_remove_51 : decode cX7_remove 51 = .ok (.getfield 18, 3) := by decide +kernel
theorem dX7_remove_54 : decode cX7_remove 54 = .ok (.iload_n 1, 1) := by decide +kernel
theorem dX7_remove_55 : decode cX7_remove 55 = .ok (.iconst 1, 1) := by decide +kernel
theorem dX7_remove_56 : decode cX7_remove 56 = .ok (.iadd, 1) := by decide +kernel
theorem dX7_remove_57 : decode cX7_remove 57 = .ok (.aload_n 0, 1) := by decide +kernel
theorem dX7_remove_58 : decode cX7_remove 58 = .ok (.getfield 18, 3) := by decide +kernel
theorem dX7_remove_61 : decode cX7_remove 61 = .ok (.iload_n 1, 1) := by decide +kernel
theorem dX7_remove_62 : decode cX7_remove 62 = .ok (.iload_n 2, 1) := by decide +kernel
theorem dX7_remove_63 : decode cX7_remove 63 = .ok (.invokestatic 25, 3) := by decide +kernel
theorem dX7_remove_66 : decode cX7_remove 66 = .ok (.aload_n 0, 1) := by decide +kernel
theorem dX7_remove_67 : decode cX7_remove 67 = .ok (.dup, 1) := by decide +kernel
theorem dX7_remove_68 : decode cX7_remove 68 = .ok (.getfield 21, 3) := by decide +kernel
theorem dX7_remove_71 : decode cX7_remove 71 = .ok (.iconst 1, 1) := by decide +kernel
theorem dX7_remove_72 : decode cX7_remove 72 = .ok (.isub, 1) := by decide +kernel
theorem dX7_remove_73 : decode cX7_remove 73 = .ok (.putfield 21, 3) := by decide +kernel
theorem dX7_remove_76 : decode cX7_remove 76 = .ok (.return_, 1) := by decide +kernel
theorem dX7_carry_0 : decode cX7_carry 0 = .ok (.aload_n 0, 1) := by decide +kernel
theorem dX7_carry_1 : decode cX7_carry 1 = .ok (.iload_n 1, 1) := by decide +kernel
theorem dX7_carry_2 : decode cX7_carry 2 = .ok (.invokevirtual 31, 3) := by decide +kernel
theorem dX7_carry_5 : decode cX7_carry 5 = .ok (.ifCond .eq 15, 3) := by decide +kernel
theorem dX7_carry_8 : decode cX7_carry 8 = .ok (.iload_n 2, 1) := by decide +kernel
theorem dX7_carry_9 : decode cX7_carry 9 = .ok (.ifCond .lt 11, 3) := by decide +kernel
theorem dX7_carry_12 : decode cX7_carry 12 = .ok (.iload_n 2, 1) := by decide +kernel
theorem dX7_carry_13 : decode cX7_carry 13 = .ok (.aload_n 0, 1) := by decide +kernel
theorem dX7_carry_14 : decode cX7_carry 14 = .ok (.getfield 21, 3) := by decide +kernel
theorem dX7_carry_17 : decode cX7_carry 17 = .ok (.if_icmp .le 4, 3) := by decide +kernel
theorem dX7_carry_20 : decode cX7_carry 20 = .ok (.return_, 1) := by decide +kernel
theorem dX7_carry_21 : decode cX7_carry 21 = .ok (.aload_n 0, 1) := by decide +kernel
theorem dX7_carry_22 : decode cX7_carry 22 = .ok (.iload_n 1, 1) := by decide +kernel
theorem dX7_carry_23 : decode cX7_carry 23 = .ok (.invokevirtual 42, 3) := by decide +kernel
theorem dX7_carry_26 : decode cX7_carry 26 = .ok (.istore 4, 2) := by decide +kernel
theorem dX7_carry_28 : decode cX7_carry 28 = .ok (.iload_n 3, 1) := by decide +kernel
theorem dX7_carry_29 : decode cX7_carry 29 = .ok (.aload_n 0, 1) := by decide +kernel
theorem dX7_carry_30 : decode cX7_carry 30 = .ok (.getfield 18, 3) := by decide +kernel
theorem dX7_carry_33 : decode cX7_carry 33 = .ok (.iload_n 1, 1) := by decide +kernel
theorem dX7_carry_34 : decode cX7_carry 34 = .ok (.iaload, 1) := by decide +kernel
theorem dX7_carry_35 : decode cX7_carry 35 = .ok (.isub, 1) := by decide +kernel
theorem dX7_carry_36 : decode cX7_carry 36 = .ok (.istore 5, 2) := by decide +kernel
theorem dX7_carry_38 : decode cX7_carry 38 = .ok (.iload_n 1, 1) := by decide +kernel
theorem dX7_carry_39 : decode cX7_carry 39 = .ok (.istore 6, 2) := by decide +kernel
theorem dX7_carry_41 : decode cX7_carry 41 = .ok (.iload 6, 2) := by decide +kernel
theorem dX7_carry_43 : decode cX7_carry 43 = .ok (.iload 4, 2) := by decide +kernel
theorem dX7_carry_45 : decode cX7_carry 45 = .ok (.if_icmp .ge 21, 3) := by decide +kernel
theorem dX7_carry_48 : decode cX7_carry 48 = .ok (.aload_n 0, 1) := by decide +kernel
theorem dX7_carry_49 : decode cX7_carry 49 = .ok (.getfield 18, 3) := by decide +kernel
theorem dX7_carry_52 : decode cX7_carry 52 = .ok (.iload 6, 2) := by decide +kernel
theorem dX7_carry_54 : decode cX7_carry 54 = .ok (.dup2, 1) := by decide +kernel
theorem dX7_carry_55 : decode cX7_carry 55 = .ok (.iaload, 1) := by decide +kernel
theorem dX7_carry_56 : decode cX7_carry 56 = .ok (.iload 5, 2) := by decide +kernel
theorem dX7_carry_58 : decode cX7_carry 58 = .ok (.iadd, 1) := by decide +kernel
theorem dX7_carry_59 : decode cX7_carry 59 = .ok (.iastore, 1) := by decide +kernel
theorem dX7_carry_60 : decode cX7_carry 60 = .ok (.iinc 6 1, 3) := by decide +kernel
theorem dX7_carry_63 : decode cX7_carry 63 = .ok (.goto (-22), 3) := by decide +kernel
theorem dX7_carry_66 : decode cX7_carry 66 = .ok (.iload_n 2, 1) := by decide +kernel
theorem dX7_carry_67 : decode cX7_carry 67 = .ok (.iload_n 1, 1) := by decide +kernel
theorem dX7_carry_68 : decode cX7_carry 68 = .ok (.if_icmp .ge 26, 3) := by decide +kernel
theorem dX7_carry_71 : decode cX7_carry 71 = .ok (.aload_n 0, 1) := by decide +kernel
theorem dX7_carry_72 : decode cX7_carry 72 = .ok (.iload_n 2, 1) := by decide +kernel
theorem dX7_carry_73 : decode cX7_carry 73 = .ok (.iload_n 1, 1) := by decide +kernel
theorem dX7_carry_74 : decode cX7_carry 74 = .ok (.invokevirtual 63, 3) := by decide +kernel
theorem dX7_carry_77 : decode cX7_carry 77 = .ok (.aload_n 0, 1) := by decide +kernel
theorem dX7_carry_78 : decode cX7_carry 78 = .ok (.iload_n 1, 1) := by decide +kernel
theorem dX7_carry_79 : decode cX7_carry 79 = .ok (.iload 4, 2) := by decide +kernel
theorem dX7_carry_81 : decode cX7_carry 81 = .ok (.invokevirtual 63, 3) := by decide +kernel
theorem dX7_carry_84 : decode cX7_carry 84 = .ok (.aload_n 0, 1) := by decide +kernel
theorem dX7_carry_85 : decode cX7_carry 85 = .ok (.iload_n 2, 1) := by decide +kernel
theorem dX7_carry_86 : decode cX7_carry 86 = .ok (.iload 4, 2) := by decide +kernel
theorem dX7_carry_88 : decode cX7_carry 88 = .ok (.invokevirtual 63, 3) := by decide +kernel
theorem dX7_carry_91 : decode cX7_carry 91 = .ok (.goto 29, 3) := by decide +kernel
theorem dX7_carry_94 : decode cX7_carry 94 = .ok (.iload_n 2, 1) := by decide +kernel
theorem dX7_carry_95 : decode cX7_carry 95 = .ok (.iload 4, 2) := by decide +kernel
theorem dX7_carry_97 : decode cX7_carry 97 = .ok (.if_icmp .le 23, 3) := by decide +kernel
theorem dX7_carry_100 : decode cX7_carry 100 = .ok (.aload_n 0, 1) := by decide +kernel
theorem dX7_carry_101 : decode cX7_carry 101 = .ok (.iload_n 1, 1) := by decide +kernel
theorem dX7_carry_102 : decode cX7_carry 102 = .ok (.iload 4, 2) := by decide +kernel
theorem dX7_carry_104 : decode cX7_carry 104 = .ok (.invokevirtual 63, 3) := by decide +kernel
theorem dX7_carry_107 : decode cX7_carry 107 = .ok (.aload_n 0, 1) := by decide +kernel
theorem dX7_carry_108 : decode cX7_carry 108 = .ok (.iload 4, 2) := by decide +kernel
theorem dX7_carry_110 : decode cX7_carry 110 = .ok (.iload_n 2, 1) := by decide +kernel
theorem dX7_carry_111 : decode cX7_carry 111 = .ok (.invokevirtual 63, 3) := by decide +kernel
theorem dX7_carry_114 : decode cX7_carry 114 = .ok (.aload_n 0, 1) := by decide +kernel
theorem dX7_carry_115 : decode cX7_carry 115 = .ok (.iload_n 1, 1) := by decide +kernel
theorem dX7_carry_116 : decode cX7_carry 116 = .ok (.iload_n 2, 1) := by decide +kernel
theorem dX7_carry_117 : decode cX7_carry 117 = .ok (.invokevirtual 63, 3) := by decide +kernel
theorem dX7_carry_120 : decode cX7_carry 120 = .ok (.return_, 1) := by decide +kernel
theorem dX7_turnRound_0 : decode cX7_turnRound 0 = .ok (.iload_n 1, 1) := by decide +kernel
theorem dX7_turnRound_1 : decode cX7_turnRound 1 = .ok (.ifCond .lt 11, 3) := by decide +kernel
theorem dX7_turnRound_4 : decode cX7_turnRound 4 = .ok (.iload_n 2, 1) := by decide +kernel
theorem dX7_turnRound_5 : decode cX7_turnRound 5 = .ok (.aload_n 0, 1) := by decide +kernel
theorem dX7_turnRound_6 : decode cX7_turnRound 6 = .ok (.getfield 21, 3) := by decide +kernel
theorem dX7_turnRound_9 : decode cX7_turnRound 9 = .ok (.if_icmp .le 4, 3) := by decide +kernel
theorem dX7_turnRound_12 : decode cX7_turnRound 12 = .ok (.return_, 1) := by decide +kernel
theorem dX7_turnRound_13 : decode cX7_turnRound 13 = .ok (.iload_n 1, 1) := by decide +kernel
theorem dX7_turnRound_14 : decode cX7_turnRound 14 = .ok (.istore_n 3, 1) := by decide +kernel
theorem dX7_turnRound_15 : decode cX7_turnRound 15 = .ok (.iload_n 2, 1) := by decide +kernel
theorem dX7_turnRound_16 : decode cX7_turnRound 16 = .ok (.iconst 1, 1) := by decide +kernel
theorem dX7_turnRound_17 : decode cX7_turnRound 17 = .ok (.isub, 1) := by decide +kernel
theorem dX7_turnRound_18 : decode cX7_turnRound 18 = .ok (.istore 4, 2) := by decide +kernel
theorem dX7_turnRound_20 : decode cX7_turnRound 20 = .ok (.iload_n 3, 1) := by decide +kernel
theorem dX7_turnRound_21 : decode cX7_turnRound 21 = .ok (.iload 4, 2) := by decide +kernel
theorem dX7_turnRound_23 : decode cX7_turnRound 23 = .ok (.if_icmp .ge 102, 3) := by decide +kernel
theorem dX7_turnRound_26 : decode cX7_turnRound 26 = .ok (.aload_n 0, 1) := by decide +kernel
theorem dX7_turnRound_27 : decode cX7_turnRound 27 = .ok (.getfield 9, 3) := by decide +kernel
theorem dX7_turnRound_30 : decode cX7_turnRound 30 = .ok (.iload_n 3, 1) := by decide +kernel
theorem dX7_turnRound_31 : decode cX7_turnRound 31 = .ok (.iaload, 1) := by decide +kernel
theorem dX7_turnRound_32 : decode cX7_turnRound 32 = .ok (.istore 5, 2) := by decide +kernel
theorem dX7_turnRound_34 : decode cX7_turnRound 34 = .ok (.aload_n 0, 1) := by decide +kernel
theorem dX7_turnRound_35 : decode cX7_turnRound 35 = .ok (.getfield 9, 3) := by decide +kernel
theorem dX7_turnRound_38 : decode cX7_turnRound 38 = .ok (.iload_n 3, 1) := by decide +kernel
theorem dX7_turnRound_39 : decode cX7_turnRound 39 = .ok (.aload_n 0, 1) := by decide +kernel
theorem dX7_turnRound_40 : decode cX7_turnRound 40 = .ok (.getfield 9, 3) := by decide +kernel
theorem dX7_turnRound_43 : decode cX7_turnRound 43 = .ok (.iload 4, 2) := by decide +kernel
theorem dX7_turnRound_45 : decode cX7_turnRound 45 = .ok (.iaload, 1) := by decide +kernel
theorem dX7_turnRound_46 : decode cX7_turnRound 46 = .ok (.iastore, 1) := by decide +kernel
theorem dX7_turnRound_47 : decode cX7_turnRound 47 = .ok (.aload_n 0, 1) := by decide +kernel
theorem dX7_turnRound_48 : decode cX7_turnRound 48 = .ok (.getfield 9, 3) := by decide +kernel
theorem dX7_turnRound_51 : decode cX7_turnRound 51 = .ok (.iload 4, 2) := by decide +kernel
theorem dX7_turnRound_53 : decode cX7_turnRound 53 = .ok (.iload 5, 2) := by decide +kernel
theorem dX7_turnRound_55 : decode cX7_turnRound 55 = .ok (.iastore, 1) := by decide +kernel
theorem dX7_turnRound_56 : decode cX7_turnRound 56 = .ok (.aload_n 0, 1) := by decide +kernel
theorem dX7_turnRound_57 : decode cX7_turnRound 57 = .ok (.getfield 15, 3) := by decide +kernel
theorem dX7_turnRound_60 : decode cX7_turnRound 60 = .ok (.iload_n 3, 1) := by decide +kernel
theorem dX7_turnRound_61 : decode cX7_turnRound 61 = .ok (.iaload, 1) := by decide +kernel
theorem dX7_turnRound_62 : decode cX7_turnRound 62 = .ok (.istore 6, 2) := by decide +kernel
theorem dX7_turnRound_64 : decode cX7_turnRound 64 = .ok (.aload_n 0, 1) := by decide +kernel
theorem dX7_turnRound_65 : decode cX7_turnRound 65 = .ok (.getfield 15, 3) := by decide +kernel
theorem dX7_turnRound_68 : decode cX7_turnRound 68 = .ok (.iload_n 3, 1) := by decide +kernel
theorem dX7_turnRound_69 : decode cX7_turnRound 69 = .ok (.aload_n 0, 1) := by decide +kernel
theorem dX7_turnRound_70 : decode cX7_turnRound 70 = .ok (.getfield 15, 3) := by decide +kernel
theorem dX7_turnRound_73 : decode cX7_turnRound 73 = .ok (.iload 4, 2) := by decide +kernel
theorem dX7_turnRound_75 : decode cX7_turnRound 75 = .ok (.iaload, 1) := by decide +kernel
theorem dX7_turnRound_76 : decode cX7_turnRound 76 = .ok (.iastore, 1) := by decide +kernel
theorem dX7_turnRound_77 : decode cX7_turnRound 77 = .ok (.aload_n 0, 1) := by decide +kernel
theorem dX7_turnRound_78 : decode cX7_turnRound 78 = .ok (.getfield 15, 3) := by decide +kernel
theorem dX7_turnRound_81 : decode cX7_turnRound 81 = .ok (.iload 4, 2) := by decide +kernel
theorem dX7_turnRound_83 : decode cX7_turnRound 83 = .ok (.iload 6, 2) := by decide +kernel
theorem dX7_turnRound_85 : decode cX7_turnRound 85 = .ok (.iastore, 1) := by decide +kernel
theorem dX7_turnRound_86 : decode cX7_turnRound 86 = .ok (.aload_n 0, 1) := by decide +kernel
theorem dX7_turnRound_87 : decode cX7_turnRound 87 = .ok (.getfield 18, 3) := by decide +kernel
theorem dX7_turnRound_90 : decode cX7_turnRound 90 = .ok (.iload_n 3, 1) := by decide +kernel
theorem dX7_turnRound_91 : decode cX7_turnRound 91 = .ok (.iaload, 1) := by decide +kernel
theorem dX7_turnRound_92 : decode cX7_turnRound 92 = .ok (.istore 7, 2) := by decide +kernel
theorem dX7_turnRound_94 : decode cX7_turnRound 94 = .ok (.aload_n 0, 1) := by decide +kernel
theorem dX7_turnRound_95 : decode cX7_turnRound 95 = .ok (.getfield 18, 3) := by decide +kernel
theorem dX7_turnRound_98 : decode cX7_turnRound 98 = .ok (.iload_n 3, 1) := by decide +kernel
theorem dX7_turnRound_99 : decode cX7_turnRound 99 = .ok (.aload_n 0, 1) := by decide +kernel
theorem dX7_turnRound_100 : decode cX7_turnRound 100 = .ok (.getfield 18, 3) := by decide +kernel
theorem dX7_turnRound_103 : decode cX7_turnRound 103 = .ok (.iload 4, 2) := by decide +kernel
theorem dX7_turnRound_105 : decode cX7_turnRound 105 = .ok (.iaload, 1) := by decide +kernel
theorem dX7_turnRound_106 : decode cX7_turnRound 106 = .ok (.iastore, 1) := by decide +kernel
theorem dX7_turnRound_107 : decode cX7_turnRound 107 = .ok (.aload_n 0, 1) := by decide +kernel
theorem dX7_turnRound_108 : decode cX7_turnRound 108 = .ok (.getfield 18, 3) := by decide +kernel
theorem dX7_turnRound_111 : decode cX7_turnRound 111 = .ok (.iload 4, 2) := by decide +kernel
theorem dX7_turnRound_113 : decode cX7_turnRound 113 = .ok (.iload 7, 2) := by decide +kernel
theorem dX7_turnRound_115 : decode cX7_turnRound 115 = .ok (.iastore, 1) := by decide +kernel
theorem dX7_turnRound_116 : decode cX7_turnRound 116 = .ok (.iinc 3 1, 3) := by decide +kernel
theorem dX7_turnRound_119 : decode cX7_turnRound 119 = .ok (.iinc 4 (-1), 3) := by decide +kernel
theorem dX7_turnRound_122 : decode cX7_turnRound 122 = .ok (.goto (-102), 3) := by decide +kernel
theorem dX7_turnRound_125 : decode cX7_turnRound 125 = .ok (.return_, 1) := by decide +kernel
theorem dX8_init_0 : decode cX8_init 0 = .ok (.aload_n 0, 1) := by decide +kernel
theorem dX8_init_1 : decode cX8_init 1 = .ok (.invokespecial 1, 3) := by decide +kernel
theorem dX8_init_4 : decode cX8_init 4 = .ok (.aload_n 0, 1) := by decide +kernel
theorem dX8_init_5 : decode cX8_init 5 = .ok (.bipush 8, 2) := by decide +kernel
theorem dX8_init_7 : decode cX8_init 7 = .ok (.anewarray 9, 3) := by decide +kernel
theorem dX8_init_10 : decode cX8_init 10 = .ok (.putfield 11, 3) := by decide +kernel
theorem dX8_init_13 : decode cX8_init 13 = .ok (.aload_n 0, 1) := by decide +kernel
theorem dX8_init_14 : decode cX8_init 14 = .ok (.bipush 8, 2) := by decide +kernel
theorem dX8_init_16 : decode cX8_init 16 = .ok (.newarray .int, 2) := by decide +kernel
theorem dX8_init_18 : decode cX8_init 18 = .ok (.putfield 15, 3) := by decide +kernel
theorem dX8_init_21 : decode cX8_init 21 = .ok (.aload_n 0, 1) := by decide +kernel
theorem dX8_init_22 : decode cX8_init 22 = .ok (.bipush 8, 2) := by decide +kernel
theorem dX8_init_24 : decode cX8_init 24 = .ok (.newarray .int, 2) := by decide +kernel
theorem dX8_init_26 : decode cX8_init 26 = .ok (.putfield 19, 3) := by decide +kernel
theorem dX8_init_29 : decode cX8_init 29 = .ok (.aload_n 0, 1) := by decide +kernel
theorem dX8_init_30 : decode cX8_init 30 = .ok (.new 22, 3) := by decide +kernel
theorem dX8_init_33 : decode cX8_init 33 = .ok (.dup, 1) := by decide +kernel
theorem dX8_init_34 : decode cX8_init 34 = .ok (.invokespecial 24, 3) := by decide +kernel
theorem dX8_init_37 : decode cX8_init 37 = .ok (.putfield 25, 3) := by decide +kernel
theorem dX8_init_40 : decode cX8_init 40 = .ok (.aload_n 0, 1) := by decide +kernel
theorem dX8_init_41 : decode cX8_init 41 = .ok (.new 29, 3) := by decide +kernel
theorem dX8_init_44 : decode cX8_init 44 = .ok (.dup, 1) := by decide +kernel
theorem dX8_init_45 : decode cX8_init 45 = .ok (.invokespecial 31, 3) := by decide +kernel
theorem dX8_init_48 : decode cX8_init 48 = .ok (.putfield 32, 3) := by decide +kernel
theorem dX8_init_51 : decode cX8_init 51 = .ok (.aload_n 0, 1) := by decide +kernel
theorem dX8_init_52 : decode cX8_init 52 = .ok (.aconst_null, 1) := by decide +kernel
theorem dX8_init_53 : decode cX8_init 53 = .ok (.putfield 36, 3) := by decide +kernel
theorem dX8_init_56 : decode cX8_init 56 = .ok (.aload_n 0, 1) := by decide +kernel
theorem dX8_init_57 : decode cX8_init 57 = .ok (.iconst (-1), 1) := by decide +kernel
theorem dX8_init_58 : decode cX8_init 58 = .ok (.putfield 39, 3) := by decide +kernel
theorem dX8_init_61 : decode cX8_init 61 = .ok (.aload_n 0, 1) := by decide +kernel
theorem dX8_init_62 : decode cX8_init 62 = .ok (.iconst 0, 1) := by decide +kernel
theorem dX8_init_63 : decode cX8_init 63 = .ok (.putfield 43, 3) := by decide +kernel
theorem dX8_init_66 : decode cX8_init 66 = .ok (.iconst 0, 1) := by decide +kernel
theorem dX8_init_67 : decode cX8_init 67 = .ok (.istore_n 1, 1) := by decide +kernel
theorem dX8_init_68 : decode cX8_init 68 = .ok (.iload_n 1, 1) := by decide +kernel
theorem dX8_init_69 : decode cX8_init 69 = .ok (.bipush 8, 2) := by decide +kernel
theorem dX8_init_71 : decode cX8_init 71 = .ok (.if_icmp .ge 16, 3) := by decide +kernel
theorem dX8_init_74 : decode cX8_init 74 = .ok (.aload_n 0, 1) := by decide +kernel
theorem dX8_init_75 : decode cX8_init 75 = .ok (.getfield 15, 3) := by decide +kernel
theorem dX8_init_78 : decode cX8_init 78 = .ok (.iload_n 1, 1) := by decide +kernel
theorem dX8_init_79 : decode cX8_init 79 = .ok (.iconst (-1), 1) := by decide +kernel
theorem dX8_init_80 : decode cX8_init 80 = .ok (.iastore, 1) := by decide +kernel
theorem dX8_init_81 : decode cX8_init 81 = .ok (.iinc 1 1, 3) := by decide +kernel
theorem dX8_init_84 : decode cX8_init 84 = .ok (.goto (-16), 3) := by decide +kernel
theorem dX8_init_87 : decode cX8_init 87 = .ok (.return_, 1) := by decide +kernel
theorem dX8_row_0 : decode cX8_row 0 = .ok (.iload_n 1, 1) := by decide +kernel
theorem dX8_row_1 : decode cX8_row 1 = .ok (.invokestatic 46, 3) := by decide +kernel
theorem dX8_row_4 : decode cX8_row 4 = .ok (.ifCond .ne 9, 3) := by decide +kernel
theorem dX8_row_7 : decode cX8_row 7 = .ok (.aload_n 0, 1) := by decide +kernel
theorem dX8_row_8 : decode cX8_row 8 = .ok (.iconst (-1), 1) := by decide +kernel
theorem dX8_row_9 : decode cX8_row 9 = .ok (.invokevirtual 50, 3) := by decide +kernel
theorem dX8_row_12 : decode cX8_row 12 = .ok (.ireturn, 1) := by decide +kernel
theorem dX8_row_13 : decode cX8_row 13 = .ok (.iload_n 3, 1) := by decide +kernel
theorem dX8_row_14 : decode cX8_row 14 = .ok (.ifCond .ge 10, 3) := by decide +kernel
theorem dX8_row_17 : decode cX8_row 17 = .ok (.aload_n 0, 1) := by decide +kernel
theorem dX8_row_18 : decode cX8_row 18 = .ok (.bipush (-4), 2) := by decide +kernel
theorem dX8_row_20 : decode cX8_row 20 = .ok (.invokevirtual 50, 3) := by decide +kernel
theorem dX8_row_23 : decode cX8_row 23 = .ok (.ireturn, 1) := by decide +kernel
theorem dX8_row_24 : decode cX8_row 24 = .ok (.iload_n 2, 1) := by decide +kernel
theorem dX8_row_25 : decode cX8_row 25 = .ok (.ifCond .lt 8, 3) := by decide +kernel
theorem dX8_row_28 : decode cX8_row 28 = .ok (.iload_n 2, 1) := by decide +kernel
theorem dX8_row_29 : decode cX8_row 29 = .ok (.iconst 3, 1) := by decide +kernel
theorem dX8_row_30 : decode cX8_row 30 = .ok (.if_icmp .le 10, 3) := by decide +kernel
theorem dX8_row_33 : decode cX8_row 33 = .ok (.aload_n 0, 1) := by decide +kernel
theorem dX8_row_34 : decode cX8_row 34 = .ok (.bipush (-6), 2) := by decide +kernel
theorem dX8_row_36 : decode cX8_row 36 = .ok (.invokevirtual 50, 3) := by decide +kernel
theorem dX8_row_39 : decode cX8_row 39 = .ok (.ireturn, 1) := by decide +kernel
theorem dX8_row_40 : decode cX8_row 40 = .ok (.iload_n 3, 1) := by decide +kernel
theorem dX8_row_41 : decode cX8_row 41 = .ok (.sipush 160, 3) := by decide +kernel
theorem dX8_row_44 : decode cX8_row 44 = .ok (.if_icmp .le 10, 3) := by decide +kernel
theorem dX8_row_47 : decode cX8_row 47 = .ok (.aload_n 0, 1) := by decide +kernel
theorem dX8_row_48 : decode cX8_row 48 = .ok (.bipush (-7), 2) := by decide +kernel
theorem dX8_row_50 : decode cX8_row 50 = .ok (.invokevirtual 50, 3) := by decide +kernel
theorem dX8_row_53 : decode cX8_row 53 = .ok (.ireturn, 1) := by decide +kernel
theorem dX8_row_54 : decode cX8_row 54 = .ok (.aload_n 0, 1) := by decide +kernel
theorem dX8_row_55 : decode cX8_row 55 = .ok (.getfield 11, 3) := by decide +kernel
theorem dX8_row_58 : decode cX8_row 58 = .ok (.iload_n 1, 1) := by decide +kernel
theorem dX8_row_59 : decode cX8_row 59 = .ok (.new 9, 3) := by decide +kernel
theorem dX8_row_62 : decode cX8_row 62 = .ok (.dup, 1) := by decide +kernel
theorem dX8_row_63 : decode cX8_row 63 = .ok (.iload_n 2, 1) := by decide +kernel
theorem dX8_row_64 : decode cX8_row 64 = .ok (.iload_n 3, 1) := by decide +kernel
theorem dX8_row_65 : decode cX8_row 65 = .ok (.invokespecial 54, 3) := by decide +kernel
theorem dX8_row_68 : decode cX8_row 68 = .ok (.aastore, 1) := by decide +kernel
theorem dX8_row_69 : decode cX8_row 69 = .ok (.aload_n 0, 1) := by decide +kernel
theorem dX8_row_70 : decode cX8_row 70 = .ok (.getfield 15, 3) := by decide +kernel
theorem dX8_row_73 : decode cX8_row 73 = .ok (.iload_n 1, 1) := by decide +kernel
theorem dX8_row_74 : decode cX8_row 74 = .ok (.iconst (-1), 1) := by decide +kernel
theorem dX8_row_75 : decode cX8_row 75 = .ok (.iastore, 1) := by decide +kernel
theorem dX8_row_76 : decode cX8_row 76 = .ok (.iconst 1, 1) := by decide +kernel
theorem dX8_row_77 : decode cX8_row 77 = .ok (.ireturn, 1) := by decide +kernel
theorem dX8_set_0 : decode cX8_set 0 = .ok (.aload_n 0, 1) := by decide +kernel
theorem dX8_set_1 : decode cX8_set 1 = .ok (.iload_n 1, 1) := by decide +kernel
theorem dX8_set_2 : decode cX8_set 2 = .ok (.invokevirtual 57, 3) := by decide +kernel
theorem dX8_set_5 : decode cX8_set 5 = .ok (.astore 5, 2) := by decide +kernel
theorem dX8_set_7 : decode cX8_set 7 = .ok (.aload 5, 2) := by decide +kernel
theorem dX8_set_9 : decode cX8_set 9 = .ok (.ifnonnull 13, 3) := by decide +kernel
theorem dX8_set_12 : decode cX8_set 12 = .ok (.aload_n 0, 1) := by decide +kernel
theorem dX8_set_13 : decode cX8_set 13 = .ok (.aload_n 0, 1) := by decide +kernel
theorem dX8_set_14 : decode cX8_set 14 = .ok (.iload_n 1, 1) := by decide +kernel
theorem dX8_set_15 : decode cX8_set 15 = .ok (.invokevirtual 61, 3) := by decide +kernel
theorem dX8_set_18 : decode cX8_set 18 = .ok (.invokevirtual 50, 3) := by decide +kernel
theorem dX8_set_21 : decode cX8_set 21 = .ok (.ireturn, 1) := by decide +kernel
theorem dX8_set_22 : decode cX8_set 22 = .ok (.aload 5, 2) := by decide +kernel
theorem dX8_set_24 : decode cX8_set 24 = .ok (.iload_n 2, 1) := by decide +kernel
theorem dX8_set_25 : decode cX8_set 25 = .ok (.invokevirtual 64, 3) := by decide +kernel
theorem dX8_set_28 : decode cX8_set 28 = .ok (.ifCond .ne 10, 3) := by decide +kernel
theorem dX8_set_31 : decode cX8_set 31 = .ok (.aload_n 0, 1) := by decide +kernel
theorem dX8_set_32 : decode cX8_set 32 = .ok (.bipush (-5), 2) := by decide +kernel
theorem dX8_set_34 : decode cX8_set 34 = .ok (.invokevirtual 50, 3) := by decide +kernel
theorem dX8_set_37 : decode cX8_set 37 = .ok (.ireturn, 1) := by decide +kernel
theorem dX8_set_38 : decode cX8_set 38 = .ok (.aload 5, 2) := by decide +kernel
theorem dX8_set_40 : decode cX8_set 40 = .ok (.iload_n 2, 1) := by decide +kernel
theorem dX8_set_41 : decode cX8_set 41 = .ok (.lload_n 3, 1) := by decide +kernel
theorem dX8_set_42 : decode cX8_set 42 = .ok (.invokevirtual 67, 3) := by decide +kernel
theorem dX8_set_45 : decode cX8_set 45 = .ok (.iconst 1, 1) := by decide +kernel
theorem dX8_set_46 : decode cX8_set 46 = .ok (.ireturn, 1) := by decide +kernel
theorem dX8_copy_0 : decode cX8_copy 0 = .ok (.iload_n 1, 1) := by decide +kernel
theorem dX8_copy_1 : decode cX8_copy 1 = .ok (.invokestatic 46, 3) := by decide +kernel
theorem dX8_copy_4 : decode cX8_copy 4 = .ok (.ifCond .eq 10, 3) := by decide +kernel
theorem dX8_copy_7 : decode cX8_copy 7 = .ok (.iload_n 2, 1) := by decide +kernel
theorem dX8_copy_8 : decode cX8_copy 8 = .ok (.invokestatic 46, 3) := by decide +kernel
theorem dX8_copy_11 : decode cX8_copy 11 = .ok (.ifCond .ne 9, 3) := by decide +kernel
theorem dX8_copy_14 : decode cX8_copy 14 = .ok (.aload_n 0, 1) := by decide +kernel
theorem dX8_copy_15 : decode cX8_copy 15 = .ok (.iconst (-1), 1) := by decide +kernel
theorem dX8_copy_16 : decode cX8_copy 16 = .ok (.invokevirtual 50, 3) := by decide +kernel
theorem dX8_copy_19 : decode cX8_copy 19 = .ok (.ireturn, 1) := by decide +kernel
theorem dX8_copy_20 : decode cX8_copy 20 = .ok (.aload_n 0, 1) := by decide +kernel
theorem dX8_copy_21 : decode cX8_copy 21 = .ok (.iload_n 1, 1) := by decide +kernel
theorem dX8_copy_22 : decode cX8_copy 22 = .ok (.invokevirtual 57, 3) := by decide +kernel
theorem dX8_copy_25 : decode cX8_copy 25 = .ok (.astore 6, 2) := by decide +kernel
theorem dX8_copy_27 : decode cX8_copy 27 = .ok (.aload_n 0, 1) := by decide +kernel
theorem dX8_copy_28 : decode cX8_copy 28 = .ok (.iload_n 2, 1) := by decide +kernel
theorem dX8_copy_29 : decode cX8_copy 29 = .ok (.invokevirtual 57, 3) := by decide +kernel
theorem dX8_copy_32 : decode cX8_copy 32 = .ok (.astore 7, 2) := by decide +kernel
theorem dX8_copy_34 : decode cX8_copy 34 = .ok (.aload_n 0, 1) := by decide +kernel
theorem dX8_copy_35 : decode cX8_copy 35 = .ok (.getfield 15, 3) := by decide +kernel
theorem dX8_copy_38 : decode cX8_copy 38 = .ok (.iload_n 1, 1) := by decide +kernel
theorem dX8_copy_39 : decode cX8_copy 39 = .ok (.iaload, 1) := by decide +kernel
theorem dX8_copy_40 : decode cX8_copy 40 = .ok (.iconst (-1), 1) := by decide +kernel
theorem dX8_copy_41 : decode cX8_copy 41 = .ok (.if_icmp .ne 13, 3) := by decide +kernel
theorem dX8_copy_44 : decode cX8_copy 44 = .ok (.aload_n 0, 1) := by decide +kernel
theorem dX8_copy_45 : decode cX8_copy 45 = .ok (.getfield 15, 3) := by decide +kernel
theorem dX8_copy_48 : decode cX8_copy 48 = .ok (.iload_n 2, 1) := by decide +kernel
theorem dX8_copy_49 : decode cX8_copy 49 = .ok (.iaload, 1) := by decide +kernel
theorem dX8_copy_50 : decode cX8_copy 50 = .ok (.iconst (-1), 1) := by decide +kernel
theorem dX8_copy_51 : decode cX8_copy 51 = .ok (.if_icmp .eq 10, 3) := by decide +kernel
theorem dX8_copy_54 : decode cX8_copy 54 = .ok (.aload_n 0, 1) := by decide +kernel
theorem dX8_copy_55 : decode cX8_copy 55 = .ok (.bipush (-2), 2) := by decide +kernel
theorem dX8_copy_57 : decode cX8_copy 57 = .ok (.invokevirtual 50, 3) := by decide +kernel
theorem dX8_copy_60 : decode cX8_copy 60 = .ok (.ireturn, 1) := by decide +kernel
theorem dX8_copy_61 : decode cX8_copy 61 = .ok (.aload 6, 2) := by decide +kernel
theorem dX8_copy_63 : decode cX8_copy 63 = .ok (.ifnull 28, 3) := by decide +kernel
theorem dX8_copy_66 : decode cX8_copy 66 = .ok (.aload 7, 2) := by decide +kernel
theorem dX8_copy_68 : decode cX8_copy 68 = .ok (.ifnull 23, 3) := by decide +kernel
theorem dX8_copy_71 : decode cX8_copy 71 = .ok (.aload 6, 2) := by decide +kernel
theorem dX8_copy_73 : decode cX8_copy 73 = .ok (.getfield 71, 3) := by decide +kernel
theorem dX8_copy_76 : decode cX8_copy 76 = .ok (.aload 7, 2) := by decide +kernel
theorem dX8_copy_78 : decode cX8_copy 78 = .ok (.getfield 71, 3) := by decide +kernel
theorem dX8_copy_81 : decode cX8_copy 81 = .ok (.if_icmp .eq 10, 3) := by decide +kernel
theorem dX8_copy_84 : decode cX8_copy 84 = .ok (.aload_n 0, 1) := by decide +kernel
theorem dX8_copy_85 : decode cX8_copy 85 = .ok (.bipush (-2), 2) := by decide +kernel
theorem dX8_copy_87 : decode cX8_copy 87 = .ok (.invokevirtual 50, 3) := by decide +kernel
theorem dX8_copy_90 : decode cX8_copy 90 = .ok (.ireturn, 1) := by decide +kernel
theorem dX8_copy_91 : decode cX8_copy 91 = .ok (.aload 6, 2) := by decide +kernel
theorem dX8_copy_93 : decode cX8_copy 93 = .ok (.ifnull 8, 3) := by decide +kernel
theorem dX8_copy_96 : decode cX8_copy 96 = .ok (.aload 7, 2) := by decide +kernel
theorem dX8_copy_98 : decode cX8_copy 98 = .ok (.ifnonnull 10, 3) := by decide +kernel
theorem dX8_copy_101 : decode cX8_copy 101 = .ok (.aload_n 0, 1) := by decide +kernel
theorem dX8_copy_102 : decode cX8_copy 102 = .ok (.bipush (-3), 2) := by decide +kernel
theorem dX8_copy_104 : decode cX8_copy 104 = .ok (.invokevirtual 50, 3) := by decide +kernel
theorem dX8_copy_107 : decode cX8_copy 107 = .ok (.ireturn, 1) := by decide +kernel
theorem dX8_copy_108 : decode cX8_copy 108 = .ok (.iload 5, 2) := by decide +kernel
theorem dX8_copy_110 : decode cX8_copy 110 = .ok (.ifCond .ge 10, 3) := by decide +kernel
theorem dX8_copy_113 : decode cX8_copy 113 = .ok (.aload_n 0, 1) := by decide +kernel
theorem dX8_copy_114 : decode cX8_copy 114 = .ok (.bipush (-4), 2) := by decide +kernel
theorem dX8_copy_116 : decode cX8_copy 116 = .ok (.invokevirtual 50, 3) := by decide +kernel
theorem dX8_copy_119 : decode cX8_copy 119 = .ok (.ireturn, 1) := by decide +kernel
theorem dX8_copy_120 : decode cX8_copy 120 = .ok (.aload 6, 2) := by decide +kernel
theorem dX8_copy_122 : decode cX8_copy 122 = .ok (.iload_n 3, 1) := by decide +kernel
theorem dX8_copy_123 : decode cX8_copy 123 = .ok (.iload 5, 2) := by decide +kernel
theorem dX8_copy_125 : decode cX8_copy 125 = .ok (.invokevirtual 74, 3) := by decide +kernel
theorem dX8_copy_128 : decode cX8_copy 128 = .ok (.ifCond .eq 15, 3) := by decide +kernel
theorem dX8_copy_131 : decode cX8_copy 131 = .ok (.aload 7, 2) := by decide +kernel
theorem dX8_copy_133 : decode cX8_copy 133 = .ok (.iload 4, 2) := by decide +kernel
theorem dX8_copy_135 : decode cX8_copy 135 = .ok (.iload 5, 2) := by decide +kernel
theorem dX8_copy_137 : decode cX8_copy 137 = .ok (.invokevirtual 74, 3) := by decide +kernel
theorem dX8_copy_140 : decode cX8_copy 140 = .ok (.ifCond .ne 10, 3) := by decide +kernel
theorem dX8_copy_143 : decode cX8_copy 143 = .ok (.aload_n 0, 1) := by decide +kernel
theorem dX8_copy_144 : decode cX8_copy 144 = .ok (.bipush (-5), 2) := by decide +kernel
theorem dX8_copy_146 : decode cX8_copy 146 = .ok (.invokevirtual 50, 3) := by decide +kernel
theorem dX8_copy_149 : decode cX8_copy 149 = .ok (.ireturn, 1) := by decide +kernel
theorem dX8_copy_150 : decode cX8_copy 150 = .ok (.aload 6, 2) := by decide +kernel
theorem dX8_copy_152 : decode cX8_copy 152 = .ok (.getfield 78, 3) := by decide +kernel
theorem dX8_copy_155 : decode cX8_copy 155 = .ok (.iload_n 3, 1) := by decide +kernel
theorem dX8_copy_156 : decode cX8_copy 156 = .ok (.aload 7, 2) := by decide +kernel
theorem dX8_copy_158 : decode cX8_copy 158 = .ok (.getfield 78, 3) := by decide +kernel
theorem dX8_copy_161 : decode cX8_copy 161 = .ok (.iload 4, 2) := by decide +kernel
theorem dX8_copy_163 : decode cX8_copy 163 = .ok (.iload 5, 2) := by decide +kernel
theorem dX8_copy_165 : decode cX8_copy 165 = .ok (.invokestatic 82, 3) := by decide +kernel
theorem dX8_copy_168 : decode cX8_copy 168 = .ok (.iconst 1, 1) := by decide +kernel
theorem dX8_copy_169 : decode cX8_copy 169 = .ok (.ireturn, 1) := by decide +kernel
theorem dX8_element_0 : decode cX8_element 0 = .ok (.aload_n 0, 1) := by decide +kernel
theorem dX8_element_1 : decode cX8_element 1 = .ok (.iload_n 1, 1) := by decide +kernel
theorem dX8_element_2 : decode cX8_element 2 = .ok (.invokevirtual 57, 3) := by decide +kernel
theorem dX8_element_5 : decode cX8_element 5 = .ok (.astore_n 3, 1) := by decide +kernel
theorem dX8_element_6 : decode cX8_element 6 = .ok (.aload_n 3, 1) := by decide +kernel
theorem dX8_element_7 : decode cX8_element 7 = .ok (.ifnonnull 7, 3) := by decide +kernel
theorem dX8_element_10 : decode cX8_element 10 = .ok (.lconst 0, 1) := by decide +kernel
theorem dX8_element_11 : decode cX8_element 11 = .ok (.goto 8, 3) := by decide +kernel
theorem dX8_element_14 : decode cX8_element 14 = .ok (.aload_n 3, 1) := by decide +kernel
theorem dX8_element_15 : decode cX8_element 15 = .ok (.iload_n 2, 1) := by decide +kernel
theorem dX8_element_16 : decode cX8_element 16 = .ok (.invokevirtual 88, 3) := by decide +kernel
theorem dX8_element_19 : decode cX8_element 19 = .ok (.lreturn, 1) := by decide +kernel
theorem dX8_show_0 : decode cX8_show 0 = .ok (.iload_n 1, 1) := by decide +kernel
theorem dX8_show_1 : decode cX8_show 1 = .ok (.invokestatic 46, 3) := by decide +kernel
theorem dX8_show_4 : decode cX8_show 4 = .ok (.ifCond .ne 9, 3) := by decide +kernel
theorem dX8_show_7 : decode cX8_show 7 = .ok (.aload_n 0, 1) := by decide +kernel
theorem dX8_show_8 : decode cX8_show 8 = .ok (.iconst (-1), 1) := by decide +kernel
theorem dX8_show_9 : decode cX8_show 9 = .ok (.invokevirtual 50, 3) := by decide +kernel
theorem dX8_show_12 : decode cX8_show 12 = .ok (.ireturn, 1) := by decide +kernel
theorem dX8_show_13 : decode cX8_show 13 = .ok (.iload_n 2, 1) := by decide +kernel
theorem dX8_show_14 : decode cX8_show 14 = .ok (.iconst (-1), 1) := by decide +kernel
theorem dX8_show_15 : decode cX8_show 15 = .ok (.if_icmp .eq 17, 3) := by decide +kernel
theorem dX8_show_18 : decode cX8_show 18 = .ok (.aload_n 0, 1) := by decide +kernel
theorem dX8_show_19 : decode cX8_show 19 = .ok (.iload_n 2, 1) := by decide +kernel
theorem dX8_show_20 : decode cX8_show 20 = .ok (.invokevirtual 92, 3) := by decide +kernel
theorem dX8_show_23 : decode cX8_show 23 = .ok (.ifnonnull 9, 3) := by decide +kernel
theorem dX8_show_26 : decode cX8_show 26 = .ok (.aload_n 0, 1) := by decide +kernel
theorem dX8_show_27 : decode cX8_show 27 = .ok (.iconst (-1), 1) := by decide +kernel
theorem dX8_show_28 : decode cX8_show 28 = .ok (.invokevirtual 50, 3) := by decide +kernel
theorem dX8_show_31 : decode cX8_show 31 = .ok (.ireturn, 1) := by decide +kernel
theorem dX8_show_32 : decode cX8_show 32 = .ok (.aload_n 0, 1) := by decide +kernel
theorem dX8_show_33 : decode cX8_show 33 = .ok (.getfield 11, 3) := by decide +kernel
theorem dX8_show_36 : decode cX8_show 36 = .ok (.iload_n 1, 1) := by decide +kernel
theorem dX8_show_37 : decode cX8_show 37 = .ok (.aconst_null, 1) := by decide +kernel
theorem dX8_show_38 : decode cX8_show 38 = .ok (.aastore, 1) := by decide +kernel
theorem dX8_show_39 : decode cX8_show 39 = .ok (.aload_n 0, 1) := by decide +kernel
theorem dX8_show_40 : decode cX8_show 40 = .ok (.getfield 15, 3) := by decide +kernel
theorem dX8_show_43 : decode cX8_show 43 = .ok (.iload_n 1, 1) := by decide +kernel
theorem dX8_show_44 : decode cX8_show 44 = .ok (.iload_n 2, 1) := by decide +kernel
theorem dX8_show_45 : decode cX8_show 45 = .ok (.iastore, 1) := by decide +kernel
theorem dX8_show_46 : decode cX8_show 46 = .ok (.iload_n 2, 1) := by decide +kernel
theorem dX8_show_47 : decode cX8_show 47 = .ok (.iconst (-1), 1) := by decide +kernel
theorem dX8_show_48 : decode cX8_show 48 = .ok (.if_icmp .ne 7, 3) := by decide +kernel
theorem dX8_show_51 : decode cX8_show 51 = .ok (.iconst 0, 1) := by decide +kernel
theorem dX8_show_52 : decode cX8_show 52 = .ok (.goto 4, 3) := by decide +kernel
theorem dX8_show_55 : decode cX8_show 55 = .ok (.iconst 1, 1) := by decide +kernel
theorem dX8_show_56 : decode cX8_show 56 = .ok (.ireturn, 1) := by decide +kernel
theorem dX8_holds_0 : decode cX8_holds 0 = .ok (.aload_n 0, 1) := by decide +kernel
theorem dX8_holds_1 : decode cX8_holds 1 = .ok (.iload_n 1, 1) := by decide +kernel
theorem dX8_holds_2 : decode cX8_holds 2 = .ok (.invokevirtual 57, 3) := by decide +kernel
theorem dX8_holds_5 : decode cX8_holds 5 = .ok (.astore_n 2, 1) := by decide +kernel
theorem dX8_holds_6 : decode cX8_holds 6 = .ok (.aload_n 2, 1) := by decide +kernel
theorem dX8_holds_7 : decode cX8_holds 7 = .ok (.ifnull 11, 3) := by decide +kernel
theorem dX8_holds_10 : decode cX8_holds 10 = .ok (.bipush 100, 2) := by decide +kernel
theorem dX8_holds_12 : decode cX8_holds 12 = .ok (.aload_n 2, 1) := by decide +kernel
theorem dX8_holds_13 : decode cX8_holds 13 = .ok (.getfield 71, 3) := by decide +kernel
theorem dX8_holds_16 : decode cX8_holds 16 = .ok (.iadd, 1) := by decide +kernel
theorem dX8_holds_17 : decode cX8_holds 17 = .ok (.ireturn, 1) := by decide +kernel
theorem dX8_holds_18 : decode cX8_holds 18 = .ok (.iload_n 1, 1) := by decide +kernel
theorem dX8_holds_19 : decode cX8_holds 19 = .ok (.invokestatic 46, 3) := by decide +kernel
theorem dX8_holds_22 : decode cX8_holds 22 = .ok (.ifCond .eq 12, 3) := by decide +kernel
theorem dX8_holds_25 : decode cX8_holds 25 = .ok (.aload_n 0, 1) := by decide +kernel
theorem dX8_holds_26 : decode cX8_holds 26 = .ok (.getfield 15, 3) := by decide +kernel
theorem dX8_holds_29 : decode cX8_holds 29 = .ok (.iload_n 1, 1) := by decide +kernel
theorem dX8_holds_30 : decode cX8_holds 30 = .ok (.iaload, 1) := by decide +kernel
theorem dX8_holds_31 : decode cX8_holds 31 = .ok (.goto 4, 3) := by decide +kernel
theorem dX8_holds_34 : decode cX8_holds 34 = .ok (.iconst (-1), 1) := by decide +kernel
theorem dX8_holds_35 : decode cX8_holds 35 = .ok (.ireturn, 1) := by decide +kernel
theorem dX8_says_0 : decode cX8_says 0 = .ok (.iload_n 1, 1) := by decide +kernel
theorem dX8_says_1 : decode cX8_says 1 = .ok (.invokestatic 46, 3) := by decide +kernel
theorem dX8_says_4 : decode cX8_says 4 = .ok (.ifCond .eq 12, 3) := by decide +kernel
theorem dX8_says_7 : decode cX8_says 7 = .ok (.iload_n 2, 1) := by decide +kernel
theorem dX8_says_8 : decode cX8_says 8 = .ok (.ifCond .lt 8, 3) := by decide +kernel
theorem dX8_says_11 : decode cX8_says 11 = .ok (.iload_n 2, 1) := by decide +kernel
theorem dX8_says_12 : decode cX8_says 12 = .ok (.iconst 3, 1) := by decide +kernel
theorem dX8_says_13 : decode cX8_says 13 = .ok (.if_icmp .le 9, 3) := by decide +kernel
theorem dX8_says_16 : decode cX8_says 16 = .ok (.aload_n 0, 1) := by decide +kernel
theorem dX8_says_17 : decode cX8_says 17 = .ok (.iconst (-1), 1) := by decide +kernel
theorem dX8_says_18 : decode cX8_says 18 = .ok (.invokevirtual 50, 3) := by decide +kernel
theorem dX8_says_21 : decode cX8_says 21 = .ok (.ireturn, 1) := by decide +kernel
theorem dX8_says_22 : decode cX8_says 22 = .ok (.aload_n 0, 1) := by decide +kernel
theorem dX8_says_23 : decode cX8_says 23 = .ok (.iload_n 1, 1) := by decide +kernel
theorem dX8_says_24 : decode cX8_says 24 = .ok (.invokevirtual 57, 3) := by decide +kernel
theorem dX8_says_27 : decode cX8_says 27 = .ok (.ifnull 10, 3) := by decide +kernel
theorem dX8_says_30 : decode cX8_says 30 = .ok (.aload_n 0, 1) := by decide +kernel
theorem dX8_says_31 : decode cX8_says 31 = .ok (.bipush (-2), 2) := by decide +kernel
theorem dX8_says_33 : decode cX8_says 33 = .ok (.invokevirtual 50, 3) := by decide +kernel
theorem dX8_says_36 : decode cX8_says 36 = .ok (.ireturn, 1) := by decide +kernel
theorem dX8_says_37 : decode cX8_says 37 = .ok (.aload_n 0, 1) := by decide +kernel
theorem dX8_says_38 : decode cX8_says 38 = .ok (.aload_n 0, 1) := by decide +kernel
theorem dX8_says_39 : decode cX8_says 39 = .ok (.getfield 15, 3) := by decide +kernel
theorem dX8_says_42 : decode cX8_says 42 = .ok (.iload_n 1, 1) := by decide +kernel
theorem dX8_says_43 : decode cX8_says 43 = .ok (.iaload, 1) := by decide +kernel
theorem dX8_says_44 : decode cX8_says 44 = .ok (.invokevirtual 92, 3) := by decide +kernel
theorem dX8_says_47 : decode cX8_says 47 = .ok (.astore_n 3, 1) := by decide +kernel
theorem dX8_says_48 : decode cX8_says 48 = .ok (.aload_n 3, 1) := by decide +kernel
theorem dX8_says_49 : decode cX8_says 49 = .ok (.ifnonnull 10, 3) := by decide +kernel
theorem dX8_says_52 : decode cX8_says 52 = .ok (.aload_n 0, 1) := by decide +kernel
theorem dX8_says_53 : decode cX8_says 53 = .ok (.bipush (-3), 2) := by decide +kernel
theorem dX8_says_55 : decode cX8_says 55 = .ok (.invokevirtual 50, 3) := by decide +kernel
theorem dX8_says_58 : decode cX8_says 58 = .ok (.ireturn, 1) := by decide +kernel
theorem dX8_says_59 : decode cX8_says 59 = .ok (.aload_n 3, 1) := by decide +kernel
theorem dX8_says_60 : decode cX8_says 60 = .ok (.iload_n 2, 1) := by decide +kernel
theorem dX8_says_61 : decode cX8_says 61 = .ok (.invokevirtual 96, 3) := by decide +kernel
theorem dX8_says_64 : decode cX8_says 64 = .ok (.ifCond .ne 10, 3) := by decide +kernel
theorem dX8_says_67 : decode cX8_says 67 = .ok (.aload_n 0, 1) := by decide +kernel
theorem dX8_says_68 : decode cX8_says 68 = .ok (.bipush (-2), 2) := by decide +kernel
theorem dX8_says_70 : decode cX8_says 70 = .ok (.invokevirtual 50, 3) := by decide +kernel
theorem dX8_says_73 : decode cX8_says 73 = .ok (.ireturn, 1) := by decide +kernel
theorem dX8_says_74 : decode cX8_says 74 = .ok (.aload_n 3, 1) := by decide +kernel
theorem dX8_says_75 : decode cX8_says 75 = .ok (.iload_n 2, 1) := by decide +kernel
theorem dX8_says_76 : decode cX8_says 76 = .ok (.invokevirtual 101, 3) := by decide +kernel
theorem dX8_says_79 : decode cX8_says 79 = .ok (.ireturn, 1) := by decide +kernel
theorem dX8_tree_0 : decode cX8_tree 0 = .ok (.aload_n 0, 1) := by decide +kernel
theorem dX8_tree_1 : decode cX8_tree 1 = .ok (.iload_n 1, 1) := by decide +kernel
theorem dX8_tree_2 : decode cX8_tree 2 = .ok (.invokevirtual 57, 3) := by decide +kernel
theorem dX8_tree_5 : decode cX8_tree 5 = .ok (.astore_n 2, 1) := by decide +kernel
theorem dX8_tree_6 : decode cX8_tree 6 = .ok (.aload_n 2, 1) := by decide +kernel
theorem dX8_tree_7 : decode cX8_tree 7 = .ok (.ifnonnull 13, 3) := by decide +kernel
theorem dX8_tree_10 : decode cX8_tree 10 = .ok (.aload_n 0, 1) := by decide +kernel
theorem dX8_tree_11 : decode cX8_tree 11 = .ok (.aload_n 0, 1) := by decide +kernel
theorem dX8_tree_12 : decode cX8_tree 12 = .ok (.iload_n 1, 1) := by decide +kernel
theorem dX8_tree_13 : decode cX8_tree 13 = .ok (.invokevirtual 61, 3) := by decide +kernel
theorem dX8_tree_16 : decode cX8_tree 16 = .ok (.invokevirtual 50, 3) := by decide +kernel
theorem dX8_tree_19 : decode cX8_tree 19 = .ok (.ireturn, 1) := by decide +kernel
theorem dX8_tree_20 : decode cX8_tree 20 = .ok (.new 104, 3) := by decide +kernel
theorem dX8_tree_23 : decode cX8_tree 23 = .ok (.dup, 1) := by decide +kernel
theorem dX8_tree_24 : decode cX8_tree 24 = .ok (.aload_n 2, 1) := by decide +kernel
theorem dX8_tree_25 : decode cX8_tree 25 = .ok (.invokespecial 106, 3) := by decide +kernel
theorem dX8_tree_28 : decode cX8_tree 28 = .ok (.astore_n 3, 1) := by decide +kernel
theorem dX8_tree_29 : decode cX8_tree 29 = .ok (.aload_n 0, 1) := by decide +kernel
theorem dX8_tree_30 : decode cX8_tree 30 = .ok (.aload_n 3, 1) := by decide +kernel
theorem dX8_tree_31 : decode cX8_tree 31 = .ok (.invokevirtual 109, 3) := by decide +kernel
theorem dX8_tree_34 : decode cX8_tree 34 = .ok (.putfield 39, 3) := by decide +kernel
theorem dX8_tree_37 : decode cX8_tree 37 = .ok (.aload_n 0, 1) := by decide +kernel
theorem dX8_tree_38 : decode cX8_tree 38 = .ok (.getfield 39, 3) := by decide +kernel
theorem dX8_tree_41 : decode cX8_tree 41 = .ok (.iconst (-1), 1) := by decide +kernel
theorem dX8_tree_42 : decode cX8_tree 42 = .ok (.if_icmp .eq 10, 3) := by decide +kernel
theorem dX8_tree_45 : decode cX8_tree 45 = .ok (.aload_n 0, 1) := by decide +kernel
theorem dX8_tree_46 : decode cX8_tree 46 = .ok (.bipush (-6), 2) := by decide +kernel
theorem dX8_tree_48 : decode cX8_tree 48 = .ok (.invokevirtual 50, 3) := by decide +kernel
theorem dX8_tree_51 : decode cX8_tree 51 = .ok (.ireturn, 1) := by decide +kernel
theorem dX8_tree_52 : decode cX8_tree 52 = .ok (.aload_n 0, 1) := by decide +kernel
theorem dX8_tree_53 : decode cX8_tree 53 = .ok (.getfield 32, 3) := by decide +kernel
theorem dX8_tree_56 : decode cX8_tree 56 = .ok (.aload_n 3, 1) := by decide +kernel
theorem dX8_tree_57 : decode cX8_tree 57 = .ok (.getfield 113, 3) := by decide +kernel
theorem dX8_tree_60 : decode cX8_tree 60 = .ok (.invokevirtual 117, 3) := by decide +kernel
theorem dX8_tree_63 : decode cX8_tree 63 = .ok (.istore 4, 2) := by decide +kernel
theorem dX8_tree_65 : decode cX8_tree 65 = .ok (.iload 4, 2) := by decide +kernel
theorem dX8_tree_67 : decode cX8_tree 67 = .ok (.iconst (-1), 1) := by decide +kernel
theorem dX8_tree_68 : decode cX8_tree 68 = .ok (.if_icmp .ne 12, 3) := by decide +kernel
theorem dX8_tree_71 : decode cX8_tree 71 = .ok (.aload_n 0, 1) := by decide +kernel
theorem dX8_tree_72 : decode cX8_tree 72 = .ok (.bipush (-7), 2) := by decide +kernel
theorem dX8_tree_74 : decode cX8_tree 74 = .ok (.invokevirtual 50, 3) := by decide +kernel
theorem dX8_tree_77 : decode cX8_tree 77 = .ok (.goto 5, 3) := by decide +kernel
theorem dX8_tree_80 : decode cX8_tree 80 = .ok (.iload 4, 2) := by decide +kernel
theorem dX8_tree_82 : decode cX8_tree 82 = .ok (.ireturn, 1) := by decide +kernel
theorem dX8_fault_0 : decode cX8_fault 0 = .ok (.aload_n 0, 1) := by decide +kernel
theorem dX8_fault_1 : decode cX8_fault 1 = .ok (.getfield 39, 3) := by decide +kernel
theorem dX8_fault_4 : decode cX8_fault 4 = .ok (.ireturn, 1) := by decide +kernel
theorem dX8_nodes_0 : decode cX8_nodes 0 = .ok (.aload_n 0, 1) := by decide +kernel
theorem dX8_nodes_1 : decode cX8_nodes 1 = .ok (.iload_n 1, 1) := by decide +kernel
theorem dX8_nodes_2 : decode cX8_nodes 2 = .ok (.invokevirtual 121, 3) := by decide +kernel
theorem dX8_nodes_5 : decode cX8_nodes 5 = .ok (.astore_n 2, 1) := by decide +kernel
theorem dX8_nodes_6 : decode cX8_nodes 6 = .ok (.aload_n 2, 1) := by decide +kernel
theorem dX8_nodes_7 : decode cX8_nodes 7 = .ok (.ifnonnull 11, 3) := by decide +kernel
theorem dX8_nodes_10 : decode cX8_nodes 10 = .ok (.aload_n 0, 1) := by decide +kernel
theorem dX8_nodes_11 : decode cX8_nodes 11 = .ok (.iconst (-1), 1) := by decide +kernel
theorem dX8_nodes_12 : decode cX8_nodes 12 = .ok (.invokevirtual 50, 3) := by decide +kernel
theorem dX8_nodes_15 : decode cX8_nodes 15 = .ok (.goto 7, 3) := by decide +kernel
theorem dX8_nodes_18 : decode cX8_nodes 18 = .ok (.aload_n 2, 1) := by decide +kernel
theorem dX8_nodes_19 : decode cX8_nodes 19 = .ok (.getfield 125, 3) := by decide +kernel
theorem dX8_nodes_22 : decode cX8_nodes 22 = .ok (.ireturn, 1) := by decide +kernel
theorem dX8_node_0 : decode cX8_node 0 = .ok (.aload_n 0, 1) := by decide +kernel
theorem dX8_node_1 : decode cX8_node 1 = .ok (.iload_n 1, 1) := by decide +kernel
theorem dX8_node_2 : decode cX8_node 2 = .ok (.invokevirtual 121, 3) := by decide +kernel
theorem dX8_node_5 : decode cX8_node 5 = .ok (.astore 4, 2) := by decide +kernel
theorem dX8_node_7 : decode cX8_node 7 = .ok (.aload 4, 2) := by decide +kernel
theorem dX8_node_9 : decode cX8_node 9 = .ok (.ifnonnull 9, 3) := by decide +kernel
theorem dX8_node_12 : decode cX8_node 12 = .ok (.aload_n 0, 1) := by decide +kernel
theorem dX8_node_13 : decode cX8_node 13 = .ok (.iconst (-1), 1) := by decide +kernel
theorem dX8_node_14 : decode cX8_node 14 = .ok (.invokevirtual 50, 3) := by decide +kernel
theorem dX8_node_17 : decode cX8_node 17 = .ok (.ireturn, 1) := by decide +kernel
theorem dX8_node_18 : decode cX8_node 18 = .ok (.aload 4, 2) := by decide +kernel
theorem dX8_node_20 : decode cX8_node 20 = .ok (.iload_n 2, 1) := by decide +kernel
theorem dX8_node_21 : decode cX8_node 21 = .ok (.invokevirtual 130, 3) := by decide +kernel
theorem dX8_node_24 : decode cX8_node 24 = .ok (.ifCond .ne 10, 3) := by decide +kernel
theorem dX8_node_27 : decode cX8_node 27 = .ok (.aload_n 0, 1) := by decide +kernel
theorem dX8_node_28 : decode cX8_node 28 = .ok (.bipush (-5), 2) := by decide +kernel
theorem dX8_node_30 : decode cX8_node 30 = .ok (.invokevirtual 50, 3) := by decide +kernel
theorem dX8_node_33 : decode cX8_node 33 = .ok (.ireturn, 1) := by decide +kernel
theorem dX8_node_34 : decode cX8_node 34 = .ok (.iload_n 3, 1) := by decide +kernel
theorem dX8_node_35 : decode cX8_node 35 = .ok (.tableswitch 92 0 6 #[41, 48, 55, 62, 69, 76, 83], 41) := by decide +kernel
theorem dX8_node_76 : decode cX8_node 76 = .ok (.aload 4, 2) := by decide +kernel
theorem dX8_node_78 : decode cX8_node 78 = .ok (.iload_n 2, 1) := by decide +kernel
theorem dX8_node_79 : decode cX8_node 79 = .ok (.invokevirtual 131, 3) := by decide +kernel
theorem dX8_node_82 : decode cX8_node 82 = .ok (.ireturn, 1) := by decide +kernel
theorem dX8_node_83 : decode cX8_node 83 = .ok (.aload 4, 2) := by decide +kernel
theorem dX8_node_85 : decode cX8_node 85 = .ok (.iload_n 2, 1) := by decide +kernel
theorem dX8_node_86 : decode cX8_node 86 = .ok (.invokevirtual 134, 3) := by decide +kernel
theorem dX8_node_89 : decode cX8_node 89 = .ok (.ireturn, 1) := by decide +kernel
theorem dX8_node_90 : decode cX8_node 90 = .ok (.aload 4, 2) := by decide +kernel
theorem dX8_node_92 : decode cX8_node 92 = .ok (.iload_n 2, 1) := by decide +kernel
theorem dX8_node_93 : decode cX8_node 93 = .ok (.invokevirtual 137, 3) := by decide +kernel
theorem dX8_node_96 : decode cX8_node 96 = .ok (.ireturn, 1) := by decide +kernel
theorem dX8_node_97 : decode cX8_node 97 = .ok (.aload 4, 2) := by decide +kernel
theorem dX8_node_99 : decode cX8_node 99 = .ok (.iload_n 2, 1) := by decide +kernel
theorem dX8_node_100 : decode cX8_node 100 = .ok (.invokevirtual 140, 3) := by decide +kernel
theorem dX8_node_103 : decode cX8_node 103 = .ok (.ireturn, 1) := by decide +kernel
theorem dX8_node_104 : decode cX8_node 104 = .ok (.aload 4, 2) := by decide +kernel
theorem dX8_node_106 : decode cX8_node 106 = .ok (.iload_n 2, 1) := by decide +kernel
theorem dX8_node_107 : decode cX8_node 107 = .ok (.invokevirtual 143, 3) := by decide +kernel
theorem dX8_node_110 : decode cX8_node 110 = .ok (.ireturn, 1) := by decide +kernel
theorem dX8_node_111 : decode cX8_node 111 = .ok (.aload 4, 2) := by decide +kernel
theorem dX8_node_113 : decode cX8_node 113 = .ok (.iload_n 2, 1) := by decide +kernel
theorem dX8_node_114 : decode cX8_node 114 = .ok (.invokevirtual 146, 3) := by decide +kernel
theorem dX8_node_117 : decode cX8_node 117 = .ok (.ireturn, 1) := by decide +kernel
theorem dX8_node_118 : decode cX8_node 118 = .ok (.aload 4, 2) := by decide +kernel
theorem dX8_node_120 : decode cX8_node 120 = .ok (.iload_n 2, 1) := by decide +kernel
theorem dX8_node_121 : decode cX8_node 121 = .ok (.invokevirtual 149, 3) := by decide +kernel
theorem dX8_node_124 : decode cX8_node 124 = .ok (.iload_n 2, 1) := by decide +kernel
theorem dX8_node_125 : decode cX8_node 125 = .ok (.isub, 1) := by decide +kernel
theorem dX8_node_126 : decode cX8_node 126 = .ok (.ireturn, 1) := by decide +kernel
theorem dX8_node_127 : decode cX8_node 127 = .ok (.aload_n 0, 1) := by decide +kernel
theorem dX8_node_128 : decode cX8_node 128 = .ok (.bipush (-5), 2) := by decide +kernel
theorem dX8_node_130 : decode cX8_node 130 = .ok (.invokevirtual 50, 3) := by decide +kernel
theorem dX8_node_133 : decode cX8_node 133 = .ok (.ireturn, 1) := by decide +kernel
theorem dX8_find_0 : decode cX8_find 0 = .ok (.aload_n 0, 1) := by decide +kernel
theorem dX8_find_1 : decode cX8_find 1 = .ok (.iload_n 1, 1) := by decide +kernel
theorem dX8_find_2 : decode cX8_find 2 = .ok (.invokevirtual 121, 3) := by decide +kernel
theorem dX8_find_5 : decode cX8_find 5 = .ok (.astore_n 3, 1) := by decide +kernel
theorem dX8_find_6 : decode cX8_find 6 = .ok (.aload_n 3, 1) := by decide +kernel
theorem dX8_find_7 : decode cX8_find 7 = .ok (.ifnonnull 11, 3) := by decide +kernel
theorem dX8_find_10 : decode cX8_find 10 = .ok (.aload_n 0, 1) := by decide +kernel
theorem dX8_find_11 : decode cX8_find 11 = .ok (.iconst (-1), 1) := by decide +kernel
theorem dX8_find_12 : decode cX8_find 12 = .ok (.invokevirtual 152, 3) := by decide +kernel
theorem dX8_find_15 : decode cX8_find 15 = .ok (.goto 8, 3) := by decide +kernel
theorem dX8_find_18 : decode cX8_find 18 = .ok (.aload_n 3, 1) := by decide +kernel
theorem dX8_find_19 : decode cX8_find 19 = .ok (.iload_n 2, 1) := by decide +kernel
theorem dX8_find_20 : decode cX8_find 20 = .ok (.invokevirtual 155, 3) := by decide +kernel
theorem dX8_find_23 : decode cX8_find 23 = .ok (.ireturn, 1) := by decide +kernel
theorem dX8_child_0 : decode cX8_child 0 = .ok (.aload_n 0, 1) := by decide +kernel
theorem dX8_child_1 : decode cX8_child 1 = .ok (.iload_n 1, 1) := by decide +kernel
theorem dX8_child_2 : decode cX8_child 2 = .ok (.invokevirtual 121, 3) := by decide +kernel
theorem dX8_child_5 : decode cX8_child 5 = .ok (.astore 4, 2) := by decide +kernel
theorem dX8_child_7 : decode cX8_child 7 = .ok (.aload 4, 2) := by decide +kernel
theorem dX8_child_9 : decode cX8_child 9 = .ok (.ifnonnull 9, 3) := by decide +kernel
theorem dX8_child_12 : decode cX8_child 12 = .ok (.aload_n 0, 1) := by decide +kernel
theorem dX8_child_13 : decode cX8_child 13 = .ok (.iconst (-1), 1) := by decide +kernel
theorem dX8_child_14 : decode cX8_child 14 = .ok (.invokevirtual 50, 3) := by decide +kernel
theorem dX8_child_17 : decode cX8_child 17 = .ok (.ireturn, 1) := by decide +kernel
theorem dX8_child_18 : decode cX8_child 18 = .ok (.aload 4, 2) := by decide +kernel
theorem dX8_child_20 : decode cX8_child 20 = .ok (.iload_n 2, 1) := by decide +kernel
theorem dX8_child_21 : decode cX8_child 21 = .ok (.invokevirtual 155, 3) := by decide +kernel
theorem dX8_child_24 : decode cX8_child 24 = .ok (.istore 5, 2) := by decide +kernel
theorem dX8_child_26 : decode cX8_child 26 = .ok (.iload 5, 2) := by decide +kernel
theorem dX8_child_28 : decode cX8_child 28 = .ok (.iconst (-1), 1) := by decide +kernel
theorem dX8_child_29 : decode cX8_child 29 = .ok (.if_icmp .eq 18, 3) := by decide +kernel
theorem dX8_child_32 : decode cX8_child 32 = .ok (.iload_n 3, 1) := by decide +kernel
theorem dX8_child_33 : decode cX8_child 33 = .ok (.ifCond .lt 14, 3) := by decide +kernel
theorem dX8_child_36 : decode cX8_child 36 = .ok (.iload_n 3, 1) := by decide +kernel
theorem dX8_child_37 : decode cX8_child 37 = .ok (.aload 4, 2) := by decide +kernel
theorem dX8_child_39 : decode cX8_child 39 = .ok (.iload 5, 2) := by decide +kernel
theorem dX8_child_41 : decode cX8_child 41 = .ok (.invokevirtual 143, 3) := by decide +kernel
theorem dX8_child_44 : decode cX8_child 44 = .ok (.if_icmp .lt 10, 3) := by decide +kernel
theorem dX8_child_47 : decode cX8_child 47 = .ok (.aload_n 0, 1) := by decide +kernel
theorem dX8_child_48 : decode cX8_child 48 = .ok (.bipush (-5), 2) := by decide +kernel
theorem dX8_child_50 : decode cX8_child 50 = .ok (.invokevirtual 50, 3) := by decide +kernel
theorem dX8_child_53 : decode cX8_child 53 = .ok (.ireturn, 1) := by decide +kernel
theorem dX8_child_54 : decode cX8_child 54 = .ok (.aload 4, 2) := by decide +kernel
theorem dX8_child_56 : decode cX8_child 56 = .ok (.aload 4, 2) := by decide +kernel
theorem dX8_child_58 : decode cX8_child 58 = .ok (.iload 5, 2) := by decide +kernel
theorem dX8_child_60 : decode cX8_child 60 = .ok (.iload_n 3, 1) := by decide +kernel
theorem dX8_child_61 : decode cX8_child 61 = .ok (.iconst (-1), 1) := by decide +kernel
theorem dX8_child_62 : decode cX8_child 62 = .ok (.invokevirtual 158, 3) := by decide +kernel
theorem dX8_child_65 : decode cX8_child 65 = .ok (.invokevirtual 131, 3) := by decide +kernel
theorem dX8_child_68 : decode cX8_child 68 = .ok (.ireturn, 1) := by decide +kernel
theorem dX8_above_0 : decode cX8_above 0 = .ok (.aload_n 0, 1) := by decide +kernel
theorem dX8_above_1 : decode cX8_above 1 = .ok (.iload_n 1, 1) := by decide +kernel
theorem dX8_above_2 : decode cX8_above 2 = .ok (.invokevirtual 121, 3) := by decide +kernel
theorem dX8_above_5 : decode cX8_above 5 = .ok (.astore 4, 2) := by decide +kernel
theorem dX8_above_7 : decode cX8_above 7 = .ok (.aload 4, 2) := by decide +kernel
theorem dX8_above_9 : decode cX8_above 9 = .ok (.ifnonnull 9, 3) := by decide +kernel
theorem dX8_above_12 : decode cX8_above 12 = .ok (.aload_n 0, 1) := by decide +kernel
theorem dX8_above_13 : decode cX8_above 13 = .ok (.iconst (-1), 1) := by decide +kernel
theorem dX8_above_14 : decode cX8_above 14 = .ok (.invokevirtual 50, 3) := by decide +kernel
theorem dX8_above_17 : decode cX8_above 17 = .ok (.ireturn, 1) := by decide +kernel
theorem dX8_above_18 : decode cX8_above 18 = .ok (.aload 4, 2) := by decide +kernel
theorem dX8_above_20 : decode cX8_above 20 = .ok (.iload_n 2, 1) := by decide +kernel
theorem dX8_above_21 : decode cX8_above 21 = .ok (.invokevirtual 155, 3) := by decide +kernel
theorem dX8_above_24 : decode cX8_above 24 = .ok (.istore 5, 2) := by decide +kernel
theorem dX8_above_26 : decode cX8_above 26 = .ok (.aload 4, 2) := by decide +kernel
theorem dX8_above_28 : decode cX8_above 28 = .ok (.iload_n 3, 1) := by decide +kernel
theorem dX8_above_29 : decode cX8_above 29 = .ok (.invokevirtual 155, 3) := by decide +kernel
theorem dX8_above_32 : decode cX8_above 32 = .ok (.istore 6, 2) := by decide +kernel
theorem dX8_above_34 : decode cX8_above 34 = .ok (.iload 5, 2) := by decide +kernel
theorem dX8_above_36 : decode cX8_above 36 = .ok (.iconst (-1), 1) := by decide +kernel
theorem dX8_above_37 : decode cX8_above 37 = .ok (.if_icmp .eq 9, 3) := by decide +kernel
theorem dX8_above_40 : decode cX8_above 40 = .ok (.iload 6, 2) := by decide +kernel
theorem dX8_above_42 : decode cX8_above 42 = .ok (.iconst (-1), 1) := by decide +kernel
theorem dX8_above_43 : decode cX8_above 43 = .ok (.if_icmp .ne 10, 3) := by decide +kernel
theorem dX8_above_46 : decode cX8_above 46 = .ok (.aload_n 0, 1) := by decide +kernel
theorem dX8_above_47 : decode cX8_above 47 = .ok (.bipush (-5), 2) := by decide +kernel
theorem dX8_above_49 : decode cX8_above 49 = .ok (.invokevirtual 50, 3) := by decide +kernel
theorem dX8_above_52 : decode cX8_above 52 = .ok (.ireturn, 1) := by decide +kernel
theorem dX8_above_53 : decode cX8_above 53 = .ok (.aload 4, 2) := by decide +kernel
theorem dX8_above_55 : decode cX8_above 55 = .ok (.aload 4, 2) := by decide +kernel
theorem dX8_above_57 : decode cX8_above 57 = .ok (.iload 5, 2) := by decide +kernel
theorem dX8_above_59 : decode cX8_above 59 = .ok (.iload 6, 2) := by decide +kernel
theorem dX8_above_61 : decode cX8_above 61 = .ok (.invokevirtual 162, 3) := by decide +kernel
theorem dX8_above_64 : decode cX8_above 64 = .ok (.invokevirtual 131, 3) := by decide +kernel
theorem dX8_above_67 : decode cX8_above 67 = .ok (.ireturn, 1) := by decide +kernel
theorem dX8_same_0 : decode cX8_same 0 = .ok (.aload_n 0, 1) := by decide +kernel
theorem dX8_same_1 : decode cX8_same 1 = .ok (.iload_n 1, 1) := by decide +kernel
theorem dX8_same_2 : decode cX8_same 2 = .ok (.invokevirtual 121, 3) := by decide +kernel
theorem dX8_same_5 : decode cX8_same 5 = .ok (.astore_n 3, 1) := by decide +kernel
theorem dX8_same_6 : decode cX8_same 6 = .ok (.aload_n 0, 1) := by decide +kernel
theorem dX8_same_7 : decode cX8_same 7 = .ok (.iload_n 2, 1) := by decide +kernel
theorem dX8_same_8 : decode cX8_same 8 = .ok (.invokevirtual 121, 3) := by decide +kernel
theorem dX8_same_11 : decode cX8_same 11 = .ok (.astore 4, 2) := by decide +kernel
theorem dX8_same_13 : decode cX8_same 13 = .ok (.aload_n 3, 1) := by decide +kernel
theorem dX8_same_14 : decode cX8_same 14 = .ok (.ifnull 8, 3) := by decide +kernel
theorem dX8_same_17 : decode cX8_same 17 = .ok (.aload 4, 2) := by decide +kernel
theorem dX8_same_19 : decode cX8_same 19 = .ok (.ifnonnull 9, 3) := by decide +kernel
theorem dX8_same_22 : decode cX8_same 22 = .ok (.aload_n 0, 1) := by decide +kernel
theorem dX8_same_23 : decode cX8_same 23 = .ok (.iconst (-1), 1) := by decide +kernel
theorem dX8_same_24 : decode cX8_same 24 = .ok (.invokevirtual 50, 3) := by decide +kernel
theorem dX8_same_27 : decode cX8_same 27 = .ok (.ireturn, 1) := by decide +kernel
theorem dX8_same_28 : decode cX8_same 28 = .ok (.aload_n 3, 1) := by decide +kernel
theorem dX8_same_29 : decode cX8_same 29 = .ok (.aload 4, 2) := by decide +kernel
theorem dX8_same_31 : decode cX8_same 31 = .ok (.invokevirtual 166, 3) := by decide +kernel
theorem dX8_same_34 : decode cX8_same 34 = .ok (.iconst 1, 1) := by decide +kernel
theorem dX8_same_35 : decode cX8_same 35 = .ok (.iadd, 1) := by decide +kernel
theorem dX8_same_36 : decode cX8_same 36 = .ok (.ireturn, 1) := by decide +kernel
theorem dX8_drop_0 : decode cX8_drop 0 = .ok (.aload_n 0, 1) := by decide +kernel
theorem dX8_drop_1 : decode cX8_drop 1 = .ok (.iload_n 1, 1) := by decide +kernel
theorem dX8_drop_2 : decode cX8_drop 2 = .ok (.invokevirtual 121, 3) := by decide +kernel
theorem dX8_drop_5 : decode cX8_drop 5 = .ok (.ifnonnull 9, 3) := by decide +kernel
theorem dX8_drop_8 : decode cX8_drop 8 = .ok (.aload_n 0, 1) := by decide +kernel
theorem dX8_drop_9 : decode cX8_drop 9 = .ok (.iconst (-1), 1) := by decide +kernel
theorem dX8_drop_10 : decode cX8_drop 10 = .ok (.invokevirtual 50, 3) := by decide +kernel
theorem dX8_drop_13 : decode cX8_drop 13 = .ok (.ireturn, 1) := by decide +kernel
theorem dX8_drop_14 : decode cX8_drop 14 = .ok (.iload_n 1, 1) := by decide +kernel
theorem dX8_drop_15 : decode cX8_drop 15 = .ok (.aload_n 0, 1) := by decide +kernel
theorem dX8_drop_16 : decode cX8_drop 16 = .ok (.getfield 32, 3) := by decide +kernel
theorem dX8_drop_19 : decode cX8_drop 19 = .ok (.getfield 169, 3) := by decide +kernel
theorem dX8_drop_22 : decode cX8_drop 22 = .ok (.iconst 1, 1) := by decide +kernel
theorem dX8_drop_23 : decode cX8_drop 23 = .ok (.isub, 1) := by decide +kernel
theorem dX8_drop_24 : decode cX8_drop 24 = .ok (.if_icmp .eq 10, 3) := by decide +kernel
theorem dX8_drop_27 : decode cX8_drop 27 = .ok (.aload_n 0, 1) := by decide +kernel
theorem dX8_drop_28 : decode cX8_drop 28 = .ok (.bipush (-6), 2) := by decide +kernel
theorem dX8_drop_30 : decode cX8_drop 30 = .ok (.invokevirtual 50, 3) := by decide +kernel
theorem dX8_drop_33 : decode cX8_drop 33 = .ok (.ireturn, 1) := by decide +kernel
theorem dX8_drop_34 : decode cX8_drop 34 = .ok (.aload_n 0, 1) := by decide +kernel
theorem dX8_drop_35 : decode cX8_drop 35 = .ok (.getfield 32, 3) := by decide +kernel
theorem dX8_drop_38 : decode cX8_drop 38 = .ok (.invokevirtual 172, 3) := by decide +kernel
theorem dX8_drop_41 : decode cX8_drop 41 = .ok (.aload_n 0, 1) := by decide +kernel
theorem dX8_drop_42 : decode cX8_drop 42 = .ok (.getfield 32, 3) := by decide +kernel
theorem dX8_drop_45 : decode cX8_drop 45 = .ok (.getfield 169, 3) := by decide +kernel
theorem dX8_drop_48 : decode cX8_drop 48 = .ok (.ireturn, 1) := by decide +kernel
theorem dX8_difference_0 : decode cX8_difference 0 = .ok (.aload_n 0, 1) := by decide +kernel
theorem dX8_difference_1 : decode cX8_difference 1 = .ok (.getfield 25, 3) := by decide +kernel
theorem dX8_difference_4 : decode cX8_difference 4 = .ok (.aload_n 0, 1) := by decide +kernel
theorem dX8_difference_5 : decode cX8_difference 5 = .ok (.iload_n 1, 1) := by decide +kernel
theorem dX8_difference_6 : decode cX8_difference 6 = .ok (.invokevirtual 121, 3) := by decide +kernel
theorem dX8_difference_9 : decode cX8_difference 9 = .ok (.aload_n 0, 1) := by decide +kernel
theorem dX8_difference_10 : decode cX8_difference 10 = .ok (.iload_n 2, 1) := by decide +kernel
theorem dX8_difference_11 : decode cX8_difference 11 = .ok (.invokevirtual 121, 3) := by decide +kernel
theorem dX8_difference_14 : decode cX8_difference 14 = .ok (.invokestatic 175, 3) := by decide +kernel
theorem dX8_difference_17 : decode cX8_difference 17 = .ok (.istore_n 3, 1) := by decide +kernel
theorem dX8_difference_18 : decode cX8_difference 18 = .ok (.iload_n 3, 1) := by decide +kernel
theorem dX8_difference_19 : decode cX8_difference 19 = .ok (.ifCond .ne 12, 3) := by decide +kernel
theorem dX8_difference_22 : decode cX8_difference 22 = .ok (.aload_n 0, 1) := by decide +kernel
theorem dX8_difference_23 : decode cX8_difference 23 = .ok (.iconst 1, 1) := by decide +kernel
theorem dX8_difference_24 : decode cX8_difference 24 = .ok (.iconst (-1), 1) := by decide +kernel
theorem dX8_difference_25 : decode cX8_difference 25 = .ok (.invokevirtual 181, 3) := by decide +kernel
theorem dX8_difference_28 : decode cX8_difference 28 = .ok (.goto 8, 3) := by decide +kernel
theorem dX8_difference_31 : decode cX8_difference 31 = .ok (.aload_n 0, 1) := by decide +kernel
theorem dX8_difference_32 : decode cX8_difference 32 = .ok (.iload_n 3, 1) := by decide +kernel
theorem dX8_difference_33 : decode cX8_difference 33 = .ok (.invokevirtual 50, 3) := by decide +kernel
theorem dX8_difference_36 : decode cX8_difference 36 = .ok (.ireturn, 1) := by decide +kernel
theorem dX8_far_0 : decode cX8_far 0 = .ok (.aload_n 0, 1) := by decide +kernel
theorem dX8_far_1 : decode cX8_far 1 = .ok (.getfield 25, 3) := by decide +kernel
theorem dX8_far_4 : decode cX8_far 4 = .ok (.aload_n 0, 1) := by decide +kernel
theorem dX8_far_5 : decode cX8_far 5 = .ok (.iload_n 1, 1) := by decide +kernel
theorem dX8_far_6 : decode cX8_far 6 = .ok (.invokevirtual 121, 3) := by decide +kernel
theorem dX8_far_9 : decode cX8_far 9 = .ok (.aload_n 0, 1) := by decide +kernel
theorem dX8_far_10 : decode cX8_far 10 = .ok (.iload_n 2, 1) := by decide +kernel
theorem dX8_far_11 : decode cX8_far 11 = .ok (.invokevirtual 121, 3) := by decide +kernel
theorem dX8_far_14 : decode cX8_far 14 = .ok (.invokestatic 175, 3) := by decide +kernel
theorem dX8_far_17 : decode cX8_far 17 = .ok (.istore_n 3, 1) := by decide +kernel
theorem dX8_far_18 : decode cX8_far 18 = .ok (.iload_n 3, 1) := by decide +kernel
theorem dX8_far_19 : decode cX8_far 19 = .ok (.ifCond .ne 13, 3) := by decide +kernel
theorem dX8_far_22 : decode cX8_far 22 = .ok (.aload_n 0, 1) := by decide +kernel
theorem dX8_far_23 : decode cX8_far 23 = .ok (.getfield 25, 3) := by decide +kernel
theorem dX8_far_26 : decode cX8_far 26 = .ok (.getfield 184, 3) := by decide +kernel
theorem dX8_far_29 : decode cX8_far 29 = .ok (.goto 8, 3) := by decide +kernel
theorem dX8_far_32 : decode cX8_far 32 = .ok (.aload_n 0, 1) := by decide +kernel
theorem dX8_far_33 : decode cX8_far 33 = .ok (.iload_n 3, 1) := by decide +kernel
theorem dX8_far_34 : decode cX8_far 34 = .ok (.invokevirtual 50, 3) := by decide +kernel
theorem dX8_far_37 : decode cX8_far 37 = .ok (.ireturn, 1) := by decide +kernel
theorem dX8_moves_0 : decode cX8_moves 0 = .ok (.aload_n 0, 1) := by decide +kernel
theorem dX8_moves_1 : decode cX8_moves 1 = .ok (.getfield 25, 3) := by decide +kernel
theorem dX8_moves_4 : decode cX8_moves 4 = .ok (.aload_n 0, 1) := by decide +kernel
theorem dX8_moves_5 : decode cX8_moves 5 = .ok (.iload_n 1, 1) := by decide +kernel
theorem dX8_moves_6 : decode cX8_moves 6 = .ok (.invokevirtual 121, 3) := by decide +kernel
theorem dX8_moves_9 : decode cX8_moves 9 = .ok (.aload_n 0, 1) := by decide +kernel
theorem dX8_moves_10 : decode cX8_moves 10 = .ok (.iload_n 2, 1) := by decide +kernel
theorem dX8_moves_11 : decode cX8_moves 11 = .ok (.invokevirtual 121, 3) := by decide +kernel
theorem dX8_moves_14 : decode cX8_moves 14 = .ok (.invokestatic 175, 3) := by decide +kernel
theorem dX8_moves_17 : decode cX8_moves 17 = .ok (.istore_n 3, 1) := by decide +kernel
theorem dX8_moves_18 : decode cX8_moves 18 = .ok (.iload_n 3, 1) := by decide +kernel
theorem dX8_moves_19 : decode cX8_moves 19 = .ok (.ifCond .ne 14, 3) := by decide +kernel
theorem dX8_moves_22 : decode cX8_moves 22 = .ok (.aload_n 0, 1) := by decide +kernel
theorem dX8_moves_23 : decode cX8_moves 23 = .ok (.getfield 25, 3) := by decide +kernel
theorem dX8_moves_26 : decode cX8_moves 26 = .ok (.iconst 3, 1) := by decide +kernel
theorem dX8_moves_27 : decode cX8_moves 27 = .ok (.invokevirtual 185, 3) := by decide +kernel
theorem dX8_moves_30 : decode cX8_moves 30 = .ok (.goto 8, 3) := by decide +kernel
theorem dX8_moves_33 : decode cX8_moves 33 = .ok (.aload_n 0, 1) := by decide +kernel
theorem dX8_moves_34 : decode cX8_moves 34 = .ok (.iload_n 3, 1) := by decide +kernel
theorem dX8_moves_35 : decode cX8_moves 35 = .ok (.invokevirtual 50, 3) := by decide +kernel
theorem dX8_moves_38 : decode cX8_moves 38 = .ok (.ireturn, 1) := by decide +kernel
theorem dX8_patchOf_0 : decode cX8_patchOf 0 = .ok (.aload_n 0, 1) := by decide +kernel
theorem dX8_patchOf_1 : decode cX8_patchOf 1 = .ok (.iload_n 1, 1) := by decide +kernel
theorem dX8_patchOf_2 : decode cX8_patchOf 2 = .ok (.invokevirtual 92, 3) := by decide +kernel
theorem dX8_patchOf_5 : decode cX8_patchOf 5 = .ok (.astore_n 3, 1) := by decide +kernel
theorem dX8_patchOf_6 : decode cX8_patchOf 6 = .ok (.aload_n 3, 1) := by decide +kernel
theorem dX8_patchOf_7 : decode cX8_patchOf 7 = .ok (.ifnull 12, 3) := by decide +kernel
theorem dX8_patchOf_10 : decode cX8_patchOf 10 = .ok (.iload_n 2, 1) := by decide +kernel
theorem dX8_patchOf_11 : decode cX8_patchOf 11 = .ok (.ifCond .lt 8, 3) := by decide +kernel
theorem dX8_patchOf_14 : decode cX8_patchOf 14 = .ok (.iload_n 2, 1) := by decide +kernel
theorem dX8_patchOf_15 : decode cX8_patchOf 15 = .ok (.iconst 5, 1) := by decide +kernel
theorem dX8_patchOf_16 : decode cX8_patchOf 16 = .ok (.if_icmp .le 10, 3) := by decide +kernel
theorem dX8_patchOf_19 : decode cX8_patchOf 19 = .ok (.aload_n 0, 1) := by decide +kernel
theorem dX8_patchOf_20 : decode cX8_patchOf 20 = .ok (.bipush (-5), 2) := by decide +kernel
theorem dX8_patchOf_22 : decode cX8_patchOf 22 = .ok (.invokevirtual 50, 3) := by decide +kernel
theorem dX8_patchOf_25 : decode cX8_patchOf 25 = .ok (.ireturn, 1) := by decide +kernel
theorem dX8_patchOf_26 : decode cX8_patchOf 26 = .ok (.iload_n 2, 1) := by decide +kernel
theorem dX8_patchOf_27 : decode cX8_patchOf 27 = .ok (.ifCond .ne 8, 3) := by decide +kernel
theorem dX8_patchOf_30 : decode cX8_patchOf 30 = .ok (.aload_n 3, 1) := by decide +kernel
theorem dX8_patchOf_31 : decode cX8_patchOf 31 = .ok (.invokevirtual 188, 3) := by decide +kernel
theorem dX8_patchOf_34 : decode cX8_patchOf 34 = .ok (.ireturn, 1) := by decide +kernel
theorem dX8_patchOf_35 : decode cX8_patchOf 35 = .ok (.iload_n 2, 1) := by decide +kernel
theorem dX8_patchOf_36 : decode cX8_patchOf 36 = .ok (.iconst 1, 1) := by decide +kernel
theorem dX8_patchOf_37 : decode cX8_patchOf 37 = .ok (.if_icmp .ne 10, 3) := by decide +kernel
theorem dX8_patchOf_40 : decode cX8_patchOf 40 = .ok (.aload_n 3, 1) := by decide +kernel
theorem dX8_patchOf_41 : decode cX8_patchOf 41 = .ok (.getfield 190, 3) := by decide +kernel
theorem dX8_patchOf_44 : decode cX8_patchOf 44 = .ok (.goto 10, 3) := by decide +kernel
theorem dX8_patchOf_47 : decode cX8_patchOf 47 = .ok (.aload_n 3, 1) := by decide +kernel
theorem dX8_patchOf_48 : decode cX8_patchOf 48 = .ok (.iload_n 2, 1) := by decide +kernel
theorem dX8_patchOf_49 : decode cX8_patchOf 49 = .ok (.iconst 2, 1) := by decide +kernel
theorem dX8_patchOf_50 : decode cX8_patchOf 50 = .ok (.isub, 1) := by decide +kernel
theorem dX8_patchOf_51 : decode cX8_patchOf 51 = .ok (.invokevirtual 193, 3) := by decide +kernel
theorem dX8_patchOf_54 : decode cX8_patchOf 54 = .ok (.ireturn, 1) := by decide +kernel
theorem dX8_edit_0 : decode cX8_edit 0 = .ok (.aload_n 0, 1) := by decide +kernel
theorem dX8_edit_1 : decode cX8_edit 1 = .ok (.iload_n 1, 1) := by decide +kernel
theorem dX8_edit_2 : decode cX8_edit 2 = .ok (.invokevirtual 92, 3) := by decide +kernel
theorem dX8_edit_5 : decode cX8_edit 5 = .ok (.astore 4, 2) := by decide +kernel
theorem dX8_edit_7 : decode cX8_edit 7 = .ok (.aload 4, 2) := by decide +kernel
theorem dX8_edit_9 : decode cX8_edit 9 = .ok (.ifnonnull 9, 3) := by decide +kernel
theorem dX8_edit_12 : decode cX8_edit 12 = .ok (.aload_n 0, 1) := by decide +kernel
theorem dX8_edit_13 : decode cX8_edit 13 = .ok (.iconst (-1), 1) := by decide +kernel
theorem dX8_edit_14 : decode cX8_edit 14 = .ok (.invokevirtual 50, 3) := by decide +kernel
theorem dX8_edit_17 : decode cX8_edit 17 = .ok (.ireturn, 1) := by decide +kernel
theorem dX8_edit_18 : decode cX8_edit 18 = .ok (.aload 4, 2) := by decide +kernel
theorem dX8_edit_20 : decode cX8_edit 20 = .ok (.iload_n 2, 1) := by decide +kernel
theorem dX8_edit_21 : decode cX8_edit 21 = .ok (.invokevirtual 194, 3) := by decide +kernel
theorem dX8_edit_24 : decode cX8_edit 24 = .ok (.astore 5, 2) := by decide +kernel
theorem dX8_edit_26 : decode cX8_edit 26 = .ok (.aload 5, 2) := by decide +kernel
theorem dX8_edit_28 : decode cX8_edit 28 = .ok (.ifnull 13, 3) := by decide +kernel
theorem dX8_edit_31 : decode cX8_edit 31 = .ok (.iload_n 3, 1) := by decide +kernel
theorem dX8_edit_32 : decode cX8_edit 32 = .ok (.ifCond .lt 9, 3) := by decide +kernel
theorem dX8_edit_35 : decode cX8_edit 35 = .ok (.iload_n 3, 1) := by decide +kernel
theorem dX8_edit_36 : decode cX8_edit 36 = .ok (.bipush 6, 2) := by decide +kernel
theorem dX8_edit_38 : decode cX8_edit 38 = .ok (.if_icmp .le 10, 3) := by decide +kernel
theorem dX8_edit_41 : decode cX8_edit 41 = .ok (.aload_n 0, 1) := by decide +kernel
theorem dX8_edit_42 : decode cX8_edit 42 = .ok (.bipush (-5), 2) := by decide +kernel
theorem dX8_edit_44 : decode cX8_edit 44 = .ok (.invokevirtual 50, 3) := by decide +kernel
theorem dX8_edit_47 : decode cX8_edit 47 = .ok (.ireturn, 1) := by decide +kernel
theorem dX8_edit_48 : decode cX8_edit 48 = .ok (.aload 5, 2) := by decide +kernel
theorem dX8_edit_50 : decode cX8_edit 50 = .ok (.iload_n 3, 1) := by decide +kernel
theorem dX8_edit_51 : decode cX8_edit 51 = .ok (.invokevirtual 198, 3) := by decide +kernel
theorem dX8_edit_54 : decode cX8_edit 54 = .ok (.ireturn, 1) := by decide +kernel
theorem dX8_touched_0 : decode cX8_touched 0 = .ok (.aload_n 0, 1) := by decide +kernel
theorem dX8_touched_1 : decode cX8_touched 1 = .ok (.iload_n 1, 1) := by decide +kernel
theorem dX8_touched_2 : decode cX8_touched 2 = .ok (.invokevirtual 92, 3) := by decide +kernel
theorem dX8_touched_5 : decode cX8_touched 5 = .ok (.astore_n 3, 1) := by decide +kernel
theorem dX8_touched_6 : decode cX8_touched 6 = .ok (.aload_n 3, 1) := by decide +kernel
theorem dX8_touched_7 : decode cX8_touched 7 = .ok (.ifnonnull 9, 3) := by decide +kernel
theorem dX8_touched_10 : decode cX8_touched 10 = .ok (.aload_n 0, 1) := by decide +kernel
theorem dX8_touched_11 : decode cX8_touched 11 = .ok (.iconst (-1), 1) := by decide +kernel
theorem dX8_touched_12 : decode cX8_touched 12 = .ok (.invokevirtual 50, 3) := by decide +kernel
theorem dX8_touched_15 : decode cX8_touched 15 = .ok (.ireturn, 1) := by decide +kernel
theorem dX8_touched_16 : decode cX8_touched 16 = .ok (.iload_n 2, 1) := by decide +kernel
theorem dX8_touched_17 : decode cX8_touched 17 = .ok (.ifCond .lt 8, 3) := by decide +kernel
theorem dX8_touched_20 : decode cX8_touched 20 = .ok (.iload_n 2, 1) := by decide +kernel
theorem dX8_touched_21 : decode cX8_touched 21 = .ok (.iconst 1, 1) := by decide +kernel
theorem dX8_touched_22 : decode cX8_touched 22 = .ok (.if_icmp .le 10, 3) := by decide +kernel
theorem dX8_touched_25 : decode cX8_touched 25 = .ok (.aload_n 0, 1) := by decide +kernel
theorem dX8_touched_26 : decode cX8_touched 26 = .ok (.bipush (-5), 2) := by decide +kernel
theorem dX8_touched_28 : decode cX8_touched 28 = .ok (.invokevirtual 50, 3) := by decide +kernel
theorem dX8_touched_31 : decode cX8_touched 31 = .ok (.ireturn, 1) := by decide +kernel
theorem dX8_touched_32 : decode cX8_touched 32 = .ok (.aload_n 3, 1) := by decide +kernel
theorem dX8_touched_33 : decode cX8_touched 33 = .ok (.iload_n 2, 1) := by decide +kernel
theorem dX8_touched_34 : decode cX8_touched 34 = .ok (.bipush 30, 2) := by decide +kernel
theorem dX8_touched_36 : decode cX8_touched 36 = .ok (.imul, 1) := by decide +kernel
theorem dX8_touched_37 : decode cX8_touched 37 = .ok (.invokevirtual 203, 3) := by decide +kernel
theorem dX8_touched_40 : decode cX8_touched 40 = .ok (.ireturn, 1) := by decide +kernel
theorem dX8_apply_0 : decode cX8_apply 0 = .ok (.aload_n 0, 1) := by decide +kernel
theorem dX8_apply_1 : decode cX8_apply 1 = .ok (.iload_n 1, 1) := by decide +kernel
theorem dX8_apply_2 : decode cX8_apply 2 = .ok (.invokevirtual 92, 3) := by decide +kernel
theorem dX8_apply_5 : decode cX8_apply 5 = .ok (.astore_n 3, 1) := by decide +kernel
theorem dX8_apply_6 : decode cX8_apply 6 = .ok (.aload_n 0, 1) := by decide +kernel
theorem dX8_apply_7 : decode cX8_apply 7 = .ok (.iload_n 2, 1) := by decide +kernel
theorem dX8_apply_8 : decode cX8_apply 8 = .ok (.invokevirtual 121, 3) := by decide +kernel
theorem dX8_apply_11 : decode cX8_apply 11 = .ok (.astore 4, 2) := by decide +kernel
theorem dX8_apply_13 : decode cX8_apply 13 = .ok (.aload_n 3, 1) := by decide +kernel
theorem dX8_apply_14 : decode cX8_apply 14 = .ok (.ifnull 8, 3) := by decide +kernel
theorem dX8_apply_17 : decode cX8_apply 17 = .ok (.aload 4, 2) := by decide +kernel
theorem dX8_apply_19 : decode cX8_apply 19 = .ok (.ifnonnull 9, 3) := by decide +kernel
theorem dX8_apply_22 : decode cX8_apply 22 = .ok (.aload_n 0, 1) := by decide +kernel
theorem dX8_apply_23 : decode cX8_apply 23 = .ok (.iconst (-1), 1) := by decide +kernel
theorem dX8_apply_24 : decode cX8_apply 24 = .ok (.invokevirtual 50, 3) := by decide +kernel
theorem dX8_apply_27 : decode cX8_apply 27 = .ok (.ireturn, 1) := by decide +kernel
theorem dX8_apply_28 : decode cX8_apply 28 = .ok (.new 126, 3) := by decide +kernel
theorem dX8_apply_31 : decode cX8_apply 31 = .ok (.dup, 1) := by decide +kernel
theorem dX8_apply_32 : decode cX8_apply 32 = .ok (.aload 4, 2) := by decide +kernel
theorem dX8_apply_34 : decode cX8_apply 34 = .ok (.invokespecial 206, 3) := by decide +kernel
theorem dX8_apply_37 : decode cX8_apply 37 = .ok (.astore 5, 2) := by decide +kernel
theorem dX8_apply_39 : decode cX8_apply 39 = .ok (.aload_n 3, 1) := by decide +kernel
theorem dX8_apply_40 : decode cX8_apply 40 = .ok (.aload 5, 2) := by decide +kernel
theorem dX8_apply_42 : decode cX8_apply 42 = .ok (.invokevirtual 209, 3) := by decide +kernel
theorem dX8_apply_45 : decode cX8_apply 45 = .ok (.iconst (-1), 1) := by decide +kernel
theorem dX8_apply_46 : decode cX8_apply 46 = .ok (.if_icmp .eq 10, 3) := by decide +kernel
theorem dX8_apply_49 : decode cX8_apply 49 = .ok (.aload_n 0, 1) := by decide +kernel
theorem dX8_apply_50 : decode cX8_apply 50 = .ok (.bipush (-6), 2) := by decide +kernel
theorem dX8_apply_52 : decode cX8_apply 52 = .ok (.invokevirtual 50, 3) := by decide +kernel
theorem dX8_apply_55 : decode cX8_apply 55 = .ok (.ireturn, 1) := by decide +kernel
theorem dX8_apply_56 : decode cX8_apply 56 = .ok (.aload_n 0, 1) := by decide +kernel
theorem dX8_apply_57 : decode cX8_apply 57 = .ok (.getfield 32, 3) := by decide +kernel
theorem dX8_apply_60 : decode cX8_apply 60 = .ok (.iload_n 2, 1) := by decide +kernel
theorem dX8_apply_61 : decode cX8_apply 61 = .ok (.aload 5, 2) := by decide +kernel
theorem dX8_apply_63 : decode cX8_apply 63 = .ok (.invokevirtual 212, 3) := by decide +kernel
theorem dX8_apply_66 : decode cX8_apply 66 = .ok (.aload 5, 2) := by decide +kernel
theorem dX8_apply_68 : decode cX8_apply 68 = .ok (.getfield 125, 3) := by decide +kernel
theorem dX8_apply_71 : decode cX8_apply 71 = .ok (.ireturn, 1) := by decide +kernel
theorem dX8_sticks_0 : decode cX8_sticks 0 = .ok (.aload_n 0, 1) := by decide +kernel
theorem dX8_sticks_1 : decode cX8_sticks 1 = .ok (.iload_n 1, 1) := by decide +kernel
theorem dX8_sticks_2 : decode cX8_sticks 2 = .ok (.invokevirtual 92, 3) := by decide +kernel
theorem dX8_sticks_5 : decode cX8_sticks 5 = .ok (.astore_n 3, 1) := by decide +kernel
theorem dX8_sticks_6 : decode cX8_sticks 6 = .ok (.aload_n 0, 1) := by decide +kernel
theorem dX8_sticks_7 : decode cX8_sticks 7 = .ok (.iload_n 2, 1) := by decide +kernel
theorem dX8_sticks_8 : decode cX8_sticks 8 = .ok (.invokevirtual 121, 3) := by decide +kernel
theorem dX8_sticks_11 : decode cX8_sticks 11 = .ok (.astore 4, 2) := by decide +kernel
theorem dX8_sticks_13 : decode cX8_sticks 13 = .ok (.aload_n 3, 1) := by decide +kernel
theorem dX8_sticks_14 : decode cX8_sticks 14 = .ok (.ifnull 8, 3) := by decide +kernel
theorem dX8_sticks_17 : decode cX8_sticks 17 = .ok (.aload 4, 2) := by decide +kernel
theorem dX8_sticks_19 : decode cX8_sticks 19 = .ok (.ifnonnull 9, 3) := by decide +kernel
theorem dX8_sticks_22 : decode cX8_sticks 22 = .ok (.aload_n 0, 1) := by decide +kernel
theorem dX8_sticks_23 : decode cX8_sticks 23 = .ok (.iconst (-1), 1) := by decide +kernel
theorem dX8_sticks_24 : decode cX8_sticks 24 = .ok (.invokevirtual 152, 3) := by decide +kernel
theorem dX8_sticks_27 : decode cX8_sticks 27 = .ok (.ireturn, 1) := by decide +kernel
theorem dX8_sticks_28 : decode cX8_sticks 28 = .ok (.aload_n 3, 1) := by decide +kernel
theorem dX8_sticks_29 : decode cX8_sticks 29 = .ok (.new 126, 3) := by decide +kernel
theorem dX8_sticks_32 : decode cX8_sticks 32 = .ok (.dup, 1) := by decide +kernel
theorem dX8_sticks_33 : decode cX8_sticks 33 = .ok (.aload 4, 2) := by decide +kernel
theorem dX8_sticks_35 : decode cX8_sticks 35 = .ok (.invokespecial 206, 3) := by decide +kernel
theorem dX8_sticks_38 : decode cX8_sticks 38 = .ok (.invokevirtual 209, 3) := by decide +kernel
theorem dX8_sticks_41 : decode cX8_sticks 41 = .ok (.ireturn, 1) := by decide +kernel
theorem dX8_conflict_0 : decode cX8_conflict 0 = .ok (.aload_n 0, 1) := by decide +kernel
theorem dX8_conflict_1 : decode cX8_conflict 1 = .ok (.iload_n 1, 1) := by decide +kernel
theorem dX8_conflict_2 : decode cX8_conflict 2 = .ok (.invokevirtual 92, 3) := by decide +kernel
theorem dX8_conflict_5 : decode cX8_conflict 5 = .ok (.astore 4, 2) := by decide +kernel
theorem dX8_conflict_7 : decode cX8_conflict 7 = .ok (.aload 4, 2) := by decide +kernel
theorem dX8_conflict_9 : decode cX8_conflict 9 = .ok (.ifnonnull 9, 3) := by decide +kernel
theorem dX8_conflict_12 : decode cX8_conflict 12 = .ok (.aload_n 0, 1) := by decide +kernel
theorem dX8_conflict_13 : decode cX8_conflict 13 = .ok (.iconst (-1), 1) := by decide +kernel
theorem dX8_conflict_14 : decode cX8_conflict 14 = .ok (.invokevirtual 50, 3) := by decide +kernel
theorem dX8_conflict_17 : decode cX8_conflict 17 = .ok (.ireturn, 1) := by decide +kernel
theorem dX8_conflict_18 : decode cX8_conflict 18 = .ok (.iload_n 2, 1) := by decide +kernel
theorem dX8_conflict_19 : decode cX8_conflict 19 = .ok (.ifCond .lt 21, 3) := by decide +kernel
theorem dX8_conflict_22 : decode cX8_conflict 22 = .ok (.iload_n 2, 1) := by decide +kernel
theorem dX8_conflict_23 : decode cX8_conflict 23 = .ok (.aload 4, 2) := by decide +kernel
theorem dX8_conflict_25 : decode cX8_conflict 25 = .ok (.invokevirtual 216, 3) := by decide +kernel
theorem dX8_conflict_28 : decode cX8_conflict 28 = .ok (.if_icmp .ge 12, 3) := by decide +kernel
theorem dX8_conflict_31 : decode cX8_conflict 31 = .ok (.iload_n 3, 1) := by decide +kernel
theorem dX8_conflict_32 : decode cX8_conflict 32 = .ok (.ifCond .lt 8, 3) := by decide +kernel
theorem dX8_conflict_35 : decode cX8_conflict 35 = .ok (.iload_n 3, 1) := by decide +kernel
theorem dX8_conflict_36 : decode cX8_conflict 36 = .ok (.iconst 1, 1) := by decide +kernel
theorem dX8_conflict_37 : decode cX8_conflict 37 = .ok (.if_icmp .le 10, 3) := by decide +kernel
theorem dX8_conflict_40 : decode cX8_conflict 40 = .ok (.aload_n 0, 1) := by decide +kernel
theorem dX8_conflict_41 : decode cX8_conflict 41 = .ok (.bipush (-5), 2) := by decide +kernel
theorem dX8_conflict_43 : decode cX8_conflict 43 = .ok (.invokevirtual 50, 3) := by decide +kernel
theorem dX8_conflict_46 : decode cX8_conflict 46 = .ok (.ireturn, 1) := by decide +kernel
theorem dX8_conflict_47 : decode cX8_conflict 47 = .ok (.aload 4, 2) := by decide +kernel
theorem dX8_conflict_49 : decode cX8_conflict 49 = .ok (.iload_n 2, 1) := by decide +kernel
theorem dX8_conflict_50 : decode cX8_conflict 50 = .ok (.iload_n 3, 1) := by decide +kernel
theorem dX8_conflict_51 : decode cX8_conflict 51 = .ok (.invokevirtual 219, 3) := by decide +kernel
theorem dX8_conflict_54 : decode cX8_conflict 54 = .ok (.ireturn, 1) := by decide +kernel
theorem dX8_invert_0 : decode cX8_invert 0 = .ok (.aload_n 0, 1) := by decide +kernel
theorem dX8_invert_1 : decode cX8_invert 1 = .ok (.iload_n 1, 1) := by decide +kernel
theorem dX8_invert_2 : decode cX8_invert 2 = .ok (.invokevirtual 92, 3) := by decide +kernel
theorem dX8_invert_5 : decode cX8_invert 5 = .ok (.astore_n 2, 1) := by decide +kernel
theorem dX8_invert_6 : decode cX8_invert 6 = .ok (.aload_n 2, 1) := by decide +kernel
theorem dX8_invert_7 : decode cX8_invert 7 = .ok (.ifnonnull 9, 3) := by decide +kernel
theorem dX8_invert_10 : decode cX8_invert 10 = .ok (.aload_n 0, 1) := by decide +kernel
theorem dX8_invert_11 : decode cX8_invert 11 = .ok (.iconst (-1), 1) := by decide +kernel
theorem dX8_invert_12 : decode cX8_invert 12 = .ok (.invokevirtual 50, 3) := by decide +kernel
theorem dX8_invert_15 : decode cX8_invert 15 = .ok (.ireturn, 1) := by decide +kernel
theorem dX8_invert_16 : decode cX8_invert 16 = .ok (.aload_n 0, 1) := by decide +kernel
theorem dX8_invert_17 : decode cX8_invert 17 = .ok (.getfield 25, 3) := by decide +kernel
theorem dX8_invert_20 : decode cX8_invert 20 = .ok (.invokevirtual 222, 3) := by decide +kernel
theorem dX8_invert_23 : decode cX8_invert 23 = .ok (.aload_n 2, 1) := by decide +kernel
theorem dX8_invert_24 : decode cX8_invert 24 = .ok (.invokevirtual 188, 3) := by decide +kernel
theorem dX8_invert_27 : decode cX8_invert 27 = .ok (.iconst 1, 1) := by decide +kernel
theorem dX8_invert_28 : decode cX8_invert 28 = .ok (.isub, 1) := by decide +kernel
theorem dX8_invert_29 : decode cX8_invert 29 = .ok (.istore_n 3, 1) := by decide +kernel
theorem dX8_invert_30 : decode cX8_invert 30 = .ok (.iload_n 3, 1) := by decide +kernel
theorem dX8_invert_31 : decode cX8_invert 31 = .ok (.ifCond .lt 33, 3) := by decide +kernel
theorem dX8_invert_34 : decode cX8_invert 34 = .ok (.aload_n 2, 1) := by decide +kernel
theorem dX8_invert_35 : decode cX8_invert 35 = .ok (.iload_n 3, 1) := by decide +kernel
theorem dX8_invert_36 : decode cX8_invert 36 = .ok (.invokevirtual 194, 3) := by decide +kernel
theorem dX8_invert_39 : decode cX8_invert 39 = .ok (.astore 4, 2) := by decide +kernel
theorem dX8_invert_41 : decode cX8_invert 41 = .ok (.aload 4, 2) := by decide +kernel
theorem dX8_invert_43 : decode cX8_invert 43 = .ok (.ifnull 15, 3) := by decide +kernel
theorem dX8_invert_46 : decode cX8_invert 46 = .ok (.aload_n 0, 1) := by decide +kernel
theorem dX8_invert_47 : decode cX8_invert 47 = .ok (.getfield 25, 3) := by decide +kernel
theorem dX8_invert_50 : decode cX8_invert 50 = .ok (.aload 4, 2) := by decide +kernel
theorem dX8_invert_52 : decode cX8_invert 52 = .ok (.invokevirtual 225, 3) := by decide +kernel
theorem dX8_invert_55 : decode cX8_invert 55 = .ok (.invokevirtual 229, 3) := by decide +kernel
theorem dX8_invert_58 : decode cX8_invert 58 = .ok (.iinc 3 (-1), 3) := by decide +kernel
theorem dX8_invert_61 : decode cX8_invert 61 = .ok (.goto (-31), 3) := by decide +kernel
theorem dX8_invert_64 : decode cX8_invert 64 = .ok (.aload_n 0, 1) := by decide +kernel
theorem dX8_invert_65 : decode cX8_invert 65 = .ok (.iconst 2, 1) := by decide +kernel
theorem dX8_invert_66 : decode cX8_invert 66 = .ok (.iload_n 1, 1) := by decide +kernel
theorem dX8_invert_67 : decode cX8_invert 67 = .ok (.invokevirtual 181, 3) := by decide +kernel
theorem dX8_invert_70 : decode cX8_invert 70 = .ok (.ireturn, 1) := by decide +kernel
theorem dX8_behind_0 : decode cX8_behind 0 = .ok (.aload_n 0, 1) := by decide +kernel
theorem dX8_behind_1 : decode cX8_behind 1 = .ok (.iload_n 1, 1) := by decide +kernel
theorem dX8_behind_2 : decode cX8_behind 2 = .ok (.invokevirtual 92, 3) := by decide +kernel
theorem dX8_behind_5 : decode cX8_behind 5 = .ok (.astore_n 3, 1) := by decide +kernel
theorem dX8_behind_6 : decode cX8_behind 6 = .ok (.aload_n 0, 1) := by decide +kernel
theorem dX8_behind_7 : decode cX8_behind 7 = .ok (.iload_n 2, 1) := by decide +kernel
theorem dX8_behind_8 : decode cX8_behind 8 = .ok (.invokevirtual 92, 3) := by decide +kernel
theorem dX8_behind_11 : decode cX8_behind 11 = .ok (.astore 4, 2) := by decide +kernel
theorem dX8_behind_13 : decode cX8_behind 13 = .ok (.aload_n 3, 1) := by decide +kernel
theorem dX8_behind_14 : decode cX8_behind 14 = .ok (.ifnull 8, 3) := by decide +kernel
theorem dX8_behind_17 : decode cX8_behind 17 = .ok (.aload 4, 2) := by decide +kernel
theorem dX8_behind_19 : decode cX8_behind 19 = .ok (.ifnonnull 9, 3) := by decide +kernel
theorem dX8_behind_22 : decode cX8_behind 22 = .ok (.aload_n 0, 1) := by decide +kernel
theorem dX8_behind_23 : decode cX8_behind 23 = .ok (.iconst (-1), 1) := by decide +kernel
theorem dX8_behind_24 : decode cX8_behind 24 = .ok (.invokevirtual 50, 3) := by decide +kernel
theorem dX8_behind_27 : decode cX8_behind 27 = .ok (.ireturn, 1) := by decide +kernel
theorem dX8_behind_28 : decode cX8_behind 28 = .ok (.aload_n 0, 1) := by decide +kernel
theorem dX8_behind_29 : decode cX8_behind 29 = .ok (.getfield 25, 3) := by decide +kernel
theorem dX8_behind_32 : decode cX8_behind 32 = .ok (.invokevirtual 222, 3) := by decide +kernel
theorem dX8_behind_35 : decode cX8_behind 35 = .ok (.aload_n 0, 1) := by decide +kernel
theorem dX8_behind_36 : decode cX8_behind 36 = .ok (.getfield 25, 3) := by decide +kernel
theorem dX8_behind_39 : decode cX8_behind 39 = .ok (.aload_n 3, 1) := by decide +kernel
theorem dX8_behind_40 : decode cX8_behind 40 = .ok (.invokevirtual 233, 3) := by decide +kernel
theorem dX8_behind_43 : decode cX8_behind 43 = .ok (.aload_n 0, 1) := by decide +kernel
theorem dX8_behind_44 : decode cX8_behind 44 = .ok (.getfield 25, 3) := by decide +kernel
theorem dX8_behind_47 : decode cX8_behind 47 = .ok (.aload 4, 2) := by decide +kernel
theorem dX8_behind_49 : decode cX8_behind 49 = .ok (.invokevirtual 233, 3) := by decide +kernel
theorem dX8_behind_52 : decode cX8_behind 52 = .ok (.aload_n 0, 1) := by decide +kernel
theorem dX8_behind_53 : decode cX8_behind 53 = .ok (.iconst 0, 1) := by decide +kernel
theorem dX8_behind_54 : decode cX8_behind 54 = .ok (.iconst (-1), 1) := by decide +kernel
theorem dX8_behind_55 : decode cX8_behind 55 = .ok (.invokevirtual 181, 3) := by decide +kernel
theorem dX8_behind_58 : decode cX8_behind 58 = .ok (.ireturn, 1) := by decide +kernel
theorem dX8_squeeze_0 : decode cX8_squeeze 0 = .ok (.aload_n 0, 1) := by decide +kernel
theorem dX8_squeeze_1 : decode cX8_squeeze 1 = .ok (.iload_n 1, 1) := by decide +kernel
theorem dX8_squeeze_2 : decode cX8_squeeze 2 = .ok (.invokevirtual 92, 3) := by decide +kernel
theorem dX8_squeeze_5 : decode cX8_squeeze 5 = .ok (.astore_n 2, 1) := by decide +kernel
theorem dX8_squeeze_6 : decode cX8_squeeze 6 = .ok (.aload_n 2, 1) := by decide +kernel
theorem dX8_squeeze_7 : decode cX8_squeeze 7 = .ok (.ifnonnull 9, 3) := by decide +kernel
theorem dX8_squeeze_10 : decode cX8_squeeze 10 = .ok (.aload_n 0, 1) := by decide +kernel
theorem dX8_squeeze_11 : decode cX8_squeeze 11 = .ok (.iconst (-1), 1) := by decide +kernel
theorem dX8_squeeze_12 : decode cX8_squeeze 12 = .ok (.invokevirtual 50, 3) := by decide +kernel
theorem dX8_squeeze_15 : decode cX8_squeeze 15 = .ok (.ireturn, 1) := by decide +kernel
theorem dX8_squeeze_16 : decode cX8_squeeze 16 = .ok (.aload_n 0, 1) := by decide +kernel
theorem dX8_squeeze_17 : decode cX8_squeeze 17 = .ok (.getfield 25, 3) := by decide +kernel
theorem dX8_squeeze_20 : decode cX8_squeeze 20 = .ok (.invokevirtual 222, 3) := by decide +kernel
theorem dX8_squeeze_23 : decode cX8_squeeze 23 = .ok (.iconst 0, 1) := by decide +kernel
theorem dX8_squeeze_24 : decode cX8_squeeze 24 = .ok (.istore_n 3, 1) := by decide +kernel
theorem dX8_squeeze_25 : decode cX8_squeeze 25 = .ok (.iload_n 3, 1) := by decide +kernel
theorem dX8_squeeze_26 : decode cX8_squeeze 26 = .ok (.aload_n 2, 1) := by decide +kernel
theorem dX8_squeeze_27 : decode cX8_squeeze 27 = .ok (.invokevirtual 188, 3) := by decide +kernel
theorem dX8_squeeze_30 : decode cX8_squeeze 30 = .ok (.if_icmp .ge 21, 3) := by decide +kernel
theorem dX8_squeeze_33 : decode cX8_squeeze 33 = .ok (.aload_n 0, 1) := by decide +kernel
theorem dX8_squeeze_34 : decode cX8_squeeze 34 = .ok (.getfield 25, 3) := by decide +kernel
theorem dX8_squeeze_37 : decode cX8_squeeze 37 = .ok (.aload_n 2, 1) := by decide +kernel
theorem dX8_squeeze_38 : decode cX8_squeeze 38 = .ok (.iload_n 3, 1) := by decide +kernel
theorem dX8_squeeze_39 : decode cX8_squeeze 39 = .ok (.invokevirtual 194, 3) := by decide +kernel
theorem dX8_squeeze_42 : decode cX8_squeeze 42 = .ok (.invokevirtual 237, 3) := by decide +kernel
theorem dX8_squeeze_45 : decode cX8_squeeze 45 = .ok (.iinc 3 1, 3) := by decide +kernel
theorem dX8_squeeze_48 : decode cX8_squeeze 48 = .ok (.goto (-23), 3) := by decide +kernel
theorem dX8_squeeze_51 : decode cX8_squeeze 51 = .ok (.aload_n 0, 1) := by decide +kernel
theorem dX8_squeeze_52 : decode cX8_squeeze 52 = .ok (.iconst 2, 1) := by decide +kernel
theorem dX8_squeeze_53 : decode cX8_squeeze 53 = .ok (.iload_n 1, 1) := by decide +kernel
theorem dX8_squeeze_54 : decode cX8_squeeze 54 = .ok (.invokevirtual 181, 3) := by decide +kernel
theorem dX8_squeeze_57 : decode cX8_squeeze 57 = .ok (.ireturn, 1) := by decide +kernel
theorem dX8_rebase_0 : decode cX8_rebase 0 = .ok (.aload_n 0, 1) := by decide +kernel
theorem dX8_rebase_1 : decode cX8_rebase 1 = .ok (.iload_n 1, 1) := by decide +kernel
theorem dX8_rebase_2 : decode cX8_rebase 2 = .ok (.invokevirtual 92, 3) := by decide +kernel
theorem dX8_rebase_5 : decode cX8_rebase 5 = .ok (.astore_n 3, 1) := by decide +kernel
theorem dX8_rebase_6 : decode cX8_rebase 6 = .ok (.aload_n 0, 1) := by decide +kernel
theorem dX8_rebase_7 : decode cX8_rebase 7 = .ok (.iload_n 2, 1) := by decide +kernel
theorem dX8_rebase_8 : decode cX8_rebase 8 = .ok (.invokevirtual 121, 3) := by decide +kernel
theorem dX8_rebase_11 : decode cX8_rebase 11 = .ok (.astore 4, 2) := by decide +kernel
theorem dX8_rebase_13 : decode cX8_rebase 13 = .ok (.aload_n 3, 1) := by decide +kernel
theorem dX8_rebase_14 : decode cX8_rebase 14 = .ok (.ifnull 8, 3) := by decide +kernel
theorem dX8_rebase_17 : decode cX8_rebase 17 = .ok (.aload 4, 2) := by decide +kernel
theorem dX8_rebase_19 : decode cX8_rebase 19 = .ok (.ifnonnull 9, 3) := by decide +kernel
theorem dX8_rebase_22 : decode cX8_rebase 22 = .ok (.aload_n 0, 1) := by decide +kernel
theorem dX8_rebase_23 : decode cX8_rebase 23 = .ok (.iconst (-1), 1) := by decide +kernel
theorem dX8_rebase_24 : decode cX8_rebase 24 = .ok (.invokevirtual 50, 3) := by decide +kernel
theorem dX8_rebase_27 : decode cX8_rebase 27 = .ok (.ireturn, 1) := by decide +kernel
theorem dX8_rebase_28 : decode cX8_rebase 28 = .ok (.new 126, 3) := by decide +kernel
theorem dX8_rebase_31 : decode cX8_rebase 31 = .ok (.dup, 1) := by decide +kernel
theorem dX8_rebase_32 : decode cX8_rebase 32 = .ok (.aload 4, 2) := by decide +kernel
theorem dX8_rebase_34 : decode cX8_rebase 34 = .ok (.invokespecial 206, 3) := by decide +kernel
theorem dX8_rebase_37 : decode cX8_rebase 37 = .ok (.astore 5, 2) := by decide +kernel
theorem dX8_rebase_39 : decode cX8_rebase 39 = .ok (.aload_n 0, 1) := by decide +kernel
theorem dX8_rebase_40 : decode cX8_rebase 40 = .ok (.getfield 25, 3) := by decide +kernel
theorem dX8_rebase_43 : decode cX8_rebase 43 = .ok (.invokevirtual 222, 3) := by decide +kernel
theorem dX8_rebase_46 : decode cX8_rebase 46 = .ok (.iconst 0, 1) := by decide +kernel
theorem dX8_rebase_47 : decode cX8_rebase 47 = .ok (.istore 6, 2) := by decide +kernel
theorem dX8_rebase_49 : decode cX8_rebase 49 = .ok (.iload 6, 2) := by decide +kernel
theorem dX8_rebase_51 : decode cX8_rebase 51 = .ok (.aload_n 3, 1) := by decide +kernel
theorem dX8_rebase_52 : decode cX8_rebase 52 = .ok (.invokevirtual 188, 3) := by decide +kernel
theorem dX8_rebase_55 : decode cX8_rebase 55 = .ok (.if_icmp .ge 35, 3) := by decide +kernel
theorem dX8_rebase_58 : decode cX8_rebase 58 = .ok (.aload_n 3, 1) := by decide +kernel
theorem dX8_rebase_59 : decode cX8_rebase 59 = .ok (.iload 6, 2) := by decide +kernel
theorem dX8_rebase_61 : decode cX8_rebase 61 = .ok (.invokevirtual 194, 3) := by decide +kernel
theorem dX8_rebase_64 : decode cX8_rebase 64 = .ok (.astore 7, 2) := by decide +kernel
theorem dX8_rebase_66 : decode cX8_rebase 66 = .ok (.aload 7, 2) := by decide +kernel
theorem dX8_rebase_68 : decode cX8_rebase 68 = .ok (.ifnull 16, 3) := by decide +kernel
theorem dX8_rebase_71 : decode cX8_rebase 71 = .ok (.aload_n 0, 1) := by decide +kernel
theorem dX8_rebase_72 : decode cX8_rebase 72 = .ok (.getfield 25, 3) := by decide +kernel
theorem dX8_rebase_75 : decode cX8_rebase 75 = .ok (.aload 7, 2) := by decide +kernel
theorem dX8_rebase_77 : decode cX8_rebase 77 = .ok (.iload 6, 2) := by decide +kernel
theorem dX8_rebase_79 : decode cX8_rebase 79 = .ok (.aload 5, 2) := by decide +kernel
theorem dX8_rebase_81 : decode cX8_rebase 81 = .ok (.invokevirtual 240, 3) := by decide +kernel
theorem dX8_rebase_84 : decode cX8_rebase 84 = .ok (.iinc 6 1, 3) := by decide +kernel
theorem dX8_rebase_87 : decode cX8_rebase 87 = .ok (.goto (-38), 3) := by decide +kernel
theorem dX8_rebase_90 : decode cX8_rebase 90 = .ok (.aload_n 0, 1) := by decide +kernel
theorem dX8_rebase_91 : decode cX8_rebase 91 = .ok (.iconst 3, 1) := by decide +kernel
theorem dX8_rebase_92 : decode cX8_rebase 92 = .ok (.iload_n 1, 1) := by decide +kernel
theorem dX8_rebase_93 : decode cX8_rebase 93 = .ok (.invokevirtual 181, 3) := by decide +kernel
theorem dX8_rebase_96 : decode cX8_rebase 96 = .ok (.ireturn, 1) := by decide +kernel
theorem dX8_hand_0 : decode cX8_hand 0 = .ok (.aload_n 0, 1) := by decide +kernel
theorem dX8_hand_1 : decode cX8_hand 1 = .ok (.iload_n 3, 1) := by decide +kernel
theorem dX8_hand_2 : decode cX8_hand 2 = .ok (.invokevirtual 121, 3) := by decide +kernel
theorem dX8_hand_5 : decode cX8_hand 5 = .ok (.astore 4, 2) := by decide +kernel
theorem dX8_hand_7 : decode cX8_hand 7 = .ok (.aload 4, 2) := by decide +kernel
theorem dX8_hand_9 : decode cX8_hand 9 = .ok (.ifnonnull 9, 3) := by decide +kernel
theorem dX8_hand_12 : decode cX8_hand 12 = .ok (.aload_n 0, 1) := by decide +kernel
theorem dX8_hand_13 : decode cX8_hand 13 = .ok (.iconst (-1), 1) := by decide +kernel
theorem dX8_hand_14 : decode cX8_hand 14 = .ok (.invokevirtual 50, 3) := by decide +kernel
theorem dX8_hand_17 : decode cX8_hand 17 = .ok (.ireturn, 1) := by decide +kernel
theorem dX8_hand_18 : decode cX8_hand 18 = .ok (.aload 4, 2) := by decide +kernel
theorem dX8_hand_20 : decode cX8_hand 20 = .ok (.iload_n 1, 1) := by decide +kernel
theorem dX8_hand_21 : decode cX8_hand 21 = .ok (.invokevirtual 155, 3) := by decide +kernel
theorem dX8_hand_24 : decode cX8_hand 24 = .ok (.istore 5, 2) := by decide +kernel
theorem dX8_hand_26 : decode cX8_hand 26 = .ok (.iload 5, 2) := by decide +kernel
theorem dX8_hand_28 : decode cX8_hand 28 = .ok (.iconst (-1), 1) := by decide +kernel
theorem dX8_hand_29 : decode cX8_hand 29 = .ok (.if_icmp .ne 10, 3) := by decide +kernel
theorem dX8_hand_32 : decode cX8_hand 32 = .ok (.aload_n 0, 1) := by decide +kernel
theorem dX8_hand_33 : decode cX8_hand 33 = .ok (.bipush (-5), 2) := by decide +kernel
theorem dX8_hand_35 : decode cX8_hand 35 = .ok (.invokevirtual 50, 3) := by decide +kernel
theorem dX8_hand_38 : decode cX8_hand 38 = .ok (.ireturn, 1) := by decide +kernel
theorem dX8_hand_39 : decode cX8_hand 39 = .ok (.iload_n 2, 1) := by decide +kernel
theorem dX8_hand_40 : decode cX8_hand 40 = .ok (.invokestatic 244, 3) := by decide +kernel
theorem dX8_hand_43 : decode cX8_hand 43 = .ok (.ifCond .ne 10, 3) := by decide +kernel
theorem dX8_hand_46 : decode cX8_hand 46 = .ok (.aload_n 0, 1) := by decide +kernel
theorem dX8_hand_47 : decode cX8_hand 47 = .ok (.bipush (-6), 2) := by decide +kernel
theorem dX8_hand_49 : decode cX8_hand 49 = .ok (.invokevirtual 50, 3) := by decide +kernel
theorem dX8_hand_52 : decode cX8_hand 52 = .ok (.ireturn, 1) := by decide +kernel
theorem dX8_hand_53 : decode cX8_hand 53 = .ok (.aload_n 0, 1) := by decide +kernel
theorem dX8_hand_54 : decode cX8_hand 54 = .ok (.getfield 25, 3) := by decide +kernel
theorem dX8_hand_57 : decode cX8_hand 57 = .ok (.invokevirtual 222, 3) := by decide +kernel
theorem dX8_hand_60 : decode cX8_hand 60 = .ok (.aload_n 0, 1) := by decide +kernel
theorem dX8_hand_61 : decode cX8_hand 61 = .ok (.getfield 25, 3) := by decide +kernel
theorem dX8_hand_64 : decode cX8_hand 64 = .ok (.iload_n 1, 1) := by decide +kernel
theorem dX8_hand_65 : decode cX8_hand 65 = .ok (.aload 4, 2) := by decide +kernel
theorem dX8_hand_67 : decode cX8_hand 67 = .ok (.iload 5, 2) := by decide +kernel
theorem dX8_hand_69 : decode cX8_hand 69 = .ok (.invokevirtual 134, 3) := by decide +kernel
theorem dX8_hand_72 : decode cX8_hand 72 = .ok (.iload_n 2, 1) := by decide +kernel
theorem dX8_hand_73 : decode cX8_hand 73 = .ok (.invokestatic 247, 3) := by decide +kernel
theorem dX8_hand_76 : decode cX8_hand 76 = .ok (.invokevirtual 229, 3) := by decide +kernel
theorem dX8_hand_79 : decode cX8_hand 79 = .ok (.aload_n 0, 1) := by decide +kernel
theorem dX8_hand_80 : decode cX8_hand 80 = .ok (.iconst 0, 1) := by decide +kernel
theorem dX8_hand_81 : decode cX8_hand 81 = .ok (.iconst (-1), 1) := by decide +kernel
theorem dX8_hand_82 : decode cX8_hand 82 = .ok (.invokevirtual 181, 3) := by decide +kernel
theorem dX8_hand_85 : decode cX8_hand 85 = .ok (.ireturn, 1) := by decide +kernel
theorem dX8_put_0 : decode cX8_put 0 = .ok (.aload_n 0, 1) := by decide +kernel
theorem dX8_put_1 : decode cX8_put 1 = .ok (.iload_n 1, 1) := by decide +kernel
theorem dX8_put_2 : decode cX8_put 2 = .ok (.invokevirtual 121, 3) := by decide +kernel
theorem dX8_put_5 : decode cX8_put 5 = .ok (.astore 5, 2) := by decide +kernel
theorem dX8_put_7 : decode cX8_put 7 = .ok (.aload 5, 2) := by decide +kernel
theorem dX8_put_9 : decode cX8_put 9 = .ok (.ifnonnull 9, 3) := by decide +kernel
theorem dX8_put_12 : decode cX8_put 12 = .ok (.aload_n 0, 1) := by decide +kernel
theorem dX8_put_13 : decode cX8_put 13 = .ok (.iconst (-1), 1) := by decide +kernel
theorem dX8_put_14 : decode cX8_put 14 = .ok (.invokevirtual 50, 3) := by decide +kernel
theorem dX8_put_17 : decode cX8_put 17 = .ok (.ireturn, 1) := by decide +kernel
theorem dX8_put_18 : decode cX8_put 18 = .ok (.aload 5, 2) := by decide +kernel
theorem dX8_put_20 : decode cX8_put 20 = .ok (.iload_n 2, 1) := by decide +kernel
theorem dX8_put_21 : decode cX8_put 21 = .ok (.invokevirtual 155, 3) := by decide +kernel
theorem dX8_put_24 : decode cX8_put 24 = .ok (.istore 6, 2) := by decide +kernel
theorem dX8_put_26 : decode cX8_put 26 = .ok (.iload 6, 2) := by decide +kernel
theorem dX8_put_28 : decode cX8_put 28 = .ok (.iconst (-1), 1) := by decide +kernel
theorem dX8_put_29 : decode cX8_put 29 = .ok (.if_icmp .eq 13, 3) := by decide +kernel
theorem dX8_put_32 : decode cX8_put 32 = .ok (.aload 5, 2) := by decide +kernel
theorem dX8_put_34 : decode cX8_put 34 = .ok (.iload_n 3, 1) := by decide +kernel
theorem dX8_put_35 : decode cX8_put 35 = .ok (.invokevirtual 155, 3) := by decide +kernel
theorem dX8_put_38 : decode cX8_put 38 = .ok (.iconst (-1), 1) := by decide +kernel
theorem dX8_put_39 : decode cX8_put 39 = .ok (.if_icmp .ne 10, 3) := by decide +kernel
theorem dX8_put_42 : decode cX8_put 42 = .ok (.aload_n 0, 1) := by decide +kernel
theorem dX8_put_43 : decode cX8_put 43 = .ok (.bipush (-5), 2) := by decide +kernel
theorem dX8_put_45 : decode cX8_put 45 = .ok (.invokevirtual 50, 3) := by decide +kernel
theorem dX8_put_48 : decode cX8_put 48 = .ok (.ireturn, 1) := by decide +kernel
theorem dX8_put_49 : decode cX8_put 49 = .ok (.iload_n 2, 1) := by decide +kernel
theorem dX8_put_50 : decode cX8_put 50 = .ok (.aload 5, 2) := by decide +kernel
theorem dX8_put_52 : decode cX8_put 52 = .ok (.iload 6, 2) := by decide +kernel
theorem dX8_put_54 : decode cX8_put 54 = .ok (.invokevirtual 137, 3) := by decide +kernel
theorem dX8_put_57 : decode cX8_put 57 = .ok (.aload 5, 2) := by decide +kernel
theorem dX8_put_59 : decode cX8_put 59 = .ok (.iload 6, 2) := by decide +kernel
theorem dX8_put_61 : decode cX8_put 61 = .ok (.invokevirtual 140, 3) := by decide +kernel
theorem dX8_put_64 : decode cX8_put 64 = .ok (.iload_n 3, 1) := by decide +kernel
theorem dX8_put_65 : decode cX8_put 65 = .ok (.iload 4, 2) := by decide +kernel
theorem dX8_put_67 : decode cX8_put 67 = .ok (.invokestatic 251, 3) := by decide +kernel
theorem dX8_put_70 : decode cX8_put 70 = .ok (.astore 7, 2) := by decide +kernel
theorem dX8_put_72 : decode cX8_put 72 = .ok (.aload 7, 2) := by decide +kernel
theorem dX8_put_74 : decode cX8_put 74 = .ok (.aload 5, 2) := by decide +kernel
theorem dX8_put_76 : decode cX8_put 76 = .ok (.invokevirtual 255, 3) := by decide +kernel
theorem dX8_put_79 : decode cX8_put 79 = .ok (.ifCond .ne 10, 3) := by decide +kernel
theorem dX8_put_82 : decode cX8_put 82 = .ok (.aload_n 0, 1) := by decide +kernel
theorem dX8_put_83 : decode cX8_put 83 = .ok (.bipush (-6), 2) := by decide +kernel
theorem dX8_put_85 : decode cX8_put 85 = .ok (.invokevirtual 50, 3) := by decide +kernel
theorem dX8_put_88 : decode cX8_put 88 = .ok (.ireturn, 1) := by decide +kernel
theorem dX8_put_89 : decode cX8_put 89 = .ok (.aload_n 0, 1) := by decide +kernel
theorem dX8_put_90 : decode cX8_put 90 = .ok (.getfield 25, 3) := by decide +kernel
theorem dX8_put_93 : decode cX8_put 93 = .ok (.invokevirtual 222, 3) := by decide +kernel
theorem dX8_put_96 : decode cX8_put 96 = .ok (.aload_n 0, 1) := by decide +kernel
theorem dX8_put_97 : decode cX8_put 97 = .ok (.getfield 25, 3) := by decide +kernel
theorem dX8_put_100 : decode cX8_put 100 = .ok (.aload 7, 2) := by decide +kernel
theorem dX8_put_102 : decode cX8_put 102 = .ok (.invokevirtual 229, 3) := by decide +kernel
theorem dX8_put_105 : decode cX8_put 105 = .ok (.aload_n 0, 1) := by decide +kernel
theorem dX8_put_106 : decode cX8_put 106 = .ok (.iconst 0, 1) := by decide +kernel
theorem dX8_put_107 : decode cX8_put 107 = .ok (.iconst (-1), 1) := by decide +kernel
theorem dX8_put_108 : decode cX8_put 108 = .ok (.invokevirtual 181, 3) := by decide +kernel
theorem dX8_put_111 : decode cX8_put 111 = .ok (.ireturn, 1) := by decide +kernel
theorem dX8_forget_0 : decode cX8_forget 0 = .ok (.aload_n 0, 1) := by decide +kernel
theorem dX8_forget_1 : decode cX8_forget 1 = .ok (.getfield 32, 3) := by decide +kernel
theorem dX8_forget_4 : decode cX8_forget 4 = .ok (.getfield 259, 3) := by decide +kernel
theorem dX8_forget_7 : decode cX8_forget 7 = .ok (.ifCond .ne 10, 3) := by decide +kernel
theorem dX8_forget_10 : decode cX8_forget 10 = .ok (.aload_n 0, 1) := by decide +kernel
theorem dX8_forget_11 : decode cX8_forget 11 = .ok (.bipush (-6), 2) := by decide +kernel
theorem dX8_forget_13 : decode cX8_forget 13 = .ok (.invokevirtual 50, 3) := by decide +kernel
theorem dX8_forget_16 : decode cX8_forget 16 = .ok (.ireturn, 1) := by decide +kernel
theorem dX8_forget_17 : decode cX8_forget 17 = .ok (.aload_n 0, 1) := by decide +kernel
theorem dX8_forget_18 : decode cX8_forget 18 = .ok (.getfield 32, 3) := by decide +kernel
theorem dX8_forget_21 : decode cX8_forget 21 = .ok (.invokevirtual 262, 3) := by decide +kernel
theorem dX8_forget_24 : decode cX8_forget 24 = .ok (.aload_n 0, 1) := by decide +kernel
theorem dX8_forget_25 : decode cX8_forget 25 = .ok (.invokevirtual 265, 3) := by decide +kernel
theorem dX8_forget_28 : decode cX8_forget 28 = .ok (.aload_n 0, 1) := by decide +kernel
theorem dX8_forget_29 : decode cX8_forget 29 = .ok (.getfield 32, 3) := by decide +kernel
theorem dX8_forget_32 : decode cX8_forget 32 = .ok (.getfield 259, 3) := by decide +kernel
theorem dX8_forget_35 : decode cX8_forget 35 = .ok (.ireturn, 1) := by decide +kernel
theorem dX8_judge_0 : decode cX8_judge 0 = .ok (.aload_n 0, 1) := by decide +kernel
theorem dX8_judge_1 : decode cX8_judge 1 = .ok (.iload_n 2, 1) := by decide +kernel
theorem dX8_judge_2 : decode cX8_judge 2 = .ok (.invokevirtual 121, 3) := by decide +kernel
theorem dX8_judge_5 : decode cX8_judge 5 = .ok (.astore 4, 2) := by decide +kernel
theorem dX8_judge_7 : decode cX8_judge 7 = .ok (.iload_n 1, 1) := by decide +kernel
theorem dX8_judge_8 : decode cX8_judge 8 = .ok (.invokestatic 46, 3) := by decide +kernel
theorem dX8_judge_11 : decode cX8_judge 11 = .ok (.ifCond .eq 8, 3) := by decide +kernel
theorem dX8_judge_14 : decode cX8_judge 14 = .ok (.aload 4, 2) := by decide +kernel
theorem dX8_judge_16 : decode cX8_judge 16 = .ok (.ifnonnull 9, 3) := by decide +kernel
theorem dX8_judge_19 : decode cX8_judge 19 = .ok (.aload_n 0, 1) := by decide +kernel
theorem dX8_judge_20 : decode cX8_judge 20 = .ok (.iconst (-1), 1) := by decide +kernel
theorem dX8_judge_21 : decode cX8_judge 21 = .ok (.invokevirtual 152, 3) := by decide +kernel
theorem dX8_judge_24 : decode cX8_judge 24 = .ok (.ireturn, 1) := by decide +kernel
theorem dX8_judge_25 : decode cX8_judge 25 = .ok (.aload_n 0, 1) := by decide +kernel
theorem dX8_judge_26 : decode cX8_judge 26 = .ok (.iload_n 1, 1) := by decide +kernel
theorem dX8_judge_27 : decode cX8_judge 27 = .ok (.invokevirtual 57, 3) := by decide +kernel
theorem dX8_judge_30 : decode cX8_judge 30 = .ok (.astore 5, 2) := by decide +kernel
theorem dX8_judge_32 : decode cX8_judge 32 = .ok (.aload 5, 2) := by decide +kernel
theorem dX8_judge_34 : decode cX8_judge 34 = .ok (.ifnonnull 13, 3) := by decide +kernel
theorem dX8_judge_37 : decode cX8_judge 37 = .ok (.aload_n 0, 1) := by decide +kernel
theorem dX8_judge_38 : decode cX8_judge 38 = .ok (.aload_n 0, 1) := by decide +kernel
theorem dX8_judge_39 : decode cX8_judge 39 = .ok (.iload_n 1, 1) := by decide +kernel
theorem dX8_judge_40 : decode cX8_judge 40 = .ok (.invokevirtual 61, 3) := by decide +kernel
theorem dX8_judge_43 : decode cX8_judge 43 = .ok (.invokevirtual 152, 3) := by decide +kernel
theorem dX8_judge_46 : decode cX8_judge 46 = .ok (.ireturn, 1) := by decide +kernel
theorem dX8_judge_47 : decode cX8_judge 47 = .ok (.iload_n 3, 1) := by decide +kernel
theorem dX8_judge_48 : decode cX8_judge 48 = .ok (.ifCond .ge 10, 3) := by decide +kernel
theorem dX8_judge_51 : decode cX8_judge 51 = .ok (.aload_n 0, 1) := by decide +kernel
theorem dX8_judge_52 : decode cX8_judge 52 = .ok (.bipush (-4), 2) := by decide +kernel
theorem dX8_judge_54 : decode cX8_judge 54 = .ok (.invokevirtual 152, 3) := by decide +kernel
theorem dX8_judge_57 : decode cX8_judge 57 = .ok (.ireturn, 1) := by decide +kernel
theorem dX8_judge_58 : decode cX8_judge 58 = .ok (.iload_n 3, 1) := by decide +kernel
theorem dX8_judge_59 : decode cX8_judge 59 = .ok (.aload 5, 2) := by decide +kernel
theorem dX8_judge_61 : decode cX8_judge 61 = .ok (.invokevirtual 268, 3) := by decide +kernel
theorem dX8_judge_64 : decode cX8_judge 64 = .ok (.if_icmp .le 10, 3) := by decide +kernel
theorem dX8_judge_67 : decode cX8_judge 67 = .ok (.aload_n 0, 1) := by decide +kernel
theorem dX8_judge_68 : decode cX8_judge 68 = .ok (.bipush (-5), 2) := by decide +kernel
theorem dX8_judge_70 : decode cX8_judge 70 = .ok (.invokevirtual 152, 3) := by decide +kernel
theorem dX8_judge_73 : decode cX8_judge 73 = .ok (.ireturn, 1) := by decide +kernel
theorem dX8_judge_74 : decode cX8_judge 74 = .ok (.iload_n 3, 1) := by decide +kernel
theorem dX8_judge_75 : decode cX8_judge 75 = .ok (.bipush 60, 2) := by decide +kernel
theorem dX8_judge_77 : decode cX8_judge 77 = .ok (.if_icmp .le 10, 3) := by decide +kernel
theorem dX8_judge_80 : decode cX8_judge 80 = .ok (.aload_n 0, 1) := by decide +kernel
theorem dX8_judge_81 : decode cX8_judge 81 = .ok (.bipush (-6), 2) := by decide +kernel
theorem dX8_judge_83 : decode cX8_judge 83 = .ok (.invokevirtual 152, 3) := by decide +kernel
theorem dX8_judge_86 : decode cX8_judge 86 = .ok (.ireturn, 1) := by decide +kernel
theorem dX8_judge_87 : decode cX8_judge 87 = .ok (.aload 4, 2) := by decide +kernel
theorem dX8_judge_89 : decode cX8_judge 89 = .ok (.aload 5, 2) := by decide +kernel
theorem dX8_judge_91 : decode cX8_judge 91 = .ok (.iload_n 3, 1) := by decide +kernel
theorem dX8_judge_92 : decode cX8_judge 92 = .ok (.invokevirtual 271, 3) := by decide +kernel
theorem dX8_judge_95 : decode cX8_judge 95 = .ok (.ireturn, 1) := by decide +kernel
theorem dX8_days_0 : decode cX8_days 0 = .ok (.aload_n 0, 1) := by decide +kernel
theorem dX8_days_1 : decode cX8_days 1 = .ok (.iload_n 1, 1) := by decide +kernel
theorem dX8_days_2 : decode cX8_days 2 = .ok (.invokevirtual 121, 3) := by decide +kernel
theorem dX8_days_5 : decode cX8_days 5 = .ok (.astore_n 3, 1) := by decide +kernel
theorem dX8_days_6 : decode cX8_days 6 = .ok (.aload_n 3, 1) := by decide +kernel
theorem dX8_days_7 : decode cX8_days 7 = .ok (.ifnonnull 9, 3) := by decide +kernel
theorem dX8_days_10 : decode cX8_days 10 = .ok (.aload_n 0, 1) := by decide +kernel
theorem dX8_days_11 : decode cX8_days 11 = .ok (.iconst (-1), 1) := by decide +kernel
theorem dX8_days_12 : decode cX8_days 12 = .ok (.invokevirtual 50, 3) := by decide +kernel
theorem dX8_days_15 : decode cX8_days 15 = .ok (.ireturn, 1) := by decide +kernel
theorem dX8_days_16 : decode cX8_days 16 = .ok (.iload_n 2, 1) := by decide +kernel
theorem dX8_days_17 : decode cX8_days 17 = .ok (.iconst 1, 1) := by decide +kernel
theorem dX8_days_18 : decode cX8_days 18 = .ok (.if_icmp .lt 9, 3) := by decide +kernel
theorem dX8_days_21 : decode cX8_days 21 = .ok (.iload_n 2, 1) := by decide +kernel
theorem dX8_days_22 : decode cX8_days 22 = .ok (.bipush 60, 2) := by decide +kernel
theorem dX8_days_24 : decode cX8_days 24 = .ok (.if_icmp .le 10, 3) := by decide +kernel
theorem dX8_days_27 : decode cX8_days 27 = .ok (.aload_n 0, 1) := by decide +kernel
theorem dX8_days_28 : decode cX8_days 28 = .ok (.bipush (-6), 2) := by decide +kernel
theorem dX8_days_30 : decode cX8_days 30 = .ok (.invokevirtual 50, 3) := by decide +kernel
theorem dX8_days_33 : decode cX8_days 33 = .ok (.ireturn, 1) := by decide +kernel
theorem dX8_days_34 : decode cX8_days 34 = .ok (.new 126, 3) := by decide +kernel
theorem dX8_days_37 : decode cX8_days 37 = .ok (.dup, 1) := by decide +kernel
theorem dX8_days_38 : decode cX8_days 38 = .ok (.aload_n 3, 1) := by decide +kernel
theorem dX8_days_39 : decode cX8_days 39 = .ok (.invokespecial 206, 3) := by decide +kernel
theorem dX8_days_42 : decode cX8_days 42 = .ok (.astore 4, 2) := by decide +kernel
theorem dX8_days_44 : decode cX8_days 44 = .ok (.iconst 0, 1) := by decide +kernel
theorem dX8_days_45 : decode cX8_days 45 = .ok (.istore 5, 2) := by decide +kernel
theorem dX8_days_47 : decode cX8_days 47 = .ok (.iload 5, 2) := by decide +kernel
theorem dX8_days_49 : decode cX8_days 49 = .ok (.iload_n 2, 1) := by decide +kernel
theorem dX8_days_50 : decode cX8_days 50 = .ok (.if_icmp .ge 15, 3) := by decide +kernel
theorem dX8_days_53 : decode cX8_days 53 = .ok (.aload_n 0, 1) := by decide +kernel
theorem dX8_days_54 : decode cX8_days 54 = .ok (.aload 4, 2) := by decide +kernel
theorem dX8_days_56 : decode cX8_days 56 = .ok (.invokevirtual 275, 3) := by decide +kernel
theorem dX8_days_59 : decode cX8_days 59 = .ok (.iinc 5 1, 3) := by decide +kernel
theorem dX8_days_62 : decode cX8_days 62 = .ok (.goto (-15), 3) := by decide +kernel
theorem dX8_days_65 : decode cX8_days 65 = .ok (.aload_n 0, 1) := by decide +kernel
theorem dX8_days_66 : decode cX8_days 66 = .ok (.getfield 32, 3) := by decide +kernel
theorem dX8_days_69 : decode cX8_days 69 = .ok (.iload_n 1, 1) := by decide +kernel
theorem dX8_days_70 : decode cX8_days 70 = .ok (.aload 4, 2) := by decide +kernel
theorem dX8_days_72 : decode cX8_days 72 = .ok (.invokevirtual 212, 3) := by decide +kernel
theorem dX8_days_75 : decode cX8_days 75 = .ok (.aload 4, 2) := by decide +kernel
theorem dX8_days_77 : decode cX8_days 77 = .ok (.getfield 125, 3) := by decide +kernel
theorem dX8_days_80 : decode cX8_days 80 = .ok (.ireturn, 1) := by decide +kernel
theorem dX8_seed_0 : decode cX8_seed 0 = .ok (.aload_n 0, 1) := by decide +kernel
theorem dX8_seed_1 : decode cX8_seed 1 = .ok (.getfield 32, 3) := by decide +kernel
theorem dX8_seed_4 : decode cX8_seed 4 = .ok (.getfield 278, 3) := by decide +kernel
theorem dX8_seed_7 : decode cX8_seed 7 = .ok (.istore_n 2, 1) := by decide +kernel
theorem dX8_seed_8 : decode cX8_seed 8 = .ok (.aload_n 0, 1) := by decide +kernel
theorem dX8_seed_9 : decode cX8_seed 9 = .ok (.getfield 32, 3) := by decide +kernel
theorem dX8_seed_12 : decode cX8_seed 12 = .ok (.iload_n 1, 1) := by decide +kernel
theorem dX8_seed_13 : decode cX8_seed 13 = .ok (.putfield 278, 3) := by decide +kernel
theorem dX8_seed_16 : decode cX8_seed 16 = .ok (.iload_n 2, 1) := by decide +kernel
theorem dX8_seed_17 : decode cX8_seed 17 = .ok (.ireturn, 1) := by decide +kernel
theorem dX8_image_0 : decode cX8_image 0 = .ok (.aload_n 0, 1) := by decide +kernel
theorem dX8_image_1 : decode cX8_image 1 = .ok (.new 29, 3) := by decide +kernel
theorem dX8_image_4 : decode cX8_image 4 = .ok (.dup, 1) := by decide +kernel
theorem dX8_image_5 : decode cX8_image 5 = .ok (.aload_n 0, 1) := by decide +kernel
theorem dX8_image_6 : decode cX8_image 6 = .ok (.getfield 32, 3) := by decide +kernel
theorem dX8_image_9 : decode cX8_image 9 = .ok (.invokespecial 281, 3) := by decide +kernel
theorem dX8_image_12 : decode cX8_image 12 = .ok (.putfield 36, 3) := by decide +kernel
theorem dX8_image_15 : decode cX8_image 15 = .ok (.aload_n 0, 1) := by decide +kernel
theorem dX8_image_16 : decode cX8_image 16 = .ok (.getfield 32, 3) := by decide +kernel
theorem dX8_image_19 : decode cX8_image 19 = .ok (.getfield 169, 3) := by decide +kernel
theorem dX8_image_22 : decode cX8_image 22 = .ok (.ireturn, 1) := by decide +kernel
theorem dX8_restore_0 : decode cX8_restore 0 = .ok (.aload_n 0, 1) := by decide +kernel
theorem dX8_restore_1 : decode cX8_restore 1 = .ok (.getfield 36, 3) := by decide +kernel
theorem dX8_restore_4 : decode cX8_restore 4 = .ok (.ifnonnull 10, 3) := by decide +kernel
theorem dX8_restore_7 : decode cX8_restore 7 = .ok (.aload_n 0, 1) := by decide +kernel
theorem dX8_restore_8 : decode cX8_restore 8 = .ok (.bipush (-6), 2) := by decide +kernel
theorem dX8_restore_10 : decode cX8_restore 10 = .ok (.invokevirtual 50, 3) := by decide +kernel
theorem dX8_restore_13 : decode cX8_restore 13 = .ok (.ireturn, 1) := by decide +kernel
theorem dX8_restore_14 : decode cX8_restore 14 = .ok (.aload_n 0, 1) := by decide +kernel
theorem dX8_restore_15 : decode cX8_restore 15 = .ok (.new 29, 3) := by decide +kernel
theorem dX8_restore_18 : decode cX8_restore 18 = .ok (.dup, 1) := by decide +kernel
theorem dX8_restore_19 : decode cX8_restore 19 = .ok (.aload_n 0, 1) := by decide +kernel
theorem dX8_restore_20 : decode cX8_restore 20 = .ok (.getfield 36, 3) := by decide +kernel
theorem dX8_restore_23 : decode cX8_restore 23 = .ok (.invokespecial 281, 3) := by decide +kernel
theorem dX8_restore_26 : decode cX8_restore 26 = .ok (.putfield 32, 3) := by decide +kernel
theorem dX8_restore_29 : decode cX8_restore 29 = .ok (.aload_n 0, 1) := by decide +kernel
theorem dX8_restore_30 : decode cX8_restore 30 = .ok (.invokevirtual 265, 3) := by decide +kernel
theorem dX8_restore_33 : decode cX8_restore 33 = .ok (.aload_n 0, 1) := by decide +kernel
theorem dX8_restore_34 : decode cX8_restore 34 = .ok (.getfield 32, 3) := by decide +kernel
theorem dX8_restore_37 : decode cX8_restore 37 = .ok (.getfield 169, 3) := by decide +kernel
theorem dX8_restore_40 : decode cX8_restore 40 = .ok (.ireturn, 1) := by decide +kernel
theorem dX8_status_0 : decode cX8_status 0 = .ok (.iload_n 1, 1) := by decide +kernel
theorem dX8_status_1 : decode cX8_status 1 = .ok (.bipush 10, 2) := by decide +kernel
theorem dX8_status_3 : decode cX8_status 3 = .ok (.if_icmp .le 19, 3) := by decide +kernel
theorem dX8_status_6 : decode cX8_status 6 = .ok (.iload_n 1, 1) := by decide +kernel
theorem dX8_status_7 : decode cX8_status 7 = .ok (.bipush 17, 2) := by decide +kernel
theorem dX8_status_9 : decode cX8_status 9 = .ok (.if_icmp .gt 13, 3) := by decide +kernel
theorem dX8_status_12 : decode cX8_status 12 = .ok (.aload_n 0, 1) := by decide +kernel
theorem dX8_status_13 : decode cX8_status 13 = .ok (.getfield 19, 3) := by decide +kernel
theorem dX8_status_16 : decode cX8_status 16 = .ok (.iload_n 1, 1) := by decide +kernel
theorem dX8_status_17 : decode cX8_status 17 = .ok (.bipush 10, 2) := by decide +kernel
theorem dX8_status_19 : decode cX8_status 19 = .ok (.isub, 1) := by decide +kernel
theorem dX8_status_20 : decode cX8_status 20 = .ok (.iaload, 1) := by decide +kernel
theorem dX8_status_21 : decode cX8_status 21 = .ok (.ireturn, 1) := by decide +kernel
theorem dX8_status_22 : decode cX8_status 22 = .ok (.iload_n 1, 1) := by decide +kernel
theorem dX8_status_23 : decode cX8_status 23 = .ok (.tableswitch 91 0 6 #[41, 49, 57, 65, 73, 78, 86], 41) := by decide +kernel
theorem dX8_status_64 : decode cX8_status 64 = .ok (.aload_n 0, 1) := by decide +kernel
theorem dX8_status_65 : decode cX8_status 65 = .ok (.getfield 32, 3) := by decide +kernel
theorem dX8_status_68 : decode cX8_status 68 = .ok (.getfield 169, 3) := by decide +kernel
theorem dX8_status_71 : decode cX8_status 71 = .ok (.ireturn, 1) := by decide +kernel
theorem dX8_status_72 : decode cX8_status 72 = .ok (.aload_n 0, 1) := by decide +kernel
theorem dX8_status_73 : decode cX8_status 73 = .ok (.getfield 32, 3) := by decide +kernel
theorem dX8_status_76 : decode cX8_status 76 = .ok (.getfield 259, 3) := by decide +kernel
theorem dX8_status_79 : decode cX8_status 79 = .ok (.ireturn, 1) := by decide +kernel
theorem dX8_status_80 : decode cX8_status 80 = .ok (.aload_n 0, 1) := by decide +kernel
theorem dX8_status_81 : decode cX8_status 81 = .ok (.getfield 32, 3) := by decide +kernel
theorem dX8_status_84 : decode cX8_status 84 = .ok (.invokevirtual 284, 3) := by decide +kernel
theorem dX8_status_87 : decode cX8_status 87 = .ok (.ireturn, 1) := by decide +kernel
theorem dX8_status_88 : decode cX8_status 88 = .ok (.aload_n 0, 1) := by decide +kernel
theorem dX8_status_89 : decode cX8_status 89 = .ok (.getfield 32, 3) := by decide +kernel
theorem dX8_status_92 : decode cX8_status 92 = .ok (.invokevirtual 287, 3) := by decide +kernel
theorem dX8_status_95 : decode cX8_status 95 = .ok (.ireturn, 1) := by decide +kernel
theorem dX8_status_96 : decode cX8_status 96 = .ok (.aload_n 0, 1) := by decide +kernel
theorem dX8_status_97 : decode cX8_status 97 = .ok (.getfield 43, 3) := by decide +kernel
theorem dX8_status_100 : decode cX8_status 100 = .ok (.ireturn, 1) := by decide +kernel
theorem dX8_status_101 : decode cX8_status 101 = .ok (.aload_n 0, 1) := by decide +kernel
theorem dX8_status_102 : decode cX8_status 102 = .ok (.getfield 32, 3) := by decide +kernel
theorem dX8_status_105 : decode cX8_status 105 = .ok (.getfield 278, 3) := by decide +kernel
theorem dX8_status_108 : decode cX8_status 108 = .ok (.ireturn, 1) := by decide +kernel
theorem dX8_status_109 : decode cX8_status 109 = .ok (.aload_n 0, 1) := by decide +kernel
theorem dX8_status_110 : decode cX8_status 110 = .ok (.invokevirtual 290, 3) := by decide +kernel
theorem dX8_status_113 : decode cX8_status 113 = .ok (.ireturn, 1) := by decide +kernel
theorem dX8_status_114 : decode cX8_status 114 = .ok (.iconst (-1), 1) := by decide +kernel
theorem dX8_status_115 : decode cX8_status 115 = .ok (.ireturn, 1) := by decide +kernel
theorem dX8_refuse_0 : decode cX8_refuse 0 = .ok (.iload_n 1, 1) := by decide +kernel
theorem dX8_refuse_1 : decode cX8_refuse 1 = .ok (.bipush (-7), 2) := by decide +kernel
theorem dX8_refuse_3 : decode cX8_refuse 3 = .ok (.if_icmp .lt 19, 3) := by decide +kernel
theorem dX8_refuse_6 : decode cX8_refuse 6 = .ok (.iload_n 1, 1) := by decide +kernel
theorem dX8_refuse_7 : decode cX8_refuse 7 = .ok (.iconst (-1), 1) := by decide +kernel
theorem dX8_refuse_8 : decode cX8_refuse 8 = .ok (.if_icmp .gt 14, 3) := by decide +kernel
theorem dX8_refuse_11 : decode cX8_refuse 11 = .ok (.aload_n 0, 1) := by decide +kernel
theorem dX8_refuse_12 : decode cX8_refuse 12 = .ok (.getfield 19, 3) := by decide +kernel
theorem dX8_refuse_15 : decode cX8_refuse 15 = .ok (.iload_n 1, 1) := by decide +kernel
theorem dX8_refuse_16 : decode cX8_refuse 16 = .ok (.ineg, 1) := by decide +kernel
theorem dX8_refuse_17 : decode cX8_refuse 17 = .ok (.dup2, 1) := by decide +kernel
theorem dX8_refuse_18 : decode cX8_refuse 18 = .ok (.iaload, 1) := by decide +kernel
theorem dX8_refuse_19 : decode cX8_refuse 19 = .ok (.iconst 1, 1) := by decide +kernel
theorem dX8_refuse_20 : decode cX8_refuse 20 = .ok (.iadd, 1) := by decide +kernel
theorem dX8_refuse_21 : decode cX8_refuse 21 = .ok (.iastore, 1) := by decide +kernel
theorem dX8_refuse_22 : decode cX8_refuse 22 = .ok (.iload_n 1, 1) := by decide +kernel
theorem dX8_refuse_23 : decode cX8_refuse 23 = .ok (.ireturn, 1) := by decide +kernel
theorem dX8_refuseLower_0 : decode cX8_refuseLower 0 = .ok (.aload_n 0, 1) := by decide +kernel
theorem dX8_refuseLower_1 : decode cX8_refuseLower 1 = .ok (.iload_n 1, 1) := by decide +kernel
theorem dX8_refuseLower_2 : decode cX8_refuseLower 2 = .ok (.invokevirtual 50, 3) := by decide +kernel
theorem dX8_refuseLower_5 : decode cX8_refuseLower 5 = .ok (.bipush 10, 2) := by decide +kernel
theorem dX8_refuseLower_7 : decode cX8_refuseLower 7 = .ok (.isub, 1) := by decide +kernel
theorem dX8_refuseLower_8 : decode cX8_refuseLower 8 = .ok (.ireturn, 1) := by decide +kernel
theorem dX8_isShelf_0 : decode cX8_isShelf 0 = .ok (.iload_n 0, 1) := by decide +kernel
theorem dX8_isShelf_1 : decode cX8_isShelf 1 = .ok (.ifCond .lt 13, 3) := by decide +kernel
theorem dX8_isShelf_4 : decode cX8_isShelf 4 = .ok (.iload_n 0, 1) := by decide +kernel
theorem dX8_isShelf_5 : decode cX8_isShelf 5 = .ok (.bipush 8, 2) := by decide +kernel
theorem dX8_isShelf_7 : decode cX8_isShelf 7 = .ok (.if_icmp .ge 7, 3) := by decide +kernel
theorem dX8_isShelf_10 : decode cX8_isShelf 10 = .ok (.iconst 1, 1) := by decide +kernel
theorem dX8_isShelf_11 : decode cX8_isShelf 11 = .ok (.goto 4, 3) := by decide +kernel
theorem dX8_isShelf_14 : decode cX8_isShelf 14 = .ok (.iconst 0, 1) := by decide +kernel
theorem dX8_isShelf_15 : decode cX8_isShelf 15 = .ok (.ireturn, 1) := by decide +kernel
theorem dX8_isLabel_0 : decode cX8_isLabel 0 = .ok (.iload_n 0, 1) := by decide +kernel
theorem dX8_isLabel_1 : decode cX8_isLabel 1 = .ok (.bipush 97, 2) := by decide +kernel
theorem dX8_isLabel_3 : decode cX8_isLabel 3 = .ok (.if_icmp .lt 13, 3) := by decide +kernel
theorem dX8_isLabel_6 : decode cX8_isLabel 6 = .ok (.iload_n 0, 1) := by decide +kernel
theorem dX8_isLabel_7 : decode cX8_isLabel 7 = .ok (.bipush 122, 2) := by decide +kernel
theorem dX8_isLabel_9 : decode cX8_isLabel 9 = .ok (.if_icmp .gt 7, 3) := by decide +kernel
theorem dX8_isLabel_12 : decode cX8_isLabel 12 = .ok (.iconst 1, 1) := by decide +kernel
theorem dX8_isLabel_13 : decode cX8_isLabel 13 = .ok (.goto 4, 3) := by decide +kernel
theorem dX8_isLabel_16 : decode cX8_isLabel 16 = .ok (.iconst 0, 1) := by decide +kernel
theorem dX8_isLabel_17 : decode cX8_isLabel 17 = .ok (.ireturn, 1) := by decide +kernel
theorem dX8_rowAt_0 : decode cX8_rowAt 0 = .ok (.iload_n 1, 1) := by decide +kernel
theorem dX8_rowAt_1 : decode cX8_rowAt 1 = .ok (.invokestatic 46, 3) := by decide +kernel
theorem dX8_rowAt_4 : decode cX8_rowAt 4 = .ok (.ifCond .eq 12, 3) := by decide +kernel
theorem dX8_rowAt_7 : decode cX8_rowAt 7 = .ok (.aload_n 0, 1) := by decide +kernel
theorem dX8_rowAt_8 : decode cX8_rowAt 8 = .ok (.getfield 11, 3) := by decide +kernel
theorem dX8_rowAt_11 : decode cX8_rowAt 11 = .ok (.iload_n 1, 1) := by decide +kernel
theorem dX8_rowAt_12 : decode cX8_rowAt 12 = .ok (.aaload, 1) := by decide +kernel
theorem dX8_rowAt_13 : decode cX8_rowAt 13 = .ok (.goto 4, 3) := by decide +kernel
theorem dX8_rowAt_16 : decode cX8_rowAt 16 = .ok (.aconst_null, 1) := by decide +kernel
theorem dX8_rowAt_17 : decode cX8_rowAt 17 = .ok (.areturn, 1) := by decide +kernel
theorem dX8_whyNoRow_0 : decode cX8_whyNoRow 0 = .ok (.iload_n 1, 1) := by decide +kernel
theorem dX8_whyNoRow_1 : decode cX8_whyNoRow 1 = .ok (.invokestatic 46, 3) := by decide +kernel
theorem dX8_whyNoRow_4 : decode cX8_whyNoRow 4 = .ok (.ifCond .ne 5, 3) := by decide +kernel
theorem dX8_whyNoRow_7 : decode cX8_whyNoRow 7 = .ok (.iconst (-1), 1) := by decide +kernel
theorem dX8_whyNoRow_8 : decode cX8_whyNoRow 8 = .ok (.ireturn, 1) := by decide +kernel
theorem dX8_whyNoRow_9 : decode cX8_whyNoRow 9 = .ok (.aload_n 0, 1) := by decide +kernel
theorem dX8_whyNoRow_10 : decode cX8_whyNoRow 10 = .ok (.getfield 15, 3) := by decide +kernel
theorem dX8_whyNoRow_13 : decode cX8_whyNoRow 13 = .ok (.iload_n 1, 1) := by decide +kernel
theorem dX8_whyNoRow_14 : decode cX8_whyNoRow 14 = .ok (.iaload, 1) := by decide +kernel
theorem dX8_whyNoRow_15 : decode cX8_whyNoRow 15 = .ok (.iconst (-1), 1) := by decide +kernel
theorem dX8_whyNoRow_16 : decode cX8_whyNoRow 16 = .ok (.if_icmp .ne 8, 3) := by decide +kernel
theorem dX8_whyNoRow_19 : decode cX8_whyNoRow 19 = .ok (.bipush (-3), 2) := by decide +kernel
theorem dX8_whyNoRow_21 : decode cX8_whyNoRow 21 = .ok (.goto 5, 3) := by decide +kernel
theorem dX8_whyNoRow_24 : decode cX8_whyNoRow 24 = .ok (.bipush (-2), 2) := by decide +kernel
theorem dX8_whyNoRow_26 : decode cX8_whyNoRow 26 = .ok (.ireturn, 1) := by decide +kernel
theorem dX8_treeAt_0 : decode cX8_treeAt 0 = .ok (.aload_n 0, 1) := by decide +kernel
theorem dX8_treeAt_1 : decode cX8_treeAt 1 = .ok (.getfield 32, 3) := by decide +kernel
theorem dX8_treeAt_4 : decode cX8_treeAt 4 = .ok (.iload_n 1, 1) := by decide +kernel
theorem dX8_treeAt_5 : decode cX8_treeAt 5 = .ok (.invokevirtual 293, 3) := by decide +kernel
theorem dX8_treeAt_8 : decode cX8_treeAt 8 = .ok (.areturn, 1) := by decide +kernel
theorem dX8_patchAt_0 : decode cX8_patchAt 0 = .ok (.aload_n 0, 1) := by decide +kernel
theorem dX8_patchAt_1 : decode cX8_patchAt 1 = .ok (.getfield 32, 3) := by decide +kernel
theorem dX8_patchAt_4 : decode cX8_patchAt 4 = .ok (.iload_n 1, 1) := by decide +kernel
theorem dX8_patchAt_5 : decode cX8_patchAt 5 = .ok (.invokevirtual 294, 3) := by decide +kernel
theorem dX8_patchAt_8 : decode cX8_patchAt 8 = .ok (.areturn, 1) := by decide +kernel
theorem dX8_emptyVainShelves_0 : decode cX8_emptyVainShelves 0 = .ok (.iconst 0, 1) := by decide +kernel
theorem dX8_emptyVainShelves_1 : decode cX8_emptyVainShelves 1 = .ok (.istore_n 1, 1) := by decide +kernel
theorem dX8_emptyVainShelves_2 : decode cX8_emptyVainShelves 2 = .ok (.iload_n 1, 1) := by decide +kernel
theorem dX8_emptyVainShelves_3 : decode cX8_emptyVainShelves 3 = .ok (.bipush 8, 2) := by decide +kernel
theorem dX8_emptyVainShelves_5 : decode cX8_emptyVainShelves 5 = .ok (.if_icmp .ge 32, 3) := by decide +kernel
theorem dX8_emptyVainShelves_8 : decode cX8_emptyVainShelves 8 = .ok (.aload_n 0, 1) := by decide +kernel
theorem dX8_emptyVainShelves_9 : decode cX8_emptyVainShelves 9 = .ok (.getfield 15, 3) := by decide +kernel
theorem dX8_emptyVainShelves_12 : decode cX8_emptyVainShelves 12 = .ok (.iload_n 1, 1) := by decide +kernel
theorem dX8_emptyVainShelves_13 : decode cX8_emptyVainShelves 13 = .ok (.iaload, 1) := by decide +kernel
theorem dX8_emptyVainShelves_14 : decode cX8_emptyVainShelves 14 = .ok (.aload_n 0, 1) := by decide +kernel
theorem dX8_emptyVainShelves_15 : decode cX8_emptyVainShelves 15 = .ok (.getfield 32, 3) := by decide +kernel
theorem dX8_emptyVainShelves_18 : decode cX8_emptyVainShelves 18 = .ok (.getfield 259, 3) := by decide +kernel
theorem dX8_emptyVainShelves_21 : decode cX8_emptyVainShelves 21 = .ok (.if_icmp .lt 10, 3) := by decide +kernel
theorem dX8_emptyVainShelves_24 : decode cX8_emptyVainShelves 24 = .ok (.aload_n 0, 1) := by decide +kernel
theorem dX8_emptyVainShelves_25 : decode cX8_emptyVainShelves 25 = .ok (.getfield 15, 3) := by decide +kernel
theorem dX8_emptyVainShelves_28 : decode cX8_emptyVainShelves 28 = .ok (.iload_n 1, 1) := by decide +kernel
theorem dX8_emptyVainShelves_29 : decode cX8_emptyVainShelves 29 = .ok (.iconst (-1), 1) := by decide +kernel
theorem dX8_emptyVainShelves_30 : decode cX8_emptyVainShelves 30 = .ok (.iastore, 1) := by decide +kernel
theorem dX8_emptyVainShelves_31 : decode cX8_emptyVainShelves 31 = .ok (.iinc 1 1, 3) := by decide +kernel
theorem dX8_emptyVainShelves_34 : decode cX8_emptyVainShelves 34 = .ok (.goto (-32), 3) := by decide +kernel
theorem dX8_emptyVainShelves_37 : decode cX8_emptyVainShelves 37 = .ok (.return_, 1) := by decide +kernel
theorem dX8_fullShelves_0 : decode cX8_fullShelves 0 = .ok (.iconst 0, 1) := by decide +kernel
theorem dX8_fullShelves_1 : decode cX8_fullShelves 1 = .ok (.istore_n 1, 1) := by decide +kernel
theorem dX8_fullShelves_2 : decode cX8_fullShelves 2 = .ok (.iconst 0, 1) := by decide +kernel
theorem dX8_fullShelves_3 : decode cX8_fullShelves 3 = .ok (.istore_n 2, 1) := by decide +kernel
theorem dX8_fullShelves_4 : decode cX8_fullShelves 4 = .ok (.iload_n 2, 1) := by decide +kernel
theorem dX8_fullShelves_5 : decode cX8_fullShelves 5 = .ok (.bipush 8, 2) := by decide +kernel
theorem dX8_fullShelves_7 : decode cX8_fullShelves 7 = .ok (.if_icmp .ge 31, 3) := by decide +kernel
theorem dX8_fullShelves_10 : decode cX8_fullShelves 10 = .ok (.aload_n 0, 1) := by decide +kernel
theorem dX8_fullShelves_11 : decode cX8_fullShelves 11 = .ok (.getfield 11, 3) := by decide +kernel
theorem dX8_fullShelves_14 : decode cX8_fullShelves 14 = .ok (.iload_n 2, 1) := by decide +kernel
theorem dX8_fullShelves_15 : decode cX8_fullShelves 15 = .ok (.aaload, 1) := by decide +kernel
theorem dX8_fullShelves_16 : decode cX8_fullShelves 16 = .ok (.ifnonnull 13, 3) := by decide +kernel
theorem dX8_fullShelves_19 : decode cX8_fullShelves 19 = .ok (.aload_n 0, 1) := by decide +kernel
theorem dX8_fullShelves_20 : decode cX8_fullShelves 20 = .ok (.getfield 15, 3) := by decide +kernel
theorem dX8_fullShelves_23 : decode cX8_fullShelves 23 = .ok (.iload_n 2, 1) := by decide +kernel
theorem dX8_fullShelves_24 : decode cX8_fullShelves 24 = .ok (.iaload, 1) := by decide +kernel
theorem dX8_fullShelves_25 : decode cX8_fullShelves 25 = .ok (.iconst (-1), 1) := by decide +kernel
theorem dX8_fullShelves_26 : decode cX8_fullShelves 26 = .ok (.if_icmp .eq 6, 3) := by decide +kernel
theorem dX8_fullShelves_29 : decode cX8_fullShelves 29 = .ok (.iinc 1 1, 3) := by decide +kernel
theorem dX8_fullShelves_32 : decode cX8_fullShelves 32 = .ok (.iinc 2 1, 3) := by decide +kernel
theorem dX8_fullShelves_35 : decode cX8_fullShelves 35 = .ok (.goto (-31), 3) := by decide +kernel
theorem dX8_fullShelves_38 : decode cX8_fullShelves 38 = .ok (.iload_n 1, 1) := by decide +kernel
theorem dX8_fullShelves_39 : decode cX8_fullShelves 39 = .ok (.ireturn, 1) := by decide +kernel
theorem dX8_keepDraft_0 : decode cX8_keepDraft 0 = .ok (.aload_n 0, 1) := by decide +kernel
theorem dX8_keepDraft_1 : decode cX8_keepDraft 1 = .ok (.getfield 25, 3) := by decide +kernel
theorem dX8_keepDraft_4 : decode cX8_keepDraft 4 = .ok (.getfield 184, 3) := by decide +kernel
theorem dX8_keepDraft_7 : decode cX8_keepDraft 7 = .ok (.bipush 120, 2) := by decide +kernel
theorem dX8_keepDraft_9 : decode cX8_keepDraft 9 = .ok (.if_icmp .gt 15, 3) := by decide +kernel
theorem dX8_keepDraft_12 : decode cX8_keepDraft 12 = .ok (.aload_n 0, 1) := by decide +kernel
theorem dX8_keepDraft_13 : decode cX8_keepDraft 13 = .ok (.getfield 32, 3) := by decide +kernel
theorem dX8_keepDraft_16 : decode cX8_keepDraft 16 = .ok (.getfield 259, 3) := by decide +kernel
theorem dX8_keepDraft_19 : decode cX8_keepDraft 19 = .ok (.bipush 16, 2) := by decide +kernel
theorem dX8_keepDraft_21 : decode cX8_keepDraft 21 = .ok (.if_icmp .lt 10, 3) := by decide +kernel
theorem dX8_keepDraft_24 : decode cX8_keepDraft 24 = .ok (.aload_n 0, 1) := by decide +kernel
theorem dX8_keepDraft_25 : decode cX8_keepDraft 25 = .ok (.bipush (-7), 2) := by decide +kernel
theorem dX8_keepDraft_27 : decode cX8_keepDraft 27 = .ok (.invokevirtual 50, 3) := by decide +kernel
theorem dX8_keepDraft_30 : decode cX8_keepDraft 30 = .ok (.ireturn, 1) := by decide +kernel
theorem dX8_keepDraft_31 : decode cX8_keepDraft 31 = .ok (.aload_n 0, 1) := by decide +kernel
theorem dX8_keepDraft_32 : decode cX8_keepDraft 32 = .ok (.dup, 1) := by decide +kernel
theorem dX8_keepDraft_33 : decode cX8_keepDraft 33 = .ok (.getfield 43, 3) := by decide +kernel
theorem dX8_keepDraft_36 : decode cX8_keepDraft 36 = .ok (.iconst 1, 1) := by decide +kernel
theorem dX8_keepDraft_37 : decode cX8_keepDraft 37 = .ok (.iadd, 1) := by decide +kernel
theorem dX8_keepDraft_38 : decode cX8_keepDraft 38 = .ok (.putfield 43, 3) := by decide +kernel
theorem dX8_keepDraft_41 : decode cX8_keepDraft 41 = .ok (.aload_n 0, 1) := by decide +kernel
theorem dX8_keepDraft_42 : decode cX8_keepDraft 42 = .ok (.getfield 32, 3) := by decide +kernel
theorem dX8_keepDraft_45 : decode cX8_keepDraft 45 = .ok (.new 97, 3) := by decide +kernel
theorem dX8_keepDraft_48 : decode cX8_keepDraft 48 = .ok (.dup, 1) := by decide +kernel
theorem dX8_keepDraft_49 : decode cX8_keepDraft 49 = .ok (.aload_n 0, 1) := by decide +kernel
theorem dX8_keepDraft_50 : decode cX8_keepDraft 50 = .ok (.getfield 25, 3) := by decide +kernel
theorem dX8_keepDraft_53 : decode cX8_keepDraft 53 = .ok (.iload_n 1, 1) := by decide +kernel
theorem dX8_keepDraft_54 : decode cX8_keepDraft 54 = .ok (.iload_n 2, 1) := by decide +kernel
theorem dX8_keepDraft_55 : decode cX8_keepDraft 55 = .ok (.aload_n 0, 1) := by decide +kernel
theorem dX8_keepDraft_56 : decode cX8_keepDraft 56 = .ok (.getfield 43, 3) := by decide +kernel
theorem dX8_keepDraft_59 : decode cX8_keepDraft 59 = .ok (.invokespecial 295, 3) := by decide +kernel
theorem dX8_keepDraft_62 : decode cX8_keepDraft 62 = .ok (.invokevirtual 298, 3) := by decide +kernel
theorem dX8_keepDraft_65 : decode cX8_keepDraft 65 = .ok (.ireturn, 1) := by decide +kernel
theorem dX8_passDay_0 : decode cX8_passDay 0 = .ok (.aload_n 0, 1) := by decide +kernel
theorem dX8_passDay_1 : decode cX8_passDay 1 = .ok (.getfield 32, 3) := by decide +kernel
theorem dX8_passDay_4 : decode cX8_passDay 4 = .ok (.bipush 60, 2) := by decide +kernel
theorem dX8_passDay_6 : decode cX8_passDay 6 = .ok (.invokevirtual 302, 3) := by decide +kernel
theorem dX8_passDay_9 : decode cX8_passDay 9 = .ok (.iconst 1, 1) := by decide +kernel
theorem dX8_passDay_10 : decode cX8_passDay 10 = .ok (.iadd, 1) := by decide +kernel
theorem dX8_passDay_11 : decode cX8_passDay 11 = .ok (.istore_n 2, 1) := by decide +kernel
theorem dX8_passDay_12 : decode cX8_passDay 12 = .ok (.aload_n 1, 1) := by decide +kernel
theorem dX8_passDay_13 : decode cX8_passDay 13 = .ok (.iload_n 2, 1) := by decide +kernel
theorem dX8_passDay_14 : decode cX8_passDay 14 = .ok (.invokevirtual 155, 3) := by decide +kernel
theorem dX8_passDay_17 : decode cX8_passDay 17 = .ok (.istore_n 3, 1) := by decide +kernel
theorem dX8_passDay_18 : decode cX8_passDay 18 = .ok (.iload_n 3, 1) := by decide +kernel
theorem dX8_passDay_19 : decode cX8_passDay 19 = .ok (.iconst (-1), 1) := by decide +kernel
theorem dX8_passDay_20 : decode cX8_passDay 20 = .ok (.if_icmp .ne 61, 3) := by decide +kernel
theorem dX8_passDay_23 : decode cX8_passDay 23 = .ok (.aload_n 1, 1) := by decide +kernel
theorem dX8_passDay_24 : decode cX8_passDay 24 = .ok (.getfield 125, 3) := by decide +kernel
theorem dX8_passDay_27 : decode cX8_passDay 27 = .ok (.bipush 40, 2) := by decide +kernel
theorem dX8_passDay_29 : decode cX8_passDay 29 = .ok (.if_icmp .ge 100, 3) := by decide +kernel
theorem dX8_passDay_32 : decode cX8_passDay 32 = .ok (.bipush 97, 2) := by decide +kernel
theorem dX8_passDay_34 : decode cX8_passDay 34 = .ok (.aload_n 0, 1) := by decide +kernel
theorem dX8_passDay_35 : decode cX8_passDay 35 = .ok (.getfield 32, 3) := by decide +kernel
theorem dX8_passDay_38 : decode cX8_passDay 38 = .ok (.bipush 26, 2) := by decide +kernel
theorem dX8_passDay_40 : decode cX8_passDay 40 = .ok (.invokevirtual 302, 3) := by decide +kernel
theorem dX8_passDay_43 : decode cX8_passDay 43 = .ok (.iadd, 1) := by decide +kernel
theorem dX8_passDay_44 : decode cX8_passDay 44 = .ok (.istore 4, 2) := by decide +kernel
theorem dX8_passDay_46 : decode cX8_passDay 46 = .ok (.aload_n 0, 1) := by decide +kernel
theorem dX8_passDay_47 : decode cX8_passDay 47 = .ok (.getfield 32, 3) := by decide +kernel
theorem dX8_passDay_50 : decode cX8_passDay 50 = .ok (.aload_n 1, 1) := by decide +kernel
theorem dX8_passDay_51 : decode cX8_passDay 51 = .ok (.getfield 125, 3) := by decide +kernel
theorem dX8_passDay_54 : decode cX8_passDay 54 = .ok (.invokevirtual 302, 3) := by decide +kernel
theorem dX8_passDay_57 : decode cX8_passDay 57 = .ok (.istore 5, 2) := by decide +kernel
theorem dX8_passDay_59 : decode cX8_passDay 59 = .ok (.aload_n 1, 1) := by decide +kernel
theorem dX8_passDay_60 : decode cX8_passDay 60 = .ok (.iload 5, 2) := by decide +kernel
theorem dX8_passDay_62 : decode cX8_passDay 62 = .ok (.iconst 1, 1) := by decide +kernel
theorem dX8_passDay_63 : decode cX8_passDay 63 = .ok (.iadd, 1) := by decide +kernel
theorem dX8_passDay_64 : decode cX8_passDay 64 = .ok (.iload_n 2, 1) := by decide +kernel
theorem dX8_passDay_65 : decode cX8_passDay 65 = .ok (.iload 4, 2) := by decide +kernel
theorem dX8_passDay_67 : decode cX8_passDay 67 = .ok (.aload_n 1, 1) := by decide +kernel
theorem dX8_passDay_68 : decode cX8_passDay 68 = .ok (.iload 5, 2) := by decide +kernel
theorem dX8_passDay_70 : decode cX8_passDay 70 = .ok (.invokevirtual 146, 3) := by decide +kernel
theorem dX8_passDay_73 : decode cX8_passDay 73 = .ok (.iconst 1, 1) := by decide +kernel
theorem dX8_passDay_74 : decode cX8_passDay 74 = .ok (.iadd, 1) := by decide +kernel
theorem dX8_passDay_75 : decode cX8_passDay 75 = .ok (.invokevirtual 305, 3) := by decide +kernel
theorem dX8_passDay_78 : decode cX8_passDay 78 = .ok (.goto 51, 3) := by decide +kernel
theorem dX8_passDay_81 : decode cX8_passDay 81 = .ok (.iload_n 3, 1) := by decide +kernel
theorem dX8_passDay_82 : decode cX8_passDay 82 = .ok (.ifCond .eq 30, 3) := by decide +kernel
theorem dX8_passDay_85 : decode cX8_passDay 85 = .ok (.aload_n 1, 1) := by decide +kernel
theorem dX8_passDay_86 : decode cX8_passDay 86 = .ok (.iload_n 3, 1) := by decide +kernel
theorem dX8_passDay_87 : decode cX8_passDay 87 = .ok (.invokevirtual 143, 3) := by decide +kernel
theorem dX8_passDay_90 : decode cX8_passDay 90 = .ok (.ifCond .ne 22, 3) := by decide +kernel
theorem dX8_passDay_93 : decode cX8_passDay 93 = .ok (.aload_n 0, 1) := by decide +kernel
theorem dX8_passDay_94 : decode cX8_passDay 94 = .ok (.getfield 32, 3) := by decide +kernel
theorem dX8_passDay_97 : decode cX8_passDay 97 = .ok (.iconst 2, 1) := by decide +kernel
theorem dX8_passDay_98 : decode cX8_passDay 98 = .ok (.invokevirtual 302, 3) := by decide +kernel
theorem dX8_passDay_101 : decode cX8_passDay 101 = .ok (.ifCond .ne 11, 3) := by decide +kernel
theorem dX8_passDay_104 : decode cX8_passDay 104 = .ok (.aload_n 1, 1) := by decide +kernel
theorem dX8_passDay_105 : decode cX8_passDay 105 = .ok (.iload_n 3, 1) := by decide +kernel
theorem dX8_passDay_106 : decode cX8_passDay 106 = .ok (.invokevirtual 309, 3) := by decide +kernel
theorem dX8_passDay_109 : decode cX8_passDay 109 = .ok (.goto 20, 3) := by decide +kernel
theorem dX8_passDay_112 : decode cX8_passDay 112 = .ok (.aload_n 1, 1) := by decide +kernel
theorem dX8_passDay_113 : decode cX8_passDay 113 = .ok (.iload_n 3, 1) := by decide +kernel
theorem dX8_passDay_114 : decode cX8_passDay 114 = .ok (.bipush 97, 2) := by decide +kernel
theorem dX8_passDay_116 : decode cX8_passDay 116 = .ok (.aload_n 0, 1) := by decide +kernel
theorem dX8_passDay_117 : decode cX8_passDay 117 = .ok (.getfield 32, 3) := by decide +kernel
theorem dX8_passDay_120 : decode cX8_passDay 120 = .ok (.bipush 26, 2) := by decide +kernel
theorem dX8_passDay_122 : decode cX8_passDay 122 = .ok (.invokevirtual 302, 3) := by decide +kernel
theorem dX8_passDay_125 : decode cX8_passDay 125 = .ok (.iadd, 1) := by decide +kernel
theorem dX8_passDay_126 : decode cX8_passDay 126 = .ok (.invokevirtual 313, 3) := by decide +kernel
theorem dX8_passDay_129 : decode cX8_passDay 129 = .ok (.return_, 1) := by decide +kernel
theorem dX9_init_0 : decode cX9_init 0 = .ok (.aload_n 0, 1) := by decide +kernel
theorem dX9_init_1 : decode cX9_init 1 = .ok (.invokespecial 1, 3) := by decide +kernel
theorem dX9_init_4 : decode cX9_init 4 = .ok (.aload_n 0, 1) := by decide +kernel
theorem dX9_init_5 : decode cX9_init 5 = .ok (.bipush 16, 2) := by decide +kernel
theorem dX9_init_7 : decode cX9_init 7 = .ok (.newarray .int, 2) := by decide +kernel
theorem dX9_init_9 : decode cX9_init 9 = .ok (.putfield 7, 3) := by decide +kernel
theorem dX9_init_12 : decode cX9_init 12 = .ok (.aload_n 0, 1) := by decide +kernel
theorem dX9_init_13 : decode cX9_init 13 = .ok (.sipush 1024, 3) := by decide +kernel
theorem dX9_init_16 : decode cX9_init 16 = .ok (.newarray .int, 2) := by decide +kernel
theorem dX9_init_18 : decode cX9_init 18 = .ok (.putfield 13, 3) := by decide +kernel
theorem dX9_init_21 : decode cX9_init 21 = .ok (.aload_n 0, 1) := by decide +kernel
theorem dX9_init_22 : decode cX9_init 22 = .ok (.sipush 1024, 3) := by decide +kernel
theorem dX9_init_25 : decode cX9_init 25 = .ok (.newarray .int, 2) := by decide +kernel
theorem dX9_init_27 : decode cX9_init 27 = .ok (.putfield 16, 3) := by decide +kernel
theorem dX9_init_30 : decode cX9_init 30 = .ok (.aload_n 0, 1) := by decide +kernel
theorem dX9_init_31 : decode cX9_init 31 = .ok (.sipush 1024, 3) := by decide +kernel
theorem dX9_init_34 : decode cX9_init 34 = .ok (.newarray .int, 2) := by decide +kernel
theorem dX9_init_36 : decode cX9_init 36 = .ok (.putfield 19, 3) := by decide +kernel
theorem dX9_init_39 : decode cX9_init 39 = .ok (.aload_n 0, 1) := by decide +kernel
theorem dX9_init_40 : decode cX9_init 40 = .ok (.bipush 80, 2) := by decide +kernel
theorem dX9_init_42 : decode cX9_init 42 = .ok (.newarray .int, 2) := by decide +kernel
theorem dX9_init_44 : decode cX9_init 44 = .ok (.putfield 22, 3) := by decide +kernel
theorem dX9_init_47 : decode cX9_init 47 = .ok (.aload_n 0, 1) := by decide +kernel
theorem dX9_init_48 : decode cX9_init 48 = .ok (.sipush 13440, 3) := by decide +kernel
theorem dX9_init_51 : decode cX9_init 51 = .ok (.newarray .int, 2) := by decide +kernel
theorem dX9_init_53 : decode cX9_init 53 = .ok (.putfield 25, 3) := by decide +kernel
theorem dX9_init_56 : decode cX9_init 56 = .ok (.aload_n 0, 1) := by decide +kernel
theorem dX9_init_57 : decode cX9_init 57 = .ok (.sipush 3840, 3) := by decide +kernel
theorem dX9_init_60 : decode cX9_init 60 = .ok (.newarray .int, 2) := by decide +kernel
theorem dX9_init_62 : decode cX9_init 62 = .ok (.putfield 28, 3) := by decide +kernel
theorem dX9_init_65 : decode cX9_init 65 = .ok (.aload_n 0, 1) := by decide +kernel
theorem dX9_init_66 : decode cX9_init 66 = .ok (.bipush 8, 2) := by decide +kernel
theorem dX9_init_68 : decode cX9_init 68 = .ok (.newarray .int, 2) := by decide +kernel
theorem dX9_init_70 : decode cX9_init 70 = .ok (.putfield 31, 3) := by decide +kernel
theorem dX9_init_73 : decode cX9_init 73 = .ok (.aload_n 0, 1) := by decide +kernel
theorem dX9_init_74 : decode cX9_init 74 = .ok (.bipush 8, 2) := by decide +kernel
theorem dX9_init_76 : decode cX9_init 76 = .ok (.newarray .int, 2) := by decide +kernel
theorem dX9_init_78 : decode cX9_init 78 = .ok (.putfield 34, 3) := by decide +kernel
theorem dX9_init_81 : decode cX9_init 81 = .ok (.aload_n 0, 1) := by decide +kernel
theorem dX9_init_82 : decode cX9_init 82 = .ok (.sipush 1280, 3) := by decide +kernel
theorem dX9_init_85 : decode cX9_init 85 = .ok (.newarray .long, 2) := by decide +kernel
theorem dX9_init_87 : decode cX9_init 87 = .ok (.putfield 37, 3) := by decide +kernel
theorem dX9_init_90 : decode cX9_init 90 = .ok (.aload_n 0, 1) := by decide +kernel
theorem dX9_init_91 : decode cX9_init 91 = .ok (.bipush 8, 2) := by decide +kernel
theorem dX9_init_93 : decode cX9_init 93 = .ok (.newarray .int, 2) := by decide +kernel
theorem dX9_init_95 : decode cX9_init 95 = .ok (.putfield 41, 3) := by decide +kernel
theorem dX9_init_98 : decode cX9_init 98 = .ok (.aload_n 0, 1) := by decide +kernel
theorem dX9_init_99 : decode cX9_init 99 = .ok (.bipush 66, 2) := by decide +kernel
theorem dX9_init_101 : decode cX9_init 101 = .ok (.newarray .int, 2) := by decide +kernel
theorem dX9_init_103 : decode cX9_init 103 = .ok (.putfield 44, 3) := by decide +kernel
theorem dX9_init_106 : decode cX9_init 106 = .ok (.aload_n 0, 1) := by decide +kernel
theorem dX9_init_107 : decode cX9_init 107 = .ok (.bipush 66, 2) := by decide +kernel
theorem dX9_init_109 : decode cX9_init 109 = .ok (.newarray .int, 2) := by decide +kernel
theorem dX9_init_111 : decode cX9_init 111 = .ok (.putfield 47, 3) := by decide +kernel
theorem dX9_init_114 : decode cX9_init 114 = .ok (.aload_n 0, 1) := by decide +kernel
theorem dX9_init_115 : decode cX9_init 115 = .ok (.bipush 66, 2) := by decide +kernel
theorem dX9_init_117 : decode cX9_init 117 = .ok (.newarray .int, 2) := by decide +kernel
theorem dX9_init_119 : decode cX9_init 119 = .ok (.putfield 50, 3) := by decide +kernel
theorem dX9_init_122 : decode cX9_init 122 = .ok (.aload_n 0, 1) := by decide +kernel
theorem dX9_init_123 : decode cX9_init 123 = .ok (.bipush 66, 2) := by decide +kernel
theorem dX9_init_125 : decode cX9_init 125 = .ok (.newarray .int, 2) := by decide +kernel
theorem dX9_init_127 : decode cX9_init 127 = .ok (.putfield 53, 3) := by decide +kernel
theorem dX9_init_130 : decode cX9_init 130 = .ok (.aload_n 0, 1) := by decide +kernel
theorem dX9_init_131 : decode cX9_init 131 = .ok (.bipush 66, 2) := by decide +kernel
theorem dX9_init_133 : decode cX9_init 133 = .ok (.newarray .int, 2) := by decide +kernel
theorem dX9_init_135 : decode cX9_init 135 = .ok (.putfield 56, 3) := by decide +kernel
theorem dX9_init_138 : decode cX9_init 138 = .ok (.aload_n 0, 1) := by decide +kernel
theorem dX9_init_139 : decode cX9_init 139 = .ok (.bipush 66, 2) := by decide +kernel
theorem dX9_init_141 : decode cX9_init 141 = .ok (.newarray .int, 2) := by decide +kernel
theorem dX9_init_143 : decode cX9_init 143 = .ok (.putfield 59, 3) := by decide +kernel
theorem dX9_init_146 : decode cX9_init 146 = .ok (.aload_n 0, 1) := by decide +kernel
theorem dX9_init_147 : decode cX9_init 147 = .ok (.sipush 1400, 3) := by decide +kernel
theorem dX9_init_150 : decode cX9_init 150 = .ok (.newarray .int, 2) := by decide +kernel
theorem dX9_init_152 : decode cX9_init 152 = .ok (.putfield 62, 3) := by decide +kernel
theorem dX9_init_155 : decode cX9_init 155 = .ok (.aload_n 0, 1) := by decide +kernel
theorem dX9_init_156 : decode cX9_init 156 = .ok (.sipush 240, 3) := by decide +kernel
theorem dX9_init_159 : decode cX9_init 159 = .ok (.newarray .int, 2) := by decide +kernel
theorem dX9_init_161 : decode cX9_init 161 = .ok (.putfield 65, 3) := by decide +kernel
theorem dX9_init_164 : decode cX9_init 164 = .ok (.aload_n 0, 1) := by decide +kernel
theorem dX9_init_165 : decode cX9_init 165 = .ok (.bipush 66, 2) := by decide +kernel
theorem dX9_init_167 : decode cX9_init 167 = .ok (.newarray .int, 2) := by decide +kernel
theorem dX9_init_169 : decode cX9_init 169 = .ok (.putfield 68, 3) := by decide +kernel
theorem dX9_init_172 : decode cX9_init 172 = .ok (.aload_n 0, 1) := by decide +kernel
theorem dX9_init_173 : decode cX9_init 173 = .ok (.bipush 16, 2) := by decide +kernel
theorem dX9_init_175 : decode cX9_init 175 = .ok (.newarray .int, 2) := by decide +kernel
theorem dX9_init_177 : decode cX9_init 177 = .ok (.putfield 71, 3) := by decide +kernel
theorem dX9_init_180 : decode cX9_init 180 = .ok (.aload_n 0, 1) := by decide +kernel
theorem dX9_init_181 : decode cX9_init 181 = .ok (.sipush 1024, 3) := by decide +kernel
theorem dX9_init_184 : decode cX9_init 184 = .ok (.newarray .int, 2) := by decide +kernel
theorem dX9_init_186 : decode cX9_init 186 = .ok (.putfield 74, 3) := by decide +kernel
theorem dX9_init_189 : decode cX9_init 189 = .ok (.aload_n 0, 1) := by decide +kernel
theorem dX9_init_190 : decode cX9_init 190 = .ok (.sipush 1024, 3) := by decide +kernel
theorem dX9_init_193 : decode cX9_init 193 = .ok (.newarray .int, 2) := by decide +kernel
theorem dX9_init_195 : decode cX9_init 195 = .ok (.putfield 77, 3) := by decide +kernel
theorem dX9_init_198 : decode cX9_init 198 = .ok (.aload_n 0, 1) := by decide +kernel
theorem dX9_init_199 : decode cX9_init 199 = .ok (.sipush 1024, 3) := by decide +kernel
theorem dX9_init_202 : decode cX9_init 202 = .ok (.newarray .int, 2) := by decide +kernel
theorem dX9_init_204 : decode cX9_init 204 = .ok (.putfield 80, 3) := by decide +kernel
theorem dX9_init_207 : decode cX9_init 207 = .ok (.aload_n 0, 1) := by decide +kernel
theorem dX9_init_208 : decode cX9_init 208 = .ok (.bipush 80, 2) := by decide +kernel
theorem dX9_init_210 : decode cX9_init 210 = .ok (.newarray .int, 2) := by decide +kernel
theorem dX9_init_212 : decode cX9_init 212 = .ok (.putfield 83, 3) := by decide +kernel
theorem dX9_init_215 : decode cX9_init 215 = .ok (.aload_n 0, 1) := by decide +kernel
theorem dX9_init_216 : decode cX9_init 216 = .ok (.sipush 13440, 3) := by decide +kernel
theorem dX9_init_219 : decode cX9_init 219 = .ok (.newarray .int, 2) := by decide +kernel
theorem dX9_init_221 : decode cX9_init 221 = .ok (.putfield 86, 3) := by decide +kernel
theorem dX9_init_224 : decode cX9_init 224 = .ok (.aload_n 0, 1) := by decide +kernel
theorem dX9_init_225 : decode cX9_init 225 = .ok (.sipush 3840, 3) := by decide +kernel
theorem dX9_init_228 : decode cX9_init 228 = .ok (.newarray .int, 2) := by decide +kernel
theorem dX9_init_230 : decode cX9_init 230 = .ok (.putfield 89, 3) := by decide +kernel
theorem dX9_init_233 : decode cX9_init 233 = .ok (.aload_n 0, 1) := by decide +kernel
theorem dX9_init_234 : decode cX9_init 234 = .ok (.iconst 1, 1) := by decide +kernel
theorem dX9_init_235 : decode cX9_init 235 = .ok (.putfield 92, 3) := by decide +kernel
theorem dX9_init_238 : decode cX9_init 238 = .ok (.aload_n 0, 1) := by decide +kernel
theorem dX9_init_239 : decode cX9_init 239 = .ok (.iconst (-1), 1) := by decide +kernel
theorem dX9_init_240 : decode cX9_init 240 = .ok (.putfield 96, 3) := by decide +kernel
theorem dX9_init_243 : decode cX9_init 243 = .ok (.iconst 0, 1) := by decide +kernel
theorem dX9_init_244 : decode cX9_init 244 = .ok (.istore_n 1, 1) := by decide +kernel
theorem dX9_init_245 : decode cX9_init 245 = .ok (.iload_n 1, 1) := by decide +kernel
theorem dX9_init_246 : decode cX9_init 246 = .ok (.bipush 8, 2) := by decide +kernel
theorem dX9_init_248 : decode cX9_init 248 = .ok (.if_icmp .ge 16, 3) := by decide +kernel
theorem dX9_init_251 : decode cX9_init 251 = .ok (.aload_n 0, 1) := by decide +kernel
theorem dX9_init_252 : decode cX9_init 252 = .ok (.getfield 31, 3) := by decide +kernel
theorem dX9_init_255 : decode cX9_init 255 = .ok (.iload_n 1, 1) := by decide +kernel
theorem dX9_init_256 : decode cX9_init 256 = .ok (.iconst (-1), 1) := by decide +kernel
theorem dX9_init_257 : decode cX9_init 257 = .ok (.iastore, 1) := by decide +kernel
theorem dX9_init_258 : decode cX9_init 258 = .ok (.iinc 1 1, 3) := by decide +kernel
theorem dX9_init_261 : decode cX9_init 261 = .ok (.goto (-16), 3) := by decide +kernel
theorem dX9_init_264 : decode cX9_init 264 = .ok (.return_, 1) := by decide +kernel
theorem dX9_no_0 : decode cX9_no 0 = .ok (.aload_n 0, 1) := by decide +kernel
theorem dX9_no_1 : decode cX9_no 1 = .ok (.getfield 41, 3) := by decide +kernel
theorem dX9_no_4 : decode cX9_no 4 = .ok (.iload_n 1, 1) := by decide +kernel
theorem dX9_no_5 : decode cX9_no 5 = .ok (.ineg, 1) := by decide +kernel
theorem dX9_no_6 : decode cX9_no 6 = .ok (.dup2, 1) := by decide +kernel
theorem dX9_no_7 : decode cX9_no 7 = .ok (.iaload, 1) := by decide +kernel
theorem dX9_no_8 : decode cX9_no 8 = .ok (.iconst 1, 1) := by decide +kernel
theorem dX9_no_9 : decode cX9_no 9 = .ok (.iadd, 1) := by decide +kernel
theorem dX9_no_10 : decode cX9_no 10 = .ok (.iastore, 1) := by decide +kernel
theorem dX9_no_11 : decode cX9_no 11 = .ok (.iload_n 1, 1) := by decide +kernel
theorem dX9_no_12 : decode cX9_no 12 = .ok (.ireturn, 1) := by decide +kernel
theorem dX9_no10_0 : decode cX9_no10 0 = .ok (.aload_n 0, 1) := by decide +kernel
theorem dX9_no10_1 : decode cX9_no10 1 = .ok (.iload_n 1, 1) := by decide +kernel
theorem dX9_no10_2 : decode cX9_no10 2 = .ok (.invokevirtual 99, 3) := by decide +kernel
theorem dX9_no10_5 : decode cX9_no10 5 = .ok (.bipush 10, 2) := by decide +kernel
theorem dX9_no10_7 : decode cX9_no10 7 = .ok (.isub, 1) := by decide +kernel
theorem dX9_no10_8 : decode cX9_no10 8 = .ok (.ireturn, 1) := by decide +kernel
theorem dX9_within_0 : decode cX9_within 0 = .ok (.iload_n 0, 1) := by decide +kernel
theorem dX9_within_1 : decode cX9_within 1 = .ok (.iload_n 1, 1) := by decide +kernel
theorem dX9_within_2 : decode cX9_within 2 = .ok (.if_icmp .lt 12, 3) := by decide +kernel
theorem dX9_within_5 : decode cX9_within 5 = .ok (.iload_n 0, 1) := by decide +kernel
theorem dX9_within_6 : decode cX9_within 6 = .ok (.iload_n 2, 1) := by decide +kernel
theorem dX9_within_7 : decode cX9_within 7 = .ok (.if_icmp .gt 7, 3) := by decide +kernel
theorem dX9_within_10 : decode cX9_within 10 = .ok (.iconst 1, 1) := by decide +kernel
theorem dX9_within_11 : decode cX9_within 11 = .ok (.goto 4, 3) := by decide +kernel
theorem dX9_within_14 : decode cX9_within 14 = .ok (.iconst 0, 1) := by decide +kernel
theorem dX9_within_15 : decode cX9_within 15 = .ok (.ireturn, 1) := by decide +kernel
theorem dX9_isTree_0 : decode cX9_isTree 0 = .ok (.iload_n 1, 1) := by decide +kernel
theorem dX9_isTree_1 : decode cX9_isTree 1 = .ok (.iconst 0, 1) := by decide +kernel
theorem dX9_isTree_2 : decode cX9_isTree 2 = .ok (.aload_n 0, 1) := by decide +kernel
theorem dX9_isTree_3 : decode cX9_isTree 3 = .ok (.getfield 103, 3) := by decide +kernel
theorem dX9_isTree_6 : decode cX9_isTree 6 = .ok (.iconst 1, 1) := by decide +kernel
theorem dX9_isTree_7 : decode cX9_isTree 7 = .ok (.isub, 1) := by decide +kernel
theorem dX9_isTree_8 : decode cX9_isTree 8 = .ok (.invokestatic 106, 3) := by decide +kernel
theorem dX9_isTree_11 : decode cX9_isTree 11 = .ok (.ireturn, 1) := by decide +kernel
theorem dX9_isPatch_0 : decode cX9_isPatch 0 = .ok (.iload_n 1, 1) := by decide +kernel
theorem dX9_isPatch_1 : decode cX9_isPatch 1 = .ok (.iconst 0, 1) := by decide +kernel
theorem dX9_isPatch_2 : decode cX9_isPatch 2 = .ok (.aload_n 0, 1) := by decide +kernel
theorem dX9_isPatch_3 : decode cX9_isPatch 3 = .ok (.getfield 110, 3) := by decide +kernel
theorem dX9_isPatch_6 : decode cX9_isPatch 6 = .ok (.iconst 1, 1) := by decide +kernel
theorem dX9_isPatch_7 : decode cX9_isPatch 7 = .ok (.isub, 1) := by decide +kernel
theorem dX9_isPatch_8 : decode cX9_isPatch 8 = .ok (.invokestatic 106, 3) := by decide +kernel
theorem dX9_isPatch_11 : decode cX9_isPatch 11 = .ok (.ireturn, 1) := by decide +kernel
theorem dX9_isRow_0 : decode cX9_isRow 0 = .ok (.aload_n 0, 1) := by decide +kernel
theorem dX9_isRow_1 : decode cX9_isRow 1 = .ok (.getfield 31, 3) := by decide +kernel
theorem dX9_isRow_4 : decode cX9_isRow 4 = .ok (.iload_n 1, 1) := by decide +kernel
theorem dX9_isRow_5 : decode cX9_isRow 5 = .ok (.iaload, 1) := by decide +kernel
theorem dX9_isRow_6 : decode cX9_isRow 6 = .ok (.bipush 100, 2) := by decide +kernel
theorem dX9_isRow_8 : decode cX9_isRow 8 = .ok (.if_icmp .lt 7, 3) := by decide +kernel
theorem dX9_isRow_11 : decode cX9_isRow 11 = .ok (.iconst 1, 1) := by decide +kernel
theorem dX9_isRow_12 : decode cX9_isRow 12 = .ok (.goto 4, 3) := by decide +kernel
theorem dX9_isRow_15 : decode cX9_isRow 15 = .ok (.iconst 0, 1) := by decide +kernel
theorem dX9_isRow_16 : decode cX9_isRow 16 = .ok (.ireturn, 1) := by decide +kernel
theorem dX9_of_0 : decode cX9_of 0 = .ok (.aload_n 0, 1) := by decide +kernel
theorem dX9_of_1 : decode cX9_of 1 = .ok (.getfield 22, 3) := by decide +kernel
theorem dX9_of_4 : decode cX9_of 4 = .ok (.bipush 16, 2) := by decide +kernel
theorem dX9_of_6 : decode cX9_of 6 = .ok (.iload_n 1, 1) := by decide +kernel
theorem dX9_of_7 : decode cX9_of 7 = .ok (.imul, 1) := by decide +kernel
theorem dX9_of_8 : decode cX9_of 8 = .ok (.iload_n 2, 1) := by decide +kernel
theorem dX9_of_9 : decode cX9_of 9 = .ok (.iadd, 1) := by decide +kernel
theorem dX9_of_10 : decode cX9_of 10 = .ok (.iaload, 1) := by decide +kernel
theorem dX9_of_11 : decode cX9_of 11 = .ok (.ireturn, 1) := by decide +kernel
theorem dX9_row_0 : decode cX9_row 0 = .ok (.iload_n 1, 1) := by decide +kernel
theorem dX9_row_1 : decode cX9_row 1 = .ok (.iconst 0, 1) := by decide +kernel
theorem dX9_row_2 : decode cX9_row 2 = .ok (.bipush 7, 2) := by decide +kernel
theorem dX9_row_4 : decode cX9_row 4 = .ok (.invokestatic 106, 3) := by decide +kernel
theorem dX9_row_7 : decode cX9_row 7 = .ok (.ifCond .ne 9, 3) := by decide +kernel
theorem dX9_row_10 : decode cX9_row 10 = .ok (.aload_n 0, 1) := by decide +kernel
theorem dX9_row_11 : decode cX9_row 11 = .ok (.iconst (-1), 1) := by decide +kernel
theorem dX9_row_12 : decode cX9_row 12 = .ok (.invokevirtual 99, 3) := by decide +kernel
theorem dX9_row_15 : decode cX9_row 15 = .ok (.ireturn, 1) := by decide +kernel
theorem dX9_row_16 : decode cX9_row 16 = .ok (.iload_n 3, 1) := by decide +kernel
theorem dX9_row_17 : decode cX9_row 17 = .ok (.ifCond .ge 10, 3) := by decide +kernel
theorem dX9_row_20 : decode cX9_row 20 = .ok (.aload_n 0, 1) := by decide +kernel
theorem dX9_row_21 : decode cX9_row 21 = .ok (.bipush (-4), 2) := by decide +kernel
theorem dX9_row_23 : decode cX9_row 23 = .ok (.invokevirtual 99, 3) := by decide +kernel
theorem dX9_row_26 : decode cX9_row 26 = .ok (.ireturn, 1) := by decide +kernel
theorem dX9_row_27 : decode cX9_row 27 = .ok (.iload_n 2, 1) := by decide +kernel
theorem dX9_row_28 : decode cX9_row 28 = .ok (.iconst 0, 1) := by decide +kernel
theorem dX9_row_29 : decode cX9_row 29 = .ok (.iconst 3, 1) := by decide +kernel
theorem dX9_row_30 : decode cX9_row 30 = .ok (.invokestatic 106, 3) := by decide +kernel
theorem dX9_row_33 : decode cX9_row 33 = .ok (.ifCond .ne 10, 3) := by decide +kernel
theorem dX9_row_36 : decode cX9_row 36 = .ok (.aload_n 0, 1) := by decide +kernel
theorem dX9_row_37 : decode cX9_row 37 = .ok (.bipush (-6), 2) := by decide +kernel
theorem dX9_row_39 : decode cX9_row 39 = .ok (.invokevirtual 99, 3) := by decide +kernel
theorem dX9_row_42 : decode cX9_row 42 = .ok (.ireturn, 1) := by decide +kernel
theorem dX9_row_43 : decode cX9_row 43 = .ok (.iload_n 3, 1) := by decide +kernel
theorem dX9_row_44 : decode cX9_row 44 = .ok (.sipush 160, 3) := by decide +kernel
theorem dX9_row_47 : decode cX9_row 47 = .ok (.if_icmp .le 10, 3) := by decide +kernel
theorem dX9_row_50 : decode cX9_row 50 = .ok (.aload_n 0, 1) := by decide +kernel
theorem dX9_row_51 : decode cX9_row 51 = .ok (.bipush (-7), 2) := by decide +kernel
theorem dX9_row_53 : decode cX9_row 53 = .ok (.invokevirtual 99, 3) := by decide +kernel
theorem dX9_row_56 : decode cX9_row 56 = .ok (.ireturn, 1) := by decide +kernel
theorem dX9_row_57 : decode cX9_row 57 = .ok (.aload_n 0, 1) := by decide +kernel
theorem dX9_row_58 : decode cX9_row 58 = .ok (.getfield 31, 3) := by decide +kernel
theorem dX9_row_61 : decode cX9_row 61 = .ok (.iload_n 1, 1) := by decide +kernel
theorem dX9_row_62 : decode cX9_row 62 = .ok (.bipush 100, 2) := by decide +kernel
theorem dX9_row_64 : decode cX9_row 64 = .ok (.iload_n 2, 1) := by decide +kernel
theorem dX9_row_65 : decode cX9_row 65 = .ok (.iadd, 1) := by decide +kernel
theorem dX9_row_66 : decode cX9_row 66 = .ok (.iastore, 1) := by decide +kernel
theorem dX9_row_67 : decode cX9_row 67 = .ok (.aload_n 0, 1) := by decide +kernel
theorem dX9_row_68 : decode cX9_row 68 = .ok (.getfield 34, 3) := by decide +kernel
theorem dX9_row_71 : decode cX9_row 71 = .ok (.iload_n 1, 1) := by decide +kernel
theorem dX9_row_72 : decode cX9_row 72 = .ok (.iload_n 3, 1) := by decide +kernel
theorem dX9_row_73 : decode cX9_row 73 = .ok (.iastore, 1) := by decide +kernel
theorem dX9_row_74 : decode cX9_row 74 = .ok (.iconst 0, 1) := by decide +kernel
theorem dX9_row_75 : decode cX9_row 75 = .ok (.istore 4, 2) := by decide +kernel
theorem dX9_row_77 : decode cX9_row 77 = .ok (.iload 4, 2) := by decide +kernel
theorem dX9_row_79 : decode cX9_row 79 = .ok (.sipush 160, 3) := by decide +kernel
theorem dX9_row_82 : decode cX9_row 82 = .ok (.if_icmp .ge 23, 3) := by decide +kernel
theorem dX9_row_85 : decode cX9_row 85 = .ok (.aload_n 0, 1) := by decide +kernel
theorem dX9_row_86 : decode cX9_row 86 = .ok (.getfield 37, 3) := by decide +kernel
theorem dX9_row_89 : decode cX9_row 89 = .ok (.sipush 160, 3) := by decide +kernel
theorem dX9_row_92 : decode cX9_row 92 = .ok (.iload_n 1, 1) := by decide +kernel
theorem dX9_row_93 : decode cX9_row 93 = .ok (.imul, 1) := by decide +kernel
theorem dX9_row_94 : decode cX9_row 94 = .ok (.iload 4, 2) := by decide +kernel
theorem dX9_row_96 : decode cX9_row 96 = .ok (.iadd, 1) := by decide +kernel
theorem dX9_row_97 : decode cX9_row 97 = .ok (.lconst 0, 1) := by decide +kernel
theorem dX9_row_98 : decode cX9_row 98 = .ok (.lastore, 1) := by decide +kernel
theorem dX9_row_99 : decode cX9_row 99 = .ok (.iinc 4 1, 3) := by decide +kernel
theorem dX9_row_102 : decode cX9_row 102 = .ok (.goto (-25), 3) := by decide +kernel
theorem dX9_row_105 : decode cX9_row 105 = .ok (.iconst 1, 1) := by decide +kernel
theorem dX9_row_106 : decode cX9_row 106 = .ok (.ireturn, 1) := by decide +kernel
theorem dX9_noRow_0 : decode cX9_noRow 0 = .ok (.iload_n 1, 1) := by decide +kernel
theorem dX9_noRow_1 : decode cX9_noRow 1 = .ok (.iconst 0, 1) := by decide +kernel
theorem dX9_noRow_2 : decode cX9_noRow 2 = .ok (.bipush 7, 2) := by decide +kernel
theorem dX9_noRow_4 : decode cX9_noRow 4 = .ok (.invokestatic 106, 3) := by decide +kernel
theorem dX9_noRow_7 : decode cX9_noRow 7 = .ok (.ifCond .ne 5, 3) := by decide +kernel
theorem dX9_noRow_10 : decode cX9_noRow 10 = .ok (.iconst (-1), 1) := by decide +kernel
theorem dX9_noRow_11 : decode cX9_noRow 11 = .ok (.ireturn, 1) := by decide +kernel
theorem dX9_noRow_12 : decode cX9_noRow 12 = .ok (.aload_n 0, 1) := by decide +kernel
theorem dX9_noRow_13 : decode cX9_noRow 13 = .ok (.getfield 31, 3) := by decide +kernel
theorem dX9_noRow_16 : decode cX9_noRow 16 = .ok (.iload_n 1, 1) := by decide +kernel
theorem dX9_noRow_17 : decode cX9_noRow 17 = .ok (.iaload, 1) := by decide +kernel
theorem dX9_noRow_18 : decode cX9_noRow 18 = .ok (.ifCond .lt 14, 3) := by decide +kernel
theorem dX9_noRow_21 : decode cX9_noRow 21 = .ok (.aload_n 0, 1) := by decide +kernel
theorem dX9_noRow_22 : decode cX9_noRow 22 = .ok (.iload_n 1, 1) := by decide +kernel
theorem dX9_noRow_23 : decode cX9_noRow 23 = .ok (.invokevirtual 113, 3) := by decide +kernel
theorem dX9_noRow_26 : decode cX9_noRow 26 = .ok (.ifCond .ne 6, 3) := by decide +kernel
theorem dX9_noRow_29 : decode cX9_noRow 29 = .ok (.bipush (-2), 2) := by decide +kernel
theorem dX9_noRow_31 : decode cX9_noRow 31 = .ok (.ireturn, 1) := by decide +kernel
theorem dX9_noRow_32 : decode cX9_noRow 32 = .ok (.aload_n 0, 1) := by decide +kernel
theorem dX9_noRow_33 : decode cX9_noRow 33 = .ok (.getfield 31, 3) := by decide +kernel
theorem dX9_noRow_36 : decode cX9_noRow 36 = .ok (.iload_n 1, 1) := by decide +kernel
theorem dX9_noRow_37 : decode cX9_noRow 37 = .ok (.iaload, 1) := by decide +kernel
theorem dX9_noRow_38 : decode cX9_noRow 38 = .ok (.ifCond .ge 8, 3) := by decide +kernel
theorem dX9_noRow_41 : decode cX9_noRow 41 = .ok (.bipush (-3), 2) := by decide +kernel
theorem dX9_noRow_43 : decode cX9_noRow 43 = .ok (.goto 4, 3) := by decide +kernel
theorem dX9_noRow_46 : decode cX9_noRow 46 = .ok (.iconst 0, 1) := by decide +kernel
theorem dX9_noRow_47 : decode cX9_noRow 47 = .ok (.ireturn, 1) := by decide +kernel
theorem dX9_set_0 : decode cX9_set 0 = .ok (.aload_n 0, 1) := by decide +kernel
theorem dX9_set_1 : decode cX9_set 1 = .ok (.iload_n 1, 1) := by decide +kernel
theorem dX9_set_2 : decode cX9_set 2 = .ok (.invokevirtual 117, 3) := by decide +kernel
theorem dX9_set_5 : decode cX9_set 5 = .ok (.istore 5, 2) := by decide +kernel
theorem dX9_set_7 : decode cX9_set 7 = .ok (.iload 5, 2) := by decide +kernel
theorem dX9_set_9 : decode cX9_set 9 = .ok (.ifCond .ge 10, 3) := by decide +kernel
theorem dX9_set_12 : decode cX9_set 12 = .ok (.aload_n 0, 1) := by decide +kernel
theorem dX9_set_13 : decode cX9_set 13 = .ok (.iload 5, 2) := by decide +kernel
theorem dX9_set_15 : decode cX9_set 15 = .ok (.invokevirtual 99, 3) := by decide +kernel
theorem dX9_set_18 : decode cX9_set 18 = .ok (.ireturn, 1) := by decide +kernel
theorem dX9_set_19 : decode cX9_set 19 = .ok (.iload_n 2, 1) := by decide +kernel
theorem dX9_set_20 : decode cX9_set 20 = .ok (.iconst 0, 1) := by decide +kernel
theorem dX9_set_21 : decode cX9_set 21 = .ok (.aload_n 0, 1) := by decide +kernel
theorem dX9_set_22 : decode cX9_set 22 = .ok (.getfield 34, 3) := by decide +kernel
theorem dX9_set_25 : decode cX9_set 25 = .ok (.iload_n 1, 1) := by decide +kernel
theorem dX9_set_26 : decode cX9_set 26 = .ok (.iaload, 1) := by decide +kernel
theorem dX9_set_27 : decode cX9_set 27 = .ok (.iconst 1, 1) := by decide +kernel
theorem dX9_set_28 : decode cX9_set 28 = .ok (.isub, 1) := by decide +kernel
theorem dX9_set_29 : decode cX9_set 29 = .ok (.invokestatic 106, 3) := by decide +kernel
theorem dX9_set_32 : decode cX9_set 32 = .ok (.ifCond .ne 10, 3) := by decide +kernel
theorem dX9_set_35 : decode cX9_set 35 = .ok (.aload_n 0, 1) := by decide +kernel
theorem dX9_set_36 : decode cX9_set 36 = .ok (.bipush (-5), 2) := by decide +kernel
theorem dX9_set_38 : decode cX9_set 38 = .ok (.invokevirtual 99, 3) := by decide +kernel
theorem dX9_set_41 : decode cX9_set 41 = .ok (.ireturn, 1) := by decide +kernel
theorem dX9_set_42 : decode cX9_set 42 = .ok (.aload_n 0, 1) := by decide +kernel
theorem dX9_set_43 : decode cX9_set 43 = .ok (.getfield 31, 3) := by decide +kernel
theorem dX9_set_46 : decode cX9_set 46 = .ok (.iload_n 1, 1) := by decide +kernel
theorem dX9_set_47 : decode cX9_set 47 = .ok (.iaload, 1) := by decide +kernel
theorem dX9_set_48 : decode cX9_set 48 = .ok (.bipush 100, 2) := by decide +kernel
theorem dX9_set_50 : decode cX9_set 50 = .ok (.isub, 1) := by decide +kernel
theorem dX9_set_51 : decode cX9_set 51 = .ok (.istore 6, 2) := by decide +kernel
theorem dX9_set_53 : decode cX9_set 53 = .ok (.aload_n 0, 1) := by decide +kernel
theorem dX9_set_54 : decode cX9_set 54 = .ok (.getfield 37, 3) := by decide +kernel
theorem dX9_set_57 : decode cX9_set 57 = .ok (.sipush 160, 3) := by decide +kernel
theorem dX9_set_60 : decode cX9_set 60 = .ok (.iload_n 1, 1) := by decide +kernel
theorem dX9_set_61 : decode cX9_set 61 = .ok (.imul, 1) := by decide +kernel
theorem dX9_set_62 : decode cX9_set 62 = .ok (.iload_n 2, 1) := by decide +kernel
theorem dX9_set_63 : decode cX9_set 63 = .ok (.iadd, 1) := by decide +kernel
theorem dX9_set_64 : decode cX9_set 64 = .ok (.iload 6, 2) := by decide +kernel
theorem dX9_set_66 : decode cX9_set 66 = .ok (.ifCond .ne 10, 3) := by decide +kernel
theorem dX9_set_69 : decode cX9_set 69 = .ok (.lload_n 3, 1) := by decide +kernel
theorem dX9_set_70 : decode cX9_set 70 = .ok (.l2i, 1) := by decide +kernel
theorem dX9_set_71 : decode cX9_set 71 = .ok (.i2b, 1) := by decide +kernel
theorem dX9_set_72 : decode cX9_set 72 = .ok (.i2l, 1) := by decide +kernel
theorem dX9_set_73 : decode cX9_set 73 = .ok (.goto 29, 3) := by decide +kernel
theorem dX9_set_76 : decode cX9_set 76 = .ok (.iload 6, 2) := by decide +kernel
theorem dX9_set_78 : decode cX9_set 78 = .ok (.iconst 1, 1) := by decide +kernel
theorem dX9_set_79 : decode cX9_set 79 = .ok (.if_icmp .ne 10, 3) := by decide +kernel
theorem dX9_set_82 : decode cX9_set 82 = .ok (.lload_n 3, 1) := by decide +kernel
theorem dX9_set_83 : decode cX9_set 83 = .ok (.l2i, 1) := by decide +kernel
theorem dX9_set_84 : decode cX9_set 84 = .ok (.i2s, 1) := by decide +kernel
theorem dX9_set_85 : decode cX9_set 85 = .ok (.i2l, 1) := by decide +kernel
theorem dX9_set_86 : decode cX9_set 86 = .ok (.goto 16, 3) := by decide +kernel
theorem dX9_set_89 : decode cX9_set 89 = .ok (.iload 6, 2) := by decide +kernel
theorem dX9_set_91 : decode cX9_set 91 = .ok (.iconst 2, 1) := by decide +kernel
theorem dX9_set_92 : decode cX9_set 92 = .ok (.if_icmp .ne 9, 3) := by decide +kernel
theorem dX9_set_95 : decode cX9_set 95 = .ok (.lload_n 3, 1) := by decide +kernel
theorem dX9_set_96 : decode cX9_set 96 = .ok (.l2i, 1) := by decide +kernel
theorem dX9_set_97 : decode cX9_set 97 = .ok (.i2l, 1) := by decide +kernel
theorem dX9_set_98 : decode cX9_set 98 = .ok (.goto 4, 3) := by decide +kernel
theorem dX9_set_101 : decode cX9_set 101 = .ok (.lload_n 3, 1) := by decide +kernel
theorem dX9_set_102 : decode cX9_set 102 = .ok (.lastore, 1) := by decide +kernel
theorem dX9_set_103 : decode cX9_set 103 = .ok (.iconst 1, 1) := by decide +kernel
theorem dX9_set_104 : decode cX9_set 104 = .ok (.ireturn, 1) := by decide +kernel
theorem dX9_copy_0 : decode cX9_copy 0 = .ok (.iload_n 1, 1) := by decide +kernel
theorem dX9_copy_1 : decode cX9_copy 1 = .ok (.iconst 0, 1) := by decide +kernel
theorem dX9_copy_2 : decode cX9_copy 2 = .ok (.bipush 7, 2) := by decide +kernel
theorem dX9_copy_4 : decode cX9_copy 4 = .ok (.invokestatic 106, 3) := by decide +kernel
theorem dX9_copy_7 : decode cX9_copy 7 = .ok (.ifCond .eq 13, 3) := by decide +kernel
theorem dX9_copy_10 : decode cX9_copy 10 = .ok (.iload_n 2, 1) := by decide +kernel
theorem dX9_copy_11 : decode cX9_copy 11 = .ok (.iconst 0, 1) := by decide +kernel
theorem dX9_copy_12 : decode cX9_copy 12 = .ok (.bipush 7, 2) := by decide +kernel
theorem dX9_copy_14 : decode cX9_copy 14 = .ok (.invokestatic 106, 3) := by decide +kernel
theorem dX9_copy_17 : decode cX9_copy 17 = .ok (.ifCond .ne 9, 3) := by decide +kernel
theorem dX9_copy_20 : decode cX9_copy 20 = .ok (.aload_n 0, 1) := by decide +kernel
theorem dX9_copy_21 : decode cX9_copy 21 = .ok (.iconst (-1), 1) := by decide +kernel
theorem dX9_copy_22 : decode cX9_copy 22 = .ok (.invokevirtual 99, 3) := by decide +kernel
theorem dX9_copy_25 : decode cX9_copy 25 = .ok (.ireturn, 1) := by decide +kernel
theorem dX9_copy_26 : decode cX9_copy 26 = .ok (.aload_n 0, 1) := by decide +kernel
theorem dX9_copy_27 : decode cX9_copy 27 = .ok (.getfield 31, 3) := by decide +kernel
theorem dX9_copy_30 : decode cX9_copy 30 = .ok (.iload_n 1, 1) := by decide +kernel
theorem dX9_copy_31 : decode cX9_copy 31 = .ok (.iaload, 1) := by decide +kernel
theorem dX9_copy_32 : decode cX9_copy 32 = .ok (.ifCond .lt 11, 3) := by decide +kernel
theorem dX9_copy_35 : decode cX9_copy 35 = .ok (.aload_n 0, 1) := by decide +kernel
theorem dX9_copy_36 : decode cX9_copy 36 = .ok (.iload_n 1, 1) := by decide +kernel
theorem dX9_copy_37 : decode cX9_copy 37 = .ok (.invokevirtual 113, 3) := by decide +kernel
theorem dX9_copy_40 : decode cX9_copy 40 = .ok (.ifCond .eq 51, 3) := by decide +kernel
theorem dX9_copy_43 : decode cX9_copy 43 = .ok (.aload_n 0, 1) := by decide +kernel
theorem dX9_copy_44 : decode cX9_copy 44 = .ok (.getfield 31, 3) := by decide +kernel
theorem dX9_copy_47 : decode cX9_copy 47 = .ok (.iload_n 2, 1) := by decide +kernel
theorem dX9_copy_48 : decode cX9_copy 48 = .ok (.iaload, 1) := by decide +kernel
theorem dX9_copy_49 : decode cX9_copy 49 = .ok (.ifCond .lt 11, 3) := by decide +kernel
theorem dX9_copy_52 : decode cX9_copy 52 = .ok (.aload_n 0, 1) := by decide +kernel
theorem dX9_copy_53 : decode cX9_copy 53 = .ok (.iload_n 2, 1) := by decide +kernel
theorem dX9_copy_54 : decode cX9_copy 54 = .ok (.invokevirtual 113, 3) := by decide +kernel
theorem dX9_copy_57 : decode cX9_copy 57 = .ok (.ifCond .eq 34, 3) := by decide +kernel
theorem dX9_copy_60 : decode cX9_copy 60 = .ok (.aload_n 0, 1) := by decide +kernel
theorem dX9_copy_61 : decode cX9_copy 61 = .ok (.iload_n 1, 1) := by decide +kernel
theorem dX9_copy_62 : decode cX9_copy 62 = .ok (.invokevirtual 113, 3) := by decide +kernel
theorem dX9_copy_65 : decode cX9_copy 65 = .ok (.ifCond .eq 33, 3) := by decide +kernel
theorem dX9_copy_68 : decode cX9_copy 68 = .ok (.aload_n 0, 1) := by decide +kernel
theorem dX9_copy_69 : decode cX9_copy 69 = .ok (.iload_n 2, 1) := by decide +kernel
theorem dX9_copy_70 : decode cX9_copy 70 = .ok (.invokevirtual 113, 3) := by decide +kernel
theorem dX9_copy_73 : decode cX9_copy 73 = .ok (.ifCond .eq 25, 3) := by decide +kernel
theorem dX9_copy_76 : decode cX9_copy 76 = .ok (.aload_n 0, 1) := by decide +kernel
theorem dX9_copy_77 : decode cX9_copy 77 = .ok (.getfield 31, 3) := by decide +kernel
theorem dX9_copy_80 : decode cX9_copy 80 = .ok (.iload_n 1, 1) := by decide +kernel
theorem dX9_copy_81 : decode cX9_copy 81 = .ok (.iaload, 1) := by decide +kernel
theorem dX9_copy_82 : decode cX9_copy 82 = .ok (.aload_n 0, 1) := by decide +kernel
theorem dX9_copy_83 : decode cX9_copy 83 = .ok (.getfield 31, 3) := by decide +kernel
theorem dX9_copy_86 : decode cX9_copy 86 = .ok (.iload_n 2, 1) := by decide +kernel
theorem dX9_copy_87 : decode cX9_copy 87 = .ok (.iaload, 1) := by decide +kernel
theorem dX9_copy_88 : decode cX9_copy 88 = .ok (.if_icmp .eq 10, 3) := by decide +kernel
theorem dX9_copy_91 : decode cX9_copy 91 = .ok (.aload_n 0, 1) := by decide +kernel
theorem dX9_copy_92 : decode cX9_copy 92 = .ok (.bipush (-2), 2) := by decide +kernel
theorem dX9_copy_94 : decode cX9_copy 94 = .ok (.invokevirtual 99, 3) := by decide +kernel
theorem dX9_copy_97 : decode cX9_copy 97 = .ok (.ireturn, 1) := by decide +kernel
theorem dX9_copy_98 : decode cX9_copy 98 = .ok (.aload_n 0, 1) := by decide +kernel
theorem dX9_copy_99 : decode cX9_copy 99 = .ok (.getfield 31, 3) := by decide +kernel
theorem dX9_copy_102 : decode cX9_copy 102 = .ok (.iload_n 1, 1) := by decide +kernel
theorem dX9_copy_103 : decode cX9_copy 103 = .ok (.iaload, 1) := by decide +kernel
theorem dX9_copy_104 : decode cX9_copy 104 = .ok (.ifCond .lt 12, 3) := by decide +kernel
theorem dX9_copy_107 : decode cX9_copy 107 = .ok (.aload_n 0, 1) := by decide +kernel
theorem dX9_copy_108 : decode cX9_copy 108 = .ok (.getfield 31, 3) := by decide +kernel
theorem dX9_copy_111 : decode cX9_copy 111 = .ok (.iload_n 2, 1) := by decide +kernel
theorem dX9_copy_112 : decode cX9_copy 112 = .ok (.iaload, 1) := by decide +kernel
theorem dX9_copy_113 : decode cX9_copy 113 = .ok (.ifCond .ge 10, 3) := by decide +kernel
theorem dX9_copy_116 : decode cX9_copy 116 = .ok (.aload_n 0, 1) := by decide +kernel
theorem dX9_copy_117 : decode cX9_copy 117 = .ok (.bipush (-3), 2) := by decide +kernel
theorem dX9_copy_119 : decode cX9_copy 119 = .ok (.invokevirtual 99, 3) := by decide +kernel
theorem dX9_copy_122 : decode cX9_copy 122 = .ok (.ireturn, 1) := by decide +kernel
theorem dX9_copy_123 : decode cX9_copy 123 = .ok (.iload 5, 2) := by decide +kernel
theorem dX9_copy_125 : decode cX9_copy 125 = .ok (.ifCond .ge 10, 3) := by decide +kernel
theorem dX9_copy_128 : decode cX9_copy 128 = .ok (.aload_n 0, 1) := by decide +kernel
theorem dX9_copy_129 : decode cX9_copy 129 = .ok (.bipush (-4), 2) := by decide +kernel
theorem dX9_copy_131 : decode cX9_copy 131 = .ok (.invokevirtual 99, 3) := by decide +kernel
theorem dX9_copy_134 : decode cX9_copy 134 = .ok (.ireturn, 1) := by decide +kernel
theorem dX9_copy_135 : decode cX9_copy 135 = .ok (.iload_n 3, 1) := by decide +kernel
theorem dX9_copy_136 : decode cX9_copy 136 = .ok (.ifCond .lt 43, 3) := by decide +kernel
theorem dX9_copy_139 : decode cX9_copy 139 = .ok (.iload 4, 2) := by decide +kernel
theorem dX9_copy_141 : decode cX9_copy 141 = .ok (.ifCond .lt 38, 3) := by decide +kernel
theorem dX9_copy_144 : decode cX9_copy 144 = .ok (.iload_n 3, 1) := by decide +kernel
theorem dX9_copy_145 : decode cX9_copy 145 = .ok (.i2l, 1) := by decide +kernel
theorem dX9_copy_146 : decode cX9_copy 146 = .ok (.iload 5, 2) := by decide +kernel
theorem dX9_copy_148 : decode cX9_copy 148 = .ok (.i2l, 1) := by decide +kernel
theorem dX9_copy_149 : decode cX9_copy 149 = .ok (.ladd, 1) := by decide +kernel
theorem dX9_copy_150 : decode cX9_copy 150 = .ok (.aload_n 0, 1) := by decide +kernel
theorem dX9_copy_151 : decode cX9_copy 151 = .ok (.getfield 34, 3) := by decide +kernel
theorem dX9_copy_154 : decode cX9_copy 154 = .ok (.iload_n 1, 1) := by decide +kernel
theorem dX9_copy_155 : decode cX9_copy 155 = .ok (.iaload, 1) := by decide +kernel
theorem dX9_copy_156 : decode cX9_copy 156 = .ok (.i2l, 1) := by decide +kernel
theorem dX9_copy_157 : decode cX9_copy 157 = .ok (.lcmp, 1) := by decide +kernel
theorem dX9_copy_158 : decode cX9_copy 158 = .ok (.ifCond .gt 21, 3) := by decide +kernel
theorem dX9_copy_161 : decode cX9_copy 161 = .ok (.iload 4, 2) := by decide +kernel
theorem dX9_copy_163 : decode cX9_copy 163 = .ok (.i2l, 1) := by decide +kernel
theorem dX9_copy_164 : decode cX9_copy 164 = .ok (.iload 5, 2) := by decide +kernel
theorem dX9_copy_166 : decode cX9_copy 166 = .ok (.i2l, 1) := by decide +kernel
theorem dX9_copy_167 : decode cX9_copy 167 = .ok (.ladd, 1) := by decide +kernel
theorem dX9_copy_168 : decode cX9_copy 168 = .ok (.aload_n 0, 1) := by decide +kernel
theorem dX9_copy_169 : decode cX9_copy 169 = .ok (.getfield 34, 3) := by decide +kernel
theorem dX9_copy_172 : decode cX9_copy 172 = .ok (.iload_n 2, 1) := by decide +kernel
theorem dX9_copy_173 : decode cX9_copy 173 = .ok (.iaload, 1) := by decide +kernel
theorem dX9_copy_174 : decode cX9_copy 174 = .ok (.i2l, 1) := by decide +kernel
theorem dX9_copy_175 : decode cX9_copy 175 = .ok (.lcmp, 1) := by decide +kernel
theorem dX9_copy_176 : decode cX9_copy 176 = .ok (.ifCond .le 10, 3) := by decide +kernel
theorem dX9_copy_179 : decode cX9_copy 179 = .ok (.aload_n 0, 1) := by decide +kernel
theorem dX9_copy_180 : decode cX9_copy 180 = .ok (.bipush (-5), 2) := by decide +kernel
theorem dX9_copy_182 : decode cX9_copy 182 = .ok (.invokevirtual 99, 3) := by decide +kernel
theorem dX9_copy_185 : decode cX9_copy 185 = .ok (.ireturn, 1) := by decide +kernel
theorem dX9_copy_186 : decode cX9_copy 186 = .ok (.iload_n 1, 1) := by decide +kernel
theorem dX9_copy_187 : decode cX9_copy 187 = .ok (.iload_n 2, 1) := by decide +kernel
theorem dX9_copy_188 : decode cX9_copy 188 = .ok (.if_icmp .ne 60, 3) := by decide +kernel
theorem dX9_copy_191 : decode cX9_copy 191 = .ok (.iload_n 3, 1) := by decide +kernel
theorem dX9_copy_192 : decode cX9_copy 192 = .ok (.iload 4, 2) := by decide +kernel
theorem dX9_copy_194 : decode cX9_copy 194 = .ok (.if_icmp .ge 54, 3) := by decide +kernel
theorem dX9_copy_197 : decode cX9_copy 197 = .ok (.iload 5, 2) := by decide +kernel
theorem dX9_copy_199 : decode cX9_copy 199 = .ok (.iconst 1, 1) := by decide +kernel
theorem dX9_copy_200 : decode cX9_copy 200 = .ok (.isub, 1) := by decide +kernel
theorem dX9_copy_201 : decode cX9_copy 201 = .ok (.istore 6, 2) := by decide +kernel
theorem dX9_copy_203 : decode cX9_copy 203 = .ok (.iload 6, 2) := by decide +kernel
theorem dX9_copy_205 : decode cX9_copy 205 = .ok (.ifCond .lt 40, 3) := by decide +kernel
theorem dX9_copy_208 : decode cX9_copy 208 = .ok (.aload_n 0, 1) := by decide +kernel
theorem dX9_copy_209 : decode cX9_copy 209 = .ok (.getfield 37, 3) := by decide +kernel
theorem dX9_copy_212 : decode cX9_copy 212 = .ok (.sipush 160, 3) := by decide +kernel
theorem dX9_copy_215 : decode cX9_copy 215 = .ok (.iload_n 2, 1) := by decide +kernel
theorem dX9_copy_216 : decode cX9_copy 216 = .ok (.imul, 1) := by decide +kernel
theorem dX9_copy_217 : decode cX9_copy 217 = .ok (.iload 4, 2) := by decide +kernel
theorem dX9_copy_219 : decode cX9_copy 219 = .ok (.iadd, 1) := by decide +kernel
theorem dX9_copy_220 : decode cX9_copy 220 = .ok (.iload 6, 2) := by decide +kernel
theorem dX9_copy_222 : decode cX9_copy 222 = .ok (.iadd, 1) := by decide +kernel
theorem dX9_copy_223 : decode cX9_copy 223 = .ok (.aload_n 0, 1) := by decide +kernel
theorem dX9_copy_224 : decode cX9_copy 224 = .ok (.getfield 37, 3) := by decide +kernel
theorem dX9_copy_227 : decode cX9_copy 227 = .ok (.sipush 160, 3) := by decide +kernel
theorem dX9_copy_230 : decode cX9_copy 230 = .ok (.iload_n 1, 1) := by decide +kernel
theorem dX9_copy_231 : decode cX9_copy 231 = .ok (.imul, 1) := by decide +kernel
theorem dX9_copy_232 : decode cX9_copy 232 = .ok (.iload_n 3, 1) := by decide +kernel
theorem dX9_copy_233 : decode cX9_copy 233 = .ok (.iadd, 1) := by decide +kernel
theorem dX9_copy_234 : decode cX9_copy 234 = .ok (.iload 6, 2) := by decide +kernel
theorem dX9_copy_236 : decode cX9_copy 236 = .ok (.iadd, 1) := by decide +kernel
theorem dX9_copy_237 : decode cX9_copy 237 = .ok (.laload, 1) := by decide +kernel
theorem dX9_copy_238 : decode cX9_copy 238 = .ok (.lastore, 1) := by decide +kernel
theorem dX9_copy_239 : decode cX9_copy 239 = .ok (.iinc 6 (-1), 3) := by decide +kernel
theorem dX9_copy_242 : decode cX9_copy 242 = .ok (.goto (-39), 3) := by decide +kernel
theorem dX9_copy_245 : decode cX9_copy 245 = .ok (.goto 50, 3) := by decide +kernel
theorem dX9_copy_248 : decode cX9_copy 248 = .ok (.iconst 0, 1) := by decide +kernel
theorem dX9_copy_249 : decode cX9_copy 249 = .ok (.istore 6, 2) := by decide +kernel
theorem dX9_copy_251 : decode cX9_copy 251 = .ok (.iload 6, 2) := by decide +kernel
theorem dX9_copy_253 : decode cX9_copy 253 = .ok (.iload 5, 2) := by decide +kernel
theorem dX9_copy_255 : decode cX9_copy 255 = .ok (.if_icmp .ge 40, 3) := by decide +kernel
theorem dX9_copy_258 : decode cX9_copy 258 = .ok (.aload_n 0, 1) := by decide +kernel
theorem dX9_copy_259 : decode cX9_copy 259 = .ok (.getfield 37, 3) := by decide +kernel
theorem dX9_copy_262 : decode cX9_copy 262 = .ok (.sipush 160, 3) := by decide +kernel
theorem dX9_copy_265 : decode cX9_copy 265 = .ok (.iload_n 2, 1) := by decide +kernel
theorem dX9_copy_266 : decode cX9_copy 266 = .ok (.imul, 1) := by decide +kernel
theorem dX9_copy_267 : decode cX9_copy 267 = .ok (.iload 4, 2) := by decide +kernel
theorem dX9_copy_269 : decode cX9_copy 269 = .ok (.iadd, 1) := by decide +kernel
theorem dX9_copy_270 : decode cX9_copy 270 = .ok (.iload 6, 2) := by decide +kernel
theorem dX9_copy_272 : decode cX9_copy 272 = .ok (.iadd, 1) := by decide +kernel
theorem dX9_copy_273 : decode cX9_copy 273 = .ok (.aload_n 0, 1) := by decide +kernel
theorem dX9_copy_274 : decode cX9_copy 274 = .ok (.getfield 37, 3) := by decide +kernel
theorem dX9_copy_277 : decode cX9_copy 277 = .ok (.sipush 160, 3) := by decide +kernel
theorem dX9_copy_280 : decode cX9_copy 280 = .ok (.iload_n 1, 1) := by decide +kernel
theorem dX9_copy_281 : decode cX9_copy 281 = .ok (.imul, 1) := by decide +kernel
theorem dX9_copy_282 : decode cX9_copy 282 = .ok (.iload_n 3, 1) := by decide +kernel
theorem dX9_copy_283 : decode cX9_copy 283 = .ok (.iadd, 1) := by decide +kernel
theorem dX9_copy_284 : decode cX9_copy 284 = .ok (.iload 6, 2) := by decide +kernel
theorem dX9_copy_286 : decode cX9_copy 286 = .ok (.iadd, 1) := by decide +kernel
theorem dX9_copy_287 : decode cX9_copy 287 = .ok (.laload, 1) := by decide +kernel
theorem dX9_copy_288 : decode cX9_copy 288 = .ok (.lastore, 1) := by decide +kernel
theorem dX9_copy_289 : decode cX9_copy 289 = .ok (.iinc 6 1, 3) := by decide +kernel
theorem dX9_copy_292 : decode cX9_copy 292 = .ok (.goto (-41), 3) := by decide +kernel
theorem dX9_copy_295 : decode cX9_copy 295 = .ok (.iconst 1, 1) := by decide +kernel
theorem dX9_copy_296 : decode cX9_copy 296 = .ok (.ireturn, 1) := by decide +kernel
theorem dX9_element_0 : decode cX9_element 0 = .ok (.iload_n 1, 1) := by decide +kernel
theorem dX9_element_1 : decode cX9_element 1 = .ok (.iconst 0, 1) := by decide +kernel
theorem dX9_element_2 : decode cX9_element 2 = .ok (.bipush 7, 2) := by decide +kernel
theorem dX9_element_4 : decode cX9_element 4 = .ok (.invokestatic 106, 3) := by decide +kernel
theorem dX9_element_7 : decode cX9_element 7 = .ok (.ifCond .eq 42, 3) := by decide +kernel
theorem dX9_element_10 : decode cX9_element 10 = .ok (.aload_n 0, 1) := by decide +kernel
theorem dX9_element_11 : decode cX9_element 11 = .ok (.iload_n 1, 1) := by decide +kernel
theorem dX9_element_12 : decode cX9_element 12 = .ok (.invokevirtual 113, 3) := by decide +kernel
theorem dX9_element_15 : decode cX9_element 15 = .ok (.ifCond .eq 34, 3) := by decide +kernel
theorem dX9_element_18 : decode cX9_element 18 = .ok (.iload_n 2, 1) := by decide +kernel
theorem dX9_element_19 : decode cX9_element 19 = .ok (.iconst 0, 1) := by decide +kernel
theorem dX9_element_20 : decode cX9_element 20 = .ok (.aload_n 0, 1) := by decide +kernel
theorem dX9_element_21 : decode cX9_element 21 = .ok (.getfield 34, 3) := by decide +kernel
theorem dX9_element_24 : decode cX9_element 24 = .ok (.iload_n 1, 1) := by decide +kernel
theorem dX9_element_25 : decode cX9_element 25 = .ok (.iaload, 1) := by decide +kernel
theorem dX9_element_26 : decode cX9_element 26 = .ok (.iconst 1, 1) := by decide +kernel
theorem dX9_element_27 : decode cX9_element 27 = .ok (.isub, 1) := by decide +kernel
theorem dX9_element_28 : decode cX9_element 28 = .ok (.invokestatic 106, 3) := by decide +kernel
theorem dX9_element_31 : decode cX9_element 31 = .ok (.ifCond .eq 18, 3) := by decide +kernel
theorem dX9_element_34 : decode cX9_element 34 = .ok (.aload_n 0, 1) := by decide +kernel
theorem dX9_element_35 : decode cX9_element 35 = .ok (.getfield 37, 3) := by decide +kernel
theorem dX9_element_38 : decode cX9_element 38 = .ok (.sipush 160, 3) := by decide +kernel
theorem dX9_element_41 : decode cX9_element 41 = .ok (.iload_n 1, 1) := by decide +kernel
theorem dX9_element_42 : decode cX9_element 42 = .ok (.imul, 1) := by decide +kernel
theorem dX9_element_43 : decode cX9_element 43 = .ok (.iload_n 2, 1) := by decide +kernel
theorem dX9_element_44 : decode cX9_element 44 = .ok (.iadd, 1) := by decide +kernel
theorem dX9_element_45 : decode cX9_element 45 = .ok (.laload, 1) := by decide +kernel
theorem dX9_element_46 : decode cX9_element 46 = .ok (.goto 4, 3) := by decide +kernel
theorem dX9_element_49 : decode cX9_element 49 = .ok (.lconst 0, 1) := by decide +kernel
theorem dX9_element_50 : decode cX9_element 50 = .ok (.lreturn, 1) := by decide +kernel
theorem dX9_show_0 : decode cX9_show 0 = .ok (.iload_n 1, 1) := by decide +kernel
theorem dX9_show_1 : decode cX9_show 1 = .ok (.iconst 0, 1) := by decide +kernel
theorem dX9_show_2 : decode cX9_show 2 = .ok (.bipush 7, 2) := by decide +kernel
theorem dX9_show_4 : decode cX9_show 4 = .ok (.invokestatic 106, 3) := by decide +kernel
theorem dX9_show_7 : decode cX9_show 7 = .ok (.ifCond .eq 16, 3) := by decide +kernel
theorem dX9_show_10 : decode cX9_show 10 = .ok (.iload_n 2, 1) := by decide +kernel
theorem dX9_show_11 : decode cX9_show 11 = .ok (.iconst (-1), 1) := by decide +kernel
theorem dX9_show_12 : decode cX9_show 12 = .ok (.if_icmp .eq 17, 3) := by decide +kernel
theorem dX9_show_15 : decode cX9_show 15 = .ok (.aload_n 0, 1) := by decide +kernel
theorem dX9_show_16 : decode cX9_show 16 = .ok (.iload_n 2, 1) := by decide +kernel
theorem dX9_show_17 : decode cX9_show 17 = .ok (.invokevirtual 120, 3) := by decide +kernel
theorem dX9_show_20 : decode cX9_show 20 = .ok (.ifCond .ne 9, 3) := by decide +kernel
theorem dX9_show_23 : decode cX9_show 23 = .ok (.aload_n 0, 1) := by decide +kernel
theorem dX9_show_24 : decode cX9_show 24 = .ok (.iconst (-1), 1) := by decide +kernel
theorem dX9_show_25 : decode cX9_show 25 = .ok (.invokevirtual 99, 3) := by decide +kernel
theorem dX9_show_28 : decode cX9_show 28 = .ok (.ireturn, 1) := by decide +kernel
theorem dX9_show_29 : decode cX9_show 29 = .ok (.aload_n 0, 1) := by decide +kernel
theorem dX9_show_30 : decode cX9_show 30 = .ok (.getfield 31, 3) := by decide +kernel
theorem dX9_show_33 : decode cX9_show 33 = .ok (.iload_n 1, 1) := by decide +kernel
theorem dX9_show_34 : decode cX9_show 34 = .ok (.iload_n 2, 1) := by decide +kernel
theorem dX9_show_35 : decode cX9_show 35 = .ok (.iastore, 1) := by decide +kernel
theorem dX9_show_36 : decode cX9_show 36 = .ok (.iload_n 2, 1) := by decide +kernel
theorem dX9_show_37 : decode cX9_show 37 = .ok (.iconst (-1), 1) := by decide +kernel
theorem dX9_show_38 : decode cX9_show 38 = .ok (.if_icmp .ne 7, 3) := by decide +kernel
theorem dX9_show_41 : decode cX9_show 41 = .ok (.iconst 0, 1) := by decide +kernel
theorem dX9_show_42 : decode cX9_show 42 = .ok (.goto 4, 3) := by decide +kernel
theorem dX9_show_45 : decode cX9_show 45 = .ok (.iconst 1, 1) := by decide +kernel
theorem dX9_show_46 : decode cX9_show 46 = .ok (.ireturn, 1) := by decide +kernel
theorem dX9_holds_0 : decode cX9_holds 0 = .ok (.iload_n 1, 1) := by decide +kernel
theorem dX9_holds_1 : decode cX9_holds 1 = .ok (.iconst 0, 1) := by decide +kernel
theorem dX9_holds_2 : decode cX9_holds 2 = .ok (.bipush 7, 2) := by decide +kernel
theorem dX9_holds_4 : decode cX9_holds 4 = .ok (.invokestatic 106, 3) := by decide +kernel
theorem dX9_holds_7 : decode cX9_holds 7 = .ok (.ifCond .eq 12, 3) := by decide +kernel
theorem dX9_holds_10 : decode cX9_holds 10 = .ok (.aload_n 0, 1) := by decide +kernel
theorem dX9_holds_11 : decode cX9_holds 11 = .ok (.getfield 31, 3) := by decide +kernel
theorem dX9_holds_14 : decode cX9_holds 14 = .ok (.iload_n 1, 1) := by decide +kernel
theorem dX9_holds_15 : decode cX9_holds 15 = .ok (.iaload, 1) := by decide +kernel
theorem dX9_holds_16 : decode cX9_holds 16 = .ok (.goto 4, 3) := by decide +kernel
theorem dX9_holds_19 : decode cX9_holds 19 = .ok (.iconst (-1), 1) := by decide +kernel
theorem dX9_holds_20 : decode cX9_holds 20 = .ok (.ireturn, 1) := by decide +kernel
theorem dX9_says_0 : decode cX9_says 0 = .ok (.iload_n 1, 1) := by decide +kernel
theorem dX9_says_1 : decode cX9_says 1 = .ok (.iconst 0, 1) := by decide +kernel
theorem dX9_says_2 : decode cX9_says 2 = .ok (.bipush 7, 2) := by decide +kernel
theorem dX9_says_4 : decode cX9_says 4 = .ok (.invokestatic 106, 3) := by decide +kernel
theorem dX9_says_7 : decode cX9_says 7 = .ok (.ifCond .eq 12, 3) := by decide +kernel
theorem dX9_says_10 : decode cX9_says 10 = .ok (.iload_n 2, 1) := by decide +kernel
theorem dX9_says_11 : decode cX9_says 11 = .ok (.iconst 0, 1) := by decide +kernel
theorem dX9_says_12 : decode cX9_says 12 = .ok (.iconst 3, 1) := by decide +kernel
theorem dX9_says_13 : decode cX9_says 13 = .ok (.invokestatic 106, 3) := by decide +kernel
theorem dX9_says_16 : decode cX9_says 16 = .ok (.ifCond .ne 9, 3) := by decide +kernel
theorem dX9_says_19 : decode cX9_says 19 = .ok (.aload_n 0, 1) := by decide +kernel
theorem dX9_says_20 : decode cX9_says 20 = .ok (.iconst (-1), 1) := by decide +kernel
theorem dX9_says_21 : decode cX9_says 21 = .ok (.invokevirtual 99, 3) := by decide +kernel
theorem dX9_says_24 : decode cX9_says 24 = .ok (.ireturn, 1) := by decide +kernel
theorem dX9_says_25 : decode cX9_says 25 = .ok (.aload_n 0, 1) := by decide +kernel
theorem dX9_says_26 : decode cX9_says 26 = .ok (.getfield 31, 3) := by decide +kernel
theorem dX9_says_29 : decode cX9_says 29 = .ok (.iload_n 1, 1) := by decide +kernel
theorem dX9_says_30 : decode cX9_says 30 = .ok (.iaload, 1) := by decide +kernel
theorem dX9_says_31 : decode cX9_says 31 = .ok (.istore_n 3, 1) := by decide +kernel
theorem dX9_says_32 : decode cX9_says 32 = .ok (.iload_n 3, 1) := by decide +kernel
theorem dX9_says_33 : decode cX9_says 33 = .ok (.ifCond .lt 63, 3) := by decide +kernel
theorem dX9_says_36 : decode cX9_says 36 = .ok (.aload_n 0, 1) := by decide +kernel
theorem dX9_says_37 : decode cX9_says 37 = .ok (.iload_n 1, 1) := by decide +kernel
theorem dX9_says_38 : decode cX9_says 38 = .ok (.invokevirtual 113, 3) := by decide +kernel
theorem dX9_says_41 : decode cX9_says 41 = .ok (.ifCond .ne 48, 3) := by decide +kernel
theorem dX9_says_44 : decode cX9_says 44 = .ok (.iload_n 2, 1) := by decide +kernel
theorem dX9_says_45 : decode cX9_says 45 = .ok (.iconst 1, 1) := by decide +kernel
theorem dX9_says_46 : decode cX9_says 46 = .ok (.if_icmp .ne 13, 3) := by decide +kernel
theorem dX9_says_49 : decode cX9_says 49 = .ok (.aload_n 0, 1) := by decide +kernel
theorem dX9_says_50 : decode cX9_says 50 = .ok (.iconst 2, 1) := by decide +kernel
theorem dX9_says_51 : decode cX9_says 51 = .ok (.iload_n 3, 1) := by decide +kernel
theorem dX9_says_52 : decode cX9_says 52 = .ok (.invokevirtual 123, 3) := by decide +kernel
theorem dX9_says_55 : decode cX9_says 55 = .ok (.iconst 1, 1) := by decide +kernel
theorem dX9_says_56 : decode cX9_says 56 = .ok (.if_icmp .ne 33, 3) := by decide +kernel
theorem dX9_says_59 : decode cX9_says 59 = .ok (.iload_n 2, 1) := by decide +kernel
theorem dX9_says_60 : decode cX9_says 60 = .ok (.iconst 2, 1) := by decide +kernel
theorem dX9_says_61 : decode cX9_says 61 = .ok (.if_icmp .ne 13, 3) := by decide +kernel
theorem dX9_says_64 : decode cX9_says 64 = .ok (.aload_n 0, 1) := by decide +kernel
theorem dX9_says_65 : decode cX9_says 65 = .ok (.iconst 2, 1) := by decide +kernel
theorem dX9_says_66 : decode cX9_says 66 = .ok (.iload_n 3, 1) := by decide +kernel
theorem dX9_says_67 : decode cX9_says 67 = .ok (.invokevirtual 123, 3) := by decide +kernel
theorem dX9_says_70 : decode cX9_says 70 = .ok (.iconst 2, 1) := by decide +kernel
theorem dX9_says_71 : decode cX9_says 71 = .ok (.if_icmp .lt 18, 3) := by decide +kernel
theorem dX9_says_74 : decode cX9_says 74 = .ok (.iload_n 2, 1) := by decide +kernel
theorem dX9_says_75 : decode cX9_says 75 = .ok (.iconst 3, 1) := by decide +kernel
theorem dX9_says_76 : decode cX9_says 76 = .ok (.if_icmp .ne 20, 3) := by decide +kernel
theorem dX9_says_79 : decode cX9_says 79 = .ok (.aload_n 0, 1) := by decide +kernel
theorem dX9_says_80 : decode cX9_says 80 = .ok (.iconst 2, 1) := by decide +kernel
theorem dX9_says_81 : decode cX9_says 81 = .ok (.iload_n 3, 1) := by decide +kernel
theorem dX9_says_82 : decode cX9_says 82 = .ok (.invokevirtual 123, 3) := by decide +kernel
theorem dX9_says_85 : decode cX9_says 85 = .ok (.iconst 3, 1) := by decide +kernel
theorem dX9_says_86 : decode cX9_says 86 = .ok (.if_icmp .eq 10, 3) := by decide +kernel
theorem dX9_says_89 : decode cX9_says 89 = .ok (.aload_n 0, 1) := by decide +kernel
theorem dX9_says_90 : decode cX9_says 90 = .ok (.bipush (-2), 2) := by decide +kernel
theorem dX9_says_92 : decode cX9_says 92 = .ok (.invokevirtual 99, 3) := by decide +kernel
theorem dX9_says_95 : decode cX9_says 95 = .ok (.ireturn, 1) := by decide +kernel
theorem dX9_says_96 : decode cX9_says 96 = .ok (.iload_n 3, 1) := by decide +kernel
theorem dX9_says_97 : decode cX9_says 97 = .ok (.ifCond .ge 10, 3) := by decide +kernel
theorem dX9_says_100 : decode cX9_says 100 = .ok (.aload_n 0, 1) := by decide +kernel
theorem dX9_says_101 : decode cX9_says 101 = .ok (.bipush (-3), 2) := by decide +kernel
theorem dX9_says_103 : decode cX9_says 103 = .ok (.invokevirtual 99, 3) := by decide +kernel
theorem dX9_says_106 : decode cX9_says 106 = .ok (.ireturn, 1) := by decide +kernel
theorem dX9_says_107 : decode cX9_says 107 = .ok (.iload_n 2, 1) := by decide +kernel
theorem dX9_says_108 : decode cX9_says 108 = .ok (.iconst 2, 1) := by decide +kernel
theorem dX9_says_109 : decode cX9_says 109 = .ok (.if_icmp .ge 12, 3) := by decide +kernel
theorem dX9_says_112 : decode cX9_says 112 = .ok (.aload_n 0, 1) := by decide +kernel
theorem dX9_says_113 : decode cX9_says 113 = .ok (.iconst 0, 1) := by decide +kernel
theorem dX9_says_114 : decode cX9_says 114 = .ok (.iload_n 3, 1) := by decide +kernel
theorem dX9_says_115 : decode cX9_says 115 = .ok (.invokevirtual 123, 3) := by decide +kernel
theorem dX9_says_118 : decode cX9_says 118 = .ok (.goto 23, 3) := by decide +kernel
theorem dX9_says_121 : decode cX9_says 121 = .ok (.iload_n 2, 1) := by decide +kernel
theorem dX9_says_122 : decode cX9_says 122 = .ok (.iconst 2, 1) := by decide +kernel
theorem dX9_says_123 : decode cX9_says 123 = .ok (.if_icmp .ne 12, 3) := by decide +kernel
theorem dX9_says_126 : decode cX9_says 126 = .ok (.aload_n 0, 1) := by decide +kernel
theorem dX9_says_127 : decode cX9_says 127 = .ok (.iconst 3, 1) := by decide +kernel
theorem dX9_says_128 : decode cX9_says 128 = .ok (.iload_n 3, 1) := by decide +kernel
theorem dX9_says_129 : decode cX9_says 129 = .ok (.invokevirtual 123, 3) := by decide +kernel
theorem dX9_says_132 : decode cX9_says 132 = .ok (.goto 9, 3) := by decide +kernel
theorem dX9_says_135 : decode cX9_says 135 = .ok (.aload_n 0, 1) := by decide +kernel
theorem dX9_says_136 : decode cX9_says 136 = .ok (.iconst 4, 1) := by decide +kernel
theorem dX9_says_137 : decode cX9_says 137 = .ok (.iload_n 3, 1) := by decide +kernel
theorem dX9_says_138 : decode cX9_says 138 = .ok (.invokevirtual 123, 3) := by decide +kernel
theorem dX9_says_141 : decode cX9_says 141 = .ok (.ireturn, 1) := by decide +kernel
theorem dX9_loads_0 : decode cX9_loads 0 = .ok (.aload_n 0, 1) := by decide +kernel
theorem dX9_loads_1 : decode cX9_loads 1 = .ok (.aload_n 0, 1) := by decide +kernel
theorem dX9_loads_2 : decode cX9_loads 2 = .ok (.getfield 7, 3) := by decide +kernel
theorem dX9_loads_5 : decode cX9_loads 5 = .ok (.iload_n 1, 1) := by decide +kernel
theorem dX9_loads_6 : decode cX9_loads 6 = .ok (.iaload, 1) := by decide +kernel
theorem dX9_loads_7 : decode cX9_loads 7 = .ok (.putfield 127, 3) := by decide +kernel
theorem dX9_loads_10 : decode cX9_loads 10 = .ok (.iconst 0, 1) := by decide +kernel
theorem dX9_loads_11 : decode cX9_loads 11 = .ok (.istore_n 2, 1) := by decide +kernel
theorem dX9_loads_12 : decode cX9_loads 12 = .ok (.iload_n 2, 1) := by decide +kernel
theorem dX9_loads_13 : decode cX9_loads 13 = .ok (.aload_n 0, 1) := by decide +kernel
theorem dX9_loads_14 : decode cX9_loads 14 = .ok (.getfield 127, 3) := by decide +kernel
theorem dX9_loads_17 : decode cX9_loads 17 = .ok (.if_icmp .ge 60, 3) := by decide +kernel
theorem dX9_loads_20 : decode cX9_loads 20 = .ok (.aload_n 0, 1) := by decide +kernel
theorem dX9_loads_21 : decode cX9_loads 21 = .ok (.getfield 44, 3) := by decide +kernel
theorem dX9_loads_24 : decode cX9_loads 24 = .ok (.iload_n 2, 1) := by decide +kernel
theorem dX9_loads_25 : decode cX9_loads 25 = .ok (.aload_n 0, 1) := by decide +kernel
theorem dX9_loads_26 : decode cX9_loads 26 = .ok (.getfield 13, 3) := by decide +kernel
theorem dX9_loads_29 : decode cX9_loads 29 = .ok (.bipush 64, 2) := by decide +kernel
theorem dX9_loads_31 : decode cX9_loads 31 = .ok (.iload_n 1, 1) := by decide +kernel
theorem dX9_loads_32 : decode cX9_loads 32 = .ok (.imul, 1) := by decide +kernel
theorem dX9_loads_33 : decode cX9_loads 33 = .ok (.iload_n 2, 1) := by decide +kernel
theorem dX9_loads_34 : decode cX9_loads 34 = .ok (.iadd, 1) := by decide +kernel
theorem dX9_loads_35 : decode cX9_loads 35 = .ok (.iaload, 1) := by decide +kernel
theorem dX9_loads_36 : decode cX9_loads 36 = .ok (.iastore, 1) := by decide +kernel
theorem dX9_loads_37 : decode cX9_loads 37 = .ok (.aload_n 0, 1) := by decide +kernel
theorem dX9_loads_38 : decode cX9_loads 38 = .ok (.getfield 47, 3) := by decide +kernel
theorem dX9_loads_41 : decode cX9_loads 41 = .ok (.iload_n 2, 1) := by decide +kernel
theorem dX9_loads_42 : decode cX9_loads 42 = .ok (.aload_n 0, 1) := by decide +kernel
theorem dX9_loads_43 : decode cX9_loads 43 = .ok (.getfield 16, 3) := by decide +kernel
theorem dX9_loads_46 : decode cX9_loads 46 = .ok (.bipush 64, 2) := by decide +kernel
theorem dX9_loads_48 : decode cX9_loads 48 = .ok (.iload_n 1, 1) := by decide +kernel
theorem dX9_loads_49 : decode cX9_loads 49 = .ok (.imul, 1) := by decide +kernel
theorem dX9_loads_50 : decode cX9_loads 50 = .ok (.iload_n 2, 1) := by decide +kernel
theorem dX9_loads_51 : decode cX9_loads 51 = .ok (.iadd, 1) := by decide +kernel
theorem dX9_loads_52 : decode cX9_loads 52 = .ok (.iaload, 1) := by decide +kernel
theorem dX9_loads_53 : decode cX9_loads 53 = .ok (.iastore, 1) := by decide +kernel
theorem dX9_loads_54 : decode cX9_loads 54 = .ok (.aload_n 0, 1) := by decide +kernel
theorem dX9_loads_55 : decode cX9_loads 55 = .ok (.getfield 50, 3) := by decide +kernel
theorem dX9_loads_58 : decode cX9_loads 58 = .ok (.iload_n 2, 1) := by decide +kernel
theorem dX9_loads_59 : decode cX9_loads 59 = .ok (.aload_n 0, 1) := by decide +kernel
theorem dX9_loads_60 : decode cX9_loads 60 = .ok (.getfield 19, 3) := by decide +kernel
theorem dX9_loads_63 : decode cX9_loads 63 = .ok (.bipush 64, 2) := by decide +kernel
theorem dX9_loads_65 : decode cX9_loads 65 = .ok (.iload_n 1, 1) := by decide +kernel
theorem dX9_loads_66 : decode cX9_loads 66 = .ok (.imul, 1) := by decide +kernel
theorem dX9_loads_67 : decode cX9_loads 67 = .ok (.iload_n 2, 1) := by decide +kernel
theorem dX9_loads_68 : decode cX9_loads 68 = .ok (.iadd, 1) := by decide +kernel
theorem dX9_loads_69 : decode cX9_loads 69 = .ok (.iaload, 1) := by decide +kernel
theorem dX9_loads_70 : decode cX9_loads 70 = .ok (.iastore, 1) := by decide +kernel
theorem dX9_loads_71 : decode cX9_loads 71 = .ok (.iinc 2 1, 3) := by decide +kernel
theorem dX9_loads_74 : decode cX9_loads 74 = .ok (.goto (-62), 3) := by decide +kernel
theorem dX9_loads_77 : decode cX9_loads 77 = .ok (.return_, 1) := by decide +kernel
theorem dX9_lays_0 : decode cX9_lays 0 = .ok (.aload_n 0, 1) := by decide +kernel
theorem dX9_lays_1 : decode cX9_lays 1 = .ok (.getfield 7, 3) := by decide +kernel
theorem dX9_lays_4 : decode cX9_lays 4 = .ok (.iload_n 1, 1) := by decide +kernel
theorem dX9_lays_5 : decode cX9_lays 5 = .ok (.aload_n 0, 1) := by decide +kernel
theorem dX9_lays_6 : decode cX9_lays 6 = .ok (.getfield 127, 3) := by decide +kernel
theorem dX9_lays_9 : decode cX9_lays 9 = .ok (.iastore, 1) := by decide +kernel
theorem dX9_lays_10 : decode cX9_lays 10 = .ok (.iconst 0, 1) := by decide +kernel
theorem dX9_lays_11 : decode cX9_lays 11 = .ok (.istore_n 2, 1) := by decide +kernel
theorem dX9_lays_12 : decode cX9_lays 12 = .ok (.iload_n 2, 1) := by decide +kernel
theorem dX9_lays_13 : decode cX9_lays 13 = .ok (.aload_n 0, 1) := by decide +kernel
theorem dX9_lays_14 : decode cX9_lays 14 = .ok (.getfield 127, 3) := by decide +kernel
theorem dX9_lays_17 : decode cX9_lays 17 = .ok (.if_icmp .ge 60, 3) := by decide +kernel
theorem dX9_lays_20 : decode cX9_lays 20 = .ok (.aload_n 0, 1) := by decide +kernel
theorem dX9_lays_21 : decode cX9_lays 21 = .ok (.getfield 13, 3) := by decide +kernel
theorem dX9_lays_24 : decode cX9_lays 24 = .ok (.bipush 64, 2) := by decide +kernel
theorem dX9_lays_26 : decode cX9_lays 26 = .ok (.iload_n 1, 1) := by decide +kernel
theorem dX9_lays_27 : decode cX9_lays 27 = .ok (.imul, 1) := by decide +kernel
