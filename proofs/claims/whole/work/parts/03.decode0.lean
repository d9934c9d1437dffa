theorem dX0_init_0 : decode cX0_init 0 = .ok (.aload_n 0, 1) := by decide +kernel
theorem dX0_init_1 : decode cX0_init 1 = .ok (.invokespecial 3, 3) := by decide +kernel
theorem dX0_init_4 : decode cX0_init 4 = .ok (.aload_n 0, 1) := by decide +kernel
theorem dX0_init_5 : decode cX0_init 5 = .ok (.bipush 80, 2) := by decide +kernel
theorem dX0_init_7 : decode cX0_init 7 = .ok (.newarray .int, 2) := by decide +kernel
theorem dX0_init_9 : decode cX0_init 9 = .ok (.putfield 9, 3) := by decide +kernel
theorem dX0_init_12 : decode cX0_init 12 = .ok (.aload_n 0, 1) := by decide +kernel
theorem dX0_init_13 : decode cX0_init 13 = .ok (.bipush 80, 2) := by decide +kernel
theorem dX0_init_15 : decode cX0_init 15 = .ok (.newarray .int, 2) := by decide +kernel
theorem dX0_init_17 : decode cX0_init 17 = .ok (.putfield 15, 3) := by decide +kernel
theorem dX0_init_20 : decode cX0_init 20 = .ok (.aload_n 0, 1) := by decide +kernel
theorem dX0_init_21 : decode cX0_init 21 = .ok (.bipush 80, 2) := by decide +kernel
theorem dX0_init_23 : decode cX0_init 23 = .ok (.newarray .boolean, 2) := by decide +kernel
theorem dX0_init_25 : decode cX0_init 25 = .ok (.putfield 18, 3) := by decide +kernel
theorem dX0_init_28 : decode cX0_init 28 = .ok (.aload_n 0, 1) := by decide +kernel
theorem dX0_init_29 : decode cX0_init 29 = .ok (.aload_n 1, 1) := by decide +kernel
theorem dX0_init_30 : decode cX0_init 30 = .ok (.putfield 22, 3) := by decide +kernel
theorem dX0_init_33 : decode cX0_init 33 = .ok (.aload_n 0, 1) := by decide +kernel
theorem dX0_init_34 : decode cX0_init 34 = .ok (.aload_n 2, 1) := by decide +kernel
theorem dX0_init_35 : decode cX0_init 35 = .ok (.putfield 26, 3) := by decide +kernel
theorem dX0_init_38 : decode cX0_init 38 = .ok (.aload_n 0, 1) := by decide +kernel
theorem dX0_init_39 : decode cX0_init 39 = .ok (.aload_n 3, 1) := by decide +kernel
theorem dX0_init_40 : decode cX0_init 40 = .ok (.putfield 30, 3) := by decide +kernel
theorem dX0_init_43 : decode cX0_init 43 = .ok (.aload_n 0, 1) := by decide +kernel
theorem dX0_init_44 : decode cX0_init 44 = .ok (.new 33, 3) := by decide +kernel
theorem dX0_init_47 : decode cX0_init 47 = .ok (.dup, 1) := by decide +kernel
theorem dX0_init_48 : decode cX0_init 48 = .ok (.aload_n 2, 1) := by decide +kernel
theorem dX0_init_49 : decode cX0_init 49 = .ok (.invokespecial 35, 3) := by decide +kernel
theorem dX0_init_52 : decode cX0_init 52 = .ok (.putfield 38, 3) := by decide +kernel
theorem dX0_init_55 : decode cX0_init 55 = .ok (.return_, 1) := by decide +kernel
theorem dX0_draftInto_0 : decode cX0_draftInto 0 = .ok (.aload_n 1, 1) := by decide +kernel
theorem dX0_draftInto_1 : decode cX0_draftInto 1 = .ok (.ifnull 7, 3) := by decide +kernel
theorem dX0_draftInto_4 : decode cX0_draftInto 4 = .ok (.aload_n 2, 1) := by decide +kernel
theorem dX0_draftInto_5 : decode cX0_draftInto 5 = .ok (.ifnonnull 5, 3) := by decide +kernel
theorem dX0_draftInto_8 : decode cX0_draftInto 8 = .ok (.iconst (-1), 1) := by decide +kernel
theorem dX0_draftInto_9 : decode cX0_draftInto 9 = .ok (.ireturn, 1) := by decide +kernel
theorem dX0_draftInto_10 : decode cX0_draftInto 10 = .ok (.aload_n 1, 1) := by decide +kernel
theorem dX0_draftInto_11 : decode cX0_draftInto 11 = .ok (.iconst 0, 1) := by decide +kernel
theorem dX0_draftInto_12 : decode cX0_draftInto 12 = .ok (.invokevirtual 41, 3) := by decide +kernel
theorem dX0_draftInto_15 : decode cX0_draftInto 15 = .ok (.aload_n 2, 1) := by decide +kernel
theorem dX0_draftInto_16 : decode cX0_draftInto 16 = .ok (.iconst 0, 1) := by decide +kernel
theorem dX0_draftInto_17 : decode cX0_draftInto 17 = .ok (.invokevirtual 41, 3) := by decide +kernel
theorem dX0_draftInto_20 : decode cX0_draftInto 20 = .ok (.if_icmp .eq 6, 3) := by decide +kernel
theorem dX0_draftInto_23 : decode cX0_draftInto 23 = .ok (.bipush (-6), 2) := by decide +kernel
theorem dX0_draftInto_25 : decode cX0_draftInto 25 = .ok (.ireturn, 1) := by decide +kernel
theorem dX0_draftInto_26 : decode cX0_draftInto 26 = .ok (.aload_n 0, 1) := by decide +kernel
theorem dX0_draftInto_27 : decode cX0_draftInto 27 = .ok (.invokevirtual 45, 3) := by decide +kernel
theorem dX0_draftInto_30 : decode cX0_draftInto 30 = .ok (.new 10, 3) := by decide +kernel
theorem dX0_draftInto_33 : decode cX0_draftInto 33 = .ok (.dup, 1) := by decide +kernel
theorem dX0_draftInto_34 : decode cX0_draftInto 34 = .ok (.aload_n 0, 1) := by decide +kernel
theorem dX0_draftInto_35 : decode cX0_draftInto 35 = .ok (.aload_n 1, 1) := by decide +kernel
theorem dX0_draftInto_36 : decode cX0_draftInto 36 = .ok (.aload_n 2, 1) := by decide +kernel
theorem dX0_draftInto_37 : decode cX0_draftInto 37 = .ok (.invokespecial 50, 3) := by decide +kernel
theorem dX0_draftInto_40 : decode cX0_draftInto 40 = .ok (.astore_n 3, 1) := by decide +kernel
theorem dX0_draftInto_41 : decode cX0_draftInto 41 = .ok (.aload_n 3, 1) := by decide +kernel
theorem dX0_draftInto_42 : decode cX0_draftInto 42 = .ok (.invokevirtual 53, 3) := by decide +kernel
theorem dX0_draftInto_45 : decode cX0_draftInto 45 = .ok (.iconst 0, 1) := by decide +kernel
theorem dX0_draftInto_46 : decode cX0_draftInto 46 = .ok (.istore 4, 2) := by decide +kernel
theorem dX0_draftInto_48 : decode cX0_draftInto 48 = .ok (.iload 4, 2) := by decide +kernel
theorem dX0_draftInto_50 : decode cX0_draftInto 50 = .ok (.aload_n 2, 1) := by decide +kernel
theorem dX0_draftInto_51 : decode cX0_draftInto 51 = .ok (.getfield 56, 3) := by decide +kernel
theorem dX0_draftInto_54 : decode cX0_draftInto 54 = .ok (.if_icmp .ge 21, 3) := by decide +kernel
theorem dX0_draftInto_57 : decode cX0_draftInto 57 = .ok (.aload_n 3, 1) := by decide +kernel
theorem dX0_draftInto_58 : decode cX0_draftInto 58 = .ok (.iload 4, 2) := by decide +kernel
theorem dX0_draftInto_60 : decode cX0_draftInto 60 = .ok (.invokevirtual 60, 3) := by decide +kernel
theorem dX0_draftInto_63 : decode cX0_draftInto 63 = .ok (.aload_n 3, 1) := by decide +kernel
theorem dX0_draftInto_64 : decode cX0_draftInto 64 = .ok (.iload 4, 2) := by decide +kernel
theorem dX0_draftInto_66 : decode cX0_draftInto 66 = .ok (.invokevirtual 64, 3) := by decide +kernel
theorem dX0_draftInto_69 : decode cX0_draftInto 69 = .ok (.iinc 4 1, 3) := by decide +kernel
theorem dX0_draftInto_72 : decode cX0_draftInto 72 = .ok (.goto (-24), 3) := by decide +kernel
theorem dX0_draftInto_75 : decode cX0_draftInto 75 = .ok (.aload_n 3, 1) := by decide +kernel
theorem dX0_draftInto_76 : decode cX0_draftInto 76 = .ok (.invokevirtual 67, 3) := by decide +kernel
theorem dX0_draftInto_79 : decode cX0_draftInto 79 = .ok (.iconst 0, 1) := by decide +kernel
theorem dX0_draftInto_80 : decode cX0_draftInto 80 = .ok (.ireturn, 1) := by decide +kernel
theorem dX0_nameOthers_0 : decode cX0_nameOthers 0 = .ok (.iconst 0, 1) := by decide +kernel
theorem dX0_nameOthers_1 : decode cX0_nameOthers 1 = .ok (.istore_n 1, 1) := by decide +kernel
theorem dX0_nameOthers_2 : decode cX0_nameOthers 2 = .ok (.iload_n 1, 1) := by decide +kernel
theorem dX0_nameOthers_3 : decode cX0_nameOthers 3 = .ok (.aload_n 0, 1) := by decide +kernel
theorem dX0_nameOthers_4 : decode cX0_nameOthers 4 = .ok (.getfield 26, 3) := by decide +kernel
theorem dX0_nameOthers_7 : decode cX0_nameOthers 7 = .ok (.getfield 56, 3) := by decide +kernel
theorem dX0_nameOthers_10 : decode cX0_nameOthers 10 = .ok (.if_icmp .ge 75, 3) := by decide +kernel
theorem dX0_nameOthers_13 : decode cX0_nameOthers 13 = .ok (.aload_n 0, 1) := by decide +kernel
theorem dX0_nameOthers_14 : decode cX0_nameOthers 14 = .ok (.getfield 26, 3) := by decide +kernel
theorem dX0_nameOthers_17 : decode cX0_nameOthers 17 = .ok (.iload_n 1, 1) := by decide +kernel
theorem dX0_nameOthers_18 : decode cX0_nameOthers 18 = .ok (.invokevirtual 41, 3) := by decide +kernel
theorem dX0_nameOthers_21 : decode cX0_nameOthers 21 = .ok (.istore_n 2, 1) := by decide +kernel
theorem dX0_nameOthers_22 : decode cX0_nameOthers 22 = .ok (.aload_n 0, 1) := by decide +kernel
theorem dX0_nameOthers_23 : decode cX0_nameOthers 23 = .ok (.getfield 30, 3) := by decide +kernel
theorem dX0_nameOthers_26 : decode cX0_nameOthers 26 = .ok (.iload_n 2, 1) := by decide +kernel
theorem dX0_nameOthers_27 : decode cX0_nameOthers 27 = .ok (.invokevirtual 70, 3) := by decide +kernel
theorem dX0_nameOthers_30 : decode cX0_nameOthers 30 = .ok (.istore_n 3, 1) := by decide +kernel
theorem dX0_nameOthers_31 : decode cX0_nameOthers 31 = .ok (.iload_n 3, 1) := by decide +kernel
theorem dX0_nameOthers_32 : decode cX0_nameOthers 32 = .ok (.iconst (-1), 1) := by decide +kernel
theorem dX0_nameOthers_33 : decode cX0_nameOthers 33 = .ok (.if_icmp .eq 46, 3) := by decide +kernel
theorem dX0_nameOthers_36 : decode cX0_nameOthers 36 = .ok (.aload_n 0, 1) := by decide +kernel
theorem dX0_nameOthers_37 : decode cX0_nameOthers 37 = .ok (.getfield 30, 3) := by decide +kernel
theorem dX0_nameOthers_40 : decode cX0_nameOthers 40 = .ok (.iload_n 3, 1) := by decide +kernel
theorem dX0_nameOthers_41 : decode cX0_nameOthers 41 = .ok (.invokevirtual 73, 3) := by decide +kernel
theorem dX0_nameOthers_44 : decode cX0_nameOthers 44 = .ok (.aload_n 0, 1) := by decide +kernel
theorem dX0_nameOthers_45 : decode cX0_nameOthers 45 = .ok (.getfield 26, 3) := by decide +kernel
theorem dX0_nameOthers_48 : decode cX0_nameOthers 48 = .ok (.iload_n 1, 1) := by decide +kernel
theorem dX0_nameOthers_49 : decode cX0_nameOthers 49 = .ok (.invokevirtual 73, 3) := by decide +kernel
theorem dX0_nameOthers_52 : decode cX0_nameOthers 52 = .ok (.if_icmp .eq 27, 3) := by decide +kernel
theorem dX0_nameOthers_55 : decode cX0_nameOthers 55 = .ok (.aload_n 0, 1) := by decide +kernel
theorem dX0_nameOthers_56 : decode cX0_nameOthers 56 = .ok (.iload_n 2, 1) := by decide +kernel
theorem dX0_nameOthers_57 : decode cX0_nameOthers 57 = .ok (.aload_n 0, 1) := by decide +kernel
theorem dX0_nameOthers_58 : decode cX0_nameOthers 58 = .ok (.getfield 26, 3) := by decide +kernel
theorem dX0_nameOthers_61 : decode cX0_nameOthers 61 = .ok (.iload_n 1, 1) := by decide +kernel
theorem dX0_nameOthers_62 : decode cX0_nameOthers 62 = .ok (.invokevirtual 73, 3) := by decide +kernel
theorem dX0_nameOthers_65 : decode cX0_nameOthers 65 = .ok (.aload_n 0, 1) := by decide +kernel
theorem dX0_nameOthers_66 : decode cX0_nameOthers 66 = .ok (.getfield 30, 3) := by decide +kernel
theorem dX0_nameOthers_69 : decode cX0_nameOthers 69 = .ok (.iload_n 3, 1) := by decide +kernel
theorem dX0_nameOthers_70 : decode cX0_nameOthers 70 = .ok (.invokevirtual 73, 3) := by decide +kernel
theorem dX0_nameOthers_73 : decode cX0_nameOthers 73 = .ok (.invokestatic 76, 3) := by decide +kernel
theorem dX0_nameOthers_76 : decode cX0_nameOthers 76 = .ok (.invokevirtual 82, 3) := by decide +kernel
theorem dX0_nameOthers_79 : decode cX0_nameOthers 79 = .ok (.iinc 1 1, 3) := by decide +kernel
theorem dX0_nameOthers_82 : decode cX0_nameOthers 82 = .ok (.goto (-80), 3) := by decide +kernel
theorem dX0_nameOthers_85 : decode cX0_nameOthers 85 = .ok (.return_, 1) := by decide +kernel
theorem dX0_takeOthers_0 : decode cX0_takeOthers 0 = .ok (.aload_n 0, 1) := by decide +kernel
theorem dX0_takeOthers_1 : decode cX0_takeOthers 1 = .ok (.getfield 26, 3) := by decide +kernel
theorem dX0_takeOthers_4 : decode cX0_takeOthers 4 = .ok (.getfield 56, 3) := by decide +kernel
theorem dX0_takeOthers_7 : decode cX0_takeOthers 7 = .ok (.iconst 1, 1) := by decide +kernel
theorem dX0_takeOthers_8 : decode cX0_takeOthers 8 = .ok (.isub, 1) := by decide +kernel
theorem dX0_takeOthers_9 : decode cX0_takeOthers 9 = .ok (.istore_n 1, 1) := by decide +kernel
theorem dX0_takeOthers_10 : decode cX0_takeOthers 10 = .ok (.iload_n 1, 1) := by decide +kernel
theorem dX0_takeOthers_11 : decode cX0_takeOthers 11 = .ok (.ifCond .lt 71, 3) := by decide +kernel
theorem dX0_takeOthers_14 : decode cX0_takeOthers 14 = .ok (.aload_n 0, 1) := by decide +kernel
theorem dX0_takeOthers_15 : decode cX0_takeOthers 15 = .ok (.getfield 26, 3) := by decide +kernel
theorem dX0_takeOthers_18 : decode cX0_takeOthers 18 = .ok (.iload_n 1, 1) := by decide +kernel
theorem dX0_takeOthers_19 : decode cX0_takeOthers 19 = .ok (.invokevirtual 41, 3) := by decide +kernel
theorem dX0_takeOthers_22 : decode cX0_takeOthers 22 = .ok (.istore_n 2, 1) := by decide +kernel
theorem dX0_takeOthers_23 : decode cX0_takeOthers 23 = .ok (.aload_n 0, 1) := by decide +kernel
theorem dX0_takeOthers_24 : decode cX0_takeOthers 24 = .ok (.getfield 30, 3) := by decide +kernel
theorem dX0_takeOthers_27 : decode cX0_takeOthers 27 = .ok (.iload_n 2, 1) := by decide +kernel
theorem dX0_takeOthers_28 : decode cX0_takeOthers 28 = .ok (.invokevirtual 70, 3) := by decide +kernel
theorem dX0_takeOthers_31 : decode cX0_takeOthers 31 = .ok (.iconst (-1), 1) := by decide +kernel
theorem dX0_takeOthers_32 : decode cX0_takeOthers 32 = .ok (.if_icmp .ne 44, 3) := by decide +kernel
theorem dX0_takeOthers_35 : decode cX0_takeOthers 35 = .ok (.aload_n 0, 1) := by decide +kernel
theorem dX0_takeOthers_36 : decode cX0_takeOthers 36 = .ok (.getfield 38, 3) := by decide +kernel
theorem dX0_takeOthers_39 : decode cX0_takeOthers 39 = .ok (.iload_n 2, 1) := by decide +kernel
theorem dX0_takeOthers_40 : decode cX0_takeOthers 40 = .ok (.invokevirtual 70, 3) := by decide +kernel
theorem dX0_takeOthers_43 : decode cX0_takeOthers 43 = .ok (.istore_n 3, 1) := by decide +kernel
theorem dX0_takeOthers_44 : decode cX0_takeOthers 44 = .ok (.aload_n 0, 1) := by decide +kernel
theorem dX0_takeOthers_45 : decode cX0_takeOthers 45 = .ok (.iload_n 2, 1) := by decide +kernel
theorem dX0_takeOthers_46 : decode cX0_takeOthers 46 = .ok (.aload_n 0, 1) := by decide +kernel
theorem dX0_takeOthers_47 : decode cX0_takeOthers 47 = .ok (.getfield 38, 3) := by decide +kernel
theorem dX0_takeOthers_50 : decode cX0_takeOthers 50 = .ok (.iload_n 3, 1) := by decide +kernel
theorem dX0_takeOthers_51 : decode cX0_takeOthers 51 = .ok (.invokevirtual 73, 3) := by decide +kernel
theorem dX0_takeOthers_54 : decode cX0_takeOthers 54 = .ok (.aload_n 0, 1) := by decide +kernel
theorem dX0_takeOthers_55 : decode cX0_takeOthers 55 = .ok (.getfield 38, 3) := by decide +kernel
theorem dX0_takeOthers_58 : decode cX0_takeOthers 58 = .ok (.iload_n 3, 1) := by decide +kernel
theorem dX0_takeOthers_59 : decode cX0_takeOthers 59 = .ok (.invokevirtual 86, 3) := by decide +kernel
theorem dX0_takeOthers_62 : decode cX0_takeOthers 62 = .ok (.aload_n 0, 1) := by decide +kernel
theorem dX0_takeOthers_63 : decode cX0_takeOthers 63 = .ok (.getfield 38, 3) := by decide +kernel
theorem dX0_takeOthers_66 : decode cX0_takeOthers 66 = .ok (.iload_n 3, 1) := by decide +kernel
theorem dX0_takeOthers_67 : decode cX0_takeOthers 67 = .ok (.invokevirtual 89, 3) := by decide +kernel
theorem dX0_takeOthers_70 : decode cX0_takeOthers 70 = .ok (.invokestatic 92, 3) := by decide +kernel
theorem dX0_takeOthers_73 : decode cX0_takeOthers 73 = .ok (.invokevirtual 82, 3) := by decide +kernel
theorem dX0_takeOthers_76 : decode cX0_takeOthers 76 = .ok (.iinc 1 (-1), 3) := by decide +kernel
theorem dX0_takeOthers_79 : decode cX0_takeOthers 79 = .ok (.goto (-69), 3) := by decide +kernel
theorem dX0_takeOthers_82 : decode cX0_takeOthers 82 = .ok (.return_, 1) := by decide +kernel
theorem dX0_change_0 : decode cX0_change 0 = .ok (.aload_n 0, 1) := by decide +kernel
theorem dX0_change_1 : decode cX0_change 1 = .ok (.getfield 22, 3) := by decide +kernel
theorem dX0_change_4 : decode cX0_change 4 = .ok (.aload_n 1, 1) := by decide +kernel
theorem dX0_change_5 : decode cX0_change 5 = .ok (.invokevirtual 96, 3) := by decide +kernel
theorem dX0_change_8 : decode cX0_change 8 = .ok (.aload_n 1, 1) := by decide +kernel
theorem dX0_change_9 : decode cX0_change 9 = .ok (.aload_n 0, 1) := by decide +kernel
theorem dX0_change_10 : decode cX0_change 10 = .ok (.getfield 38, 3) := by decide +kernel
theorem dX0_change_13 : decode cX0_change 13 = .ok (.invokevirtual 99, 3) := by decide +kernel
theorem dX0_change_16 : decode cX0_change 16 = .ok (.return_, 1) := by decide +kernel
theorem dX0_markStaying_0 : decode cX0_markStaying 0 = .ok (.aload_n 0, 1) := by decide +kernel
theorem dX0_markStaying_1 : decode cX0_markStaying 1 = .ok (.iload_n 1, 1) := by decide +kernel
theorem dX0_markStaying_2 : decode cX0_markStaying 2 = .ok (.invokevirtual 102, 3) := by decide +kernel
theorem dX0_markStaying_5 : decode cX0_markStaying 5 = .ok (.istore_n 2, 1) := by decide +kernel
theorem dX0_markStaying_6 : decode cX0_markStaying 6 = .ok (.aload_n 0, 1) := by decide +kernel
theorem dX0_markStaying_7 : decode cX0_markStaying 7 = .ok (.iload_n 2, 1) := by decide +kernel
theorem dX0_markStaying_8 : decode cX0_markStaying 8 = .ok (.invokevirtual 105, 3) := by decide +kernel
theorem dX0_markStaying_11 : decode cX0_markStaying 11 = .ok (.istore_n 3, 1) := by decide +kernel
theorem dX0_markStaying_12 : decode cX0_markStaying 12 = .ok (.iconst (-1), 1) := by decide +kernel
theorem dX0_markStaying_13 : decode cX0_markStaying 13 = .ok (.istore 4, 2) := by decide +kernel
theorem dX0_markStaying_15 : decode cX0_markStaying 15 = .ok (.iconst 0, 1) := by decide +kernel
theorem dX0_markStaying_16 : decode cX0_markStaying 16 = .ok (.istore 5, 2) := by decide +kernel
theorem dX0_markStaying_18 : decode cX0_markStaying 18 = .ok (.iload 5, 2) := by decide +kernel
theorem dX0_markStaying_20 : decode cX0_markStaying 20 = .ok (.iload_n 2, 1) := by decide +kernel
theorem dX0_markStaying_21 : decode cX0_markStaying 21 = .ok (.if_icmp .ge 52, 3) := by decide +kernel
theorem dX0_markStaying_24 : decode cX0_markStaying 24 = .ok (.aload_n 0, 1) := by decide +kernel
theorem dX0_markStaying_25 : decode cX0_markStaying 25 = .ok (.getfield 15, 3) := by decide +kernel
theorem dX0_markStaying_28 : decode cX0_markStaying 28 = .ok (.iload 5, 2) := by decide +kernel
theorem dX0_markStaying_30 : decode cX0_markStaying 30 = .ok (.iaload, 1) := by decide +kernel
theorem dX0_markStaying_31 : decode cX0_markStaying 31 = .ok (.iload_n 3, 1) := by decide +kernel
theorem dX0_markStaying_32 : decode cX0_markStaying 32 = .ok (.if_icmp .ne 35, 3) := by decide +kernel
theorem dX0_markStaying_35 : decode cX0_markStaying 35 = .ok (.aload_n 0, 1) := by decide +kernel
theorem dX0_markStaying_36 : decode cX0_markStaying 36 = .ok (.getfield 9, 3) := by decide +kernel
theorem dX0_markStaying_39 : decode cX0_markStaying 39 = .ok (.iload 5, 2) := by decide +kernel
theorem dX0_markStaying_41 : decode cX0_markStaying 41 = .ok (.iaload, 1) := by decide +kernel
theorem dX0_markStaying_42 : decode cX0_markStaying 42 = .ok (.iload 4, 2) := by decide +kernel
theorem dX0_markStaying_44 : decode cX0_markStaying 44 = .ok (.if_icmp .le 23, 3) := by decide +kernel
theorem dX0_markStaying_47 : decode cX0_markStaying 47 = .ok (.aload_n 0, 1) := by decide +kernel
theorem dX0_markStaying_48 : decode cX0_markStaying 48 = .ok (.getfield 9, 3) := by decide +kernel
theorem dX0_markStaying_51 : decode cX0_markStaying 51 = .ok (.iload 5, 2) := by decide +kernel
theorem dX0_markStaying_53 : decode cX0_markStaying 53 = .ok (.iaload, 1) := by decide +kernel
theorem dX0_markStaying_54 : decode cX0_markStaying 54 = .ok (.istore 4, 2) := by decide +kernel
theorem dX0_markStaying_56 : decode cX0_markStaying 56 = .ok (.aload_n 0, 1) := by decide +kernel
theorem dX0_markStaying_57 : decode cX0_markStaying 57 = .ok (.getfield 18, 3) := by decide +kernel
theorem dX0_markStaying_60 : decode cX0_markStaying 60 = .ok (.iload 4, 2) := by decide +kernel
theorem dX0_markStaying_62 : decode cX0_markStaying 62 = .ok (.iconst 1, 1) := by decide +kernel
theorem dX0_markStaying_63 : decode cX0_markStaying 63 = .ok (.bastore, 1) := by decide +kernel
theorem dX0_markStaying_64 : decode cX0_markStaying 64 = .ok (.iinc 3 (-1), 3) := by decide +kernel
theorem dX0_markStaying_67 : decode cX0_markStaying 67 = .ok (.iinc 5 1, 3) := by decide +kernel
theorem dX0_markStaying_70 : decode cX0_markStaying 70 = .ok (.goto (-52), 3) := by decide +kernel
theorem dX0_markStaying_73 : decode cX0_markStaying 73 = .ok (.return_, 1) := by decide +kernel
theorem dX0_rankChildren_0 : decode cX0_rankChildren 0 = .ok (.aload_n 0, 1) := by decide +kernel
theorem dX0_rankChildren_1 : decode cX0_rankChildren 1 = .ok (.getfield 38, 3) := by decide +kernel
theorem dX0_rankChildren_4 : decode cX0_rankChildren 4 = .ok (.aload_n 0, 1) := by decide +kernel
theorem dX0_rankChildren_5 : decode cX0_rankChildren 5 = .ok (.getfield 30, 3) := by decide +kernel
theorem dX0_rankChildren_8 : decode cX0_rankChildren 8 = .ok (.iload_n 1, 1) := by decide +kernel
theorem dX0_rankChildren_9 : decode cX0_rankChildren 9 = .ok (.invokevirtual 41, 3) := by decide +kernel
theorem dX0_rankChildren_12 : decode cX0_rankChildren 12 = .ok (.invokevirtual 70, 3) := by decide +kernel
theorem dX0_rankChildren_15 : decode cX0_rankChildren 15 = .ok (.istore_n 2, 1) := by decide +kernel
theorem dX0_rankChildren_16 : decode cX0_rankChildren 16 = .ok (.aload_n 0, 1) := by decide +kernel
theorem dX0_rankChildren_17 : decode cX0_rankChildren 17 = .ok (.getfield 38, 3) := by decide +kernel
theorem dX0_rankChildren_20 : decode cX0_rankChildren 20 = .ok (.iload_n 2, 1) := by decide +kernel
theorem dX0_rankChildren_21 : decode cX0_rankChildren 21 = .ok (.invokevirtual 108, 3) := by decide +kernel
theorem dX0_rankChildren_24 : decode cX0_rankChildren 24 = .ok (.istore_n 3, 1) := by decide +kernel
theorem dX0_rankChildren_25 : decode cX0_rankChildren 25 = .ok (.iconst 0, 1) := by decide +kernel
theorem dX0_rankChildren_26 : decode cX0_rankChildren 26 = .ok (.istore 4, 2) := by decide +kernel
theorem dX0_rankChildren_28 : decode cX0_rankChildren 28 = .ok (.iload_n 2, 1) := by decide +kernel
theorem dX0_rankChildren_29 : decode cX0_rankChildren 29 = .ok (.iconst 1, 1) := by decide +kernel
theorem dX0_rankChildren_30 : decode cX0_rankChildren 30 = .ok (.iadd, 1) := by decide +kernel
theorem dX0_rankChildren_31 : decode cX0_rankChildren 31 = .ok (.istore 5, 2) := by decide +kernel
theorem dX0_rankChildren_33 : decode cX0_rankChildren 33 = .ok (.iload 5, 2) := by decide +kernel
theorem dX0_rankChildren_35 : decode cX0_rankChildren 35 = .ok (.iload_n 3, 1) := by decide +kernel
theorem dX0_rankChildren_36 : decode cX0_rankChildren 36 = .ok (.if_icmp .ge 87, 3) := by decide +kernel
theorem dX0_rankChildren_39 : decode cX0_rankChildren 39 = .ok (.iload 4, 2) := by decide +kernel
theorem dX0_rankChildren_41 : decode cX0_rankChildren 41 = .ok (.bipush 80, 2) := by decide +kernel
theorem dX0_rankChildren_43 : decode cX0_rankChildren 43 = .ok (.if_icmp .ge 80, 3) := by decide +kernel
theorem dX0_rankChildren_46 : decode cX0_rankChildren 46 = .ok (.aload_n 0, 1) := by decide +kernel
theorem dX0_rankChildren_47 : decode cX0_rankChildren 47 = .ok (.getfield 38, 3) := by decide +kernel
theorem dX0_rankChildren_50 : decode cX0_rankChildren 50 = .ok (.iload 5, 2) := by decide +kernel
theorem dX0_rankChildren_52 : decode cX0_rankChildren 52 = .ok (.invokevirtual 111, 3) := by decide +kernel
theorem dX0_rankChildren_55 : decode cX0_rankChildren 55 = .ok (.aload_n 0, 1) := by decide +kernel
theorem dX0_rankChildren_56 : decode cX0_rankChildren 56 = .ok (.getfield 38, 3) := by decide +kernel
theorem dX0_rankChildren_59 : decode cX0_rankChildren 59 = .ok (.iload_n 2, 1) := by decide +kernel
theorem dX0_rankChildren_60 : decode cX0_rankChildren 60 = .ok (.invokevirtual 111, 3) := by decide +kernel
theorem dX0_rankChildren_63 : decode cX0_rankChildren 63 = .ok (.iconst 1, 1) := by decide +kernel
theorem dX0_rankChildren_64 : decode cX0_rankChildren 64 = .ok (.iadd, 1) := by decide +kernel
theorem dX0_rankChildren_65 : decode cX0_rankChildren 65 = .ok (.if_icmp .ne 52, 3) := by decide +kernel
theorem dX0_rankChildren_68 : decode cX0_rankChildren 68 = .ok (.aload_n 0, 1) := by decide +kernel
theorem dX0_rankChildren_69 : decode cX0_rankChildren 69 = .ok (.getfield 30, 3) := by decide +kernel
theorem dX0_rankChildren_72 : decode cX0_rankChildren 72 = .ok (.aload_n 0, 1) := by decide +kernel
theorem dX0_rankChildren_73 : decode cX0_rankChildren 73 = .ok (.getfield 38, 3) := by decide +kernel
theorem dX0_rankChildren_76 : decode cX0_rankChildren 76 = .ok (.iload 5, 2) := by decide +kernel
theorem dX0_rankChildren_78 : decode cX0_rankChildren 78 = .ok (.invokevirtual 41, 3) := by decide +kernel
theorem dX0_rankChildren_81 : decode cX0_rankChildren 81 = .ok (.invokevirtual 70, 3) := by decide +kernel
theorem dX0_rankChildren_84 : decode cX0_rankChildren 84 = .ok (.istore 6, 2) := by decide +kernel
theorem dX0_rankChildren_86 : decode cX0_rankChildren 86 = .ok (.iload 6, 2) := by decide +kernel
theorem dX0_rankChildren_88 : decode cX0_rankChildren 88 = .ok (.iconst (-1), 1) := by decide +kernel
theorem dX0_rankChildren_89 : decode cX0_rankChildren 89 = .ok (.if_icmp .eq 28, 3) := by decide +kernel
theorem dX0_rankChildren_92 : decode cX0_rankChildren 92 = .ok (.aload_n 0, 1) := by decide +kernel
theorem dX0_rankChildren_93 : decode cX0_rankChildren 93 = .ok (.getfield 30, 3) := by decide +kernel
theorem dX0_rankChildren_96 : decode cX0_rankChildren 96 = .ok (.iload 6, 2) := by decide +kernel
theorem dX0_rankChildren_98 : decode cX0_rankChildren 98 = .ok (.invokevirtual 114, 3) := by decide +kernel
theorem dX0_rankChildren_101 : decode cX0_rankChildren 101 = .ok (.iload_n 1, 1) := by decide +kernel
theorem dX0_rankChildren_102 : decode cX0_rankChildren 102 = .ok (.if_icmp .ne 15, 3) := by decide +kernel
theorem dX0_rankChildren_105 : decode cX0_rankChildren 105 = .ok (.aload_n 0, 1) := by decide +kernel
theorem dX0_rankChildren_106 : decode cX0_rankChildren 106 = .ok (.getfield 9, 3) := by decide +kernel
theorem dX0_rankChildren_109 : decode cX0_rankChildren 109 = .ok (.iload 4, 2) := by decide +kernel
theorem dX0_rankChildren_111 : decode cX0_rankChildren 111 = .ok (.iload 6, 2) := by decide +kernel
theorem dX0_rankChildren_113 : decode cX0_rankChildren 113 = .ok (.iastore, 1) := by decide +kernel
theorem dX0_rankChildren_114 : decode cX0_rankChildren 114 = .ok (.iinc 4 1, 3) := by decide +kernel
theorem dX0_rankChildren_117 : decode cX0_rankChildren 117 = .ok (.iinc 5 1, 3) := by decide +kernel
theorem dX0_rankChildren_120 : decode cX0_rankChildren 120 = .ok (.goto (-87), 3) := by decide +kernel
theorem dX0_rankChildren_123 : decode cX0_rankChildren 123 = .ok (.iload 4, 2) := by decide +kernel
theorem dX0_rankChildren_125 : decode cX0_rankChildren 125 = .ok (.ireturn, 1) := by decide +kernel
theorem dX0_measureRisingRows_0 : decode cX0_measureRisingRows 0 = .ok (.iconst 0, 1) := by decide +kernel
theorem dX0_measureRisingRows_1 : decode cX0_measureRisingRows 1 = .ok (.istore_n 2, 1) := by decide +kernel
theorem dX0_measureRisingRows_2 : decode cX0_measureRisingRows 2 = .ok (.iload_n 1, 1) := by decide +kernel
theorem dX0_measureRisingRows_3 : decode cX0_measureRisingRows 3 = .ok (.iconst 1, 1) := by decide +kernel
theorem dX0_measureRisingRows_4 : decode cX0_measureRisingRows 4 = .ok (.isub, 1) := by decide +kernel
theorem dX0_measureRisingRows_5 : decode cX0_measureRisingRows 5 = .ok (.istore_n 3, 1) := by decide +kernel
theorem dX0_measureRisingRows_6 : decode cX0_measureRisingRows 6 = .ok (.iload_n 3, 1) := by decide +kernel
theorem dX0_measureRisingRows_7 : decode cX0_measureRisingRows 7 = .ok (.ifCond .lt 91, 3) := by decide +kernel
theorem dX0_measureRisingRows_10 : decode cX0_measureRisingRows 10 = .ok (.aload_n 0, 1) := by decide +kernel
theorem dX0_measureRisingRows_11 : decode cX0_measureRisingRows 11 = .ok (.getfield 15, 3) := by decide +kernel
theorem dX0_measureRisingRows_14 : decode cX0_measureRisingRows 14 = .ok (.iload_n 3, 1) := by decide +kernel
theorem dX0_measureRisingRows_15 : decode cX0_measureRisingRows 15 = .ok (.iconst 1, 1) := by decide +kernel
theorem dX0_measureRisingRows_16 : decode cX0_measureRisingRows 16 = .ok (.iastore, 1) := by decide +kernel
theorem dX0_measureRisingRows_17 : decode cX0_measureRisingRows 17 = .ok (.iload_n 3, 1) := by decide +kernel
theorem dX0_measureRisingRows_18 : decode cX0_measureRisingRows 18 = .ok (.iconst 1, 1) := by decide +kernel
theorem dX0_measureRisingRows_19 : decode cX0_measureRisingRows 19 = .ok (.iadd, 1) := by decide +kernel
theorem dX0_measureRisingRows_20 : decode cX0_measureRisingRows 20 = .ok (.istore 4, 2) := by decide +kernel
theorem dX0_measureRisingRows_22 : decode cX0_measureRisingRows 22 = .ok (.iload 4, 2) := by decide +kernel
theorem dX0_measureRisingRows_24 : decode cX0_measureRisingRows 24 = .ok (.iload_n 1, 1) := by decide +kernel
theorem dX0_measureRisingRows_25 : decode cX0_measureRisingRows 25 = .ok (.if_icmp .ge 56, 3) := by decide +kernel
theorem dX0_measureRisingRows_28 : decode cX0_measureRisingRows 28 = .ok (.aload_n 0, 1) := by decide +kernel
theorem dX0_measureRisingRows_29 : decode cX0_measureRisingRows 29 = .ok (.getfield 9, 3) := by decide +kernel
theorem dX0_measureRisingRows_32 : decode cX0_measureRisingRows 32 = .ok (.iload 4, 2) := by decide +kernel
theorem dX0_measureRisingRows_34 : decode cX0_measureRisingRows 34 = .ok (.iaload, 1) := by decide +kernel
theorem dX0_measureRisingRows_35 : decode cX0_measureRisingRows 35 = .ok (.aload_n 0, 1) := by decide +kernel
theorem dX0_measureRisingRows_36 : decode cX0_measureRisingRows 36 = .ok (.getfield 9, 3) := by decide +kernel
theorem dX0_measureRisingRows_39 : decode cX0_measureRisingRows 39 = .ok (.iload_n 3, 1) := by decide +kernel
theorem dX0_measureRisingRows_40 : decode cX0_measureRisingRows 40 = .ok (.iaload, 1) := by decide +kernel
theorem dX0_measureRisingRows_41 : decode cX0_measureRisingRows 41 = .ok (.if_icmp .le 34, 3) := by decide +kernel
theorem dX0_measureRisingRows_44 : decode cX0_measureRisingRows 44 = .ok (.aload_n 0, 1) := by decide +kernel
theorem dX0_measureRisingRows_45 : decode cX0_measureRisingRows 45 = .ok (.getfield 15, 3) := by decide +kernel
theorem dX0_measureRisingRows_48 : decode cX0_measureRisingRows 48 = .ok (.iload 4, 2) := by decide +kernel
theorem dX0_measureRisingRows_50 : decode cX0_measureRisingRows 50 = .ok (.iaload, 1) := by decide +kernel
theorem dX0_measureRisingRows_51 : decode cX0_measureRisingRows 51 = .ok (.aload_n 0, 1) := by decide +kernel
theorem dX0_measureRisingRows_52 : decode cX0_measureRisingRows 52 = .ok (.getfield 15, 3) := by decide +kernel
theorem dX0_measureRisingRows_55 : decode cX0_measureRisingRows 55 = .ok (.iload_n 3, 1) := by decide +kernel
theorem dX0_measureRisingRows_56 : decode cX0_measureRisingRows 56 = .ok (.iaload, 1) := by decide +kernel
theorem dX0_measureRisingRows_57 : decode cX0_measureRisingRows 57 = .ok (.if_icmp .lt 18, 3) := by decide +kernel
theorem dX0_measureRisingRows_60 : decode cX0_measureRisingRows 60 = .ok (.aload_n 0, 1) := by decide +kernel
theorem dX0_measureRisingRows_61 : decode cX0_measureRisingRows 61 = .ok (.getfield 15, 3) := by decide +kernel
theorem dX0_measureRisingRows_64 : decode cX0_measureRisingRows 64 = .ok (.iload_n 3, 1) := by decide +kernel
theorem dX0_measureRisingRows_65 : decode cX0_measureRisingRows 65 = .ok (.aload_n 0, 1) := by decide +kernel
theorem dX0_measureRisingRows_66 : decode cX0_measureRisingRows 66 = .ok (.getfield 15, 3) := by decide +kernel
theorem dX0_measureRisingRows_69 : decode cX0_measureRisingRows 69 = .ok (.iload 4, 2) := by decide +kernel
theorem dX0_measureRisingRows_71 : decode cX0_measureRisingRows 71 = .ok (.iaload, 1) := by decide +kernel
theorem dX0_measureRisingRows_72 : decode cX0_measureRisingRows 72 = .ok (.iconst 1, 1) := by decide +kernel
theorem dX0_measureRisingRows_73 : decode cX0_measureRisingRows 73 = .ok (.iadd, 1) := by decide +kernel
theorem dX0_measureRisingRows_74 : decode cX0_measureRisingRows 74 = .ok (.iastore, 1) := by decide +kernel
theorem dX0_measureRisingRows_75 : decode cX0_measureRisingRows 75 = .ok (.iinc 4 1, 3) := by decide +kernel
theorem dX0_measureRisingRows_78 : decode cX0_measureRisingRows 78 = .ok (.goto (-56), 3) := by decide +kernel
theorem dX0_measureRisingRows_81 : decode cX0_measureRisingRows 81 = .ok (.iload_n 2, 1) := by decide +kernel
theorem dX0_measureRisingRows_82 : decode cX0_measureRisingRows 82 = .ok (.aload_n 0, 1) := by decide +kernel
theorem dX0_measureRisingRows_83 : decode cX0_measureRisingRows 83 = .ok (.getfield 15, 3) := by decide +kernel
theorem dX0_measureRisingRows_86 : decode cX0_measureRisingRows 86 = .ok (.iload_n 3, 1) := by decide +kernel
theorem dX0_measureRisingRows_87 : decode cX0_measureRisingRows 87 = .ok (.iaload, 1) := by decide +kernel
theorem dX0_measureRisingRows_88 : decode cX0_measureRisingRows 88 = .ok (.invokestatic 117, 3) := by decide +kernel
theorem dX0_measureRisingRows_91 : decode cX0_measureRisingRows 91 = .ok (.istore_n 2, 1) := by decide +kernel
theorem dX0_measureRisingRows_92 : decode cX0_measureRisingRows 92 = .ok (.iinc 3 (-1), 3) := by decide +kernel
theorem dX0_measureRisingRows_95 : decode cX0_measureRisingRows 95 = .ok (.goto (-89), 3) := by decide +kernel
theorem dX0_measureRisingRows_98 : decode cX0_measureRisingRows 98 = .ok (.iload_n 2, 1) := by decide +kernel
theorem dX0_measureRisingRows_99 : decode cX0_measureRisingRows 99 = .ok (.ireturn, 1) := by decide +kernel
theorem dX0_bringOthers_0 : decode cX0_bringOthers 0 = .ok (.aload_n 0, 1) := by decide +kernel
theorem dX0_bringOthers_1 : decode cX0_bringOthers 1 = .ok (.getfield 30, 3) := by decide +kernel
theorem dX0_bringOthers_4 : decode cX0_bringOthers 4 = .ok (.iload_n 1, 1) := by decide +kernel
theorem dX0_bringOthers_5 : decode cX0_bringOthers 5 = .ok (.invokevirtual 41, 3) := by decide +kernel
theorem dX0_bringOthers_8 : decode cX0_bringOthers 8 = .ok (.istore_n 2, 1) := by decide +kernel
theorem dX0_bringOthers_9 : decode cX0_bringOthers 9 = .ok (.aload_n 0, 1) := by decide +kernel
theorem dX0_bringOthers_10 : decode cX0_bringOthers 10 = .ok (.getfield 30, 3) := by decide +kernel
theorem dX0_bringOthers_13 : decode cX0_bringOthers 13 = .ok (.iload_n 1, 1) := by decide +kernel
theorem dX0_bringOthers_14 : decode cX0_bringOthers 14 = .ok (.invokevirtual 108, 3) := by decide +kernel
theorem dX0_bringOthers_17 : decode cX0_bringOthers 17 = .ok (.istore_n 3, 1) := by decide +kernel
theorem dX0_bringOthers_18 : decode cX0_bringOthers 18 = .ok (.iconst (-1), 1) := by decide +kernel
theorem dX0_bringOthers_19 : decode cX0_bringOthers 19 = .ok (.istore 4, 2) := by decide +kernel
theorem dX0_bringOthers_21 : decode cX0_bringOthers 21 = .ok (.iload_n 1, 1) := by decide +kernel
theorem dX0_bringOthers_22 : decode cX0_bringOthers 22 = .ok (.iconst 1, 1) := by decide +kernel
theorem dX0_bringOthers_23 : decode cX0_bringOthers 23 = .ok (.iadd, 1) := by decide +kernel
theorem dX0_bringOthers_24 : decode cX0_bringOthers 24 = .ok (.istore 5, 2) := by decide +kernel
theorem dX0_bringOthers_26 : decode cX0_bringOthers 26 = .ok (.iload 5, 2) := by decide +kernel
theorem dX0_bringOthers_28 : decode cX0_bringOthers 28 = .ok (.iload_n 3, 1) := by decide +kernel
theorem dX0_bringOthers_29 : decode cX0_bringOthers 29 = .ok (.if_icmp .ge 58, 3) := by decide +kernel
theorem dX0_bringOthers_32 : decode cX0_bringOthers 32 = .ok (.aload_n 0, 1) := by decide +kernel
theorem dX0_bringOthers_33 : decode cX0_bringOthers 33 = .ok (.getfield 30, 3) := by decide +kernel
theorem dX0_bringOthers_36 : decode cX0_bringOthers 36 = .ok (.iload 5, 2) := by decide +kernel
theorem dX0_bringOthers_38 : decode cX0_bringOthers 38 = .ok (.invokevirtual 111, 3) := by decide +kernel
theorem dX0_bringOthers_41 : decode cX0_bringOthers 41 = .ok (.aload_n 0, 1) := by decide +kernel
theorem dX0_bringOthers_42 : decode cX0_bringOthers 42 = .ok (.getfield 30, 3) := by decide +kernel
theorem dX0_bringOthers_45 : decode cX0_bringOthers 45 = .ok (.iload_n 1, 1) := by decide +kernel
theorem dX0_bringOthers_46 : decode cX0_bringOthers 46 = .ok (.invokevirtual 111, 3) := by decide +kernel
theorem dX0_bringOthers_49 : decode cX0_bringOthers 49 = .ok (.iconst 1, 1) := by decide +kernel
theorem dX0_bringOthers_50 : decode cX0_bringOthers 50 = .ok (.iadd, 1) := by decide +kernel
theorem dX0_bringOthers_51 : decode cX0_bringOthers 51 = .ok (.if_icmp .ne 30, 3) := by decide +kernel
theorem dX0_bringOthers_54 : decode cX0_bringOthers 54 = .ok (.aload_n 0, 1) := by decide +kernel
theorem dX0_bringOthers_55 : decode cX0_bringOthers 55 = .ok (.getfield 18, 3) := by decide +kernel
theorem dX0_bringOthers_58 : decode cX0_bringOthers 58 = .ok (.iload 5, 2) := by decide +kernel
theorem dX0_bringOthers_60 : decode cX0_bringOthers 60 = .ok (.baload, 1) := by decide +kernel
theorem dX0_bringOthers_61 : decode cX0_bringOthers 61 = .ok (.ifCond .ne 16, 3) := by decide +kernel
theorem dX0_bringOthers_64 : decode cX0_bringOthers 64 = .ok (.aload_n 0, 1) := by decide +kernel
theorem dX0_bringOthers_65 : decode cX0_bringOthers 65 = .ok (.aload_n 0, 1) := by decide +kernel
theorem dX0_bringOthers_66 : decode cX0_bringOthers 66 = .ok (.iload 5, 2) := by decide +kernel
theorem dX0_bringOthers_68 : decode cX0_bringOthers 68 = .ok (.iload_n 2, 1) := by decide +kernel
theorem dX0_bringOthers_69 : decode cX0_bringOthers 69 = .ok (.iload 4, 2) := by decide +kernel
theorem dX0_bringOthers_71 : decode cX0_bringOthers 71 = .ok (.invokevirtual 123, 3) := by decide +kernel
theorem dX0_bringOthers_74 : decode cX0_bringOthers 74 = .ok (.invokevirtual 82, 3) := by decide +kernel
theorem dX0_bringOthers_77 : decode cX0_bringOthers 77 = .ok (.iload 5, 2) := by decide +kernel
theorem dX0_bringOthers_79 : decode cX0_bringOthers 79 = .ok (.istore 4, 2) := by decide +kernel
theorem dX0_bringOthers_81 : decode cX0_bringOthers 81 = .ok (.iinc 5 1, 3) := by decide +kernel
theorem dX0_bringOthers_84 : decode cX0_bringOthers 84 = .ok (.goto (-58), 3) := by decide +kernel
theorem dX0_bringOthers_87 : decode cX0_bringOthers 87 = .ok (.return_, 1) := by decide +kernel
theorem dX0_brought_0 : decode cX0_brought 0 = .ok (.aload_n 0, 1) := by decide +kernel
theorem dX0_brought_1 : decode cX0_brought 1 = .ok (.getfield 30, 3) := by decide +kernel
theorem dX0_brought_4 : decode cX0_brought 4 = .ok (.iload_n 1, 1) := by decide +kernel
theorem dX0_brought_5 : decode cX0_brought 5 = .ok (.invokevirtual 41, 3) := by decide +kernel
theorem dX0_brought_8 : decode cX0_brought 8 = .ok (.istore 4, 2) := by decide +kernel
theorem dX0_brought_10 : decode cX0_brought 10 = .ok (.aload_n 0, 1) := by decide +kernel
theorem dX0_brought_11 : decode cX0_brought 11 = .ok (.getfield 38, 3) := by decide +kernel
theorem dX0_brought_14 : decode cX0_brought 14 = .ok (.iload 4, 2) := by decide +kernel
theorem dX0_brought_16 : decode cX0_brought 16 = .ok (.invokevirtual 70, 3) := by decide +kernel
theorem dX0_brought_19 : decode cX0_brought 19 = .ok (.istore 5, 2) := by decide +kernel
theorem dX0_brought_21 : decode cX0_brought 21 = .ok (.iload_n 3, 1) := by decide +kernel
theorem dX0_brought_22 : decode cX0_brought 22 = .ok (.iconst (-1), 1) := by decide +kernel
theorem dX0_brought_23 : decode cX0_brought 23 = .ok (.if_icmp .ne 7, 3) := by decide +kernel
theorem dX0_brought_26 : decode cX0_brought 26 = .ok (.iconst (-1), 1) := by decide +kernel
theorem dX0_brought_27 : decode cX0_brought 27 = .ok (.goto 18, 3) := by decide +kernel
theorem dX0_brought_30 : decode cX0_brought 30 = .ok (.aload_n 0, 1) := by decide +kernel
theorem dX0_brought_31 : decode cX0_brought 31 = .ok (.getfield 38, 3) := by decide +kernel
theorem dX0_brought_34 : decode cX0_brought 34 = .ok (.aload_n 0, 1) := by decide +kernel
theorem dX0_brought_35 : decode cX0_brought 35 = .ok (.getfield 30, 3) := by decide +kernel
theorem dX0_brought_38 : decode cX0_brought 38 = .ok (.iload_n 3, 1) := by decide +kernel
theorem dX0_brought_39 : decode cX0_brought 39 = .ok (.invokevirtual 41, 3) := by decide +kernel
theorem dX0_brought_42 : decode cX0_brought 42 = .ok (.invokevirtual 70, 3) := by decide +kernel
theorem dX0_brought_45 : decode cX0_brought 45 = .ok (.istore 6, 2) := by decide +kernel
theorem dX0_brought_47 : decode cX0_brought 47 = .ok (.iload 6, 2) := by decide +kernel
theorem dX0_brought_49 : decode cX0_brought 49 = .ok (.iconst (-1), 1) := by decide +kernel
theorem dX0_brought_50 : decode cX0_brought 50 = .ok (.if_icmp .ne 7, 3) := by decide +kernel
theorem dX0_brought_53 : decode cX0_brought 53 = .ok (.iconst 0, 1) := by decide +kernel
theorem dX0_brought_54 : decode cX0_brought 54 = .ok (.goto 14, 3) := by decide +kernel
theorem dX0_brought_57 : decode cX0_brought 57 = .ok (.aload_n 0, 1) := by decide +kernel
theorem dX0_brought_58 : decode cX0_brought 58 = .ok (.getfield 38, 3) := by decide +kernel
theorem dX0_brought_61 : decode cX0_brought 61 = .ok (.iload 6, 2) := by decide +kernel
theorem dX0_brought_63 : decode cX0_brought 63 = .ok (.invokevirtual 89, 3) := by decide +kernel
theorem dX0_brought_66 : decode cX0_brought 66 = .ok (.iconst 1, 1) := by decide +kernel
theorem dX0_brought_67 : decode cX0_brought 67 = .ok (.iadd, 1) := by decide +kernel
theorem dX0_brought_68 : decode cX0_brought 68 = .ok (.istore 7, 2) := by decide +kernel
theorem dX0_brought_70 : decode cX0_brought 70 = .ok (.iload 5, 2) := by decide +kernel
theorem dX0_brought_72 : decode cX0_brought 72 = .ok (.iconst (-1), 1) := by decide +kernel
theorem dX0_brought_73 : decode cX0_brought 73 = .ok (.if_icmp .ne 20, 3) := by decide +kernel
theorem dX0_brought_76 : decode cX0_brought 76 = .ok (.iload 4, 2) := by decide +kernel
theorem dX0_brought_78 : decode cX0_brought 78 = .ok (.aload_n 0, 1) := by decide +kernel
theorem dX0_brought_79 : decode cX0_brought 79 = .ok (.getfield 30, 3) := by decide +kernel
theorem dX0_brought_82 : decode cX0_brought 82 = .ok (.iload_n 1, 1) := by decide +kernel
theorem dX0_brought_83 : decode cX0_brought 83 = .ok (.invokevirtual 73, 3) := by decide +kernel
theorem dX0_brought_86 : decode cX0_brought 86 = .ok (.iload_n 2, 1) := by decide +kernel
theorem dX0_brought_87 : decode cX0_brought 87 = .ok (.iload 7, 2) := by decide +kernel
theorem dX0_brought_89 : decode cX0_brought 89 = .ok (.invokestatic 126, 3) := by decide +kernel
theorem dX0_brought_92 : decode cX0_brought 92 = .ok (.areturn, 1) := by decide +kernel
theorem dX0_brought_93 : decode cX0_brought 93 = .ok (.iload 5, 2) := by decide +kernel
theorem dX0_brought_95 : decode cX0_brought 95 = .ok (.iload 6, 2) := by decide +kernel
theorem dX0_brought_97 : decode cX0_brought 97 = .ok (.if_icmp .ge 27, 3) := by decide +kernel
theorem dX0_brought_100 : decode cX0_brought 100 = .ok (.aload_n 0, 1) := by decide +kernel
theorem dX0_brought_101 : decode cX0_brought 101 = .ok (.getfield 38, 3) := by decide +kernel
theorem dX0_brought_104 : decode cX0_brought 104 = .ok (.iload 5, 2) := by decide +kernel
theorem dX0_brought_106 : decode cX0_brought 106 = .ok (.invokevirtual 114, 3) := by decide +kernel
theorem dX0_brought_109 : decode cX0_brought 109 = .ok (.aload_n 0, 1) := by decide +kernel
theorem dX0_brought_110 : decode cX0_brought 110 = .ok (.getfield 38, 3) := by decide +kernel
theorem dX0_brought_113 : decode cX0_brought 113 = .ok (.iload 6, 2) := by decide +kernel
theorem dX0_brought_115 : decode cX0_brought 115 = .ok (.invokevirtual 114, 3) := by decide +kernel
theorem dX0_brought_118 : decode cX0_brought 118 = .ok (.if_icmp .ne 6, 3) := by decide +kernel
theorem dX0_brought_121 : decode cX0_brought 121 = .ok (.iinc 7 (-1), 3) := by decide +kernel
theorem dX0_brought_124 : decode cX0_brought 124 = .ok (.iload 4, 2) := by decide +kernel
theorem dX0_brought_126 : decode cX0_brought 126 = .ok (.aload_n 0, 1) := by decide +kernel
theorem dX0_brought_127 : decode cX0_brought 127 = .ok (.getfield 38, 3) := by decide +kernel
theorem dX0_brought_130 : decode cX0_brought 130 = .ok (.iload 5, 2) := by decide +kernel
theorem dX0_brought_132 : decode cX0_brought 132 = .ok (.invokevirtual 86, 3) := by decide +kernel
theorem dX0_brought_135 : decode cX0_brought 135 = .ok (.aload_n 0, 1) := by decide +kernel
theorem dX0_brought_136 : decode cX0_brought 136 = .ok (.getfield 38, 3) := by decide +kernel
theorem dX0_brought_139 : decode cX0_brought 139 = .ok (.iload 5, 2) := by decide +kernel
theorem dX0_brought_141 : decode cX0_brought 141 = .ok (.invokevirtual 89, 3) := by decide +kernel
theorem dX0_brought_144 : decode cX0_brought 144 = .ok (.iload_n 2, 1) := by decide +kernel
theorem dX0_brought_145 : decode cX0_brought 145 = .ok (.iload 7, 2) := by decide +kernel
theorem dX0_brought_147 : decode cX0_brought 147 = .ok (.invokestatic 129, 3) := by decide +kernel
theorem dX0_brought_150 : decode cX0_brought 150 = .ok (.areturn, 1) := by decide +kernel
theorem dX1_init_0 : decode cX1_init 0 = .ok (.aload_n 0, 1) := by decide +kernel
theorem dX1_init_1 : decode cX1_init 1 = .ok (.invokespecial 3, 3) := by decide +kernel
theorem dX1_init_4 : decode cX1_init 4 = .ok (.aload_n 0, 1) := by decide +kernel
theorem dX1_init_5 : decode cX1_init 5 = .ok (.bipush 120, 2) := by decide +kernel
theorem dX1_init_7 : decode cX1_init 7 = .ok (.anewarray 9, 3) := by decide +kernel
theorem dX1_init_10 : decode cX1_init 10 = .ok (.putfield 11, 3) := by decide +kernel
theorem dX1_init_13 : decode cX1_init 13 = .ok (.aload_n 0, 1) := by decide +kernel
theorem dX1_init_14 : decode cX1_init 14 = .ok (.sipush 240, 3) := by decide +kernel
theorem dX1_init_17 : decode cX1_init 17 = .ok (.newarray .int, 2) := by decide +kernel
theorem dX1_init_19 : decode cX1_init 19 = .ok (.putfield 17, 3) := by decide +kernel
theorem dX1_init_22 : decode cX1_init 22 = .ok (.aload_n 0, 1) := by decide +kernel
theorem dX1_init_23 : decode cX1_init 23 = .ok (.iconst 0, 1) := by decide +kernel
theorem dX1_init_24 : decode cX1_init 24 = .ok (.putfield 21, 3) := by decide +kernel
theorem dX1_init_27 : decode cX1_init 27 = .ok (.aload_n 0, 1) := by decide +kernel
theorem dX1_init_28 : decode cX1_init 28 = .ok (.iconst 0, 1) := by decide +kernel
theorem dX1_init_29 : decode cX1_init 29 = .ok (.putfield 25, 3) := by decide +kernel
theorem dX1_init_32 : decode cX1_init 32 = .ok (.return_, 1) := by decide +kernel
theorem dX1_clear_0 : decode cX1_clear 0 = .ok (.aload_n 0, 1) := by decide +kernel
theorem dX1_clear_1 : decode cX1_clear 1 = .ok (.iconst 0, 1) := by decide +kernel
theorem dX1_clear_2 : decode cX1_clear 2 = .ok (.putfield 21, 3) := by decide +kernel
theorem dX1_clear_5 : decode cX1_clear 5 = .ok (.aload_n 0, 1) := by decide +kernel
theorem dX1_clear_6 : decode cX1_clear 6 = .ok (.iconst 0, 1) := by decide +kernel
theorem dX1_clear_7 : decode cX1_clear 7 = .ok (.putfield 25, 3) := by decide +kernel
theorem dX1_clear_10 : decode cX1_clear 10 = .ok (.return_, 1) := by decide +kernel
theorem dX1_add_0 : decode cX1_add 0 = .ok (.aload_n 0, 1) := by decide +kernel
theorem dX1_add_1 : decode cX1_add 1 = .ok (.getfield 21, 3) := by decide +kernel
theorem dX1_add_4 : decode cX1_add 4 = .ok (.ifCond .lt 22, 3) := by decide +kernel
theorem dX1_add_7 : decode cX1_add 7 = .ok (.aload_n 0, 1) := by decide +kernel
theorem dX1_add_8 : decode cX1_add 8 = .ok (.getfield 21, 3) := by decide +kernel
theorem dX1_add_11 : decode cX1_add 11 = .ok (.bipush 120, 2) := by decide +kernel
theorem dX1_add_13 : decode cX1_add 13 = .ok (.if_icmp .ge 13, 3) := by decide +kernel
theorem dX1_add_16 : decode cX1_add 16 = .ok (.aload_n 0, 1) := by decide +kernel
theorem dX1_add_17 : decode cX1_add 17 = .ok (.getfield 11, 3) := by decide +kernel
theorem dX1_add_20 : decode cX1_add 20 = .ok (.aload_n 0, 1) := by decide +kernel
theorem dX1_add_21 : decode cX1_add 21 = .ok (.getfield 21, 3) := by decide +kernel
theorem dX1_add_24 : decode cX1_add 24 = .ok (.aload_n 1, 1) := by decide +kernel
theorem dX1_add_25 : decode cX1_add 25 = .ok (.aastore, 1) := by decide +kernel
theorem dX1_add_26 : decode cX1_add 26 = .ok (.aload_n 0, 1) := by decide +kernel
theorem dX1_add_27 : decode cX1_add 27 = .ok (.dup, 1) := by decide +kernel
theorem dX1_add_28 : decode cX1_add 28 = .ok (.getfield 21, 3) := by decide +kernel
theorem dX1_add_31 : decode cX1_add 31 = .ok (.iconst 1, 1) := by decide +kernel
theorem dX1_add_32 : decode cX1_add 32 = .ok (.iadd, 1) := by decide +kernel
theorem dX1_add_33 : decode cX1_add 33 = .ok (.putfield 21, 3) := by decide +kernel
theorem dX1_add_36 : decode cX1_add 36 = .ok (.return_, 1) := by decide +kernel
theorem dX1_addAll_0 : decode cX1_addAll 0 = .ok (.iconst 0, 1) := by decide +kernel
theorem dX1_addAll_1 : decode cX1_addAll 1 = .ok (.istore_n 2, 1) := by decide +kernel
theorem dX1_addAll_2 : decode cX1_addAll 2 = .ok (.iload_n 2, 1) := by decide +kernel
theorem dX1_addAll_3 : decode cX1_addAll 3 = .ok (.aload_n 1, 1) := by decide +kernel
theorem dX1_addAll_4 : decode cX1_addAll 4 = .ok (.invokevirtual 28, 3) := by decide +kernel
theorem dX1_addAll_7 : decode cX1_addAll 7 = .ok (.if_icmp .ge 18, 3) := by decide +kernel
theorem dX1_addAll_10 : decode cX1_addAll 10 = .ok (.aload_n 0, 1) := by decide +kernel
theorem dX1_addAll_11 : decode cX1_addAll 11 = .ok (.aload_n 1, 1) := by decide +kernel
theorem dX1_addAll_12 : decode cX1_addAll 12 = .ok (.iload_n 2, 1) := by decide +kernel
theorem dX1_addAll_13 : decode cX1_addAll 13 = .ok (.invokevirtual 33, 3) := by decide +kernel
theorem dX1_addAll_16 : decode cX1_addAll 16 = .ok (.invokevirtual 37, 3) := by decide +kernel
theorem dX1_addAll_19 : decode cX1_addAll 19 = .ok (.iinc 2 1, 3) := by decide +kernel
theorem dX1_addAll_22 : decode cX1_addAll 22 = .ok (.goto (-20), 3) := by decide +kernel
theorem dX1_addAll_25 : decode cX1_addAll 25 = .ok (.return_, 1) := by decide +kernel
theorem dX1_addSqueezed_0 : decode cX1_addSqueezed 0 = .ok (.aload_n 0, 1) := by decide +kernel
theorem dX1_addSqueezed_1 : decode cX1_addSqueezed 1 = .ok (.aload_n 0, 1) := by decide +kernel
theorem dX1_addSqueezed_2 : decode cX1_addSqueezed 2 = .ok (.getfield 21, 3) := by decide +kernel
theorem dX1_addSqueezed_5 : decode cX1_addSqueezed 5 = .ok (.iconst 1, 1) := by decide +kernel
theorem dX1_addSqueezed_6 : decode cX1_addSqueezed 6 = .ok (.isub, 1) := by decide +kernel
theorem dX1_addSqueezed_7 : decode cX1_addSqueezed 7 = .ok (.invokevirtual 41, 3) := by decide +kernel
theorem dX1_addSqueezed_10 : decode cX1_addSqueezed 10 = .ok (.astore_n 2, 1) := by decide +kernel
theorem dX1_addSqueezed_11 : decode cX1_addSqueezed 11 = .ok (.aload_n 1, 1) := by decide +kernel
theorem dX1_addSqueezed_12 : decode cX1_addSqueezed 12 = .ok (.ifnonnull 4, 3) := by decide +kernel
theorem dX1_addSqueezed_15 : decode cX1_addSqueezed 15 = .ok (.return_, 1) := by decide +kernel
theorem dX1_addSqueezed_16 : decode cX1_addSqueezed 16 = .ok (.aload_n 2, 1) := by decide +kernel
theorem dX1_addSqueezed_17 : decode cX1_addSqueezed 17 = .ok (.ifnull 39, 3) := by decide +kernel
theorem dX1_addSqueezed_20 : decode cX1_addSqueezed 20 = .ok (.aload_n 2, 1) := by decide +kernel
theorem dX1_addSqueezed_21 : decode cX1_addSqueezed 21 = .ok (.aload_n 1, 1) := by decide +kernel
theorem dX1_addSqueezed_22 : decode cX1_addSqueezed 22 = .ok (.invokevirtual 42, 3) := by decide +kernel
theorem dX1_addSqueezed_25 : decode cX1_addSqueezed 25 = .ok (.ifCond .eq 31, 3) := by decide +kernel
theorem dX1_addSqueezed_28 : decode cX1_addSqueezed 28 = .ok (.aload_n 0, 1) := by decide +kernel
theorem dX1_addSqueezed_29 : decode cX1_addSqueezed 29 = .ok (.dup, 1) := by decide +kernel
theorem dX1_addSqueezed_30 : decode cX1_addSqueezed 30 = .ok (.getfield 21, 3) := by decide +kernel
theorem dX1_addSqueezed_33 : decode cX1_addSqueezed 33 = .ok (.iconst 1, 1) := by decide +kernel
theorem dX1_addSqueezed_34 : decode cX1_addSqueezed 34 = .ok (.isub, 1) := by decide +kernel
theorem dX1_addSqueezed_35 : decode cX1_addSqueezed 35 = .ok (.putfield 21, 3) := by decide +kernel
theorem dX1_addSqueezed_38 : decode cX1_addSqueezed 38 = .ok (.aload_n 2, 1) := by decide +kernel
theorem dX1_addSqueezed_39 : decode cX1_addSqueezed 39 = .ok (.aload_n 1, 1) := by decide +kernel
theorem dX1_addSqueezed_40 : decode cX1_addSqueezed 40 = .ok (.invokevirtual 46, 3) := by decide +kernel
theorem dX1_addSqueezed_43 : decode cX1_addSqueezed 43 = .ok (.astore_n 3, 1) := by decide +kernel
theorem dX1_addSqueezed_44 : decode cX1_addSqueezed 44 = .ok (.aload_n 3, 1) := by decide +kernel
theorem dX1_addSqueezed_45 : decode cX1_addSqueezed 45 = .ok (.ifnull 8, 3) := by decide +kernel
theorem dX1_addSqueezed_48 : decode cX1_addSqueezed 48 = .ok (.aload_n 0, 1) := by decide +kernel
theorem dX1_addSqueezed_49 : decode cX1_addSqueezed 49 = .ok (.aload_n 3, 1) := by decide +kernel
theorem dX1_addSqueezed_50 : decode cX1_addSqueezed 50 = .ok (.invokevirtual 37, 3) := by decide +kernel
theorem dX1_addSqueezed_53 : decode cX1_addSqueezed 53 = .ok (.goto 36, 3) := by decide +kernel
theorem dX1_addSqueezed_56 : decode cX1_addSqueezed 56 = .ok (.aload_n 2, 1) := by decide +kernel
theorem dX1_addSqueezed_57 : decode cX1_addSqueezed 57 = .ok (.ifnull 27, 3) := by decide +kernel
theorem dX1_addSqueezed_60 : decode cX1_addSqueezed 60 = .ok (.aload_n 1, 1) := by decide +kernel
theorem dX1_addSqueezed_61 : decode cX1_addSqueezed 61 = .ok (.aload_n 2, 1) := by decide +kernel
theorem dX1_addSqueezed_62 : decode cX1_addSqueezed 62 = .ok (.invokevirtual 50, 3) := by decide +kernel
theorem dX1_addSqueezed_65 : decode cX1_addSqueezed 65 = .ok (.invokevirtual 54, 3) := by decide +kernel
theorem dX1_addSqueezed_68 : decode cX1_addSqueezed 68 = .ok (.ifCond .eq 16, 3) := by decide +kernel
theorem dX1_addSqueezed_71 : decode cX1_addSqueezed 71 = .ok (.aload_n 0, 1) := by decide +kernel
theorem dX1_addSqueezed_72 : decode cX1_addSqueezed 72 = .ok (.dup, 1) := by decide +kernel
theorem dX1_addSqueezed_73 : decode cX1_addSqueezed 73 = .ok (.getfield 21, 3) := by decide +kernel
theorem dX1_addSqueezed_76 : decode cX1_addSqueezed 76 = .ok (.iconst 1, 1) := by decide +kernel
theorem dX1_addSqueezed_77 : decode cX1_addSqueezed 77 = .ok (.isub, 1) := by decide +kernel
theorem dX1_addSqueezed_78 : decode cX1_addSqueezed 78 = .ok (.putfield 21, 3) := by decide +kernel
theorem dX1_addSqueezed_81 : decode cX1_addSqueezed 81 = .ok (.goto 8, 3) := by decide +kernel
theorem dX1_addSqueezed_84 : decode cX1_addSqueezed 84 = .ok (.aload_n 0, 1) := by decide +kernel
theorem dX1_addSqueezed_85 : decode cX1_addSqueezed 85 = .ok (.aload_n 1, 1) := by decide +kernel
theorem dX1_addSqueezed_86 : decode cX1_addSqueezed 86 = .ok (.invokevirtual 37, 3) := by decide +kernel
theorem dX1_addSqueezed_89 : decode cX1_addSqueezed 89 = .ok (.return_, 1) := by decide +kernel
theorem dX1_addRebased_0 : decode cX1_addRebased 0 = .ok (.aload_n 1, 1) := by decide +kernel
theorem dX1_addRebased_1 : decode cX1_addRebased 1 = .ok (.aload_n 3, 1) := by decide +kernel
theorem dX1_addRebased_2 : decode cX1_addRebased 2 = .ok (.invokevirtual 57, 3) := by decide +kernel
theorem dX1_addRebased_5 : decode cX1_addRebased 5 = .ok (.istore 4, 2) := by decide +kernel
theorem dX1_addRebased_7 : decode cX1_addRebased 7 = .ok (.iload 4, 2) := by decide +kernel
theorem dX1_addRebased_9 : decode cX1_addRebased 9 = .ok (.ifCond .ne 25, 3) := by decide +kernel
theorem dX1_addRebased_12 : decode cX1_addRebased 12 = .ok (.aload_n 1, 1) := by decide +kernel
theorem dX1_addRebased_13 : decode cX1_addRebased 13 = .ok (.aload_n 3, 1) := by decide +kernel
theorem dX1_addRebased_14 : decode cX1_addRebased 14 = .ok (.invokevirtual 61, 3) := by decide +kernel
theorem dX1_addRebased_17 : decode cX1_addRebased 17 = .ok (.astore 5, 2) := by decide +kernel
theorem dX1_addRebased_19 : decode cX1_addRebased 19 = .ok (.aload 5, 2) := by decide +kernel
theorem dX1_addRebased_21 : decode cX1_addRebased 21 = .ok (.aload_n 3, 1) := by decide +kernel
theorem dX1_addRebased_22 : decode cX1_addRebased 22 = .ok (.invokevirtual 65, 3) := by decide +kernel
theorem dX1_addRebased_25 : decode cX1_addRebased 25 = .ok (.aload_n 0, 1) := by decide +kernel
theorem dX1_addRebased_26 : decode cX1_addRebased 26 = .ok (.aload 5, 2) := by decide +kernel
theorem dX1_addRebased_28 : decode cX1_addRebased 28 = .ok (.invokevirtual 37, 3) := by decide +kernel
theorem dX1_addRebased_31 : decode cX1_addRebased 31 = .ok (.goto 55, 3) := by decide +kernel
theorem dX1_addRebased_34 : decode cX1_addRebased 34 = .ok (.iload 4, 2) := by decide +kernel
theorem dX1_addRebased_36 : decode cX1_addRebased 36 = .ok (.iconst (-1), 1) := by decide +kernel
theorem dX1_addRebased_37 : decode cX1_addRebased 37 = .ok (.if_icmp .eq 49, 3) := by decide +kernel
theorem dX1_addRebased_40 : decode cX1_addRebased 40 = .ok (.aload_n 0, 1) := by decide +kernel
theorem dX1_addRebased_41 : decode cX1_addRebased 41 = .ok (.getfield 25, 3) := by decide +kernel
theorem dX1_addRebased_44 : decode cX1_addRebased 44 = .ok (.bipush 120, 2) := by decide +kernel
theorem dX1_addRebased_46 : decode cX1_addRebased 46 = .ok (.if_icmp .ge 40, 3) := by decide +kernel
theorem dX1_addRebased_49 : decode cX1_addRebased 49 = .ok (.aload_n 0, 1) := by decide +kernel
theorem dX1_addRebased_50 : decode cX1_addRebased 50 = .ok (.getfield 17, 3) := by decide +kernel
theorem dX1_addRebased_53 : decode cX1_addRebased 53 = .ok (.iconst 2, 1) := by decide +kernel
theorem dX1_addRebased_54 : decode cX1_addRebased 54 = .ok (.aload_n 0, 1) := by decide +kernel
theorem dX1_addRebased_55 : decode cX1_addRebased 55 = .ok (.getfield 25, 3) := by decide +kernel
theorem dX1_addRebased_58 : decode cX1_addRebased 58 = .ok (.imul, 1) := by decide +kernel
theorem dX1_addRebased_59 : decode cX1_addRebased 59 = .ok (.iload_n 2, 1) := by decide +kernel
theorem dX1_addRebased_60 : decode cX1_addRebased 60 = .ok (.iastore, 1) := by decide +kernel
theorem dX1_addRebased_61 : decode cX1_addRebased 61 = .ok (.aload_n 0, 1) := by decide +kernel
theorem dX1_addRebased_62 : decode cX1_addRebased 62 = .ok (.getfield 17, 3) := by decide +kernel
theorem dX1_addRebased_65 : decode cX1_addRebased 65 = .ok (.iconst 2, 1) := by decide +kernel
theorem dX1_addRebased_66 : decode cX1_addRebased 66 = .ok (.aload_n 0, 1) := by decide +kernel
theorem dX1_addRebased_67 : decode cX1_addRebased 67 = .ok (.getfield 25, 3) := by decide +kernel
theorem dX1_addRebased_70 : decode cX1_addRebased 70 = .ok (.imul, 1) := by decide +kernel
theorem dX1_addRebased_71 : decode cX1_addRebased 71 = .ok (.iconst 1, 1) := by decide +kernel
theorem dX1_addRebased_72 : decode cX1_addRebased 72 = .ok (.iadd, 1) := by decide +kernel
theorem dX1_addRebased_73 : decode cX1_addRebased 73 = .ok (.iload 4, 2) := by decide +kernel
theorem dX1_addRebased_75 : decode cX1_addRebased 75 = .ok (.iastore, 1) := by decide +kernel
theorem dX1_addRebased_76 : decode cX1_addRebased 76 = .ok (.aload_n 0, 1) := by decide +kernel
theorem dX1_addRebased_77 : decode cX1_addRebased 77 = .ok (.dup, 1) := by decide +kernel
theorem dX1_addRebased_78 : decode cX1_addRebased 78 = .ok (.getfield 25, 3) := by decide +kernel
theorem dX1_addRebased_81 : decode cX1_addRebased 81 = .ok (.iconst 1, 1) := by decide +kernel
theorem dX1_addRebased_82 : decode cX1_addRebased 82 = .ok (.iadd, 1) := by decide +kernel
theorem dX1_addRebased_83 : decode cX1_addRebased 83 = .ok (.putfield 25, 3) := by decide +kernel
theorem dX1_addRebased_86 : decode cX1_addRebased 86 = .ok (.return_, 1) := by decide +kernel
theorem dX1_editAt_0 : decode cX1_editAt 0 = .ok (.iload_n 1, 1) := by decide +kernel
theorem dX1_editAt_1 : decode cX1_editAt 1 = .ok (.ifCond .lt 26, 3) := by decide +kernel
theorem dX1_editAt_4 : decode cX1_editAt 4 = .ok (.iload_n 1, 1) := by decide +kernel
theorem dX1_editAt_5 : decode cX1_editAt 5 = .ok (.aload_n 0, 1) := by decide +kernel
theorem dX1_editAt_6 : decode cX1_editAt 6 = .ok (.getfield 21, 3) := by decide +kernel
theorem dX1_editAt_9 : decode cX1_editAt 9 = .ok (.if_icmp .ge 18, 3) := by decide +kernel
theorem dX1_editAt_12 : decode cX1_editAt 12 = .ok (.iload_n 1, 1) := by decide +kernel
theorem dX1_editAt_13 : decode cX1_editAt 13 = .ok (.bipush 120, 2) := by decide +kernel
theorem dX1_editAt_15 : decode cX1_editAt 15 = .ok (.if_icmp .ge 12, 3) := by decide +kernel
theorem dX1_editAt_18 : decode cX1_editAt 18 = .ok (.aload_n 0, 1) := by decide +kernel
theorem dX1_editAt_19 : decode cX1_editAt 19 = .ok (.getfield 11, 3) := by decide +kernel
theorem dX1_editAt_22 : decode cX1_editAt 22 = .ok (.iload_n 1, 1) := by decide +kernel
theorem dX1_editAt_23 : decode cX1_editAt 23 = .ok (.aaload, 1) := by decide +kernel
theorem dX1_editAt_24 : decode cX1_editAt 24 = .ok (.goto 4, 3) := by decide +kernel
theorem dX1_editAt_27 : decode cX1_editAt 27 = .ok (.aconst_null, 1) := by decide +kernel
theorem dX1_editAt_28 : decode cX1_editAt 28 = .ok (.areturn, 1) := by decide +kernel
theorem dX1_countOf_0 : decode cX1_countOf 0 = .ok (.iconst 0, 1) := by decide +kernel
theorem dX1_countOf_1 : decode cX1_countOf 1 = .ok (.istore_n 2, 1) := by decide +kernel
theorem dX1_countOf_2 : decode cX1_countOf 2 = .ok (.iconst 0, 1) := by decide +kernel
theorem dX1_countOf_3 : decode cX1_countOf 3 = .ok (.istore_n 3, 1) := by decide +kernel
theorem dX1_countOf_4 : decode cX1_countOf 4 = .ok (.iload_n 3, 1) := by decide +kernel
theorem dX1_countOf_5 : decode cX1_countOf 5 = .ok (.aload_n 0, 1) := by decide +kernel
theorem dX1_countOf_6 : decode cX1_countOf 6 = .ok (.getfield 21, 3) := by decide +kernel
theorem dX1_countOf_9 : decode cX1_countOf 9 = .ok (.if_icmp .ge 33, 3) := by decide +kernel
theorem dX1_countOf_12 : decode cX1_countOf 12 = .ok (.aload_n 0, 1) := by decide +kernel
theorem dX1_countOf_13 : decode cX1_countOf 13 = .ok (.iload_n 3, 1) := by decide +kernel
theorem dX1_countOf_14 : decode cX1_countOf 14 = .ok (.invokevirtual 41, 3) := by decide +kernel
theorem dX1_countOf_17 : decode cX1_countOf 17 = .ok (.astore 4, 2) := by decide +kernel
theorem dX1_countOf_19 : decode cX1_countOf 19 = .ok (.aload 4, 2) := by decide +kernel
theorem dX1_countOf_21 : decode cX1_countOf 21 = .ok (.ifnull 15, 3) := by decide +kernel
theorem dX1_countOf_24 : decode cX1_countOf 24 = .ok (.aload 4, 2) := by decide +kernel
theorem dX1_countOf_26 : decode cX1_countOf 26 = .ok (.getfield 69, 3) := by decide +kernel
theorem dX1_countOf_29 : decode cX1_countOf 29 = .ok (.iload_n 1, 1) := by decide +kernel
theorem dX1_countOf_30 : decode cX1_countOf 30 = .ok (.if_icmp .ne 6, 3) := by decide +kernel
theorem dX1_countOf_33 : decode cX1_countOf 33 = .ok (.iinc 2 1, 3) := by decide +kernel
theorem dX1_countOf_36 : decode cX1_countOf 36 = .ok (.iinc 3 1, 3) := by decide +kernel
theorem dX1_countOf_39 : decode cX1_countOf 39 = .ok (.goto (-35), 3) := by decide +kernel
theorem dX1_countOf_42 : decode cX1_countOf 42 = .ok (.iload_n 2, 1) := by decide +kernel
theorem dX1_countOf_43 : decode cX1_countOf 43 = .ok (.ireturn, 1) := by decide +kernel
theorem dX1_takeEdits_0 : decode cX1_takeEdits 0 = .ok (.iconst 0, 1) := by decide +kernel
theorem dX1_takeEdits_1 : decode cX1_takeEdits 1 = .ok (.aload_n 0, 1) := by decide +kernel
theorem dX1_takeEdits_2 : decode cX1_takeEdits 2 = .ok (.getfield 21, 3) := by decide +kernel
theorem dX1_takeEdits_5 : decode cX1_takeEdits 5 = .ok (.bipush 120, 2) := by decide +kernel
theorem dX1_takeEdits_7 : decode cX1_takeEdits 7 = .ok (.invokestatic 72, 3) := by decide +kernel
theorem dX1_takeEdits_10 : decode cX1_takeEdits 10 = .ok (.invokestatic 78, 3) := by decide +kernel
theorem dX1_takeEdits_13 : decode cX1_takeEdits 13 = .ok (.istore_n 1, 1) := by decide +kernel
theorem dX1_takeEdits_14 : decode cX1_takeEdits 14 = .ok (.iload_n 1, 1) := by decide +kernel
theorem dX1_takeEdits_15 : decode cX1_takeEdits 15 = .ok (.anewarray 9, 3) := by decide +kernel
theorem dX1_takeEdits_18 : decode cX1_takeEdits 18 = .ok (.astore_n 2, 1) := by decide +kernel
theorem dX1_takeEdits_19 : decode cX1_takeEdits 19 = .ok (.iconst 0, 1) := by decide +kernel
theorem dX1_takeEdits_20 : decode cX1_takeEdits 20 = .ok (.istore_n 3, 1) := by decide +kernel
theorem dX1_takeEdits_21 : decode cX1_takeEdits 21 = .ok (.iload_n 3, 1) := by decide +kernel
theorem dX1_takeEdits_22 : decode cX1_takeEdits 22 = .ok (.iload_n 1, 1) := by decide +kernel
theorem dX1_takeEdits_23 : decode cX1_takeEdits 23 = .ok (.if_icmp .ge 18, 3) := by decide +kernel
theorem dX1_takeEdits_26 : decode cX1_takeEdits 26 = .ok (.aload_n 2, 1) := by decide +kernel
theorem dX1_takeEdits_27 : decode cX1_takeEdits 27 = .ok (.iload_n 3, 1) := by decide +kernel
theorem dX1_takeEdits_28 : decode cX1_takeEdits 28 = .ok (.aload_n 0, 1) := by decide +kernel
theorem dX1_takeEdits_29 : decode cX1_takeEdits 29 = .ok (.getfield 11, 3) := by decide +kernel
theorem dX1_takeEdits_32 : decode cX1_takeEdits 32 = .ok (.iload_n 3, 1) := by decide +kernel
theorem dX1_takeEdits_33 : decode cX1_takeEdits 33 = .ok (.aaload, 1) := by decide +kernel
theorem dX1_takeEdits_34 : decode cX1_takeEdits 34 = .ok (.aastore, 1) := by decide +kernel
theorem dX1_takeEdits_35 : decode cX1_takeEdits 35 = .ok (.iinc 3 1, 3) := by decide +kernel
theorem dX1_takeEdits_38 : decode cX1_takeEdits 38 = .ok (.goto (-17), 3) := by decide +kernel
theorem dX1_takeEdits_41 : decode cX1_takeEdits 41 = .ok (.aload_n 2, 1) := by decide +kernel
theorem dX1_takeEdits_42 : decode cX1_takeEdits 42 = .ok (.areturn, 1) := by decide +kernel
theorem dX1_takeConflicts_0 : decode cX1_takeConflicts 0 = .ok (.iconst 2, 1) := by decide +kernel
theorem dX1_takeConflicts_1 : decode cX1_takeConflicts 1 = .ok (.iconst 0, 1) := by decide +kernel
theorem dX1_takeConflicts_2 : decode cX1_takeConflicts 2 = .ok (.aload_n 0, 1) := by decide +kernel
theorem dX1_takeConflicts_3 : decode cX1_takeConflicts 3 = .ok (.getfield 25, 3) := by decide +kernel
theorem dX1_takeConflicts_6 : decode cX1_takeConflicts 6 = .ok (.bipush 120, 2) := by decide +kernel
theorem dX1_takeConflicts_8 : decode cX1_takeConflicts 8 = .ok (.invokestatic 72, 3) := by decide +kernel
theorem dX1_takeConflicts_11 : decode cX1_takeConflicts 11 = .ok (.invokestatic 78, 3) := by decide +kernel
theorem dX1_takeConflicts_14 : decode cX1_takeConflicts 14 = .ok (.imul, 1) := by decide +kernel
theorem dX1_takeConflicts_15 : decode cX1_takeConflicts 15 = .ok (.istore_n 1, 1) := by decide +kernel
theorem dX1_takeConflicts_16 : decode cX1_takeConflicts 16 = .ok (.iload_n 1, 1) := by decide +kernel
theorem dX1_takeConflicts_17 : decode cX1_takeConflicts 17 = .ok (.newarray .int, 2) := by decide +kernel
theorem dX1_takeConflicts_19 : decode cX1_takeConflicts 19 = .ok (.astore_n 2, 1) := by decide +kernel
theorem dX1_takeConflicts_20 : decode cX1_takeConflicts 20 = .ok (.aload_n 0, 1) := by decide +kernel
theorem dX1_takeConflicts_21 : decode cX1_takeConflicts 21 = .ok (.getfield 17, 3) := by decide +kernel
theorem dX1_takeConflicts_24 : decode cX1_takeConflicts 24 = .ok (.iconst 0, 1) := by decide +kernel
theorem dX1_takeConflicts_25 : decode cX1_takeConflicts 25 = .ok (.aload_n 2, 1) := by decide +kernel
theorem dX1_takeConflicts_26 : decode cX1_takeConflicts 26 = .ok (.iconst 0, 1) := by decide +kernel
theorem dX1_takeConflicts_27 : decode cX1_takeConflicts 27 = .ok (.iload_n 1, 1) := by decide +kernel
theorem dX1_takeConflicts_28 : decode cX1_takeConflicts 28 = .ok (.invokestatic 81, 3) := by decide +kernel
theorem dX1_takeConflicts_31 : decode cX1_takeConflicts 31 = .ok (.aload_n 2, 1) := by decide +kernel
theorem dX1_takeConflicts_32 : decode cX1_takeConflicts 32 = .ok (.areturn, 1) := by decide +kernel
theorem dX2_init_0 : decode cX2_init 0 = .ok (.aload_n 0, 1) := by decide +kernel
theorem dX2_init_1 : decode cX2_init 1 = .ok (.invokespecial 3, 3) := by decide +kernel
theorem dX2_init_4 : decode cX2_init 4 = .ok (.aload_n 0, 1) := by decide +kernel
theorem dX2_init_5 : decode cX2_init 5 = .ok (.iload_n 1, 1) := by decide +kernel
theorem dX2_init_6 : decode cX2_init 6 = .ok (.putfield 9, 3) := by decide +kernel
theorem dX2_init_9 : decode cX2_init 9 = .ok (.aload_n 0, 1) := by decide +kernel
theorem dX2_init_10 : decode cX2_init 10 = .ok (.iload_n 2, 1) := by decide +kernel
theorem dX2_init_11 : decode cX2_init 11 = .ok (.putfield 15, 3) := by decide +kernel
theorem dX2_init_14 : decode cX2_init 14 = .ok (.aload_n 0, 1) := by decide +kernel
theorem dX2_init_15 : decode cX2_init 15 = .ok (.iload_n 3, 1) := by decide +kernel
theorem dX2_init_16 : decode cX2_init 16 = .ok (.putfield 18, 3) := by decide +kernel
theorem dX2_init_19 : decode cX2_init 19 = .ok (.aload_n 0, 1) := by decide +kernel
theorem dX2_init_20 : decode cX2_init 20 = .ok (.iload 4, 2) := by decide +kernel
theorem dX2_init_22 : decode cX2_init 22 = .ok (.putfield 21, 3) := by decide +kernel
theorem dX2_init_25 : decode cX2_init 25 = .ok (.aload_n 0, 1) := by decide +kernel
theorem dX2_init_26 : decode cX2_init 26 = .ok (.iload 5, 2) := by decide +kernel
theorem dX2_init_28 : decode cX2_init 28 = .ok (.putfield 24, 3) := by decide +kernel
theorem dX2_init_31 : decode cX2_init 31 = .ok (.aload_n 0, 1) := by decide +kernel
theorem dX2_init_32 : decode cX2_init 32 = .ok (.iload 6, 2) := by decide +kernel
theorem dX2_init_34 : decode cX2_init 34 = .ok (.putfield 27, 3) := by decide +kernel
theorem dX2_init_37 : decode cX2_init 37 = .ok (.aload_n 0, 1) := by decide +kernel
theorem dX2_init_38 : decode cX2_init 38 = .ok (.iload 7, 2) := by decide +kernel
theorem dX2_init_40 : decode cX2_init 40 = .ok (.putfield 30, 3) := by decide +kernel
theorem dX2_init_43 : decode cX2_init 43 = .ok (.return_, 1) := by decide +kernel
theorem dX2_name_0 : decode cX2_name 0 = .ok (.new 10, 3) := by decide +kernel
theorem dX2_name_3 : decode cX2_name 3 = .ok (.dup, 1) := by decide +kernel
theorem dX2_name_4 : decode cX2_name 4 = .ok (.iconst 0, 1) := by decide +kernel
theorem dX2_name_5 : decode cX2_name 5 = .ok (.iload_n 0, 1) := by decide +kernel
theorem dX2_name_6 : decode cX2_name 6 = .ok (.iload_n 1, 1) := by decide +kernel
theorem dX2_name_7 : decode cX2_name 7 = .ok (.iload_n 2, 1) := by decide +kernel
theorem dX2_name_8 : decode cX2_name 8 = .ok (.iconst 0, 1) := by decide +kernel
theorem dX2_name_9 : decode cX2_name 9 = .ok (.iconst 0, 1) := by decide +kernel
theorem dX2_name_10 : decode cX2_name 10 = .ok (.iconst 0, 1) := by decide +kernel
theorem dX2_name_11 : decode cX2_name 11 = .ok (.invokespecial 33, 3) := by decide +kernel
theorem dX2_name_14 : decode cX2_name 14 = .ok (.areturn, 1) := by decide +kernel
theorem dX2_take_0 : decode cX2_take 0 = .ok (.new 10, 3) := by decide +kernel
theorem dX2_take_3 : decode cX2_take 3 = .ok (.dup, 1) := by decide +kernel
theorem dX2_take_4 : decode cX2_take 4 = .ok (.iconst 1, 1) := by decide +kernel
theorem dX2_take_5 : decode cX2_take 5 = .ok (.iload_n 0, 1) := by decide +kernel
theorem dX2_take_6 : decode cX2_take 6 = .ok (.iload_n 1, 1) := by decide +kernel
theorem dX2_take_7 : decode cX2_take 7 = .ok (.iload_n 2, 1) := by decide +kernel
theorem dX2_take_8 : decode cX2_take 8 = .ok (.iload_n 3, 1) := by decide +kernel
theorem dX2_take_9 : decode cX2_take 9 = .ok (.iconst 0, 1) := by decide +kernel
theorem dX2_take_10 : decode cX2_take 10 = .ok (.iconst 0, 1) := by decide +kernel
theorem dX2_take_11 : decode cX2_take 11 = .ok (.invokespecial 33, 3) := by decide +kernel
theorem dX2_take_14 : decode cX2_take 14 = .ok (.areturn, 1) := by decide +kernel
theorem dX2_give_0 : decode cX2_give 0 = .ok (.new 10, 3) := by decide +kernel
theorem dX2_give_3 : decode cX2_give 3 = .ok (.dup, 1) := by decide +kernel
theorem dX2_give_4 : decode cX2_give 4 = .ok (.iconst 2, 1) := by decide +kernel
theorem dX2_give_5 : decode cX2_give 5 = .ok (.iload_n 0, 1) := by decide +kernel
theorem dX2_give_6 : decode cX2_give 6 = .ok (.iload_n 1, 1) := by decide +kernel
theorem dX2_give_7 : decode cX2_give 7 = .ok (.iload_n 2, 1) := by decide +kernel
theorem dX2_give_8 : decode cX2_give 8 = .ok (.iload_n 3, 1) := by decide +kernel
theorem dX2_give_9 : decode cX2_give 9 = .ok (.iconst 0, 1) := by decide +kernel
theorem dX2_give_10 : decode cX2_give 10 = .ok (.iconst 0, 1) := by decide +kernel
theorem dX2_give_11 : decode cX2_give 11 = .ok (.invokespecial 33, 3) := by decide +kernel
theorem dX2_give_14 : decode cX2_give 14 = .ok (.areturn, 1) := by decide +kernel
theorem dX2_move_0 : decode cX2_move 0 = .ok (.new 10, 3) := by decide +kernel
theorem dX2_move_3 : decode cX2_move 3 = .ok (.dup, 1) := by decide +kernel
theorem dX2_move_4 : decode cX2_move 4 = .ok (.iconst 3, 1) := by decide +kernel
theorem dX2_move_5 : decode cX2_move 5 = .ok (.iload_n 0, 1) := by decide +kernel
theorem dX2_move_6 : decode cX2_move 6 = .ok (.iconst 0, 1) := by decide +kernel
theorem dX2_move_7 : decode cX2_move 7 = .ok (.iload_n 1, 1) := by decide +kernel
theorem dX2_move_8 : decode cX2_move 8 = .ok (.iload_n 2, 1) := by decide +kernel
theorem dX2_move_9 : decode cX2_move 9 = .ok (.iload_n 3, 1) := by decide +kernel
theorem dX2_move_10 : decode cX2_move 10 = .ok (.iload 4, 2) := by decide +kernel
theorem dX2_move_12 : decode cX2_move 12 = .ok (.invokespecial 33, 3) := by decide +kernel
theorem dX2_move_15 : decode cX2_move 15 = .ok (.areturn, 1) := by decide +kernel
theorem dX2_told_0 : decode cX2_told 0 = .ok (.iload_n 1, 1) := by decide +kernel
theorem dX2_told_1 : decode cX2_told 1 = .ok (.tableswitch 69 0 5 #[39, 44, 49, 54, 59, 64], 39) := by decide +kernel
theorem dX2_told_40 : decode cX2_told 40 = .ok (.aload_n 0, 1) := by decide +kernel
theorem dX2_told_41 : decode cX2_told 41 = .ok (.getfield 9, 3) := by decide +kernel
theorem dX2_told_44 : decode cX2_told 44 = .ok (.ireturn, 1) := by decide +kernel
theorem dX2_told_45 : decode cX2_told 45 = .ok (.aload_n 0, 1) := by decide +kernel
theorem dX2_told_46 : decode cX2_told 46 = .ok (.getfield 15, 3) := by decide +kernel
theorem dX2_told_49 : decode cX2_told 49 = .ok (.ireturn, 1) := by decide +kernel
theorem dX2_told_50 : decode cX2_told 50 = .ok (.aload_n 0, 1) := by decide +kernel
theorem dX2_told_51 : decode cX2_told 51 = .ok (.getfield 18, 3) := by decide +kernel
theorem dX2_told_54 : decode cX2_told 54 = .ok (.ireturn, 1) := by decide +kernel
theorem dX2_told_55 : decode cX2_told 55 = .ok (.aload_n 0, 1) := by decide +kernel
theorem dX2_told_56 : decode cX2_told 56 = .ok (.getfield 21, 3) := by decide +kernel
theorem dX2_told_59 : decode cX2_told 59 = .ok (.ireturn, 1) := by decide +kernel
theorem dX2_told_60 : decode cX2_told 60 = .ok (.aload_n 0, 1) := by decide +kernel
theorem dX2_told_61 : decode cX2_told 61 = .ok (.getfield 24, 3) := by decide +kernel
theorem dX2_told_64 : decode cX2_told 64 = .ok (.ireturn, 1) := by decide +kernel
theorem dX2_told_65 : decode cX2_told 65 = .ok (.aload_n 0, 1) := by decide +kernel
theorem dX2_told_66 : decode cX2_told 66 = .ok (.getfield 27, 3) := by decide +kernel
theorem dX2_told_69 : decode cX2_told 69 = .ok (.ireturn, 1) := by decide +kernel
theorem dX2_told_70 : decode cX2_told 70 = .ok (.aload_n 0, 1) := by decide +kernel
theorem dX2_told_71 : decode cX2_told 71 = .ok (.getfield 30, 3) := by decide +kernel
theorem dX2_told_74 : decode cX2_told 74 = .ok (.ireturn, 1) := by decide +kernel
theorem dX2_turned_0 : decode cX2_turned 0 = .ok (.aload_n 0, 1) := by decide +kernel
theorem dX2_turned_1 : decode cX2_turned 1 = .ok (.getfield 9, 3) := by decide +kernel
theorem dX2_turned_4 : decode cX2_turned 4 = .ok (.tableswitch 84 0 2 #[28, 44, 64], 28) := by decide +kernel
theorem dX2_turned_32 : decode cX2_turned 32 = .ok (.aload_n 0, 1) := by decide +kernel
theorem dX2_turned_33 : decode cX2_turned 33 = .ok (.getfield 15, 3) := by decide +kernel
theorem dX2_turned_36 : decode cX2_turned 36 = .ok (.aload_n 0, 1) := by decide +kernel
theorem dX2_turned_37 : decode cX2_turned 37 = .ok (.getfield 21, 3) := by decide +kernel
theorem dX2_turned_40 : decode cX2_turned 40 = .ok (.aload_n 0, 1) := by decide +kernel
theorem dX2_turned_41 : decode cX2_turned 41 = .ok (.getfield 18, 3) := by decide +kernel
theorem dX2_turned_44 : decode cX2_turned 44 = .ok (.invokestatic 36, 3) := by decide +kernel
theorem dX2_turned_47 : decode cX2_turned 47 = .ok (.areturn, 1) := by decide +kernel
theorem dX2_turned_48 : decode cX2_turned 48 = .ok (.aload_n 0, 1) := by decide +kernel
theorem dX2_turned_49 : decode cX2_turned 49 = .ok (.getfield 15, 3) := by decide +kernel
theorem dX2_turned_52 : decode cX2_turned 52 = .ok (.aload_n 0, 1) := by decide +kernel
theorem dX2_turned_53 : decode cX2_turned 53 = .ok (.getfield 18, 3) := by decide +kernel
theorem dX2_turned_56 : decode cX2_turned 56 = .ok (.aload_n 0, 1) := by decide +kernel
theorem dX2_turned_57 : decode cX2_turned 57 = .ok (.getfield 21, 3) := by decide +kernel
theorem dX2_turned_60 : decode cX2_turned 60 = .ok (.aload_n 0, 1) := by decide +kernel
theorem dX2_turned_61 : decode cX2_turned 61 = .ok (.getfield 24, 3) := by decide +kernel
theorem dX2_turned_64 : decode cX2_turned 64 = .ok (.invokestatic 40, 3) := by decide +kernel
theorem dX2_turned_67 : decode cX2_turned 67 = .ok (.areturn, 1) := by decide +kernel
theorem dX2_turned_68 : decode cX2_turned 68 = .ok (.aload_n 0, 1) := by decide +kernel
theorem dX2_turned_69 : decode cX2_turned 69 = .ok (.getfield 15, 3) := by decide +kernel
theorem dX2_turned_72 : decode cX2_turned 72 = .ok (.aload_n 0, 1) := by decide +kernel
theorem dX2_turned_73 : decode cX2_turned 73 = .ok (.getfield 18, 3) := by decide +kernel
theorem dX2_turned_76 : decode cX2_turned 76 = .ok (.aload_n 0, 1) := by decide +kernel
theorem dX2_turned_77 : decode cX2_turned 77 = .ok (.getfield 21, 3) := by decide +kernel
theorem dX2_turned_80 : decode cX2_turned 80 = .ok (.aload_n 0, 1) := by decide +kernel
theorem dX2_turned_81 : decode cX2_turned 81 = .ok (.getfield 24, 3) := by decide +kernel
theorem dX2_turned_84 : decode cX2_turned 84 = .ok (.invokestatic 44, 3) := by decide +kernel
theorem dX2_turned_87 : decode cX2_turned 87 = .ok (.areturn, 1) := by decide +kernel
theorem dX2_turned_88 : decode cX2_turned 88 = .ok (.aload_n 0, 1) := by decide +kernel
theorem dX2_turned_89 : decode cX2_turned 89 = .ok (.getfield 15, 3) := by decide +kernel
theorem dX2_turned_92 : decode cX2_turned 92 = .ok (.aload_n 0, 1) := by decide +kernel
theorem dX2_turned_93 : decode cX2_turned 93 = .ok (.getfield 27, 3) := by decide +kernel
theorem dX2_turned_96 : decode cX2_turned 96 = .ok (.aload_n 0, 1) := by decide +kernel
theorem dX2_turned_97 : decode cX2_turned 97 = .ok (.getfield 30, 3) := by decide +kernel
theorem dX2_turned_100 : decode cX2_turned 100 = .ok (.aload_n 0, 1) := by decide +kernel
theorem dX2_turned_101 : decode cX2_turned 101 = .ok (.getfield 21, 3) := by decide +kernel
theorem dX2_turned_104 : decode cX2_turned 104 = .ok (.aload_n 0, 1) := by decide +kernel
theorem dX2_turned_105 : decode cX2_turned 105 = .ok (.getfield 24, 3) := by decide +kernel
theorem dX2_turned_108 : decode cX2_turned 108 = .ok (.invokestatic 47, 3) := by decide +kernel
theorem dX2_turned_111 : decode cX2_turned 111 = .ok (.areturn, 1) := by decide +kernel
theorem dX2_isLike_0 : decode cX2_isLike 0 = .ok (.aload_n 0, 1) := by decide +kernel
theorem dX2_isLike_1 : decode cX2_isLike 1 = .ok (.getfield 9, 3) := by decide +kernel
theorem dX2_isLike_4 : decode cX2_isLike 4 = .ok (.aload_n 1, 1) := by decide +kernel
theorem dX2_isLike_5 : decode cX2_isLike 5 = .ok (.getfield 9, 3) := by decide +kernel
theorem dX2_isLike_8 : decode cX2_isLike 8 = .ok (.if_icmp .ne 73, 3) := by decide +kernel
theorem dX2_isLike_11 : decode cX2_isLike 11 = .ok (.aload_n 0, 1) := by decide +kernel
theorem dX2_isLike_12 : decode cX2_isLike 12 = .ok (.getfield 15, 3) := by decide +kernel
theorem dX2_isLike_15 : decode cX2_isLike 15 = .ok (.aload_n 1, 1) := by decide +kernel
theorem dX2_isLike_16 : decode cX2_isLike 16 = .ok (.getfield 15, 3) := by decide +kernel
theorem dX2_isLike_19 : decode cX2_isLike 19 = .ok (.if_icmp .ne 62, 3) := by decide +kernel
theorem dX2_isLike_22 : decode cX2_isLike 22 = .ok (.aload_n 0, 1) := by decide +kernel
theorem dX2_isLike_23 : decode cX2_isLike 23 = .ok (.getfield 18, 3) := by decide +kernel
theorem dX2_isLike_26 : decode cX2_isLike 26 = .ok (.aload_n 1, 1) := by decide +kernel
theorem dX2_isLike_27 : decode cX2_isLike 27 = .ok (.getfield 18, 3) := by decide +kernel
theorem dX2_isLike_30 : decode cX2_isLike 30 = .ok (.if_icmp .ne 51, 3) := by decide +kernel
theorem dX2_isLike_33 : decode cX2_isLike 33 = .ok (.aload_n 0, 1) := by decide +kernel
theorem dX2_isLike_34 : decode cX2_isLike 34 = .ok (.getfield 21, 3) := by decide +kernel
theorem dX2_isLike_37 : decode cX2_isLike 37 = .ok (.aload_n 1, 1) := by decide +kernel
theorem dX2_isLike_38 : decode cX2_isLike 38 = .ok (.getfield 21, 3) := by decide +kernel
theorem dX2_isLike_41 : decode cX2_isLike 41 = .ok (.if_icmp .ne 40, 3) := by decide +kernel
theorem dX2_isLike_44 : decode cX2_isLike 44 = .ok (.aload_n 0, 1) := by decide +kernel
theorem dX2_isLike_45 : decode cX2_isLike 45 = .ok (.getfield 24, 3) := by decide +kernel
theorem dX2_isLike_48 : decode cX2_isLike 48 = .ok (.aload_n 1, 1) := by decide +kernel
theorem dX2_isLike_49 : decode cX2_isLike 49 = .ok (.getfield 24, 3) := by decide +kernel
theorem dX2_isLike_52 : decode cX2_isLike 52 = .ok (.if_icmp .ne 29, 3) := by decide +kernel
theorem dX2_isLike_55 : decode cX2_isLike 55 = .ok (.aload_n 0, 1) := by decide +kernel
theorem dX2_isLike_56 : decode cX2_isLike 56 = .ok (.getfield 27, 3) := by decide +kernel
theorem dX2_isLike_59 : decode cX2_isLike 59 = .ok (.aload_n 1, 1) := by decide +kernel
theorem dX2_isLike_60 : decode cX2_isLike 60 = .ok (.getfield 27, 3) := by decide +kernel
theorem dX2_isLike_63 : decode cX2_isLike 63 = .ok (.if_icmp .ne 18, 3) := by decide +kernel
theorem dX2_isLike_66 : decode cX2_isLike 66 = .ok (.aload_n 0, 1) := by decide +kernel
theorem dX2_isLike_67 : decode cX2_isLike 67 = .ok (.getfield 30, 3) := by decide +kernel
theorem dX2_isLike_70 : decode cX2_isLike 70 = .ok (.aload_n 1, 1) := by decide +kernel
theorem dX2_isLike_71 : decode cX2_isLike 71 = .ok (.getfield 30, 3) := by decide +kernel
theorem dX2_isLike_74 : decode cX2_isLike 74 = .ok (.if_icmp .ne 7, 3) := by decide +kernel
theorem dX2_isLike_77 : decode cX2_isLike 77 = .ok (.iconst 1, 1) := by decide +kernel
theorem dX2_isLike_78 : decode cX2_isLike 78 = .ok (.goto 4, 3) := by decide +kernel
theorem dX2_isLike_81 : decode cX2_isLike 81 = .ok (.iconst 0, 1) := by decide +kernel
theorem dX2_isLike_82 : decode cX2_isLike 82 = .ok (.ireturn, 1) := by decide +kernel
theorem dX2_namesAsWell_0 : decode cX2_namesAsWell 0 = .ok (.aload_n 0, 1) := by decide +kernel
theorem dX2_namesAsWell_1 : decode cX2_namesAsWell 1 = .ok (.getfield 9, 3) := by decide +kernel
theorem dX2_namesAsWell_4 : decode cX2_namesAsWell 4 = .ok (.ifCond .ne 25, 3) := by decide +kernel
theorem dX2_namesAsWell_7 : decode cX2_namesAsWell 7 = .ok (.aload_n 1, 1) := by decide +kernel
theorem dX2_namesAsWell_8 : decode cX2_namesAsWell 8 = .ok (.getfield 9, 3) := by decide +kernel
theorem dX2_namesAsWell_11 : decode cX2_namesAsWell 11 = .ok (.ifCond .ne 18, 3) := by decide +kernel
theorem dX2_namesAsWell_14 : decode cX2_namesAsWell 14 = .ok (.aload_n 0, 1) := by decide +kernel
theorem dX2_namesAsWell_15 : decode cX2_namesAsWell 15 = .ok (.getfield 15, 3) := by decide +kernel
theorem dX2_namesAsWell_18 : decode cX2_namesAsWell 18 = .ok (.aload_n 1, 1) := by decide +kernel
theorem dX2_namesAsWell_19 : decode cX2_namesAsWell 19 = .ok (.getfield 15, 3) := by decide +kernel
theorem dX2_namesAsWell_22 : decode cX2_namesAsWell 22 = .ok (.if_icmp .ne 7, 3) := by decide +kernel
theorem dX2_namesAsWell_25 : decode cX2_namesAsWell 25 = .ok (.iconst 1, 1) := by decide +kernel
theorem dX2_namesAsWell_26 : decode cX2_namesAsWell 26 = .ok (.goto 4, 3) := by decide +kernel
theorem dX2_namesAsWell_29 : decode cX2_namesAsWell 29 = .ok (.iconst 0, 1) := by decide +kernel
theorem dX2_namesAsWell_30 : decode cX2_namesAsWell 30 = .ok (.ireturn, 1) := by decide +kernel
theorem dX2_joinedWith_0 : decode cX2_joinedWith 0 = .ok (.aload_n 0, 1) := by decide +kernel
theorem dX2_joinedWith_1 : decode cX2_joinedWith 1 = .ok (.getfield 18, 3) := by decide +kernel
theorem dX2_joinedWith_4 : decode cX2_joinedWith 4 = .ok (.aload_n 1, 1) := by decide +kernel
theorem dX2_joinedWith_5 : decode cX2_joinedWith 5 = .ok (.getfield 21, 3) := by decide +kernel
theorem dX2_joinedWith_8 : decode cX2_joinedWith 8 = .ok (.if_icmp .ne 7, 3) := by decide +kernel
theorem dX2_joinedWith_11 : decode cX2_joinedWith 11 = .ok (.aconst_null, 1) := by decide +kernel
theorem dX2_joinedWith_12 : decode cX2_joinedWith 12 = .ok (.goto 18, 3) := by decide +kernel
theorem dX2_joinedWith_15 : decode cX2_joinedWith 15 = .ok (.aload_n 0, 1) := by decide +kernel
theorem dX2_joinedWith_16 : decode cX2_joinedWith 16 = .ok (.getfield 15, 3) := by decide +kernel
theorem dX2_joinedWith_19 : decode cX2_joinedWith 19 = .ok (.aload_n 0, 1) := by decide +kernel
theorem dX2_joinedWith_20 : decode cX2_joinedWith 20 = .ok (.getfield 18, 3) := by decide +kernel
theorem dX2_joinedWith_23 : decode cX2_joinedWith 23 = .ok (.aload_n 1, 1) := by decide +kernel
theorem dX2_joinedWith_24 : decode cX2_joinedWith 24 = .ok (.getfield 21, 3) := by decide +kernel
theorem dX2_joinedWith_27 : decode cX2_joinedWith 27 = .ok (.invokestatic 36, 3) := by decide +kernel
theorem dX2_joinedWith_30 : decode cX2_joinedWith 30 = .ok (.areturn, 1) := by decide +kernel
theorem dX2_fits_0 : decode cX2_fits 0 = .ok (.aload_n 1, 1) := by decide +kernel
theorem dX2_fits_1 : decode cX2_fits 1 = .ok (.aload_n 0, 1) := by decide +kernel
theorem dX2_fits_2 : decode cX2_fits 2 = .ok (.getfield 15, 3) := by decide +kernel
theorem dX2_fits_5 : decode cX2_fits 5 = .ok (.invokevirtual 51, 3) := by decide +kernel
theorem dX2_fits_8 : decode cX2_fits 8 = .ok (.istore_n 2, 1) := by decide +kernel
theorem dX2_fits_9 : decode cX2_fits 9 = .ok (.aload_n 0, 1) := by decide +kernel
theorem dX2_fits_10 : decode cX2_fits 10 = .ok (.getfield 9, 3) := by decide +kernel
theorem dX2_fits_13 : decode cX2_fits 13 = .ok (.tableswitch 64 0 2 #[27, 50, 57], 27) := by decide +kernel
theorem dX2_fits_40 : decode cX2_fits 40 = .ok (.iload_n 2, 1) := by decide +kernel
theorem dX2_fits_41 : decode cX2_fits 41 = .ok (.iconst (-1), 1) := by decide +kernel
theorem dX2_fits_42 : decode cX2_fits 42 = .ok (.if_icmp .eq 19, 3) := by decide +kernel
theorem dX2_fits_45 : decode cX2_fits 45 = .ok (.aload_n 1, 1) := by decide +kernel
theorem dX2_fits_46 : decode cX2_fits 46 = .ok (.iload_n 2, 1) := by decide +kernel
theorem dX2_fits_47 : decode cX2_fits 47 = .ok (.invokevirtual 57, 3) := by decide +kernel
theorem dX2_fits_50 : decode cX2_fits 50 = .ok (.aload_n 0, 1) := by decide +kernel
theorem dX2_fits_51 : decode cX2_fits 51 = .ok (.getfield 18, 3) := by decide +kernel
theorem dX2_fits_54 : decode cX2_fits 54 = .ok (.if_icmp .ne 7, 3) := by decide +kernel
theorem dX2_fits_57 : decode cX2_fits 57 = .ok (.iconst 1, 1) := by decide +kernel
theorem dX2_fits_58 : decode cX2_fits 58 = .ok (.goto 4, 3) := by decide +kernel
theorem dX2_fits_61 : decode cX2_fits 61 = .ok (.iconst 0, 1) := by decide +kernel
theorem dX2_fits_62 : decode cX2_fits 62 = .ok (.ireturn, 1) := by decide +kernel
theorem dX2_fits_63 : decode cX2_fits 63 = .ok (.aload_n 0, 1) := by decide +kernel
theorem dX2_fits_64 : decode cX2_fits 64 = .ok (.aload_n 1, 1) := by decide +kernel
theorem dX2_fits_65 : decode cX2_fits 65 = .ok (.iload_n 2, 1) := by decide +kernel
theorem dX2_fits_66 : decode cX2_fits 66 = .ok (.invokevirtual 60, 3) := by decide +kernel
theorem dX2_fits_69 : decode cX2_fits 69 = .ok (.ireturn, 1) := by decide +kernel
theorem dX2_fits_70 : decode cX2_fits 70 = .ok (.aload_n 0, 1) := by decide +kernel
theorem dX2_fits_71 : decode cX2_fits 71 = .ok (.aload_n 1, 1) := by decide +kernel
theorem dX2_fits_72 : decode cX2_fits 72 = .ok (.iload_n 2, 1) := by decide +kernel
theorem dX2_fits_73 : decode cX2_fits 73 = .ok (.invokevirtual 64, 3) := by decide +kernel
theorem dX2_fits_76 : decode cX2_fits 76 = .ok (.ireturn, 1) := by decide +kernel
theorem dX2_fits_77 : decode cX2_fits 77 = .ok (.aload_n 0, 1) := by decide +kernel
theorem dX2_fits_78 : decode cX2_fits 78 = .ok (.aload_n 1, 1) := by decide +kernel
theorem dX2_fits_79 : decode cX2_fits 79 = .ok (.iload_n 2, 1) := by decide +kernel
theorem dX2_fits_80 : decode cX2_fits 80 = .ok (.invokevirtual 67, 3) := by decide +kernel
theorem dX2_fits_83 : decode cX2_fits 83 = .ok (.ireturn, 1) := by decide +kernel
theorem dX2_fitsAsTake_0 : decode cX2_fitsAsTake 0 = .ok (.iload_n 2, 1) := by decide +kernel
theorem dX2_fitsAsTake_1 : decode cX2_fitsAsTake 1 = .ok (.iconst (-1), 1) := by decide +kernel
theorem dX2_fitsAsTake_2 : decode cX2_fitsAsTake 2 = .ok (.if_icmp .eq 51, 3) := by decide +kernel
theorem dX2_fitsAsTake_5 : decode cX2_fitsAsTake 5 = .ok (.aload_n 1, 1) := by decide +kernel
theorem dX2_fitsAsTake_6 : decode cX2_fitsAsTake 6 = .ok (.iload_n 2, 1) := by decide +kernel
theorem dX2_fitsAsTake_7 : decode cX2_fitsAsTake 7 = .ok (.invokevirtual 70, 3) := by decide +kernel
theorem dX2_fitsAsTake_10 : decode cX2_fitsAsTake 10 = .ok (.ifCond .ne 43, 3) := by decide +kernel
theorem dX2_fitsAsTake_13 : decode cX2_fitsAsTake 13 = .ok (.aload_n 1, 1) := by decide +kernel
theorem dX2_fitsAsTake_14 : decode cX2_fitsAsTake 14 = .ok (.iload_n 2, 1) := by decide +kernel
theorem dX2_fitsAsTake_15 : decode cX2_fitsAsTake 15 = .ok (.invokevirtual 57, 3) := by decide +kernel
theorem dX2_fitsAsTake_18 : decode cX2_fitsAsTake 18 = .ok (.aload_n 0, 1) := by decide +kernel
theorem dX2_fitsAsTake_19 : decode cX2_fitsAsTake 19 = .ok (.getfield 18, 3) := by decide +kernel
theorem dX2_fitsAsTake_22 : decode cX2_fitsAsTake 22 = .ok (.if_icmp .ne 31, 3) := by decide +kernel
theorem dX2_fitsAsTake_25 : decode cX2_fitsAsTake 25 = .ok (.aload_n 1, 1) := by decide +kernel
theorem dX2_fitsAsTake_26 : decode cX2_fitsAsTake 26 = .ok (.iload_n 2, 1) := by decide +kernel
theorem dX2_fitsAsTake_27 : decode cX2_fitsAsTake 27 = .ok (.invokevirtual 73, 3) := by decide +kernel
theorem dX2_fitsAsTake_30 : decode cX2_fitsAsTake 30 = .ok (.aload_n 0, 1) := by decide +kernel
theorem dX2_fitsAsTake_31 : decode cX2_fitsAsTake 31 = .ok (.getfield 21, 3) := by decide +kernel
theorem dX2_fitsAsTake_34 : decode cX2_fitsAsTake 34 = .ok (.if_icmp .ne 19, 3) := by decide +kernel
theorem dX2_fitsAsTake_37 : decode cX2_fitsAsTake 37 = .ok (.aload_n 1, 1) := by decide +kernel
theorem dX2_fitsAsTake_38 : decode cX2_fitsAsTake 38 = .ok (.iload_n 2, 1) := by decide +kernel
theorem dX2_fitsAsTake_39 : decode cX2_fitsAsTake 39 = .ok (.invokevirtual 76, 3) := by decide +kernel
theorem dX2_fitsAsTake_42 : decode cX2_fitsAsTake 42 = .ok (.aload_n 0, 1) := by decide +kernel
theorem dX2_fitsAsTake_43 : decode cX2_fitsAsTake 43 = .ok (.getfield 24, 3) := by decide +kernel
theorem dX2_fitsAsTake_46 : decode cX2_fitsAsTake 46 = .ok (.if_icmp .ne 7, 3) := by decide +kernel
theorem dX2_fitsAsTake_49 : decode cX2_fitsAsTake 49 = .ok (.iconst 1, 1) := by decide +kernel
theorem dX2_fitsAsTake_50 : decode cX2_fitsAsTake 50 = .ok (.goto 4, 3) := by decide +kernel
theorem dX2_fitsAsTake_53 : decode cX2_fitsAsTake 53 = .ok (.iconst 0, 1) := by decide +kernel
theorem dX2_fitsAsTake_54 : decode cX2_fitsAsTake 54 = .ok (.ireturn, 1) := by decide +kernel
theorem dX2_fitsAsGive_0 : decode cX2_fitsAsGive 0 = .ok (.aload_n 1, 1) := by decide +kernel
theorem dX2_fitsAsGive_1 : decode cX2_fitsAsGive 1 = .ok (.aload_n 0, 1) := by decide +kernel
theorem dX2_fitsAsGive_2 : decode cX2_fitsAsGive 2 = .ok (.getfield 21, 3) := by decide +kernel
theorem dX2_fitsAsGive_5 : decode cX2_fitsAsGive 5 = .ok (.invokevirtual 51, 3) := by decide +kernel
theorem dX2_fitsAsGive_8 : decode cX2_fitsAsGive 8 = .ok (.istore_n 3, 1) := by decide +kernel
theorem dX2_fitsAsGive_9 : decode cX2_fitsAsGive 9 = .ok (.iload_n 2, 1) := by decide +kernel
theorem dX2_fitsAsGive_10 : decode cX2_fitsAsGive 10 = .ok (.iconst (-1), 1) := by decide +kernel
theorem dX2_fitsAsGive_11 : decode cX2_fitsAsGive 11 = .ok (.if_icmp .ne 40, 3) := by decide +kernel
theorem dX2_fitsAsGive_14 : decode cX2_fitsAsGive 14 = .ok (.iload_n 3, 1) := by decide +kernel
theorem dX2_fitsAsGive_15 : decode cX2_fitsAsGive 15 = .ok (.iconst (-1), 1) := by decide +kernel
theorem dX2_fitsAsGive_16 : decode cX2_fitsAsGive 16 = .ok (.if_icmp .eq 35, 3) := by decide +kernel
theorem dX2_fitsAsGive_19 : decode cX2_fitsAsGive 19 = .ok (.aload_n 0, 1) := by decide +kernel
theorem dX2_fitsAsGive_20 : decode cX2_fitsAsGive 20 = .ok (.getfield 24, 3) := by decide +kernel
theorem dX2_fitsAsGive_23 : decode cX2_fitsAsGive 23 = .ok (.ifCond .lt 28, 3) := by decide +kernel
theorem dX2_fitsAsGive_26 : decode cX2_fitsAsGive 26 = .ok (.aload_n 0, 1) := by decide +kernel
theorem dX2_fitsAsGive_27 : decode cX2_fitsAsGive 27 = .ok (.getfield 24, 3) := by decide +kernel
theorem dX2_fitsAsGive_30 : decode cX2_fitsAsGive 30 = .ok (.aload_n 1, 1) := by decide +kernel
theorem dX2_fitsAsGive_31 : decode cX2_fitsAsGive 31 = .ok (.iload_n 3, 1) := by decide +kernel
theorem dX2_fitsAsGive_32 : decode cX2_fitsAsGive 32 = .ok (.invokevirtual 70, 3) := by decide +kernel
theorem dX2_fitsAsGive_35 : decode cX2_fitsAsGive 35 = .ok (.if_icmp .gt 16, 3) := by decide +kernel
theorem dX2_fitsAsGive_38 : decode cX2_fitsAsGive 38 = .ok (.aload_n 1, 1) := by decide +kernel
theorem dX2_fitsAsGive_39 : decode cX2_fitsAsGive 39 = .ok (.getfield 79, 3) := by decide +kernel
theorem dX2_fitsAsGive_42 : decode cX2_fitsAsGive 42 = .ok (.bipush 80, 2) := by decide +kernel
theorem dX2_fitsAsGive_44 : decode cX2_fitsAsGive 44 = .ok (.if_icmp .ge 7, 3) := by decide +kernel
theorem dX2_fitsAsGive_47 : decode cX2_fitsAsGive 47 = .ok (.iconst 1, 1) := by decide +kernel
theorem dX2_fitsAsGive_48 : decode cX2_fitsAsGive 48 = .ok (.goto 4, 3) := by decide +kernel
theorem dX2_fitsAsGive_51 : decode cX2_fitsAsGive 51 = .ok (.iconst 0, 1) := by decide +kernel
theorem dX2_fitsAsGive_52 : decode cX2_fitsAsGive 52 = .ok (.ireturn, 1) := by decide +kernel
theorem dX2_fitsAsMove_0 : decode cX2_fitsAsMove 0 = .ok (.aload_n 1, 1) := by decide +kernel
theorem dX2_fitsAsMove_1 : decode cX2_fitsAsMove 1 = .ok (.aload_n 0, 1) := by decide +kernel
theorem dX2_fitsAsMove_2 : decode cX2_fitsAsMove 2 = .ok (.getfield 27, 3) := by decide +kernel
theorem dX2_fitsAsMove_5 : decode cX2_fitsAsMove 5 = .ok (.invokevirtual 51, 3) := by decide +kernel
theorem dX2_fitsAsMove_8 : decode cX2_fitsAsMove 8 = .ok (.istore_n 3, 1) := by decide +kernel
theorem dX2_fitsAsMove_9 : decode cX2_fitsAsMove 9 = .ok (.iload_n 2, 1) := by decide +kernel
theorem dX2_fitsAsMove_10 : decode cX2_fitsAsMove 10 = .ok (.iconst (-1), 1) := by decide +kernel
theorem dX2_fitsAsMove_11 : decode cX2_fitsAsMove 11 = .ok (.if_icmp .eq 66, 3) := by decide +kernel
theorem dX2_fitsAsMove_14 : decode cX2_fitsAsMove 14 = .ok (.aload_n 1, 1) := by decide +kernel
theorem dX2_fitsAsMove_15 : decode cX2_fitsAsMove 15 = .ok (.iload_n 2, 1) := by decide +kernel
theorem dX2_fitsAsMove_16 : decode cX2_fitsAsMove 16 = .ok (.invokevirtual 73, 3) := by decide +kernel
theorem dX2_fitsAsMove_19 : decode cX2_fitsAsMove 19 = .ok (.aload_n 0, 1) := by decide +kernel
theorem dX2_fitsAsMove_20 : decode cX2_fitsAsMove 20 = .ok (.getfield 21, 3) := by decide +kernel
theorem dX2_fitsAsMove_23 : decode cX2_fitsAsMove 23 = .ok (.if_icmp .ne 54, 3) := by decide +kernel
theorem dX2_fitsAsMove_26 : decode cX2_fitsAsMove 26 = .ok (.aload_n 1, 1) := by decide +kernel
theorem dX2_fitsAsMove_27 : decode cX2_fitsAsMove 27 = .ok (.iload_n 2, 1) := by decide +kernel
theorem dX2_fitsAsMove_28 : decode cX2_fitsAsMove 28 = .ok (.invokevirtual 76, 3) := by decide +kernel
theorem dX2_fitsAsMove_31 : decode cX2_fitsAsMove 31 = .ok (.aload_n 0, 1) := by decide +kernel
theorem dX2_fitsAsMove_32 : decode cX2_fitsAsMove 32 = .ok (.getfield 24, 3) := by decide +kernel
theorem dX2_fitsAsMove_35 : decode cX2_fitsAsMove 35 = .ok (.if_icmp .ne 42, 3) := by decide +kernel
theorem dX2_fitsAsMove_38 : decode cX2_fitsAsMove 38 = .ok (.iload_n 3, 1) := by decide +kernel
theorem dX2_fitsAsMove_39 : decode cX2_fitsAsMove 39 = .ok (.iconst (-1), 1) := by decide +kernel
theorem dX2_fitsAsMove_40 : decode cX2_fitsAsMove 40 = .ok (.if_icmp .eq 37, 3) := by decide +kernel
theorem dX2_fitsAsMove_43 : decode cX2_fitsAsMove 43 = .ok (.aload_n 1, 1) := by decide +kernel
theorem dX2_fitsAsMove_44 : decode cX2_fitsAsMove 44 = .ok (.iload_n 3, 1) := by decide +kernel
theorem dX2_fitsAsMove_45 : decode cX2_fitsAsMove 45 = .ok (.iload_n 2, 1) := by decide +kernel
theorem dX2_fitsAsMove_46 : decode cX2_fitsAsMove 46 = .ok (.invokevirtual 82, 3) := by decide +kernel
theorem dX2_fitsAsMove_49 : decode cX2_fitsAsMove 49 = .ok (.ifCond .ne 28, 3) := by decide +kernel
theorem dX2_fitsAsMove_52 : decode cX2_fitsAsMove 52 = .ok (.aload_n 0, 1) := by decide +kernel
theorem dX2_fitsAsMove_53 : decode cX2_fitsAsMove 53 = .ok (.getfield 30, 3) := by decide +kernel
theorem dX2_fitsAsMove_56 : decode cX2_fitsAsMove 56 = .ok (.ifCond .lt 21, 3) := by decide +kernel
theorem dX2_fitsAsMove_59 : decode cX2_fitsAsMove 59 = .ok (.aload_n 0, 1) := by decide +kernel
theorem dX2_fitsAsMove_60 : decode cX2_fitsAsMove 60 = .ok (.getfield 30, 3) := by decide +kernel
theorem dX2_fitsAsMove_63 : decode cX2_fitsAsMove 63 = .ok (.aload_n 0, 1) := by decide +kernel
theorem dX2_fitsAsMove_64 : decode cX2_fitsAsMove 64 = .ok (.aload_n 1, 1) := by decide +kernel
theorem dX2_fitsAsMove_65 : decode cX2_fitsAsMove 65 = .ok (.iload_n 2, 1) := by decide +kernel
theorem dX2_fitsAsMove_66 : decode cX2_fitsAsMove 66 = .ok (.iload_n 3, 1) := by decide +kernel
theorem dX2_fitsAsMove_67 : decode cX2_fitsAsMove 67 = .ok (.invokevirtual 86, 3) := by decide +kernel
theorem dX2_fitsAsMove_70 : decode cX2_fitsAsMove 70 = .ok (.if_icmp .gt 7, 3) := by decide +kernel
theorem dX2_fitsAsMove_73 : decode cX2_fitsAsMove 73 = .ok (.iconst 1, 1) := by decide +kernel
theorem dX2_fitsAsMove_74 : decode cX2_fitsAsMove 74 = .ok (.goto 4, 3) := by decide +kernel
theorem dX2_fitsAsMove_77 : decode cX2_fitsAsMove 77 = .ok (.iconst 0, 1) := by decide +kernel
theorem dX2_fitsAsMove_78 : decode cX2_fitsAsMove 78 = .ok (.ireturn, 1) := by decide +kernel
theorem dX2_lastPlaceOfMove_0 : decode cX2_lastPlaceOfMove 0 = .ok (.aload_n 1, 1) := by decide +kernel
theorem dX2_lastPlaceOfMove_1 : decode cX2_lastPlaceOfMove 1 = .ok (.iload_n 3, 1) := by decide +kernel
theorem dX2_lastPlaceOfMove_2 : decode cX2_lastPlaceOfMove 2 = .ok (.invokevirtual 70, 3) := by decide +kernel
theorem dX2_lastPlaceOfMove_5 : decode cX2_lastPlaceOfMove 5 = .ok (.istore 4, 2) := by decide +kernel
theorem dX2_lastPlaceOfMove_7 : decode cX2_lastPlaceOfMove 7 = .ok (.aload_n 1, 1) := by decide +kernel
theorem dX2_lastPlaceOfMove_8 : decode cX2_lastPlaceOfMove 8 = .ok (.iload_n 2, 1) := by decide +kernel
theorem dX2_lastPlaceOfMove_9 : decode cX2_lastPlaceOfMove 9 = .ok (.invokevirtual 90, 3) := by decide +kernel
theorem dX2_lastPlaceOfMove_12 : decode cX2_lastPlaceOfMove 12 = .ok (.iload_n 3, 1) := by decide +kernel
theorem dX2_lastPlaceOfMove_13 : decode cX2_lastPlaceOfMove 13 = .ok (.if_icmp .ne 10, 3) := by decide +kernel
theorem dX2_lastPlaceOfMove_16 : decode cX2_lastPlaceOfMove 16 = .ok (.iload 4, 2) := by decide +kernel
theorem dX2_lastPlaceOfMove_18 : decode cX2_lastPlaceOfMove 18 = .ok (.iconst 1, 1) := by decide +kernel
theorem dX2_lastPlaceOfMove_19 : decode cX2_lastPlaceOfMove 19 = .ok (.isub, 1) := by decide +kernel
theorem dX2_lastPlaceOfMove_20 : decode cX2_lastPlaceOfMove 20 = .ok (.goto 5, 3) := by decide +kernel
theorem dX2_lastPlaceOfMove_23 : decode cX2_lastPlaceOfMove 23 = .ok (.iload 4, 2) := by decide +kernel
theorem dX2_lastPlaceOfMove_25 : decode cX2_lastPlaceOfMove 25 = .ok (.ireturn, 1) := by decide +kernel
theorem dX2_perform_0 : decode cX2_perform 0 = .ok (.aload_n 1, 1) := by decide +kernel
theorem dX2_perform_1 : decode cX2_perform 1 = .ok (.aload_n 0, 1) := by decide +kernel
theorem dX2_perform_2 : decode cX2_perform 2 = .ok (.getfield 15, 3) := by decide +kernel
theorem dX2_perform_5 : decode cX2_perform 5 = .ok (.invokevirtual 51, 3) := by decide +kernel
theorem dX2_perform_8 : decode cX2_perform 8 = .ok (.istore_n 2, 1) := by decide +kernel
theorem dX2_perform_9 : decode cX2_perform 9 = .ok (.aload_n 0, 1) := by decide +kernel
theorem dX2_perform_10 : decode cX2_perform 10 = .ok (.getfield 9, 3) := by decide +kernel
theorem dX2_perform_13 : decode cX2_perform 13 = .ok (.tableswitch 88 0 2 #[27, 39, 47], 27) := by decide +kernel
theorem dX2_perform_40 : decode cX2_perform 40 = .ok (.aload_n 1, 1) := by decide +kernel
theorem dX2_perform_41 : decode cX2_perform 41 = .ok (.iload_n 2, 1) := by decide +kernel
theorem dX2_perform_42 : decode cX2_perform 42 = .ok (.aload_n 0, 1) := by decide +kernel
theorem dX2_perform_43 : decode cX2_perform 43 = .ok (.getfield 21, 3) := by decide +kernel
theorem dX2_perform_46 : decode cX2_perform 46 = .ok (.invokevirtual 93, 3) := by decide +kernel
theorem dX2_perform_49 : decode cX2_perform 49 = .ok (.goto 86, 3) := by decide +kernel
theorem dX2_perform_52 : decode cX2_perform 52 = .ok (.aload_n 1, 1) := by decide +kernel
theorem dX2_perform_53 : decode cX2_perform 53 = .ok (.iload_n 2, 1) := by decide +kernel
theorem dX2_perform_54 : decode cX2_perform 54 = .ok (.invokevirtual 97, 3) := by decide +kernel
theorem dX2_perform_57 : decode cX2_perform 57 = .ok (.goto 78, 3) := by decide +kernel
theorem dX2_perform_60 : decode cX2_perform 60 = .ok (.aload_n 1, 1) := by decide +kernel
theorem dX2_perform_61 : decode cX2_perform 61 = .ok (.aload_n 0, 1) := by decide +kernel
theorem dX2_perform_62 : decode cX2_perform 62 = .ok (.getfield 21, 3) := by decide +kernel
theorem dX2_perform_65 : decode cX2_perform 65 = .ok (.invokevirtual 51, 3) := by decide +kernel
theorem dX2_perform_68 : decode cX2_perform 68 = .ok (.istore_n 3, 1) := by decide +kernel
theorem dX2_perform_69 : decode cX2_perform 69 = .ok (.aload_n 1, 1) := by decide +kernel
theorem dX2_perform_70 : decode cX2_perform 70 = .ok (.aload_n 1, 1) := by decide +kernel
theorem dX2_perform_71 : decode cX2_perform 71 = .ok (.iload_n 3, 1) := by decide +kernel
theorem dX2_perform_72 : decode cX2_perform 72 = .ok (.aload_n 0, 1) := by decide +kernel
theorem dX2_perform_73 : decode cX2_perform 73 = .ok (.getfield 24, 3) := by decide +kernel
theorem dX2_perform_76 : decode cX2_perform 76 = .ok (.iconst (-1), 1) := by decide +kernel
theorem dX2_perform_77 : decode cX2_perform 77 = .ok (.invokevirtual 101, 3) := by decide +kernel
theorem dX2_perform_80 : decode cX2_perform 80 = .ok (.aload_n 0, 1) := by decide +kernel
theorem dX2_perform_81 : decode cX2_perform 81 = .ok (.getfield 15, 3) := by decide +kernel
theorem dX2_perform_84 : decode cX2_perform 84 = .ok (.aload_n 0, 1) := by decide +kernel
theorem dX2_perform_85 : decode cX2_perform 85 = .ok (.getfield 18, 3) := by decide +kernel
theorem dX2_perform_88 : decode cX2_perform 88 = .ok (.aload_n 1, 1) := by decide +kernel
theorem dX2_perform_89 : decode cX2_perform 89 = .ok (.iload_n 3, 1) := by decide +kernel
theorem dX2_perform_90 : decode cX2_perform 90 = .ok (.invokevirtual 105, 3) := by decide +kernel
theorem dX2_perform_93 : decode cX2_perform 93 = .ok (.iconst 1, 1) := by decide +kernel
theorem dX2_perform_94 : decode cX2_perform 94 = .ok (.iadd, 1) := by decide +kernel
theorem dX2_perform_95 : decode cX2_perform 95 = .ok (.invokevirtual 108, 3) := by decide +kernel
theorem dX2_perform_98 : decode cX2_perform 98 = .ok (.goto 37, 3) := by decide +kernel
theorem dX2_perform_101 : decode cX2_perform 101 = .ok (.aload_n 1, 1) := by decide +kernel
theorem dX2_perform_102 : decode cX2_perform 102 = .ok (.aload_n 0, 1) := by decide +kernel
theorem dX2_perform_103 : decode cX2_perform 103 = .ok (.getfield 27, 3) := by decide +kernel
theorem dX2_perform_106 : decode cX2_perform 106 = .ok (.invokevirtual 51, 3) := by decide +kernel
theorem dX2_perform_109 : decode cX2_perform 109 = .ok (.istore 4, 2) := by decide +kernel
theorem dX2_perform_111 : decode cX2_perform 111 = .ok (.aload_n 1, 1) := by decide +kernel
theorem dX2_perform_112 : decode cX2_perform 112 = .ok (.iload_n 2, 1) := by decide +kernel
theorem dX2_perform_113 : decode cX2_perform 113 = .ok (.aload_n 1, 1) := by decide +kernel
theorem dX2_perform_114 : decode cX2_perform 114 = .ok (.iload 4, 2) := by decide +kernel
theorem dX2_perform_116 : decode cX2_perform 116 = .ok (.aload_n 0, 1) := by decide +kernel
theorem dX2_perform_117 : decode cX2_perform 117 = .ok (.getfield 30, 3) := by decide +kernel
theorem dX2_perform_120 : decode cX2_perform 120 = .ok (.iload_n 2, 1) := by decide +kernel
theorem dX2_perform_121 : decode cX2_perform 121 = .ok (.invokevirtual 101, 3) := by decide +kernel
theorem dX2_perform_124 : decode cX2_perform 124 = .ok (.aload_n 1, 1) := by decide +kernel
theorem dX2_perform_125 : decode cX2_perform 125 = .ok (.iload 4, 2) := by decide +kernel
theorem dX2_perform_127 : decode cX2_perform 127 = .ok (.invokevirtual 105, 3) := by decide +kernel
theorem dX2_perform_130 : decode cX2_perform 130 = .ok (.iconst 1, 1) := by decide +kernel
theorem dX2_perform_131 : decode cX2_perform 131 = .ok (.iadd, 1) := by decide +kernel
theorem dX2_perform_132 : decode cX2_perform 132 = .ok (.invokevirtual 112, 3) := by decide +kernel
theorem dX2_perform_135 : decode cX2_perform 135 = .ok (.return_, 1) := by decide +kernel
theorem dX2_over_0 : decode cX2_over 0 = .ok (.aload_n 1, 1) := by decide +kernel
theorem dX2_over_1 : decode cX2_over 1 = .ok (.aload_n 0, 1) := by decide +kernel
theorem dX2_over_2 : decode cX2_over 2 = .ok (.getfield 15, 3) := by decide +kernel
theorem dX2_over_5 : decode cX2_over 5 = .ok (.invokevirtual 51, 3) := by decide +kernel
theorem dX2_over_8 : decode cX2_over 8 = .ok (.istore_n 2, 1) := by decide +kernel
theorem dX2_over_9 : decode cX2_over 9 = .ok (.aload_n 0, 1) := by decide +kernel
theorem dX2_over_10 : decode cX2_over 10 = .ok (.getfield 9, 3) := by decide +kernel
theorem dX2_over_13 : decode cX2_over 13 = .ok (.tableswitch 48 0 2 #[27, 34, 41], 27) := by decide +kernel
theorem dX2_over_40 : decode cX2_over 40 = .ok (.aload_n 0, 1) := by decide +kernel
theorem dX2_over_41 : decode cX2_over 41 = .ok (.aload_n 1, 1) := by decide +kernel
theorem dX2_over_42 : decode cX2_over 42 = .ok (.iload_n 2, 1) := by decide +kernel
theorem dX2_over_43 : decode cX2_over 43 = .ok (.invokevirtual 116, 3) := by decide +kernel
theorem dX2_over_46 : decode cX2_over 46 = .ok (.ireturn, 1) := by decide +kernel
theorem dX2_over_47 : decode cX2_over 47 = .ok (.aload_n 0, 1) := by decide +kernel
theorem dX2_over_48 : decode cX2_over 48 = .ok (.aload_n 1, 1) := by decide +kernel
theorem dX2_over_49 : decode cX2_over 49 = .ok (.iload_n 2, 1) := by decide +kernel
theorem dX2_over_50 : decode cX2_over 50 = .ok (.invokevirtual 120, 3) := by decide +kernel
theorem dX2_over_53 : decode cX2_over 53 = .ok (.ireturn, 1) := by decide +kernel
theorem dX2_over_54 : decode cX2_over 54 = .ok (.aload_n 0, 1) := by decide +kernel
theorem dX2_over_55 : decode cX2_over 55 = .ok (.aload_n 1, 1) := by decide +kernel
theorem dX2_over_56 : decode cX2_over 56 = .ok (.iload_n 2, 1) := by decide +kernel
theorem dX2_over_57 : decode cX2_over 57 = .ok (.invokevirtual 123, 3) := by decide +kernel
theorem dX2_over_60 : decode cX2_over 60 = .ok (.ireturn, 1) := by decide +kernel
theorem dX2_over_61 : decode cX2_over 61 = .ok (.aload_n 0, 1) := by decide +kernel
theorem dX2_over_62 : decode cX2_over 62 = .ok (.aload_n 1, 1) := by decide +kernel
theorem dX2_over_63 : decode cX2_over 63 = .ok (.iload_n 2, 1) := by decide +kernel
theorem dX2_over_64 : decode cX2_over 64 = .ok (.invokevirtual 126, 3) := by decide +kernel
theorem dX2_over_67 : decode cX2_over 67 = .ok (.ireturn, 1) := by decide +kernel
theorem dX2_nameOver_0 : decode cX2_nameOver 0 = .ok (.iload_n 2, 1) := by decide +kernel
theorem dX2_nameOver_1 : decode cX2_nameOver 1 = .ok (.iconst (-1), 1) := by decide +kernel
theorem dX2_nameOver_2 : decode cX2_nameOver 2 = .ok (.if_icmp .ne 5, 3) := by decide +kernel
theorem dX2_nameOver_5 : decode cX2_nameOver 5 = .ok (.iconst 1, 1) := by decide +kernel
theorem dX2_nameOver_6 : decode cX2_nameOver 6 = .ok (.ireturn, 1) := by decide +kernel
theorem dX2_nameOver_7 : decode cX2_nameOver 7 = .ok (.aload_n 1, 1) := by decide +kernel
theorem dX2_nameOver_8 : decode cX2_nameOver 8 = .ok (.iload_n 2, 1) := by decide +kernel
theorem dX2_nameOver_9 : decode cX2_nameOver 9 = .ok (.invokevirtual 57, 3) := by decide +kernel
theorem dX2_nameOver_12 : decode cX2_nameOver 12 = .ok (.aload_n 0, 1) := by decide +kernel
theorem dX2_nameOver_13 : decode cX2_nameOver 13 = .ok (.getfield 21, 3) := by decide +kernel
theorem dX2_nameOver_16 : decode cX2_nameOver 16 = .ok (.if_icmp .ne 5, 3) := by decide +kernel
theorem dX2_nameOver_19 : decode cX2_nameOver 19 = .ok (.iconst (-1), 1) := by decide +kernel
theorem dX2_nameOver_20 : decode cX2_nameOver 20 = .ok (.ireturn, 1) := by decide +kernel
theorem dX2_nameOver_21 : decode cX2_nameOver 21 = .ok (.aload_n 1, 1) := by decide +kernel
theorem dX2_nameOver_22 : decode cX2_nameOver 22 = .ok (.iload_n 2, 1) := by decide +kernel
theorem dX2_nameOver_23 : decode cX2_nameOver 23 = .ok (.invokevirtual 57, 3) := by decide +kernel
theorem dX2_nameOver_26 : decode cX2_nameOver 26 = .ok (.aload_n 0, 1) := by decide +kernel
theorem dX2_nameOver_27 : decode cX2_nameOver 27 = .ok (.getfield 18, 3) := by decide +kernel
theorem dX2_nameOver_30 : decode cX2_nameOver 30 = .ok (.if_icmp .ne 7, 3) := by decide +kernel
theorem dX2_nameOver_33 : decode cX2_nameOver 33 = .ok (.iconst 0, 1) := by decide +kernel
theorem dX2_nameOver_34 : decode cX2_nameOver 34 = .ok (.goto 4, 3) := by decide +kernel
theorem dX2_nameOver_37 : decode cX2_nameOver 37 = .ok (.iconst 2, 1) := by decide +kernel
theorem dX2_nameOver_38 : decode cX2_nameOver 38 = .ok (.ireturn, 1) := by decide +kernel
theorem dX2_takeOver_0 : decode cX2_takeOver 0 = .ok (.iload_n 2, 1) := by decide +kernel
theorem dX2_takeOver_1 : decode cX2_takeOver 1 = .ok (.iconst (-1), 1) := by decide +kernel
theorem dX2_takeOver_2 : decode cX2_takeOver 2 = .ok (.if_icmp .ne 5, 3) := by decide +kernel
theorem dX2_takeOver_5 : decode cX2_takeOver 5 = .ok (.iconst (-1), 1) := by decide +kernel
theorem dX2_takeOver_6 : decode cX2_takeOver 6 = .ok (.ireturn, 1) := by decide +kernel
theorem dX2_takeOver_7 : decode cX2_takeOver 7 = .ok (.iload_n 2, 1) := by decide +kernel
theorem dX2_takeOver_8 : decode cX2_takeOver 8 = .ok (.ifCond .eq 11, 3) := by decide +kernel
theorem dX2_takeOver_11 : decode cX2_takeOver 11 = .ok (.aload_n 1, 1) := by decide +kernel
theorem dX2_takeOver_12 : decode cX2_takeOver 12 = .ok (.iload_n 2, 1) := by decide +kernel
theorem dX2_takeOver_13 : decode cX2_takeOver 13 = .ok (.invokevirtual 70, 3) := by decide +kernel
theorem dX2_takeOver_16 : decode cX2_takeOver 16 = .ok (.ifCond .le 5, 3) := by decide +kernel
theorem dX2_takeOver_19 : decode cX2_takeOver 19 = .ok (.iconst 3, 1) := by decide +kernel
theorem dX2_takeOver_20 : decode cX2_takeOver 20 = .ok (.ireturn, 1) := by decide +kernel
theorem dX2_takeOver_21 : decode cX2_takeOver 21 = .ok (.aload_n 1, 1) := by decide +kernel
theorem dX2_takeOver_22 : decode cX2_takeOver 22 = .ok (.iload_n 2, 1) := by decide +kernel
theorem dX2_takeOver_23 : decode cX2_takeOver 23 = .ok (.invokevirtual 57, 3) := by decide +kernel
theorem dX2_takeOver_26 : decode cX2_takeOver 26 = .ok (.aload_n 0, 1) := by decide +kernel
theorem dX2_takeOver_27 : decode cX2_takeOver 27 = .ok (.getfield 18, 3) := by decide +kernel
theorem dX2_takeOver_30 : decode cX2_takeOver 30 = .ok (.if_icmp .ne 7, 3) := by decide +kernel
theorem dX2_takeOver_33 : decode cX2_takeOver 33 = .ok (.iconst 0, 1) := by decide +kernel
theorem dX2_takeOver_34 : decode cX2_takeOver 34 = .ok (.goto 4, 3) := by decide +kernel
theorem dX2_takeOver_37 : decode cX2_takeOver 37 = .ok (.iconst 2, 1) := by decide +kernel
theorem dX2_takeOver_38 : decode cX2_takeOver 38 = .ok (.ireturn, 1) := by decide +kernel
theorem dX2_giveOver_0 : decode cX2_giveOver 0 = .ok (.iload_n 2, 1) := by decide +kernel
theorem dX2_giveOver_1 : decode cX2_giveOver 1 = .ok (.iconst (-1), 1) := by decide +kernel
theorem dX2_giveOver_2 : decode cX2_giveOver 2 = .ok (.if_icmp .eq 33, 3) := by decide +kernel
theorem dX2_giveOver_5 : decode cX2_giveOver 5 = .ok (.aload_n 1, 1) := by decide +kernel
theorem dX2_giveOver_6 : decode cX2_giveOver 6 = .ok (.iload_n 2, 1) := by decide +kernel
theorem dX2_giveOver_7 : decode cX2_giveOver 7 = .ok (.invokevirtual 57, 3) := by decide +kernel
theorem dX2_giveOver_10 : decode cX2_giveOver 10 = .ok (.aload_n 0, 1) := by decide +kernel
theorem dX2_giveOver_11 : decode cX2_giveOver 11 = .ok (.getfield 18, 3) := by decide +kernel
theorem dX2_giveOver_14 : decode cX2_giveOver 14 = .ok (.if_icmp .ne 19, 3) := by decide +kernel
theorem dX2_giveOver_17 : decode cX2_giveOver 17 = .ok (.aload_n 1, 1) := by decide +kernel
theorem dX2_giveOver_18 : decode cX2_giveOver 18 = .ok (.iload_n 2, 1) := by decide +kernel
theorem dX2_giveOver_19 : decode cX2_giveOver 19 = .ok (.invokevirtual 73, 3) := by decide +kernel
theorem dX2_giveOver_22 : decode cX2_giveOver 22 = .ok (.aload_n 0, 1) := by decide +kernel
theorem dX2_giveOver_23 : decode cX2_giveOver 23 = .ok (.getfield 21, 3) := by decide +kernel
theorem dX2_giveOver_26 : decode cX2_giveOver 26 = .ok (.if_icmp .ne 7, 3) := by decide +kernel
theorem dX2_giveOver_29 : decode cX2_giveOver 29 = .ok (.iconst (-1), 1) := by decide +kernel
theorem dX2_giveOver_30 : decode cX2_giveOver 30 = .ok (.goto 4, 3) := by decide +kernel
theorem dX2_giveOver_33 : decode cX2_giveOver 33 = .ok (.iconst 4, 1) := by decide +kernel
theorem dX2_giveOver_34 : decode cX2_giveOver 34 = .ok (.ireturn, 1) := by decide +kernel
theorem dX2_giveOver_35 : decode cX2_giveOver 35 = .ok (.aload_n 1, 1) := by decide +kernel
theorem dX2_giveOver_36 : decode cX2_giveOver 36 = .ok (.aload_n 0, 1) := by decide +kernel
theorem dX2_giveOver_37 : decode cX2_giveOver 37 = .ok (.getfield 21, 3) := by decide +kernel
theorem dX2_giveOver_40 : decode cX2_giveOver 40 = .ok (.invokevirtual 51, 3) := by decide +kernel
theorem dX2_giveOver_43 : decode cX2_giveOver 43 = .ok (.iconst (-1), 1) := by decide +kernel
theorem dX2_giveOver_44 : decode cX2_giveOver 44 = .ok (.if_icmp .ne 5, 3) := by decide +kernel
theorem dX2_giveOver_47 : decode cX2_giveOver 47 = .ok (.iconst 1, 1) := by decide +kernel
theorem dX2_giveOver_48 : decode cX2_giveOver 48 = .ok (.ireturn, 1) := by decide +kernel
theorem dX2_giveOver_49 : decode cX2_giveOver 49 = .ok (.aload_n 1, 1) := by decide +kernel
theorem dX2_giveOver_50 : decode cX2_giveOver 50 = .ok (.getfield 79, 3) := by decide +kernel
theorem dX2_giveOver_53 : decode cX2_giveOver 53 = .ok (.bipush 80, 2) := by decide +kernel
theorem dX2_giveOver_55 : decode cX2_giveOver 55 = .ok (.if_icmp .ge 7, 3) := by decide +kernel
theorem dX2_giveOver_58 : decode cX2_giveOver 58 = .ok (.iconst 0, 1) := by decide +kernel
theorem dX2_giveOver_59 : decode cX2_giveOver 59 = .ok (.goto 5, 3) := by decide +kernel
theorem dX2_giveOver_62 : decode cX2_giveOver 62 = .ok (.bipush 7, 2) := by decide +kernel
theorem dX2_giveOver_64 : decode cX2_giveOver 64 = .ok (.ireturn, 1) := by decide +kernel
theorem dX2_moveOver_0 : decode cX2_moveOver 0 = .ok (.aload_n 1, 1) := by decide +kernel
theorem dX2_moveOver_1 : decode cX2_moveOver 1 = .ok (.aload_n 0, 1) := by decide +kernel
theorem dX2_moveOver_2 : decode cX2_moveOver 2 = .ok (.getfield 27, 3) := by decide +kernel
theorem dX2_moveOver_5 : decode cX2_moveOver 5 = .ok (.invokevirtual 51, 3) := by decide +kernel
theorem dX2_moveOver_8 : decode cX2_moveOver 8 = .ok (.istore_n 3, 1) := by decide +kernel
theorem dX2_moveOver_9 : decode cX2_moveOver 9 = .ok (.iload_n 2, 1) := by decide +kernel
theorem dX2_moveOver_10 : decode cX2_moveOver 10 = .ok (.iconst (-1), 1) := by decide +kernel
theorem dX2_moveOver_11 : decode cX2_moveOver 11 = .ok (.if_icmp .eq 8, 3) := by decide +kernel
theorem dX2_moveOver_14 : decode cX2_moveOver 14 = .ok (.iload_n 3, 1) := by decide +kernel
theorem dX2_moveOver_15 : decode cX2_moveOver 15 = .ok (.iconst (-1), 1) := by decide +kernel
theorem dX2_moveOver_16 : decode cX2_moveOver 16 = .ok (.if_icmp .ne 5, 3) := by decide +kernel
theorem dX2_moveOver_19 : decode cX2_moveOver 19 = .ok (.iconst 1, 1) := by decide +kernel
theorem dX2_moveOver_20 : decode cX2_moveOver 20 = .ok (.ireturn, 1) := by decide +kernel
theorem dX2_moveOver_21 : decode cX2_moveOver 21 = .ok (.iload_n 2, 1) := by decide +kernel
theorem dX2_moveOver_22 : decode cX2_moveOver 22 = .ok (.ifCond .eq 12, 3) := by decide +kernel
theorem dX2_moveOver_25 : decode cX2_moveOver 25 = .ok (.aload_n 1, 1) := by decide +kernel
theorem dX2_moveOver_26 : decode cX2_moveOver 26 = .ok (.iload_n 3, 1) := by decide +kernel
theorem dX2_moveOver_27 : decode cX2_moveOver 27 = .ok (.iload_n 2, 1) := by decide +kernel
theorem dX2_moveOver_28 : decode cX2_moveOver 28 = .ok (.invokevirtual 82, 3) := by decide +kernel
theorem dX2_moveOver_31 : decode cX2_moveOver 31 = .ok (.ifCond .eq 5, 3) := by decide +kernel
theorem dX2_moveOver_34 : decode cX2_moveOver 34 = .ok (.iconst 5, 1) := by decide +kernel
theorem dX2_moveOver_35 : decode cX2_moveOver 35 = .ok (.ireturn, 1) := by decide +kernel
theorem dX2_moveOver_36 : decode cX2_moveOver 36 = .ok (.aload_n 1, 1) := by decide +kernel
theorem dX2_moveOver_37 : decode cX2_moveOver 37 = .ok (.iload_n 2, 1) := by decide +kernel
theorem dX2_moveOver_38 : decode cX2_moveOver 38 = .ok (.invokevirtual 73, 3) := by decide +kernel
theorem dX2_moveOver_41 : decode cX2_moveOver 41 = .ok (.istore 4, 2) := by decide +kernel
theorem dX2_moveOver_43 : decode cX2_moveOver 43 = .ok (.iload 4, 2) := by decide +kernel
theorem dX2_moveOver_45 : decode cX2_moveOver 45 = .ok (.aload_n 0, 1) := by decide +kernel
theorem dX2_moveOver_46 : decode cX2_moveOver 46 = .ok (.getfield 21, 3) := by decide +kernel
theorem dX2_moveOver_49 : decode cX2_moveOver 49 = .ok (.if_icmp .ne 5, 3) := by decide +kernel
theorem dX2_moveOver_52 : decode cX2_moveOver 52 = .ok (.iconst 0, 1) := by decide +kernel
theorem dX2_moveOver_53 : decode cX2_moveOver 53 = .ok (.ireturn, 1) := by decide +kernel
theorem dX2_moveOver_54 : decode cX2_moveOver 54 = .ok (.iload 4, 2) := by decide +kernel
theorem dX2_moveOver_56 : decode cX2_moveOver 56 = .ok (.aload_n 0, 1) := by decide +kernel
theorem dX2_moveOver_57 : decode cX2_moveOver 57 = .ok (.getfield 27, 3) := by decide +kernel
theorem dX2_moveOver_60 : decode cX2_moveOver 60 = .ok (.if_icmp .ne 7, 3) := by decide +kernel
theorem dX2_moveOver_63 : decode cX2_moveOver 63 = .ok (.iconst (-1), 1) := by decide +kernel
theorem dX2_moveOver_64 : decode cX2_moveOver 64 = .ok (.goto 5, 3) := by decide +kernel
theorem dX2_moveOver_67 : decode cX2_moveOver 67 = .ok (.bipush 6, 2) := by decide +kernel
theorem dX2_moveOver_69 : decode cX2_moveOver 69 = .ok (.ireturn, 1) := by decide +kernel
theorem dX2_fitted_0 : decode cX2_fitted 0 = .ok (.aload_n 1, 1) := by decide +kernel
theorem dX2_fitted_1 : decode cX2_fitted 1 = .ok (.aload_n 0, 1) := by decide +kernel
theorem dX2_fitted_2 : decode cX2_fitted 2 = .ok (.getfield 15, 3) := by decide +kernel
theorem dX2_fitted_5 : decode cX2_fitted 5 = .ok (.invokevirtual 51, 3) := by decide +kernel
theorem dX2_fitted_8 : decode cX2_fitted 8 = .ok (.istore_n 2, 1) := by decide +kernel
theorem dX2_fitted_9 : decode cX2_fitted 9 = .ok (.aload_n 0, 1) := by decide +kernel
theorem dX2_fitted_10 : decode cX2_fitted 10 = .ok (.getfield 9, 3) := by decide +kernel
theorem dX2_fitted_13 : decode cX2_fitted 13 = .ok (.tableswitch 86 0 2 #[27, 29, 51], 27) := by decide +kernel
theorem dX2_fitted_40 : decode cX2_fitted 40 = .ok (.aload_n 0, 1) := by decide +kernel
theorem dX2_fitted_41 : decode cX2_fitted 41 = .ok (.areturn, 1) := by decide +kernel
theorem dX2_fitted_42 : decode cX2_fitted 42 = .ok (.aload_n 0, 1) := by decide +kernel
theorem dX2_fitted_43 : decode cX2_fitted 43 = .ok (.getfield 15, 3) := by decide +kernel
theorem dX2_fitted_46 : decode cX2_fitted 46 = .ok (.aload_n 0, 1) := by decide +kernel
theorem dX2_fitted_47 : decode cX2_fitted 47 = .ok (.getfield 18, 3) := by decide +kernel
theorem dX2_fitted_50 : decode cX2_fitted 50 = .ok (.aload_n 1, 1) := by decide +kernel
theorem dX2_fitted_51 : decode cX2_fitted 51 = .ok (.iload_n 2, 1) := by decide +kernel
theorem dX2_fitted_52 : decode cX2_fitted 52 = .ok (.invokevirtual 73, 3) := by decide +kernel
theorem dX2_fitted_55 : decode cX2_fitted 55 = .ok (.aload_n 1, 1) := by decide +kernel
theorem dX2_fitted_56 : decode cX2_fitted 56 = .ok (.iload_n 2, 1) := by decide +kernel
theorem dX2_fitted_57 : decode cX2_fitted 57 = .ok (.invokevirtual 76, 3) := by decide +kernel
theorem dX2_fitted_60 : decode cX2_fitted 60 = .ok (.invokestatic 44, 3) := by decide +kernel
theorem dX2_fitted_63 : decode cX2_fitted 63 = .ok (.areturn, 1) := by decide +kernel
theorem dX2_fitted_64 : decode cX2_fitted 64 = .ok (.aload_n 0, 1) := by decide +kernel
theorem dX2_fitted_65 : decode cX2_fitted 65 = .ok (.getfield 15, 3) := by decide +kernel
theorem dX2_fitted_68 : decode cX2_fitted 68 = .ok (.aload_n 0, 1) := by decide +kernel
theorem dX2_fitted_69 : decode cX2_fitted 69 = .ok (.getfield 18, 3) := by decide +kernel
theorem dX2_fitted_72 : decode cX2_fitted 72 = .ok (.aload_n 0, 1) := by decide +kernel
theorem dX2_fitted_73 : decode cX2_fitted 73 = .ok (.getfield 21, 3) := by decide +kernel
theorem dX2_fitted_76 : decode cX2_fitted 76 = .ok (.aload_n 0, 1) := by decide +kernel
theorem dX2_fitted_77 : decode cX2_fitted 77 = .ok (.getfield 24, 3) := by decide +kernel
theorem dX2_fitted_80 : decode cX2_fitted 80 = .ok (.aload_n 1, 1) := by decide +kernel
theorem dX2_fitted_81 : decode cX2_fitted 81 = .ok (.aload_n 1, 1) := by decide +kernel
theorem dX2_fitted_82 : decode cX2_fitted 82 = .ok (.aload_n 0, 1) := by decide +kernel
theorem dX2_fitted_83 : decode cX2_fitted 83 = .ok (.getfield 21, 3) := by decide +kernel
theorem dX2_fitted_86 : decode cX2_fitted 86 = .ok (.invokevirtual 51, 3) := by decide +kernel
theorem dX2_fitted_89 : decode cX2_fitted 89 = .ok (.invokevirtual 70, 3) := by decide +kernel
theorem dX2_fitted_92 : decode cX2_fitted 92 = .ok (.invokestatic 129, 3) := by decide +kernel
theorem dX2_fitted_95 : decode cX2_fitted 95 = .ok (.invokestatic 40, 3) := by decide +kernel
theorem dX2_fitted_98 : decode cX2_fitted 98 = .ok (.areturn, 1) := by decide +kernel
theorem dX2_fitted_99 : decode cX2_fitted 99 = .ok (.aload_n 0, 1) := by decide +kernel
theorem dX2_fitted_100 : decode cX2_fitted 100 = .ok (.aload_n 1, 1) := by decide +kernel
theorem dX2_fitted_101 : decode cX2_fitted 101 = .ok (.iload_n 2, 1) := by decide +kernel
theorem dX2_fitted_102 : decode cX2_fitted 102 = .ok (.aload_n 1, 1) := by decide +kernel
theorem dX2_fitted_103 : decode cX2_fitted 103 = .ok (.aload_n 0, 1) := by decide +kernel
theorem dX2_fitted_104 : decode cX2_fitted 104 = .ok (.getfield 27, 3) := by decide +kernel
theorem dX2_fitted_107 : decode cX2_fitted 107 = .ok (.invokevirtual 51, 3) := by decide +kernel
theorem dX2_fitted_110 : decode cX2_fitted 110 = .ok (.invokevirtual 86, 3) := by decide +kernel
theorem dX2_fitted_113 : decode cX2_fitted 113 = .ok (.istore_n 3, 1) := by decide +kernel
theorem dX2_fitted_114 : decode cX2_fitted 114 = .ok (.aload_n 0, 1) := by decide +kernel
theorem dX2_fitted_115 : decode cX2_fitted 115 = .ok (.getfield 15, 3) := by decide +kernel
theorem dX2_fitted_118 : decode cX2_fitted 118 = .ok (.aload_n 0, 1) := by decide +kernel
theorem dX2_fitted_119 : decode cX2_fitted 119 = .ok (.getfield 21, 3) := by decide +kernel
theorem dX2_fitted_122 : decode cX2_fitted 122 = .ok (.aload_n 1, 1) := by decide +kernel
theorem dX2_fitted_123 : decode cX2_fitted 123 = .ok (.iload_n 2, 1) := by decide +kernel
theorem dX2_fitted_124 : decode cX2_fitted 124 = .ok (.invokevirtual 76, 3) := by decide +kernel
theorem dX2_fitted_127 : decode cX2_fitted 127 = .ok (.aload_n 0, 1) := by decide +kernel
theorem dX2_fitted_128 : decode cX2_fitted 128 = .ok (.getfield 27, 3) := by decide +kernel
theorem dX2_fitted_131 : decode cX2_fitted 131 = .ok (.aload_n 0, 1) := by decide +kernel
theorem dX2_fitted_132 : decode cX2_fitted 132 = .ok (.getfield 30, 3) := by decide +kernel
theorem dX2_fitted_135 : decode cX2_fitted 135 = .ok (.iload_n 3, 1) := by decide +kernel
theorem dX2_fitted_136 : decode cX2_fitted 136 = .ok (.invokestatic 129, 3) := by decide +kernel
theorem dX2_fitted_139 : decode cX2_fitted 139 = .ok (.invokestatic 47, 3) := by decide +kernel
theorem dX2_fitted_142 : decode cX2_fitted 142 = .ok (.areturn, 1) := by decide +kernel
theorem dX3_init_0 : decode cX3_init 0 = .ok (.aload_n 0, 1) := by decide +kernel
theorem dX3_init_1 : decode cX3_init 1 = .ok (.invokespecial 3, 3) := by decide +kernel
theorem dX3_init_4 : decode cX3_init 4 = .ok (.aload_n 0, 1) := by decide +kernel
theorem dX3_init_5 : decode cX3_init 5 = .ok (.aload_n 1, 1) := by decide +kernel
theorem dX3_init_6 : decode cX3_init 6 = .ok (.invokevirtual 9, 3) := by decide +kernel
theorem dX3_init_9 : decode cX3_init 9 = .ok (.putfield 15, 3) := by decide +kernel
theorem dX3_init_12 : decode cX3_init 12 = .ok (.aload_n 0, 1) := by decide +kernel
theorem dX3_init_13 : decode cX3_init 13 = .ok (.aload_n 1, 1) := by decide +kernel
theorem dX3_init_14 : decode cX3_init 14 = .ok (.invokevirtual 21, 3) := by decide +kernel
theorem dX3_init_17 : decode cX3_init 17 = .ok (.putfield 25, 3) := by decide +kernel
theorem dX3_init_20 : decode cX3_init 20 = .ok (.aload_n 0, 1) := by decide +kernel
theorem dX3_init_21 : decode cX3_init 21 = .ok (.iload_n 2, 1) := by decide +kernel
theorem dX3_init_22 : decode cX3_init 22 = .ok (.putfield 29, 3) := by decide +kernel
theorem dX3_init_25 : decode cX3_init 25 = .ok (.aload_n 0, 1) := by decide +kernel
theorem dX3_init_26 : decode cX3_init 26 = .ok (.iload_n 3, 1) := by decide +kernel
theorem dX3_init_27 : decode cX3_init 27 = .ok (.putfield 33, 3) := by decide +kernel
theorem dX3_init_30 : decode cX3_init 30 = .ok (.aload_n 0, 1) := by decide +kernel
theorem dX3_init_31 : decode cX3_init 31 = .ok (.iload 4, 2) := by decide +kernel
theorem dX3_init_33 : decode cX3_init 33 = .ok (.putfield 36, 3) := by decide +kernel
theorem dX3_init_36 : decode cX3_init 36 = .ok (.return_, 1) := by decide +kernel
theorem dX3_size_0 : decode cX3_size 0 = .ok (.aload_n 0, 1) := by decide +kernel
theorem dX3_size_1 : decode cX3_size 1 = .ok (.getfield 15, 3) := by decide +kernel
theorem dX3_size_4 : decode cX3_size 4 = .ok (.arraylength, 1) := by decide +kernel
theorem dX3_size_5 : decode cX3_size 5 = .ok (.ireturn, 1) := by decide +kernel
theorem dX3_editAt_0 : decode cX3_editAt 0 = .ok (.iload_n 1, 1) := by decide +kernel
theorem dX3_editAt_1 : decode cX3_editAt 1 = .ok (.ifCond .lt 21, 3) := by decide +kernel
theorem dX3_editAt_4 : decode cX3_editAt 4 = .ok (.iload_n 1, 1) := by decide +kernel
theorem dX3_editAt_5 : decode cX3_editAt 5 = .ok (.aload_n 0, 1) := by decide +kernel
theorem dX3_editAt_6 : decode cX3_editAt 6 = .ok (.getfield 15, 3) := by decide +kernel
theorem dX3_editAt_9 : decode cX3_editAt 9 = .ok (.arraylength, 1) := by decide +kernel
theorem dX3_editAt_10 : decode cX3_editAt 10 = .ok (.if_icmp .ge 12, 3) := by decide +kernel
theorem dX3_editAt_13 : decode cX3_editAt 13 = .ok (.aload_n 0, 1) := by decide +kernel
theorem dX3_editAt_14 : decode cX3_editAt 14 = .ok (.getfield 15, 3) := by decide +kernel
theorem dX3_editAt_17 : decode cX3_editAt 17 = .ok (.iload_n 1, 1) := by decide +kernel
theorem dX3_editAt_18 : decode cX3_editAt 18 = .ok (.aaload, 1) := by decide +kernel
theorem dX3_editAt_19 : decode cX3_editAt 19 = .ok (.goto 4, 3) := by decide +kernel
theorem dX3_editAt_22 : decode cX3_editAt 22 = .ok (.aconst_null, 1) := by decide +kernel
theorem dX3_editAt_23 : decode cX3_editAt 23 = .ok (.areturn, 1) := by decide +kernel
theorem dX3_isOf_0 : decode cX3_isOf 0 = .ok (.iload_n 1, 1) := by decide +kernel
theorem dX3_isOf_1 : decode cX3_isOf 1 = .ok (.ifCond .eq 24, 3) := by decide +kernel
theorem dX3_isOf_4 : decode cX3_isOf 4 = .ok (.iload_n 1, 1) := by decide +kernel
theorem dX3_isOf_5 : decode cX3_isOf 5 = .ok (.aload_n 0, 1) := by decide +kernel
theorem dX3_isOf_6 : decode cX3_isOf 6 = .ok (.getfield 29, 3) := by decide +kernel
theorem dX3_isOf_9 : decode cX3_isOf 9 = .ok (.if_icmp .eq 16, 3) := by decide +kernel
theorem dX3_isOf_12 : decode cX3_isOf 12 = .ok (.iload_n 1, 1) := by decide +kernel
theorem dX3_isOf_13 : decode cX3_isOf 13 = .ok (.iconst 2, 1) := by decide +kernel
theorem dX3_isOf_14 : decode cX3_isOf 14 = .ok (.if_icmp .ne 15, 3) := by decide +kernel
theorem dX3_isOf_17 : decode cX3_isOf 17 = .ok (.aload_n 0, 1) := by decide +kernel
theorem dX3_isOf_18 : decode cX3_isOf 18 = .ok (.getfield 29, 3) := by decide +kernel
theorem dX3_isOf_21 : decode cX3_isOf 21 = .ok (.iconst 3, 1) := by decide +kernel
theorem dX3_isOf_22 : decode cX3_isOf 22 = .ok (.if_icmp .ne 7, 3) := by decide +kernel
theorem dX3_isOf_25 : decode cX3_isOf 25 = .ok (.iconst 1, 1) := by decide +kernel
theorem dX3_isOf_26 : decode cX3_isOf 26 = .ok (.goto 4, 3) := by decide +kernel
theorem dX3_isOf_29 : decode cX3_isOf 29 = .ok (.iconst 0, 1) := by decide +kernel
theorem dX3_isOf_30 : decode cX3_isOf 30 = .ok (.ireturn, 1) := by decide +kernel
theorem dX3_saysAs_0 : decode cX3_saysAs 0 = .ok (.iload_n 1, 1) := by decide +kernel
theorem dX3_saysAs_1 : decode cX3_saysAs 1 = .ok (.lookupswitch 37 #[(2, 27), (3, 32)], 27) := by decide +kernel
theorem dX3_saysAs_28 : decode cX3_saysAs 28 = .ok (.aload_n 0, 1) := by decide +kernel
theorem dX3_saysAs_29 : decode cX3_saysAs 29 = .ok (.getfield 33, 3) := by decide +kernel
theorem dX3_saysAs_32 : decode cX3_saysAs 32 = .ok (.ireturn, 1) := by decide +kernel
theorem dX3_saysAs_33 : decode cX3_saysAs 33 = .ok (.aload_n 0, 1) := by decide +kernel
theorem dX3_saysAs_34 : decode cX3_saysAs 34 = .ok (.invokevirtual 39, 3) := by decide +kernel
theorem dX3_saysAs_37 : decode cX3_saysAs 37 = .ok (.ireturn, 1) := by decide +kernel
theorem dX3_saysAs_38 : decode cX3_saysAs 38 = .ok (.aload_n 0, 1) := by decide +kernel
theorem dX3_saysAs_39 : decode cX3_saysAs 39 = .ok (.getfield 15, 3) := by decide +kernel
theorem dX3_saysAs_42 : decode cX3_saysAs 42 = .ok (.arraylength, 1) := by decide +kernel
theorem dX3_saysAs_43 : decode cX3_saysAs 43 = .ok (.ireturn, 1) := by decide +kernel
theorem dX3_countOf_0 : decode cX3_countOf 0 = .ok (.iconst 0, 1) := by decide +kernel
theorem dX3_countOf_1 : decode cX3_countOf 1 = .ok (.istore_n 2, 1) := by decide +kernel
theorem dX3_countOf_2 : decode cX3_countOf 2 = .ok (.iconst 0, 1) := by decide +kernel
theorem dX3_countOf_3 : decode cX3_countOf 3 = .ok (.istore_n 3, 1) := by decide +kernel
theorem dX3_countOf_4 : decode cX3_countOf 4 = .ok (.iload_n 3, 1) := by decide +kernel
theorem dX3_countOf_5 : decode cX3_countOf 5 = .ok (.aload_n 0, 1) := by decide +kernel
theorem dX3_countOf_6 : decode cX3_countOf 6 = .ok (.getfield 15, 3) := by decide +kernel
theorem dX3_countOf_9 : decode cX3_countOf 9 = .ok (.arraylength, 1) := by decide +kernel
theorem dX3_countOf_10 : decode cX3_countOf 10 = .ok (.if_icmp .ge 34, 3) := by decide +kernel
theorem dX3_countOf_13 : decode cX3_countOf 13 = .ok (.aload_n 0, 1) := by decide +kernel
theorem dX3_countOf_14 : decode cX3_countOf 14 = .ok (.getfield 15, 3) := by decide +kernel
theorem dX3_countOf_17 : decode cX3_countOf 17 = .ok (.iload_n 3, 1) := by decide +kernel
theorem dX3_countOf_18 : decode cX3_countOf 18 = .ok (.aaload, 1) := by decide +kernel
theorem dX3_countOf_19 : decode cX3_countOf 19 = .ok (.astore 4, 2) := by decide +kernel
theorem dX3_countOf_21 : decode cX3_countOf 21 = .ok (.aload 4, 2) := by decide +kernel
theorem dX3_countOf_23 : decode cX3_countOf 23 = .ok (.ifnull 15, 3) := by decide +kernel
theorem dX3_countOf_26 : decode cX3_countOf 26 = .ok (.aload 4, 2) := by decide +kernel
theorem dX3_countOf_28 : decode cX3_countOf 28 = .ok (.getfield 43, 3) := by decide +kernel
theorem dX3_countOf_31 : decode cX3_countOf 31 = .ok (.iload_n 1, 1) := by decide +kernel
theorem dX3_countOf_32 : decode cX3_countOf 32 = .ok (.if_icmp .ne 6, 3) := by decide +kernel
theorem dX3_countOf_35 : decode cX3_countOf 35 = .ok (.iinc 2 1, 3) := by decide +kernel
theorem dX3_countOf_38 : decode cX3_countOf 38 = .ok (.iinc 3 1, 3) := by decide +kernel
theorem dX3_countOf_41 : decode cX3_countOf 41 = .ok (.goto (-37), 3) := by decide +kernel
theorem dX3_countOf_44 : decode cX3_countOf 44 = .ok (.iload_n 2, 1) := by decide +kernel
theorem dX3_countOf_45 : decode cX3_countOf 45 = .ok (.ireturn, 1) := by decide +kernel
theorem dX3_keyBits_0 : decode cX3_keyBits 0 = .ok (.iconst 0, 1) := by decide +kernel
theorem dX3_keyBits_1 : decode cX3_keyBits 1 = .ok (.istore_n 2, 1) := by decide +kernel
theorem dX3_keyBits_2 : decode cX3_keyBits 2 = .ok (.iconst 0, 1) := by decide +kernel
theorem dX3_keyBits_3 : decode cX3_keyBits 3 = .ok (.istore_n 3, 1) := by decide +kernel
theorem dX3_keyBits_4 : decode cX3_keyBits 4 = .ok (.iload_n 3, 1) := by decide +kernel
theorem dX3_keyBits_5 : decode cX3_keyBits 5 = .ok (.aload_n 0, 1) := by decide +kernel
theorem dX3_keyBits_6 : decode cX3_keyBits 6 = .ok (.getfield 15, 3) := by decide +kernel
theorem dX3_keyBits_9 : decode cX3_keyBits 9 = .ok (.arraylength, 1) := by decide +kernel
theorem dX3_keyBits_10 : decode cX3_keyBits 10 = .ok (.if_icmp .ge 55, 3) := by decide +kernel
theorem dX3_keyBits_13 : decode cX3_keyBits 13 = .ok (.aload_n 0, 1) := by decide +kernel
theorem dX3_keyBits_14 : decode cX3_keyBits 14 = .ok (.getfield 15, 3) := by decide +kernel
theorem dX3_keyBits_17 : decode cX3_keyBits 17 = .ok (.iload_n 3, 1) := by decide +kernel
theorem dX3_keyBits_18 : decode cX3_keyBits 18 = .ok (.aaload, 1) := by decide +kernel
theorem dX3_keyBits_19 : decode cX3_keyBits 19 = .ok (.astore 4, 2) := by decide +kernel
theorem dX3_keyBits_21 : decode cX3_keyBits 21 = .ok (.aload 4, 2) := by decide +kernel
theorem dX3_keyBits_23 : decode cX3_keyBits 23 = .ok (.ifnonnull 7, 3) := by decide +kernel
theorem dX3_keyBits_26 : decode cX3_keyBits 26 = .ok (.iconst 0, 1) := by decide +kernel
theorem dX3_keyBits_27 : decode cX3_keyBits 27 = .ok (.goto 10, 3) := by decide +kernel
theorem dX3_keyBits_30 : decode cX3_keyBits 30 = .ok (.aload 4, 2) := by decide +kernel
theorem dX3_keyBits_32 : decode cX3_keyBits 32 = .ok (.getfield 48, 3) := by decide +kernel
theorem dX3_keyBits_35 : decode cX3_keyBits 35 = .ok (.iload_n 1, 1) := by decide +kernel
theorem dX3_keyBits_36 : decode cX3_keyBits 36 = .ok (.isub, 1) := by decide +kernel
theorem dX3_keyBits_37 : decode cX3_keyBits 37 = .ok (.istore 5, 2) := by decide +kernel
theorem dX3_keyBits_39 : decode cX3_keyBits 39 = .ok (.iload 5, 2) := by decide +kernel
theorem dX3_keyBits_41 : decode cX3_keyBits 41 = .ok (.iconst 1, 1) := by decide +kernel
theorem dX3_keyBits_42 : decode cX3_keyBits 42 = .ok (.if_icmp .lt 17, 3) := by decide +kernel
theorem dX3_keyBits_45 : decode cX3_keyBits 45 = .ok (.iload 5, 2) := by decide +kernel
theorem dX3_keyBits_47 : decode cX3_keyBits 47 = .ok (.bipush 30, 2) := by decide +kernel
theorem dX3_keyBits_49 : decode cX3_keyBits 49 = .ok (.if_icmp .gt 10, 3) := by decide +kernel
theorem dX3_keyBits_52 : decode cX3_keyBits 52 = .ok (.iload_n 2, 1) := by decide +kernel
theorem dX3_keyBits_53 : decode cX3_keyBits 53 = .ok (.iconst 1, 1) := by decide +kernel
theorem dX3_keyBits_54 : decode cX3_keyBits 54 = .ok (.iload 5, 2) := by decide +kernel
theorem dX3_keyBits_56 : decode cX3_keyBits 56 = .ok (.ishl, 1) := by decide +kernel
theorem dX3_keyBits_57 : decode cX3_keyBits 57 = .ok (.ior, 1) := by decide +kernel
theorem dX3_keyBits_58 : decode cX3_keyBits 58 = .ok (.istore_n 2, 1) := by decide +kernel
theorem dX3_keyBits_59 : decode cX3_keyBits 59 = .ok (.iinc 3 1, 3) := by decide +kernel
theorem dX3_keyBits_62 : decode cX3_keyBits 62 = .ok (.goto (-58), 3) := by decide +kernel
theorem dX3_keyBits_65 : decode cX3_keyBits 65 = .ok (.iload_n 2, 1) := by decide +kernel
theorem dX3_keyBits_66 : decode cX3_keyBits 66 = .ok (.ireturn, 1) := by decide +kernel
theorem dX3_conflictCount_0 : decode cX3_conflictCount 0 = .ok (.aload_n 0, 1) := by decide +kernel
theorem dX3_conflictCount_1 : decode cX3_conflictCount 1 = .ok (.getfield 25, 3) := by decide +kernel
theorem dX3_conflictCount_4 : decode cX3_conflictCount 4 = .ok (.arraylength, 1) := by decide +kernel
theorem dX3_conflictCount_5 : decode cX3_conflictCount 5 = .ok (.iconst 2, 1) := by decide +kernel
theorem dX3_conflictCount_6 : decode cX3_conflictCount 6 = .ok (.idiv, 1) := by decide +kernel
theorem dX3_conflictCount_7 : decode cX3_conflictCount 7 = .ok (.ireturn, 1) := by decide +kernel
theorem dX3_conflictAt_0 : decode cX3_conflictAt 0 = .ok (.iconst 2, 1) := by decide +kernel
theorem dX3_conflictAt_1 : decode cX3_conflictAt 1 = .ok (.iload_n 1, 1) := by decide +kernel
theorem dX3_conflictAt_2 : decode cX3_conflictAt 2 = .ok (.imul, 1) := by decide +kernel
theorem dX3_conflictAt_3 : decode cX3_conflictAt 3 = .ok (.iload_n 2, 1) := by decide +kernel
theorem dX3_conflictAt_4 : decode cX3_conflictAt 4 = .ok (.iadd, 1) := by decide +kernel
theorem dX3_conflictAt_5 : decode cX3_conflictAt 5 = .ok (.istore_n 3, 1) := by decide +kernel
theorem dX3_conflictAt_6 : decode cX3_conflictAt 6 = .ok (.iload_n 3, 1) := by decide +kernel
theorem dX3_conflictAt_7 : decode cX3_conflictAt 7 = .ok (.ifCond .lt 21, 3) := by decide +kernel
theorem dX3_conflictAt_10 : decode cX3_conflictAt 10 = .ok (.iload_n 3, 1) := by decide +kernel
theorem dX3_conflictAt_11 : decode cX3_conflictAt 11 = .ok (.aload_n 0, 1) := by decide +kernel
theorem dX3_conflictAt_12 : decode cX3_conflictAt 12 = .ok (.getfield 25, 3) := by decide +kernel
theorem dX3_conflictAt_15 : decode cX3_conflictAt 15 = .ok (.arraylength, 1) := by decide +kernel
theorem dX3_conflictAt_16 : decode cX3_conflictAt 16 = .ok (.if_icmp .ge 12, 3) := by decide +kernel
theorem dX3_conflictAt_19 : decode cX3_conflictAt 19 = .ok (.aload_n 0, 1) := by decide +kernel
theorem dX3_conflictAt_20 : decode cX3_conflictAt 20 = .ok (.getfield 25, 3) := by decide +kernel
theorem dX3_conflictAt_23 : decode cX3_conflictAt 23 = .ok (.iload_n 3, 1) := by decide +kernel
theorem dX3_conflictAt_24 : decode cX3_conflictAt 24 = .ok (.iaload, 1) := by decide +kernel
theorem dX3_conflictAt_25 : decode cX3_conflictAt 25 = .ok (.goto 4, 3) := by decide +kernel
theorem dX3_conflictAt_28 : decode cX3_conflictAt 28 = .ok (.iconst 0, 1) := by decide +kernel
theorem dX3_conflictAt_29 : decode cX3_conflictAt 29 = .ok (.ireturn, 1) := by decide +kernel
theorem dX3_changeUntilMisfit_0 : decode cX3_changeUntilMisfit 0 = .ok (.iconst 0, 1) := by decide +kernel
theorem dX3_changeUntilMisfit_1 : decode cX3_changeUntilMisfit 1 = .ok (.istore_n 2, 1) := by decide +kernel
theorem dX3_changeUntilMisfit_2 : decode cX3_changeUntilMisfit 2 = .ok (.iload_n 2, 1) := by decide +kernel
theorem dX3_changeUntilMisfit_3 : decode cX3_changeUntilMisfit 3 = .ok (.aload_n 0, 1) := by decide +kernel
theorem dX3_changeUntilMisfit_4 : decode cX3_changeUntilMisfit 4 = .ok (.getfield 15, 3) := by decide +kernel
theorem dX3_changeUntilMisfit_7 : decode cX3_changeUntilMisfit 7 = .ok (.arraylength, 1) := by decide +kernel
theorem dX3_changeUntilMisfit_8 : decode cX3_changeUntilMisfit 8 = .ok (.if_icmp .ge 35, 3) := by decide +kernel
theorem dX3_changeUntilMisfit_11 : decode cX3_changeUntilMisfit 11 = .ok (.aload_n 0, 1) := by decide +kernel
theorem dX3_changeUntilMisfit_12 : decode cX3_changeUntilMisfit 12 = .ok (.getfield 15, 3) := by decide +kernel
theorem dX3_changeUntilMisfit_15 : decode cX3_changeUntilMisfit 15 = .ok (.iload_n 2, 1) := by decide +kernel
theorem dX3_changeUntilMisfit_16 : decode cX3_changeUntilMisfit 16 = .ok (.aaload, 1) := by decide +kernel
theorem dX3_changeUntilMisfit_17 : decode cX3_changeUntilMisfit 17 = .ok (.astore_n 3, 1) := by decide +kernel
theorem dX3_changeUntilMisfit_18 : decode cX3_changeUntilMisfit 18 = .ok (.aload_n 3, 1) := by decide +kernel
theorem dX3_changeUntilMisfit_19 : decode cX3_changeUntilMisfit 19 = .ok (.ifnull 11, 3) := by decide +kernel
theorem dX3_changeUntilMisfit_22 : decode cX3_changeUntilMisfit 22 = .ok (.aload_n 3, 1) := by decide +kernel
theorem dX3_changeUntilMisfit_23 : decode cX3_changeUntilMisfit 23 = .ok (.aload_n 1, 1) := by decide +kernel
theorem dX3_changeUntilMisfit_24 : decode cX3_changeUntilMisfit 24 = .ok (.invokevirtual 51, 3) := by decide +kernel
theorem dX3_changeUntilMisfit_27 : decode cX3_changeUntilMisfit 27 = .ok (.ifCond .ne 5, 3) := by decide +kernel
theorem dX3_changeUntilMisfit_30 : decode cX3_changeUntilMisfit 30 = .ok (.iload_n 2, 1) := by decide +kernel
theorem dX3_changeUntilMisfit_31 : decode cX3_changeUntilMisfit 31 = .ok (.ireturn, 1) := by decide +kernel
theorem dX3_changeUntilMisfit_32 : decode cX3_changeUntilMisfit 32 = .ok (.aload_n 3, 1) := by decide +kernel
theorem dX3_changeUntilMisfit_33 : decode cX3_changeUntilMisfit 33 = .ok (.aload_n 1, 1) := by decide +kernel
theorem dX3_changeUntilMisfit_34 : decode cX3_changeUntilMisfit 34 = .ok (.invokevirtual 55, 3) := by decide +kernel
theorem dX3_changeUntilMisfit_37 : decode cX3_changeUntilMisfit 37 = .ok (.iinc 2 1, 3) := by decide +kernel
theorem dX3_changeUntilMisfit_40 : decode cX3_changeUntilMisfit 40 = .ok (.goto (-38), 3) := by decide +kernel
theorem dX3_changeUntilMisfit_43 : decode cX3_changeUntilMisfit 43 = .ok (.iconst (-1), 1) := by decide +kernel
theorem dX3_changeUntilMisfit_44 : decode cX3_changeUntilMisfit 44 = .ok (.ireturn, 1) := by decide +kernel
theorem dX4_init_0 : decode cX4_init 0 = .ok (.aload_n 0, 1) := by decide +kernel
theorem dX4_init_1 : decode cX4_init 1 = .ok (.invokespecial 3, 3) := by decide +kernel
theorem dX4_init_4 : decode cX4_init 4 = .ok (.aload_n 0, 1) := by decide +kernel
theorem dX4_init_5 : decode cX4_init 5 = .ok (.new 9, 3) := by decide +kernel
theorem dX4_init_8 : decode cX4_init 8 = .ok (.dup, 1) := by decide +kernel
theorem dX4_init_9 : decode cX4_init 9 = .ok (.invokespecial 11, 3) := by decide +kernel
theorem dX4_init_12 : decode cX4_init 12 = .ok (.putfield 12, 3) := by decide +kernel
theorem dX4_init_15 : decode cX4_init 15 = .ok (.aload_n 0, 1) := by decide +kernel
theorem dX4_init_16 : decode cX4_init 16 = .ok (.iconst 0, 1) := by decide +kernel
theorem dX4_init_17 : decode cX4_init 17 = .ok (.putfield 18, 3) := by decide +kernel
theorem dX4_init_20 : decode cX4_init 20 = .ok (.aload_n 0, 1) := by decide +kernel
theorem dX4_init_21 : decode cX4_init 21 = .ok (.iconst 0, 1) := by decide +kernel
theorem dX4_init_22 : decode cX4_init 22 = .ok (.putfield 22, 3) := by decide +kernel
theorem dX4_init_25 : decode cX4_init 25 = .ok (.aload_n 0, 1) := by decide +kernel
theorem dX4_init_26 : decode cX4_init 26 = .ok (.aload_n 1, 1) := by decide +kernel
theorem dX4_init_27 : decode cX4_init 27 = .ok (.putfield 25, 3) := by decide +kernel
theorem dX4_init_30 : decode cX4_init 30 = .ok (.return_, 1) := by decide +kernel
theorem dX4_read_0 : decode cX4_read 0 = .ok (.aload_n 0, 1) := by decide +kernel
theorem dX4_read_1 : decode cX4_read 1 = .ok (.getfield 25, 3) := by decide +kernel
theorem dX4_read_4 : decode cX4_read 4 = .ok (.invokevirtual 29, 3) := by decide +kernel
theorem dX4_read_7 : decode cX4_read 7 = .ok (.istore_n 1, 1) := by decide +kernel
theorem dX4_read_8 : decode cX4_read 8 = .ok (.iconst 0, 1) := by decide +kernel
theorem dX4_read_9 : decode cX4_read 9 = .ok (.istore_n 2, 1) := by decide +kernel
theorem dX4_read_10 : decode cX4_read 10 = .ok (.iconst 0, 1) := by decide +kernel
theorem dX4_read_11 : decode cX4_read 11 = .ok (.istore_n 3, 1) := by decide +kernel
theorem dX4_read_12 : decode cX4_read 12 = .ok (.iload_n 3, 1) := by decide +kernel
theorem dX4_read_13 : decode cX4_read 13 = .ok (.iload_n 1, 1) := by decide +kernel
theorem dX4_read_14 : decode cX4_read 14 = .ok (.if_icmp .ge 57, 3) := by decide +kernel
theorem dX4_read_17 : decode cX4_read 17 = .ok (.aload_n 0, 1) := by decide +kernel
theorem dX4_read_18 : decode cX4_read 18 = .ok (.getfield 18, 3) := by decide +kernel
theorem dX4_read_21 : decode cX4_read 21 = .ok (.iload_n 1, 1) := by decide +kernel
theorem dX4_read_22 : decode cX4_read 22 = .ok (.if_icmp .ge 49, 3) := by decide +kernel
theorem dX4_read_25 : decode cX4_read 25 = .ok (.iload_n 2, 1) := by decide +kernel
theorem dX4_read_26 : decode cX4_read 26 = .ok (.ifCond .ne 23, 3) := by decide +kernel
theorem dX4_read_29 : decode cX4_read 29 = .ok (.aload_n 0, 1) := by decide +kernel
theorem dX4_read_30 : decode cX4_read 30 = .ok (.invokevirtual 35, 3) := by decide +kernel
theorem dX4_read_33 : decode cX4_read 33 = .ok (.istore 4, 2) := by decide +kernel
theorem dX4_read_35 : decode cX4_read 35 = .ok (.iload 4, 2) := by decide +kernel
theorem dX4_read_37 : decode cX4_read 37 = .ok (.iconst (-1), 1) := by decide +kernel
theorem dX4_read_38 : decode cX4_read 38 = .ok (.if_icmp .eq 6, 3) := by decide +kernel
theorem dX4_read_41 : decode cX4_read 41 = .ok (.iload 4, 2) := by decide +kernel
theorem dX4_read_43 : decode cX4_read 43 = .ok (.ireturn, 1) := by decide +kernel
theorem dX4_read_44 : decode cX4_read 44 = .ok (.iconst 1, 1) := by decide +kernel
theorem dX4_read_45 : decode cX4_read 45 = .ok (.istore_n 2, 1) := by decide +kernel
theorem dX4_read_46 : decode cX4_read 46 = .ok (.goto 19, 3) := by decide +kernel
theorem dX4_read_49 : decode cX4_read 49 = .ok (.aload_n 0, 1) := by decide +kernel
theorem dX4_read_50 : decode cX4_read 50 = .ok (.iload_n 2, 1) := by decide +kernel
theorem dX4_read_51 : decode cX4_read 51 = .ok (.invokevirtual 38, 3) := by decide +kernel
theorem dX4_read_54 : decode cX4_read 54 = .ok (.istore_n 2, 1) := by decide +kernel
theorem dX4_read_55 : decode cX4_read 55 = .ok (.iload_n 2, 1) := by decide +kernel
theorem dX4_read_56 : decode cX4_read 56 = .ok (.iconst (-1), 1) := by decide +kernel
theorem dX4_read_57 : decode cX4_read 57 = .ok (.if_icmp .ne 8, 3) := by decide +kernel
theorem dX4_read_60 : decode cX4_read 60 = .ok (.aload_n 0, 1) := by decide +kernel
theorem dX4_read_61 : decode cX4_read 61 = .ok (.getfield 18, 3) := by decide +kernel
theorem dX4_read_64 : decode cX4_read 64 = .ok (.ireturn, 1) := by decide +kernel
theorem dX4_read_65 : decode cX4_read 65 = .ok (.iinc 3 1, 3) := by decide +kernel
theorem dX4_read_68 : decode cX4_read 68 = .ok (.goto (-56), 3) := by decide +kernel
theorem dX4_read_71 : decode cX4_read 71 = .ok (.iload_n 2, 1) := by decide +kernel
theorem dX4_read_72 : decode cX4_read 72 = .ok (.ifCond .eq 14, 3) := by decide +kernel
theorem dX4_read_75 : decode cX4_read 75 = .ok (.aload_n 0, 1) := by decide +kernel
theorem dX4_read_76 : decode cX4_read 76 = .ok (.getfield 22, 3) := by decide +kernel
theorem dX4_read_79 : decode cX4_read 79 = .ok (.ifCond .ne 7, 3) := by decide +kernel
theorem dX4_read_82 : decode cX4_read 82 = .ok (.iconst (-1), 1) := by decide +kernel
theorem dX4_read_83 : decode cX4_read 83 = .ok (.goto 4, 3) := by decide +kernel
theorem dX4_read_86 : decode cX4_read 86 = .ok (.iload_n 1, 1) := by decide +kernel
theorem dX4_read_87 : decode cX4_read 87 = .ok (.ireturn, 1) := by decide +kernel
theorem dX4_readSign_0 : decode cX4_readSign 0 = .ok (.aload_n 0, 1) := by decide +kernel
theorem dX4_readSign_1 : decode cX4_readSign 1 = .ok (.getfield 25, 3) := by decide +kernel
theorem dX4_readSign_4 : decode cX4_readSign 4 = .ok (.aload_n 0, 1) := by decide +kernel
theorem dX4_readSign_5 : decode cX4_readSign 5 = .ok (.getfield 18, 3) := by decide +kernel
theorem dX4_readSign_8 : decode cX4_readSign 8 = .ok (.invokevirtual 42, 3) := by decide +kernel
theorem dX4_readSign_11 : decode cX4_readSign 11 = .ok (.istore_n 2, 1) := by decide +kernel
theorem dX4_readSign_12 : decode cX4_readSign 12 = .ok (.iload_n 2, 1) := by decide +kernel
theorem dX4_readSign_13 : decode cX4_readSign 13 = .ok (.bipush 40, 2) := by decide +kernel
theorem dX4_readSign_15 : decode cX4_readSign 15 = .ok (.if_icmp .ne 30, 3) := by decide +kernel
theorem dX4_readSign_18 : decode cX4_readSign 18 = .ok (.iload_n 1, 1) := by decide +kernel
theorem dX4_readSign_19 : decode cX4_readSign 19 = .ok (.iconst 1, 1) := by decide +kernel
theorem dX4_readSign_20 : decode cX4_readSign 20 = .ok (.if_icmp .ne 25, 3) := by decide +kernel
theorem dX4_readSign_23 : decode cX4_readSign 23 = .ok (.aload_n 0, 1) := by decide +kernel
theorem dX4_readSign_24 : decode cX4_readSign 24 = .ok (.dup, 1) := by decide +kernel
theorem dX4_readSign_25 : decode cX4_readSign 25 = .ok (.getfield 22, 3) := by decide +kernel
theorem dX4_readSign_28 : decode cX4_readSign 28 = .ok (.iconst 1, 1) := by decide +kernel
theorem dX4_readSign_29 : decode cX4_readSign 29 = .ok (.iadd, 1) := by decide +kernel
theorem dX4_readSign_30 : decode cX4_readSign 30 = .ok (.putfield 22, 3) := by decide +kernel
theorem dX4_readSign_33 : decode cX4_readSign 33 = .ok (.aload_n 0, 1) := by decide +kernel
theorem dX4_readSign_34 : decode cX4_readSign 34 = .ok (.dup, 1) := by decide +kernel
theorem dX4_readSign_35 : decode cX4_readSign 35 = .ok (.getfield 18, 3) := by decide +kernel
theorem dX4_readSign_38 : decode cX4_readSign 38 = .ok (.iconst 1, 1) := by decide +kernel
theorem dX4_readSign_39 : decode cX4_readSign 39 = .ok (.iadd, 1) := by decide +kernel
theorem dX4_readSign_40 : decode cX4_readSign 40 = .ok (.putfield 18, 3) := by decide +kernel
theorem dX4_readSign_43 : decode cX4_readSign 43 = .ok (.iconst 0, 1) := by decide +kernel
theorem dX4_readSign_44 : decode cX4_readSign 44 = .ok (.ireturn, 1) := by decide +kernel
theorem dX4_readSign_45 : decode cX4_readSign 45 = .ok (.iload_n 2, 1) := by decide +kernel
theorem dX4_readSign_46 : decode cX4_readSign 46 = .ok (.bipush 44, 2) := by decide +kernel
theorem dX4_readSign_48 : decode cX4_readSign 48 = .ok (.if_icmp .ne 22, 3) := by decide +kernel
theorem dX4_readSign_51 : decode cX4_readSign 51 = .ok (.aload_n 0, 1) := by decide +kernel
theorem dX4_readSign_52 : decode cX4_readSign 52 = .ok (.getfield 22, 3) := by decide +kernel
theorem dX4_readSign_55 : decode cX4_readSign 55 = .ok (.ifCond .le 15, 3) := by decide +kernel
theorem dX4_readSign_58 : decode cX4_readSign 58 = .ok (.aload_n 0, 1) := by decide +kernel
theorem dX4_readSign_59 : decode cX4_readSign 59 = .ok (.dup, 1) := by decide +kernel
theorem dX4_readSign_60 : decode cX4_readSign 60 = .ok (.getfield 18, 3) := by decide +kernel
theorem dX4_readSign_63 : decode cX4_readSign 63 = .ok (.iconst 1, 1) := by decide +kernel
theorem dX4_readSign_64 : decode cX4_readSign 64 = .ok (.iadd, 1) := by decide +kernel
theorem dX4_readSign_65 : decode cX4_readSign 65 = .ok (.putfield 18, 3) := by decide +kernel
theorem dX4_readSign_68 : decode cX4_readSign 68 = .ok (.iconst 0, 1) := by decide +kernel
theorem dX4_readSign_69 : decode cX4_readSign 69 = .ok (.ireturn, 1) := by decide +kernel
theorem dX4_readSign_70 : decode cX4_readSign 70 = .ok (.iload_n 2, 1) := by decide +kernel
theorem dX4_readSign_71 : decode cX4_readSign 71 = .ok (.bipush 41, 2) := by decide +kernel
theorem dX4_readSign_73 : decode cX4_readSign 73 = .ok (.if_icmp .ne 32, 3) := by decide +kernel
theorem dX4_readSign_76 : decode cX4_readSign 76 = .ok (.aload_n 0, 1) := by decide +kernel
theorem dX4_readSign_77 : decode cX4_readSign 77 = .ok (.getfield 22, 3) := by decide +kernel
theorem dX4_readSign_80 : decode cX4_readSign 80 = .ok (.ifCond .le 25, 3) := by decide +kernel
theorem dX4_readSign_83 : decode cX4_readSign 83 = .ok (.aload_n 0, 1) := by decide +kernel
theorem dX4_readSign_84 : decode cX4_readSign 84 = .ok (.dup, 1) := by decide +kernel
theorem dX4_readSign_85 : decode cX4_readSign 85 = .ok (.getfield 22, 3) := by decide +kernel
theorem dX4_readSign_88 : decode cX4_readSign 88 = .ok (.iconst 1, 1) := by decide +kernel
theorem dX4_readSign_89 : decode cX4_readSign 89 = .ok (.isub, 1) := by decide +kernel
theorem dX4_readSign_90 : decode cX4_readSign 90 = .ok (.putfield 22, 3) := by decide +kernel
theorem dX4_readSign_93 : decode cX4_readSign 93 = .ok (.aload_n 0, 1) := by decide +kernel
theorem dX4_readSign_94 : decode cX4_readSign 94 = .ok (.dup, 1) := by decide +kernel
theorem dX4_readSign_95 : decode cX4_readSign 95 = .ok (.getfield 18, 3) := by decide +kernel
theorem dX4_readSign_98 : decode cX4_readSign 98 = .ok (.iconst 1, 1) := by decide +kernel
theorem dX4_readSign_99 : decode cX4_readSign 99 = .ok (.iadd, 1) := by decide +kernel
theorem dX4_readSign_100 : decode cX4_readSign 100 = .ok (.putfield 18, 3) := by decide +kernel
theorem dX4_readSign_103 : decode cX4_readSign 103 = .ok (.iconst 2, 1) := by decide +kernel
theorem dX4_readSign_104 : decode cX4_readSign 104 = .ok (.ireturn, 1) := by decide +kernel
theorem dX4_readSign_105 : decode cX4_readSign 105 = .ok (.iconst (-1), 1) := by decide +kernel
theorem dX4_readSign_106 : decode cX4_readSign 106 = .ok (.ireturn, 1) := by decide +kernel
theorem dX4_readNode_0 : decode cX4_readNode 0 = .ok (.aload_n 0, 1) := by decide +kernel
theorem dX4_readNode_1 : decode cX4_readNode 1 = .ok (.getfield 25, 3) := by decide +kernel
theorem dX4_readNode_4 : decode cX4_readNode 4 = .ok (.aload_n 0, 1) := by decide +kernel
theorem dX4_readNode_5 : decode cX4_readNode 5 = .ok (.getfield 18, 3) := by decide +kernel
theorem dX4_readNode_8 : decode cX4_readNode 8 = .ok (.invokevirtual 42, 3) := by decide +kernel
theorem dX4_readNode_11 : decode cX4_readNode 11 = .ok (.istore_n 1, 1) := by decide +kernel
theorem dX4_readNode_12 : decode cX4_readNode 12 = .ok (.iload_n 1, 1) := by decide +kernel
theorem dX4_readNode_13 : decode cX4_readNode 13 = .ok (.invokestatic 45, 3) := by decide +kernel
theorem dX4_readNode_16 : decode cX4_readNode 16 = .ok (.ifCond .eq 15, 3) := by decide +kernel
theorem dX4_readNode_19 : decode cX4_readNode 19 = .ok (.aload_n 0, 1) := by decide +kernel
theorem dX4_readNode_20 : decode cX4_readNode 20 = .ok (.getfield 12, 3) := by decide +kernel
theorem dX4_readNode_23 : decode cX4_readNode 23 = .ok (.getfield 49, 3) := by decide +kernel
theorem dX4_readNode_26 : decode cX4_readNode 26 = .ok (.bipush 40, 2) := by decide +kernel
theorem dX4_readNode_28 : decode cX4_readNode 28 = .ok (.if_icmp .lt 8, 3) := by decide +kernel
theorem dX4_readNode_31 : decode cX4_readNode 31 = .ok (.aload_n 0, 1) := by decide +kernel
theorem dX4_readNode_32 : decode cX4_readNode 32 = .ok (.getfield 18, 3) := by decide +kernel
theorem dX4_readNode_35 : decode cX4_readNode 35 = .ok (.ireturn, 1) := by decide +kernel
theorem dX4_readNode_36 : decode cX4_readNode 36 = .ok (.aload_n 0, 1) := by decide +kernel
theorem dX4_readNode_37 : decode cX4_readNode 37 = .ok (.getfield 18, 3) := by decide +kernel
theorem dX4_readNode_40 : decode cX4_readNode 40 = .ok (.iconst 1, 1) := by decide +kernel
theorem dX4_readNode_41 : decode cX4_readNode 41 = .ok (.iadd, 1) := by decide +kernel
theorem dX4_readNode_42 : decode cX4_readNode 42 = .ok (.istore_n 2, 1) := by decide +kernel
theorem dX4_readNode_43 : decode cX4_readNode 43 = .ok (.aload_n 0, 1) := by decide +kernel
theorem dX4_readNode_44 : decode cX4_readNode 44 = .ok (.iload_n 2, 1) := by decide +kernel
theorem dX4_readNode_45 : decode cX4_readNode 45 = .ok (.invokevirtual 52, 3) := by decide +kernel
theorem dX4_readNode_48 : decode cX4_readNode 48 = .ok (.ifCond .ne 5, 3) := by decide +kernel
theorem dX4_readNode_51 : decode cX4_readNode 51 = .ok (.iload_n 2, 1) := by decide +kernel
theorem dX4_readNode_52 : decode cX4_readNode 52 = .ok (.ireturn, 1) := by decide +kernel
theorem dX4_readNode_53 : decode cX4_readNode 53 = .ok (.aload_n 0, 1) := by decide +kernel
theorem dX4_readNode_54 : decode cX4_readNode 54 = .ok (.getfield 25, 3) := by decide +kernel
theorem dX4_readNode_57 : decode cX4_readNode 57 = .ok (.iload_n 2, 1) := by decide +kernel
theorem dX4_readNode_58 : decode cX4_readNode 58 = .ok (.invokevirtual 42, 3) := by decide +kernel
theorem dX4_readNode_61 : decode cX4_readNode 61 = .ok (.bipush 48, 2) := by decide +kernel
theorem dX4_readNode_63 : decode cX4_readNode 63 = .ok (.isub, 1) := by decide +kernel
theorem dX4_readNode_64 : decode cX4_readNode 64 = .ok (.istore_n 3, 1) := by decide +kernel
theorem dX4_readNode_65 : decode cX4_readNode 65 = .ok (.aload_n 0, 1) := by decide +kernel
theorem dX4_readNode_66 : decode cX4_readNode 66 = .ok (.iload_n 2, 1) := by decide +kernel
theorem dX4_readNode_67 : decode cX4_readNode 67 = .ok (.iconst 1, 1) := by decide +kernel
theorem dX4_readNode_68 : decode cX4_readNode 68 = .ok (.iadd, 1) := by decide +kernel
theorem dX4_readNode_69 : decode cX4_readNode 69 = .ok (.putfield 18, 3) := by decide +kernel
theorem dX4_readNode_72 : decode cX4_readNode 72 = .ok (.aload_n 0, 1) := by decide +kernel
theorem dX4_readNode_73 : decode cX4_readNode 73 = .ok (.aload_n 0, 1) := by decide +kernel
theorem dX4_readNode_74 : decode cX4_readNode 74 = .ok (.getfield 18, 3) := by decide +kernel
theorem dX4_readNode_77 : decode cX4_readNode 77 = .ok (.invokevirtual 52, 3) := by decide +kernel
theorem dX4_readNode_80 : decode cX4_readNode 80 = .ok (.ifCond .eq 33, 3) := by decide +kernel
theorem dX4_readNode_83 : decode cX4_readNode 83 = .ok (.bipush 10, 2) := by decide +kernel
theorem dX4_readNode_85 : decode cX4_readNode 85 = .ok (.iload_n 3, 1) := by decide +kernel
theorem dX4_readNode_86 : decode cX4_readNode 86 = .ok (.imul, 1) := by decide +kernel
theorem dX4_readNode_87 : decode cX4_readNode 87 = .ok (.aload_n 0, 1) := by decide +kernel
theorem dX4_readNode_88 : decode cX4_readNode 88 = .ok (.getfield 25, 3) := by decide +kernel
theorem dX4_readNode_91 : decode cX4_readNode 91 = .ok (.aload_n 0, 1) := by decide +kernel
theorem dX4_readNode_92 : decode cX4_readNode 92 = .ok (.getfield 18, 3) := by decide +kernel
theorem dX4_readNode_95 : decode cX4_readNode 95 = .ok (.invokevirtual 42, 3) := by decide +kernel
theorem dX4_readNode_98 : decode cX4_readNode 98 = .ok (.iadd, 1) := by decide +kernel
theorem dX4_readNode_99 : decode cX4_readNode 99 = .ok (.bipush 48, 2) := by decide +kernel
theorem dX4_readNode_101 : decode cX4_readNode 101 = .ok (.isub, 1) := by decide +kernel
theorem dX4_readNode_102 : decode cX4_readNode 102 = .ok (.istore_n 3, 1) := by decide +kernel
theorem dX4_readNode_103 : decode cX4_readNode 103 = .ok (.aload_n 0, 1) := by decide +kernel
theorem dX4_readNode_104 : decode cX4_readNode 104 = .ok (.dup, 1) := by decide +kernel
theorem dX4_readNode_105 : decode cX4_readNode 105 = .ok (.getfield 18, 3) := by decide +kernel
theorem dX4_readNode_108 : decode cX4_readNode 108 = .ok (.iconst 1, 1) := by decide +kernel
theorem dX4_readNode_109 : decode cX4_readNode 109 = .ok (.iadd, 1) := by decide +kernel
theorem dX4_readNode_110 : decode cX4_readNode 110 = .ok (.putfield 18, 3) := by decide +kernel
theorem dX4_readNode_113 : decode cX4_readNode 113 = .ok (.iload_n 3, 1) := by decide +kernel
theorem dX4_readNode_114 : decode cX4_readNode 114 = .ok (.iconst 1, 1) := by decide +kernel
theorem dX4_readNode_115 : decode cX4_readNode 115 = .ok (.if_icmp .lt 21, 3) := by decide +kernel
theorem dX4_readNode_118 : decode cX4_readNode 118 = .ok (.iload_n 3, 1) := by decide +kernel
theorem dX4_readNode_119 : decode cX4_readNode 119 = .ok (.bipush 60, 2) := by decide +kernel
theorem dX4_readNode_121 : decode cX4_readNode 121 = .ok (.if_icmp .gt 15, 3) := by decide +kernel
theorem dX4_readNode_124 : decode cX4_readNode 124 = .ok (.aload_n 0, 1) := by decide +kernel
theorem dX4_readNode_125 : decode cX4_readNode 125 = .ok (.getfield 12, 3) := by decide +kernel
theorem dX4_readNode_128 : decode cX4_readNode 128 = .ok (.iload_n 3, 1) := by decide +kernel
theorem dX4_readNode_129 : decode cX4_readNode 129 = .ok (.invokevirtual 55, 3) := by decide +kernel
theorem dX4_readNode_132 : decode cX4_readNode 132 = .ok (.iconst (-1), 1) := by decide +kernel
theorem dX4_readNode_133 : decode cX4_readNode 133 = .ok (.if_icmp .eq 5, 3) := by decide +kernel
theorem dX4_readNode_136 : decode cX4_readNode 136 = .ok (.iload_n 2, 1) := by decide +kernel
theorem dX4_readNode_137 : decode cX4_readNode 137 = .ok (.ireturn, 1) := by decide +kernel
theorem dX4_readNode_138 : decode cX4_readNode 138 = .ok (.aload_n 0, 1) := by decide +kernel
theorem dX4_readNode_139 : decode cX4_readNode 139 = .ok (.getfield 12, 3) := by decide +kernel
theorem dX4_readNode_142 : decode cX4_readNode 142 = .ok (.aload_n 0, 1) := by decide +kernel
theorem dX4_readNode_143 : decode cX4_readNode 143 = .ok (.getfield 12, 3) := by decide +kernel
theorem dX4_readNode_146 : decode cX4_readNode 146 = .ok (.getfield 49, 3) := by decide +kernel
theorem dX4_readNode_149 : decode cX4_readNode 149 = .ok (.iload_n 3, 1) := by decide +kernel
theorem dX4_readNode_150 : decode cX4_readNode 150 = .ok (.iload_n 1, 1) := by decide +kernel
theorem dX4_readNode_151 : decode cX4_readNode 151 = .ok (.aload_n 0, 1) := by decide +kernel
theorem dX4_readNode_152 : decode cX4_readNode 152 = .ok (.getfield 22, 3) := by decide +kernel
theorem dX4_readNode_155 : decode cX4_readNode 155 = .ok (.invokevirtual 58, 3) := by decide +kernel
theorem dX4_readNode_158 : decode cX4_readNode 158 = .ok (.iconst (-1), 1) := by decide +kernel
theorem dX4_readNode_159 : decode cX4_readNode 159 = .ok (.ireturn, 1) := by decide +kernel
theorem dX4_isDigit_0 : decode cX4_isDigit 0 = .ok (.aload_n 0, 1) := by decide +kernel
theorem dX4_isDigit_1 : decode cX4_isDigit 1 = .ok (.getfield 25, 3) := by decide +kernel
theorem dX4_isDigit_4 : decode cX4_isDigit 4 = .ok (.iload_n 1, 1) := by decide +kernel
theorem dX4_isDigit_5 : decode cX4_isDigit 5 = .ok (.invokevirtual 42, 3) := by decide +kernel
theorem dX4_isDigit_8 : decode cX4_isDigit 8 = .ok (.istore_n 2, 1) := by decide +kernel
theorem dX4_isDigit_9 : decode cX4_isDigit 9 = .ok (.iload_n 2, 1) := by decide +kernel
theorem dX4_isDigit_10 : decode cX4_isDigit 10 = .ok (.bipush 48, 2) := by decide +kernel
theorem dX4_isDigit_12 : decode cX4_isDigit 12 = .ok (.if_icmp .lt 13, 3) := by decide +kernel
theorem dX4_isDigit_15 : decode cX4_isDigit 15 = .ok (.iload_n 2, 1) := by decide +kernel
theorem dX4_isDigit_16 : decode cX4_isDigit 16 = .ok (.bipush 57, 2) := by decide +kernel
theorem dX4_isDigit_18 : decode cX4_isDigit 18 = .ok (.if_icmp .gt 7, 3) := by decide +kernel
theorem dX4_isDigit_21 : decode cX4_isDigit 21 = .ok (.iconst 1, 1) := by decide +kernel
theorem dX4_isDigit_22 : decode cX4_isDigit 22 = .ok (.goto 4, 3) := by decide +kernel
theorem dX4_isDigit_25 : decode cX4_isDigit 25 = .ok (.iconst 0, 1) := by decide +kernel
theorem dX4_isDigit_26 : decode cX4_isDigit 26 = .ok (.ireturn, 1) := by decide +kernel
theorem dX5_init_0 : decode cX5_init 0 = .ok (.aload_n 0, 1) := by decide +kernel
theorem dX5_init_1 : decode cX5_init 1 = .ok (.invokespecial 3, 3) := by decide +kernel
theorem dX5_init_4 : decode cX5_init 4 = .ok (.aload_n 0, 1) := by decide +kernel
theorem dX5_init_5 : decode cX5_init 5 = .ok (.iload_n 1, 1) := by decide +kernel
theorem dX5_init_6 : decode cX5_init 6 = .ok (.putfield 9, 3) := by decide +kernel
theorem dX5_init_9 : decode cX5_init 9 = .ok (.aload_n 0, 1) := by decide +kernel
theorem dX5_init_10 : decode cX5_init 10 = .ok (.iload_n 2, 1) := by decide +kernel
theorem dX5_init_11 : decode cX5_init 11 = .ok (.ifCond .ge 7, 3) := by decide +kernel
theorem dX5_init_14 : decode cX5_init 14 = .ok (.iconst 0, 1) := by decide +kernel
theorem dX5_init_15 : decode cX5_init 15 = .ok (.goto 4, 3) := by decide +kernel
theorem dX5_init_18 : decode cX5_init 18 = .ok (.iload_n 2, 1) := by decide +kernel
theorem dX5_init_19 : decode cX5_init 19 = .ok (.newarray .long, 2) := by decide +kernel
theorem dX5_init_21 : decode cX5_init 21 = .ok (.putfield 15, 3) := by decide +kernel
theorem dX5_init_24 : decode cX5_init 24 = .ok (.return_, 1) := by decide +kernel
theorem dX5_length_0 : decode cX5_length 0 = .ok (.aload_n 0, 1) := by decide +kernel
theorem dX5_length_1 : decode cX5_length 1 = .ok (.getfield 15, 3) := by decide +kernel
theorem dX5_length_4 : decode cX5_length 4 = .ok (.arraylength, 1) := by decide +kernel
theorem dX5_length_5 : decode cX5_length 5 = .ok (.ireturn, 1) := by decide +kernel
theorem dX5_has_0 : decode cX5_has 0 = .ok (.iload_n 1, 1) := by decide +kernel
theorem dX5_has_1 : decode cX5_has 1 = .ok (.ifCond .lt 16, 3) := by decide +kernel
theorem dX5_has_4 : decode cX5_has 4 = .ok (.iload_n 1, 1) := by decide +kernel
theorem dX5_has_5 : decode cX5_has 5 = .ok (.aload_n 0, 1) := by decide +kernel
theorem dX5_has_6 : decode cX5_has 6 = .ok (.getfield 15, 3) := by decide +kernel
theorem dX5_has_9 : decode cX5_has 9 = .ok (.arraylength, 1) := by decide +kernel
theorem dX5_has_10 : decode cX5_has 10 = .ok (.if_icmp .ge 7, 3) := by decide +kernel
theorem dX5_has_13 : decode cX5_has 13 = .ok (.iconst 1, 1) := by decide +kernel
theorem dX5_has_14 : decode cX5_has 14 = .ok (.goto 4, 3) := by decide +kernel
theorem dX5_has_17 : decode cX5_has 17 = .ok (.iconst 0, 1) := by decide +kernel
theorem dX5_has_18 : decode cX5_has 18 = .ok (.ireturn, 1) := by decide +kernel
theorem dX5_hasRun_0 : decode cX5_hasRun 0 = .ok (.iload_n 1, 1) := by decide +kernel
theorem dX5_hasRun_1 : decode cX5_hasRun 1 = .ok (.ifCond .lt 22, 3) := by decide +kernel
theorem dX5_hasRun_4 : decode cX5_hasRun 4 = .ok (.iload_n 2, 1) := by decide +kernel
theorem dX5_hasRun_5 : decode cX5_hasRun 5 = .ok (.ifCond .lt 18, 3) := by decide +kernel
theorem dX5_hasRun_8 : decode cX5_hasRun 8 = .ok (.iload_n 1, 1) := by decide +kernel
theorem dX5_hasRun_9 : decode cX5_hasRun 9 = .ok (.aload_n 0, 1) := by decide +kernel
theorem dX5_hasRun_10 : decode cX5_hasRun 10 = .ok (.getfield 15, 3) := by decide +kernel
theorem dX5_hasRun_13 : decode cX5_hasRun 13 = .ok (.arraylength, 1) := by decide +kernel
theorem dX5_hasRun_14 : decode cX5_hasRun 14 = .ok (.iload_n 2, 1) := by decide +kernel
theorem dX5_hasRun_15 : decode cX5_hasRun 15 = .ok (.isub, 1) := by decide +kernel
theorem dX5_hasRun_16 : decode cX5_hasRun 16 = .ok (.if_icmp .gt 7, 3) := by decide +kernel
theorem dX5_hasRun_19 : decode cX5_hasRun 19 = .ok (.iconst 1, 1) := by decide +kernel
theorem dX5_hasRun_20 : decode cX5_hasRun 20 = .ok (.goto 4, 3) := by decide +kernel
theorem dX5_hasRun_23 : decode cX5_hasRun 23 = .ok (.iconst 0, 1) := by decide +kernel
theorem dX5_hasRun_24 : decode cX5_hasRun 24 = .ok (.ireturn, 1) := by decide +kernel
theorem dX5_longAt_0 : decode cX5_longAt 0 = .ok (.aload_n 0, 1) := by decide +kernel
theorem dX5_longAt_1 : decode cX5_longAt 1 = .ok (.iload_n 1, 1) := by decide +kernel
theorem dX5_longAt_2 : decode cX5_longAt 2 = .ok (.invokevirtual 19, 3) := by decide +kernel
theorem dX5_longAt_5 : decode cX5_longAt 5 = .ok (.ifCond .eq 12, 3) := by decide +kernel
theorem dX5_longAt_8 : decode cX5_longAt 8 = .ok (.aload_n 0, 1) := by decide +kernel
theorem dX5_longAt_9 : decode cX5_longAt 9 = .ok (.getfield 15, 3) := by decide +kernel
theorem dX5_longAt_12 : decode cX5_longAt 12 = .ok (.iload_n 1, 1) := by decide +kernel
theorem dX5_longAt_13 : decode cX5_longAt 13 = .ok (.laload, 1) := by decide +kernel
theorem dX5_longAt_14 : decode cX5_longAt 14 = .ok (.goto 4, 3) := by decide +kernel
theorem dX5_longAt_17 : decode cX5_longAt 17 = .ok (.lconst 0, 1) := by decide +kernel
theorem dX5_longAt_18 : decode cX5_longAt 18 = .ok (.lreturn, 1) := by decide +kernel
theorem dX5_intAt_0 : decode cX5_intAt 0 = .ok (.aload_n 0, 1) := by decide +kernel
theorem dX5_intAt_1 : decode cX5_intAt 1 = .ok (.iload_n 1, 1) := by decide +kernel
theorem dX5_intAt_2 : decode cX5_intAt 2 = .ok (.invokevirtual 23, 3) := by decide +kernel
theorem dX5_intAt_5 : decode cX5_intAt 5 = .ok (.l2i, 1) := by decide +kernel
theorem dX5_intAt_6 : decode cX5_intAt 6 = .ok (.ireturn, 1) := by decide +kernel
theorem dX5_keep_0 : decode cX5_keep 0 = .ok (.aload_n 0, 1) := by decide +kernel
theorem dX5_keep_1 : decode cX5_keep 1 = .ok (.iload_n 1, 1) := by decide +kernel
theorem dX5_keep_2 : decode cX5_keep 2 = .ok (.invokevirtual 19, 3) := by decide +kernel
theorem dX5_keep_5 : decode cX5_keep 5 = .ok (.ifCond .eq 14, 3) := by decide +kernel
theorem dX5_keep_8 : decode cX5_keep 8 = .ok (.aload_n 0, 1) := by decide +kernel
theorem dX5_keep_9 : decode cX5_keep 9 = .ok (.getfield 15, 3) := by decide +kernel
theorem dX5_keep_12 : decode cX5_keep 12 = .ok (.iload_n 1, 1) := by decide +kernel
theorem dX5_keep_13 : decode cX5_keep 13 = .ok (.aload_n 0, 1) := by decide +kernel
theorem dX5_keep_14 : decode cX5_keep 14 = .ok (.lload_n 2, 1) := by decide +kernel
theorem dX5_keep_15 : decode cX5_keep 15 = .ok (.invokevirtual 27, 3) := by decide +kernel
theorem dX5_keep_18 : decode cX5_keep 18 = .ok (.lastore, 1) := by decide +kernel
theorem dX5_keep_19 : decode cX5_keep 19 = .ok (.return_, 1) := by decide +kernel
theorem dX5_cutToSort_0 : decode cX5_cutToSort 0 = .ok (.aload_n 0, 1) := by decide +kernel
theorem dX5_cutToSort_1 : decode cX5_cutToSort 1 = .ok (.getfield 9, 3) := by decide +kernel
theorem dX5_cutToSort_4 : decode cX5_cutToSort 4 = .ok (.tableswitch 42 0 2 #[28, 33, 38], 28) := by decide +kernel
theorem dX5_cutToSort_32 : decode cX5_cutToSort 32 = .ok (.lload_n 1, 1) := by decide +kernel
theorem dX5_cutToSort_33 : decode cX5_cutToSort 33 = .ok (.l2i, 1) := by decide +kernel
theorem dX5_cutToSort_34 : decode cX5_cutToSort 34 = .ok (.i2b, 1) := by decide +kernel
theorem dX5_cutToSort_35 : decode cX5_cutToSort 35 = .ok (.i2l, 1) := by decide +kernel
theorem dX5_cutToSort_36 : decode cX5_cutToSort 36 = .ok (.lreturn, 1) := by decide +kernel
theorem dX5_cutToSort_37 : decode cX5_cutToSort 37 = .ok (.lload_n 1, 1) := by decide +kernel
theorem dX5_cutToSort_38 : decode cX5_cutToSort 38 = .ok (.l2i, 1) := by decide +kernel
theorem dX5_cutToSort_39 : decode cX5_cutToSort 39 = .ok (.i2s, 1) := by decide +kernel
theorem dX5_cutToSort_40 : decode cX5_cutToSort 40 = .ok (.i2l, 1) := by decide +kernel
theorem dX5_cutToSort_41 : decode cX5_cutToSort 41 = .ok (.lreturn, 1) := by decide +kernel
theorem dX5_cutToSort_42 : decode cX5_cutToSort 42 = .ok (.lload_n 1, 1) := by decide +kernel
theorem dX5_cutToSort_43 : decode cX5_cutToSort 43 = .ok (.l2i, 1) := by decide +kernel
theorem dX5_cutToSort_44 : decode cX5_cutToSort 44 = .ok (.i2l, 1) := by decide +kernel
theorem dX5_cutToSort_45 : decode cX5_cutToSort 45 = .ok (.lreturn, 1) := by decide +kernel
theorem dX5_cutToSort_46 : decode cX5_cutToSort 46 = .ok (.lload_n 1, 1) := by decide +kernel
theorem dX5_cutToSort_47 : decode cX5_cutToSort 47 = .ok (.lreturn, 1) := by decide +kernel
theorem dX6_init_0 : decode cX6_init 0 = .ok (.aload_n 0, 1) := by decide +kernel
theorem dX6_init_1 : decode cX6_init 1 = .ok (.invokespecial 3, 3) := by decide +kernel
theorem dX6_init_4 : decode cX6_init 4 = .ok (.aload_n 0, 1) := by decide +kernel
theorem dX6_init_5 : decode cX6_init 5 = .ok (.bipush 16, 2) := by decide +kernel
theorem dX6_init_7 : decode cX6_init 7 = .ok (.anewarray 9, 3) := by decide +kernel
theorem dX6_init_10 : decode cX6_init 10 = .ok (.putfield 11, 3) := by decide +kernel
theorem dX6_init_13 : decode cX6_init 13 = .ok (.aload_n 0, 1) := by decide +kernel
theorem dX6_init_14 : decode cX6_init 14 = .ok (.bipush 16, 2) := by decide +kernel
theorem dX6_init_16 : decode cX6_init 16 = .ok (.anewarray 17, 3) := by decide +kernel
theorem dX6_init_19 : decode cX6_init 19 = .ok (.putfield 19, 3) := by decide +kernel
theorem dX6_init_22 : decode cX6_init 22 = .ok (.aload_n 0, 1) := by decide +kernel
theorem dX6_init_23 : decode cX6_init 23 = .ok (.iconst 0, 1) := by decide +kernel
theorem dX6_init_24 : decode cX6_init 24 = .ok (.putfield 23, 3) := by decide +kernel
theorem dX6_init_27 : decode cX6_init 27 = .ok (.aload_n 0, 1) := by decide +kernel
theorem dX6_init_28 : decode cX6_init 28 = .ok (.iconst 0, 1) := by decide +kernel
theorem dX6_init_29 : decode cX6_init 29 = .ok (.putfield 27, 3) := by decide +kernel
theorem dX6_init_32 : decode cX6_init 32 = .ok (.aload_n 0, 1) := by decide +kernel
theorem dX6_init_33 : decode cX6_init 33 = .ok (.iconst 1, 1) := by decide +kernel
theorem dX6_init_34 : decode cX6_init 34 = .ok (.putfield 30, 3) := by decide +kernel
theorem dX6_init_37 : decode cX6_init 37 = .ok (.return_, 1) := by decide +kernel
theorem dX6_init__0 : decode cX6_init_ 0 = .ok (.aload_n 0, 1) := by decide +kernel
theorem dX6_init__1 : decode cX6_init_ 1 = .ok (.invokespecial 3, 3) := by decide +kernel
theorem dX6_init__4 : decode cX6_init_ 4 = .ok (.aload_n 0, 1) := by decide +kernel
theorem dX6_init__5 : decode cX6_init_ 5 = .ok (.bipush 16, 2) := by decide +kernel
theorem dX6_init__7 : decode cX6_init_ 7 = .ok (.anewarray 9, 3) := by decide +kernel
theorem dX6_init__10 : decode cX6_init_ 10 = .ok (.putfield 11, 3) := by decide +kernel
theorem dX6_init__13 : decode cX6_init_ 13 = .ok (.aload_n 0, 1) := by decide +kernel
theorem dX6_init__14 : decode cX6_init_ 14 = .ok (.bipush 16, 2) := by decide +kernel
theorem dX6_init__16 : decode cX6_init_ 16 = .ok (.anewarray 17, 3) := by decide +kernel
theorem dX6_init__19 : decode cX6_init_ 19 = .ok (.putfield 19, 3) := by decide +kernel
theorem dX6_init__22 : decode cX6_init_ 22 = .ok (.aload_n 0, 1) := by decide +kernel
theorem dX6_init__23 : decode cX6_init_ 23 = .ok (.iconst 0, 1) := by decide +kernel
theorem dX6_init__24 : decode cX6_init_ 24 = .ok (.putfield 23, 3) := by decide +kernel
theorem dX6_init__27 : decode cX6_init_ 27 = .ok (.aload_n 0, 1) := by decide +kernel
theorem dX6_init__28 : decode cX6_init_ 28 = .ok (.iconst 0, 1) := by decide +kernel
theorem dX6_init__29 : decode cX6_init_ 29 = .ok (.putfield 27, 3) := by decide +kernel
theorem dX6_init__32 : decode cX6_init_ 32 = .ok (.aload_n 0, 1) := by decide +kernel
theorem dX6_init__33 : decode cX6_init_ 33 = .ok (.iconst 1, 1) := by decide +kernel
theorem dX6_init__34 : decode cX6_init_ 34 = .ok (.putfield 30, 3) := by decide +kernel
theorem dX6_init__37 : decode cX6_init_ 37 = .ok (.iconst 0, 1) := by decide +kernel
theorem dX6_init__38 : decode cX6_init_ 38 = .ok (.istore_n 2, 1) := by decide +kernel
theorem dX6_init__39 : decode cX6_init_ 39 = .ok (.iload_n 2, 1) := by decide +kernel
theorem dX6_init__40 : decode cX6_init_ 40 = .ok (.bipush 16, 2) := by decide +kernel
theorem dX6_init__42 : decode cX6_init_ 42 = .ok (.if_icmp .ge 21, 3) := by decide +kernel
theorem dX6_init__45 : decode cX6_init_ 45 = .ok (.aload_n 0, 1) := by decide +kernel
theorem dX6_init__46 : decode cX6_init_ 46 = .ok (.getfield 11, 3) := by decide +kernel
theorem dX6_init__49 : decode cX6_init_ 49 = .ok (.iload_n 2, 1) := by decide +kernel
theorem dX6_init__50 : decode cX6_init_ 50 = .ok (.aload_n 1, 1) := by decide +kernel
theorem dX6_init__51 : decode cX6_init_ 51 = .ok (.getfield 11, 3) := by decide +kernel
theorem dX6_init__54 : decode cX6_init_ 54 = .ok (.iload_n 2, 1) := by decide +kernel
theorem dX6_init__55 : decode cX6_init_ 55 = .ok (.aaload, 1) := by decide +kernel
theorem dX6_init__56 : decode cX6_init_ 56 = .ok (.aastore, 1) := by decide +kernel
theorem dX6_init__57 : decode cX6_init_ 57 = .ok (.iinc 2 1, 3) := by decide +kernel
theorem dX6_init__60 : decode cX6_init_ 60 = .ok (.goto (-21), 3) := by decide +kernel
theorem dX6_init__63 : decode cX6_init_ 63 = .ok (.iconst 0, 1) := by decide +kernel
theorem dX6_init__64 : decode cX6_init_ 64 = .ok (.istore_n 2, 1) := by decide +kernel
theorem dX6_init__65 : decode cX6_init_ 65 = .ok (.iload_n 2, 1) := by decide +kernel
theorem dX6_init__66 : decode cX6_init_ 66 = .ok (.bipush 16, 2) := by decide +kernel
theorem dX6_init__68 : decode cX6_init_ 68 = .ok (.if_icmp .ge 21, 3) := by decide +kernel
theorem dX6_init__71 : decode cX6_init_ 71 = .ok (.aload_n 0, 1) := by decide +kernel
theorem dX6_init__72 : decode cX6_init_ 72 = .ok (.getfield 19, 3) := by decide +kernel
theorem dX6_init__75 : decode cX6_init_ 75 = .ok (.iload_n 2, 1) := by decide +kernel
theorem dX6_init__76 : decode cX6_init_ 76 = .ok (.aload_n 1, 1) := by decide +kernel
theorem dX6_init__77 : decode cX6_init_ 77 = .ok (.getfield 19, 3) := by decide +kernel
theorem dX6_init__80 : decode cX6_init_ 80 = .ok (.iload_n 2, 1) := by decide +kernel
theorem dX6_init__81 : decode cX6_init_ 81 = .ok (.aaload, 1) := by decide +kernel
theorem dX6_init__82 : decode cX6_init_ 82 = .ok (.aastore, 1) := by decide +kernel
theorem dX6_init__83 : decode cX6_init_ 83 = .ok (.iinc 2 1, 3) := by decide +kernel
theorem dX6_init__86 : decode cX6_init_ 86 = .ok (.goto (-21), 3) := by decide +kernel
theorem dX6_init__89 : decode cX6_init_ 89 = .ok (.aload_n 0, 1) := by decide +kernel
theorem dX6_init__90 : decode cX6_init_ 90 = .ok (.aload_n 1, 1) := by decide +kernel
theorem dX6_init__91 : decode cX6_init_ 91 = .ok (.getfield 23, 3) := by decide +kernel
theorem dX6_init__94 : decode cX6_init_ 94 = .ok (.putfield 23, 3) := by decide +kernel
theorem dX6_init__97 : decode cX6_init_ 97 = .ok (.aload_n 0, 1) := by decide +kernel
theorem dX6_init__98 : decode cX6_init_ 98 = .ok (.aload_n 1, 1) := by decide +kernel
theorem dX6_init__99 : decode cX6_init_ 99 = .ok (.getfield 27, 3) := by decide +kernel
theorem dX6_init__102 : decode cX6_init_ 102 = .ok (.putfield 27, 3) := by decide +kernel
theorem dX6_init__105 : decode cX6_init_ 105 = .ok (.aload_n 0, 1) := by decide +kernel
theorem dX6_init__106 : decode cX6_init_ 106 = .ok (.aload_n 1, 1) := by decide +kernel
theorem dX6_init__107 : decode cX6_init_ 107 = .ok (.getfield 30, 3) := by decide +kernel
theorem dX6_init__110 : decode cX6_init_ 110 = .ok (.putfield 30, 3) := by decide +kernel
theorem dX6_init__113 : decode cX6_init_ 113 = .ok (.return_, 1) := by decide +kernel
theorem dX6_treeAt_0 : decode cX6_treeAt 0 = .ok (.iload_n 1, 1) := by decide +kernel
theorem dX6_treeAt_1 : decode cX6_treeAt 1 = .ok (.ifCond .lt 26, 3) := by decide +kernel
theorem dX6_treeAt_4 : decode cX6_treeAt 4 = .ok (.iload_n 1, 1) := by decide +kernel
theorem dX6_treeAt_5 : decode cX6_treeAt 5 = .ok (.aload_n 0, 1) := by decide +kernel
theorem dX6_treeAt_6 : decode cX6_treeAt 6 = .ok (.getfield 23, 3) := by decide +kernel
theorem dX6_treeAt_9 : decode cX6_treeAt 9 = .ok (.if_icmp .ge 18, 3) := by decide +kernel
theorem dX6_treeAt_12 : decode cX6_treeAt 12 = .ok (.iload_n 1, 1) := by decide +kernel
theorem dX6_treeAt_13 : decode cX6_treeAt 13 = .ok (.bipush 16, 2) := by decide +kernel
theorem dX6_treeAt_15 : decode cX6_treeAt 15 = .ok (.if_icmp .ge 12, 3) := by decide +kernel
theorem dX6_treeAt_18 : decode cX6_treeAt 18 = .ok (.aload_n 0, 1) := by decide +kernel
theorem dX6_treeAt_19 : decode cX6_treeAt 19 = .ok (.getfield 11, 3) := by decide +kernel
theorem dX6_treeAt_22 : decode cX6_treeAt 22 = .ok (.iload_n 1, 1) := by decide +kernel
theorem dX6_treeAt_23 : decode cX6_treeAt 23 = .ok (.aaload, 1) := by decide +kernel
theorem dX6_treeAt_24 : decode cX6_treeAt 24 = .ok (.goto 4, 3) := by decide +kernel
theorem dX6_treeAt_27 : decode cX6_treeAt 27 = .ok (.aconst_null, 1) := by decide +kernel
theorem dX6_treeAt_28 : decode cX6_treeAt 28 = .ok (.areturn, 1) := by decide +kernel
theorem dX6_patchAt_0 : decode cX6_patchAt 0 = .ok (.iload_n 1, 1) := by decide +kernel
theorem dX6_patchAt_1 : decode cX6_patchAt 1 = .ok (.ifCond .lt 26, 3) := by decide +kernel
theorem dX6_patchAt_4 : decode cX6_patchAt 4 = .ok (.iload_n 1, 1) := by decide +kernel
theorem dX6_patchAt_5 : decode cX6_patchAt 5 = .ok (.aload_n 0, 1) := by decide +kernel
theorem dX6_patchAt_6 : decode cX6_patchAt 6 = .ok (.getfield 27, 3) := by decide +kernel
theorem dX6_patchAt_9 : decode cX6_patchAt 9 = .ok (.if_icmp .ge 18, 3) := by decide +kernel
theorem dX6_patchAt_12 : decode cX6_patchAt 12 = .ok (.iload_n 1, 1) := by decide +kernel
theorem dX6_patchAt_13 : decode cX6_patchAt 13 = .ok (.bipush 16, 2) := by decide +kernel
theorem dX6_patchAt_15 : decode cX6_patchAt 15 = .ok (.if_icmp .ge 12, 3) := by decide +kernel
theorem dX6_patchAt_18 : decode cX6_patchAt 18 = .ok (.aload_n 0, 1) := by decide +kernel
theorem dX6_patchAt_19 : decode cX6_patchAt 19 = .ok (.getfield 19, 3) := by decide +kernel
theorem dX6_patchAt_22 : decode cX6_patchAt 22 = .ok (.iload_n 1, 1) := by decide +kernel
theorem dX6_patchAt_23 : decode cX6_patchAt 23 = .ok (.aaload, 1) := by decide +kernel
theorem dX6_patchAt_24 : decode cX6_patchAt 24 = .ok (.goto 4, 3) := by decide +kernel
theorem dX6_patchAt_27 : decode cX6_patchAt 27 = .ok (.aconst_null, 1) := by decide +kernel
theorem dX6_patchAt_28 : decode cX6_patchAt 28 = .ok (.areturn, 1) := by decide +kernel
theorem dX6_addTree_0 : decode cX6_addTree 0 = .ok (.aload_n 0, 1) := by decide +kernel
theorem dX6_addTree_1 : decode cX6_addTree 1 = .ok (.getfield 23, 3) := by decide +kernel
theorem dX6_addTree_4 : decode cX6_addTree 4 = .ok (.ifCond .lt 12, 3) := by decide +kernel
theorem dX6_addTree_7 : decode cX6_addTree 7 = .ok (.aload_n 0, 1) := by decide +kernel
theorem dX6_addTree_8 : decode cX6_addTree 8 = .ok (.getfield 23, 3) := by decide +kernel
theorem dX6_addTree_11 : decode cX6_addTree 11 = .ok (.bipush 16, 2) := by decide +kernel
theorem dX6_addTree_13 : decode cX6_addTree 13 = .ok (.if_icmp .lt 5, 3) := by decide +kernel
theorem dX6_addTree_16 : decode cX6_addTree 16 = .ok (.iconst (-1), 1) := by decide +kernel
theorem dX6_addTree_17 : decode cX6_addTree 17 = .ok (.ireturn, 1) := by decide +kernel
theorem dX6_addTree_18 : decode cX6_addTree 18 = .ok (.aload_n 0, 1) := by decide +kernel
theorem dX6_addTree_19 : decode cX6_addTree 19 = .ok (.getfield 11, 3) := by decide +kernel
theorem dX6_addTree_22 : decode cX6_addTree 22 = .ok (.aload_n 0, 1) := by decide +kernel
theorem dX6_addTree_23 : decode cX6_addTree 23 = .ok (.getfield 23, 3) := by decide +kernel
theorem dX6_addTree_26 : decode cX6_addTree 26 = .ok (.aload_n 1, 1) := by decide +kernel
theorem dX6_addTree_27 : decode cX6_addTree 27 = .ok (.aastore, 1) := by decide +kernel
theorem dX6_addTree_28 : decode cX6_addTree 28 = .ok (.aload_n 0, 1) := by decide +kernel
theorem dX6_addTree_29 : decode cX6_addTree 29 = .ok (.dup, 1) := by decide +kernel
theorem dX6_addTree_30 : decode cX6_addTree 30 = .ok (.getfield 23, 3) := by decide +kernel
theorem dX6_addTree_33 : decode cX6_addTree 33 = .ok (.iconst 1, 1) := by decide +kernel
theorem dX6_addTree_34 : decode cX6_addTree 34 = .ok (.iadd, 1) := by decide +kernel
theorem dX6_addTree_35 : decode cX6_addTree 35 = .ok (.putfield 23, 3) := by decide +kernel
theorem dX6_addTree_38 : decode cX6_addTree 38 = .ok (.aload_n 0, 1) := by decide +kernel
theorem dX6_addTree_39 : decode cX6_addTree 39 = .ok (.getfield 23, 3) := by decide +kernel
theorem dX6_addTree_42 : decode cX6_addTree 42 = .ok (.iconst 1, 1) := by decide +kernel
theorem dX6_addTree_43 : decode cX6_addTree 43 = .ok (.isub, 1) := by decide +kernel
theorem dX6_addTree_44 : decode cX6_addTree 44 = .ok (.ireturn, 1) := by decide +kernel
theorem dX6_replaceTree_0 : decode cX6_replaceTree 0 = .ok (.iload_n 1, 1) := by decide +kernel
theorem dX6_replaceTree_1 : decode cX6_replaceTree 1 = .ok (.ifCond .lt 24, 3) := by decide +kernel
theorem dX6_replaceTree_4 : decode cX6_replaceTree 4 = .ok (.iload_n 1, 1) := by decide +kernel
theorem dX6_replaceTree_5 : decode cX6_replaceTree 5 = .ok (.aload_n 0, 1) := by decide +kernel
theorem dX6_replaceTree_6 : decode cX6_replaceTree 6 = .ok (.getfield 23, 3) := by decide +kernel
theorem dX6_replaceTree_9 : decode cX6_replaceTree 9 = .ok (.if_icmp .ge 16, 3) := by decide +kernel
theorem dX6_replaceTree_12 : decode cX6_replaceTree 12 = .ok (.iload_n 1, 1) := by decide +kernel
theorem dX6_replaceTree_13 : decode cX6_replaceTree 13 = .ok (.bipush 16, 2) := by decide +kernel
theorem dX6_replaceTree_15 : decode cX6_replaceTree 15 = .ok (.if_icmp .ge 10, 3) := by decide +kernel
theorem dX6_replaceTree_18 : decode cX6_replaceTree 18 = .ok (.aload_n 0, 1) := by decide +kernel
theorem dX6_replaceTree_19 : decode cX6_replaceTree 19 = .ok (.getfield 11, 3) := by decide +kernel
theorem dX6_replaceTree_22 : decode cX6_replaceTree 22 = .ok (.iload_n 1, 1) := by decide +kernel
theorem dX6_replaceTree_23 : decode cX6_replaceTree 23 = .ok (.aload_n 2, 1) := by decide +kernel
theorem dX6_replaceTree_24 : decode cX6_replaceTree 24 = .ok (.aastore, 1) := by decide +kernel
theorem dX6_replaceTree_25 : decode cX6_replaceTree 25 = .ok (.return_, 1) := by decide +kernel
theorem dX6_dropTree_0 : decode cX6_dropTree 0 = .ok (.aload_n 0, 1) := by decide +kernel
theorem dX6_dropTree_1 : decode cX6_dropTree 1 = .ok (.getfield 23, 3) := by decide +kernel
theorem dX6_dropTree_4 : decode cX6_dropTree 4 = .ok (.ifCond .le 32, 3) := by decide +kernel
theorem dX6_dropTree_7 : decode cX6_dropTree 7 = .ok (.aload_n 0, 1) := by decide +kernel
theorem dX6_dropTree_8 : decode cX6_dropTree 8 = .ok (.getfield 23, 3) := by decide +kernel
theorem dX6_dropTree_11 : decode cX6_dropTree 11 = .ok (.bipush 16, 2) := by decide +kernel
theorem dX6_dropTree_13 : decode cX6_dropTree 13 = .ok (.if_icmp .gt 23, 3) := by decide +kernel
theorem dX6_dropTree_16 : decode cX6_dropTree 16 = .ok (.aload_n 0, 1) := by decide +kernel
theorem dX6_dropTree_17 : decode cX6_dropTree 17 = .ok (.dup, 1) := by decide +kernel
theorem dX6_dropTree_18 : decode cX6_dropTree 18 = .ok (.getfield 23, 3) := by decide +kernel
theorem dX6_dropTree_21 : decode cX6_dropTree 21 = .ok (.iconst 1, 1) := by decide +kernel
theorem dX6_dropTree_22 : decode cX6_dropTree 22 = .ok (.isub, 1) := by decide +kernel
theorem dX6_dropTree_23 : decode cX6_dropTree 23 = .ok (.putfield 23, 3) := by decide +kernel
theorem dX6_dropTree_26 : decode cX6_dropTree 26 = .ok (.aload_n 0, 1) := by decide +kernel
theorem dX6_dropTree_27 : decode cX6_dropTree 27 = .ok (.getfield 11, 3) := by decide +kernel
theorem dX6_dropTree_30 : decode cX6_dropTree 30 = .ok (.aload_n 0, 1) := by decide +kernel
theorem dX6_dropTree_31 : decode cX6_dropTree 31 = .ok (.getfield 23, 3) := by decide +kernel
theorem dX6_dropTree_34 : decode cX6_dropTree 34 = .ok (.aconst_null, 1) := by decide +kernel
theorem dX6_dropTree_35 : decode cX6_dropTree 35 = .ok (.aastore, 1) := by decide +kernel
theorem dX6_dropTree_36 : decode cX6_dropTree 36 = .ok (.return_, 1) := by decide +kernel
theorem dX6_addPatch_0 : decode cX6_addPatch 0 = .ok (.aload_n 0, 1) := by decide +kernel
theorem dX6_addPatch_1 : decode cX6_addPatch 1 = .ok (.getfield 27, 3) := by decide +kernel
theorem dX6_addPatch_4 : decode cX6_addPatch 4 = .ok (.ifCond .lt 12, 3) := by decide +kernel
theorem dX6_addPatch_7 : decode cX6_addPatch 7 = .ok (.aload_n 0, 1) := by decide +kernel
theorem dX6_addPatch_8 : decode cX6_addPatch 8 = .ok (.getfield 27, 3) := by decide +kernel
theorem dX6_addPatch_11 : decode cX6_addPatch 11 = .ok (.bipush 16, 2) := by decide +kernel
theorem dX6_addPatch_13 : decode cX6_addPatch 13 = .ok (.if_icmp .lt 5, 3) := by decide +kernel
theorem dX6_addPatch_16 : decode cX6_addPatch 16 = .ok (.iconst (-1), 1) := by decide +kernel
theorem dX6_addPatch_17 : decode cX6_addPatch 17 = .ok (.ireturn, 1) := by decide +kernel
theorem dX6_addPatch_18 : decode cX6_addPatch 18 = .ok (.aload_n 0, 1) := by decide +kernel
theorem dX6_addPatch_19 : decode cX6_addPatch 19 = .ok (.getfield 19, 3) := by decide +kernel
theorem dX6_addPatch_22 : decode cX6_addPatch 22 = .ok (.aload_n 0, 1) := by decide +kernel
theorem dX6_addPatch_23 : decode cX6_addPatch 23 = .ok (.getfield 27, 3) := by decide +kernel
theorem dX6_addPatch_26 : decode cX6_addPatch 26 = .ok (.aload_n 1, 1) := by decide +kernel
theorem dX6_addPatch_27 : decode cX6_addPatch 27 = .ok (.aastore, 1) := by decide +kernel
theorem dX6_addPatch_28 : decode cX6_addPatch 28 = .ok (.aload_n 0, 1) := by decide +kernel
theorem dX6_addPatch_29 : decode cX6_addPatch 29 = .ok (.dup, 1) := by decide +kernel
theorem dX6_addPatch_30 : decode cX6_addPatch 30 = .ok (.getfield 27, 3) := by decide +kernel
theorem dX6_addPatch_33 : decode cX6_addPatch 33 = .ok (.iconst 1, 1) := by decide +kernel
theorem dX6_addPatch_34 : decode cX6_addPatch 34 = .ok (.iadd, 1) := by decide +kernel
theorem dX6_addPatch_35 : decode cX6_addPatch 35 = .ok (.putfield 27, 3) := by decide +kernel
theorem dX6_addPatch_38 : decode cX6_addPatch 38 = .ok (.aload_n 0, 1) := by decide +kernel
theorem dX6_addPatch_39 : decode cX6_addPatch 39 = .ok (.getfield 27, 3) := by decide +kernel
theorem dX6_addPatch_42 : decode cX6_addPatch 42 = .ok (.iconst 1, 1) := by decide +kernel
theorem dX6_addPatch_43 : decode cX6_addPatch 43 = .ok (.isub, 1) := by decide +kernel
theorem dX6_addPatch_44 : decode cX6_addPatch 44 = .ok (.ireturn, 1) := by decide +kernel
theorem dX6_forgetPatch_0 : decode cX6_forgetPatch 0 = .ok (.aload_n 0, 1) := by decide +kernel
theorem dX6_forgetPatch_1 : decode cX6_forgetPatch 1 = .ok (.getfield 27, 3) := by decide +kernel
theorem dX6_forgetPatch_4 : decode cX6_forgetPatch 4 = .ok (.ifCond .le 32, 3) := by decide +kernel
theorem dX6_forgetPatch_7 : decode cX6_forgetPatch 7 = .ok (.aload_n 0, 1) := by decide +kernel
theorem dX6_forgetPatch_8 : decode cX6_forgetPatch 8 = .ok (.getfield 27, 3) := by decide +kernel
theorem dX6_forgetPatch_11 : decode cX6_forgetPatch 11 = .ok (.bipush 16, 2) := by decide +kernel
theorem dX6_forgetPatch_13 : decode cX6_forgetPatch 13 = .ok (.if_icmp .gt 23, 3) := by decide +kernel
theorem dX6_forgetPatch_16 : decode cX6_forgetPatch 16 = .ok (.aload_n 0, 1) := by decide +kernel
theorem dX6_forgetPatch_17 : decode cX6_forgetPatch 17 = .ok (.dup, 1) := by decide +kernel
theorem dX6_forgetPatch_18 : decode cX6_forgetPatch 18 = .ok (.getfield 27, 3) := by decide +kernel
theorem dX6_forgetPatch_21 : decode cX6_forgetPatch 21 = .ok (.iconst 1, 1) := by decide +kernel
theorem dX6_forgetPatch_22 : decode cX6_forgetPatch 22 = .ok (.isub, 1) := by decide +kernel
theorem dX6_forgetPatch_23 : decode cX6_forgetPatch 23 = .ok (.putfield 27, 3) := by decide +kernel
theorem dX6_forgetPatch_26 : decode cX6_forgetPatch 26 = .ok (.aload_n 0, 1) := by decide +kernel
theorem dX6_forgetPatch_27 : decode cX6_forgetPatch 27 = .ok (.getfield 19, 3) := by decide +kernel
theorem dX6_forgetPatch_30 : decode cX6_forgetPatch 30 = .ok (.aload_n 0, 1) := by decide +kernel
theorem dX6_forgetPatch_31 : decode cX6_forgetPatch 31 = .ok (.getfield 27, 3) := by decide +kernel
theorem dX6_forgetPatch_34 : decode cX6_forgetPatch 34 = .ok (.aconst_null, 1) := by decide +kernel
theorem dX6_forgetPatch_35 : decode cX6_forgetPatch 35 = .ok (.aastore, 1) := by decide +kernel
theorem dX6_forgetPatch_36 : decode cX6_forgetPatch 36 = .ok (.return_, 1) := by decide +kernel
theorem dX6_nodeCount_0 : decode cX6_nodeCount 0 = .ok (.iconst 0, 1) := by decide +kernel
theorem dX6_nodeCount_1 : decode cX6_nodeCount 1 = .ok (.istore_n 1, 1) := by decide +kernel
theorem dX6_nodeCount_2 : decode cX6_nodeCount 2 = .ok (.iconst 0, 1) := by decide +kernel
theorem dX6_nodeCount_3 : decode cX6_nodeCount 3 = .ok (.istore_n 2, 1) := by decide +kernel
theorem dX6_nodeCount_4 : decode cX6_nodeCount 4 = .ok (.iload_n 2, 1) := by decide +kernel
theorem dX6_nodeCount_5 : decode cX6_nodeCount 5 = .ok (.aload_n 0, 1) := by decide +kernel
theorem dX6_nodeCount_6 : decode cX6_nodeCount 6 = .ok (.getfield 23, 3) := by decide +kernel
theorem dX6_nodeCount_9 : decode cX6_nodeCount 9 = .ok (.if_icmp .ge 30, 3) := by decide +kernel
theorem dX6_nodeCount_12 : decode cX6_nodeCount 12 = .ok (.aload_n 0, 1) := by decide +kernel
theorem dX6_nodeCount_13 : decode cX6_nodeCount 13 = .ok (.iload_n 2, 1) := by decide +kernel
theorem dX6_nodeCount_14 : decode cX6_nodeCount 14 = .ok (.invokevirtual 33, 3) := by decide +kernel
theorem dX6_nodeCount_17 : decode cX6_nodeCount 17 = .ok (.astore_n 3, 1) := by decide +kernel
theorem dX6_nodeCount_18 : decode cX6_nodeCount 18 = .ok (.iload_n 1, 1) := by decide +kernel
theorem dX6_nodeCount_19 : decode cX6_nodeCount 19 = .ok (.aload_n 3, 1) := by decide +kernel
theorem dX6_nodeCount_20 : decode cX6_nodeCount 20 = .ok (.ifnonnull 7, 3) := by decide +kernel
theorem dX6_nodeCount_23 : decode cX6_nodeCount 23 = .ok (.iconst 0, 1) := by decide +kernel
theorem dX6_nodeCount_24 : decode cX6_nodeCount 24 = .ok (.goto 7, 3) := by decide +kernel
theorem dX6_nodeCount_27 : decode cX6_nodeCount 27 = .ok (.aload_n 3, 1) := by decide +kernel
theorem dX6_nodeCount_28 : decode cX6_nodeCount 28 = .ok (.getfield 37, 3) := by decide +kernel
theorem dX6_nodeCount_31 : decode cX6_nodeCount 31 = .ok (.iadd, 1) := by decide +kernel
theorem dX6_nodeCount_32 : decode cX6_nodeCount 32 = .ok (.istore_n 1, 1) := by decide +kernel
theorem dX6_nodeCount_33 : decode cX6_nodeCount 33 = .ok (.iinc 2 1, 3) := by decide +kernel
theorem dX6_nodeCount_36 : decode cX6_nodeCount 36 = .ok (.goto (-32), 3) := by decide +kernel
theorem dX6_nodeCount_39 : decode cX6_nodeCount 39 = .ok (.iload_n 1, 1) := by decide +kernel
theorem dX6_nodeCount_40 : decode cX6_nodeCount 40 = .ok (.ireturn, 1) := by decide +kernel
theorem dX6_editCount_0 : decode cX6_editCount 0 = .ok (.iconst 0, 1) := by decide +kernel
theorem dX6_editCount_1 : decode cX6_editCount 1 = .ok (.istore_n 1, 1) := by decide +kernel
theorem dX6_editCount_2 : decode cX6_editCount 2 = .ok (.iconst 0, 1) := by decide +kernel
theorem dX6_editCount_3 : decode cX6_editCount 3 = .ok (.istore_n 2, 1) := by decide +kernel
theorem dX6_editCount_4 : decode cX6_editCount 4 = .ok (.iload_n 2, 1) := by decide +kernel
theorem dX6_editCount_5 : decode cX6_editCount 5 = .ok (.aload_n 0, 1) := by decide +kernel
theorem dX6_editCount_6 : decode cX6_editCount 6 = .ok (.getfield 27, 3) := by decide +kernel
theorem dX6_editCount_9 : decode cX6_editCount 9 = .ok (.if_icmp .ge 30, 3) := by decide +kernel
theorem dX6_editCount_12 : decode cX6_editCount 12 = .ok (.aload_n 0, 1) := by decide +kernel
theorem dX6_editCount_13 : decode cX6_editCount 13 = .ok (.iload_n 2, 1) := by decide +kernel
theorem dX6_editCount_14 : decode cX6_editCount 14 = .ok (.invokevirtual 40, 3) := by decide +kernel
theorem dX6_editCount_17 : decode cX6_editCount 17 = .ok (.astore_n 3, 1) := by decide +kernel
theorem dX6_editCount_18 : decode cX6_editCount 18 = .ok (.iload_n 1, 1) := by decide +kernel
theorem dX6_editCount_19 : decode cX6_editCount 19 = .ok (.aload_n 3, 1) := by decide +kernel
theorem dX6_editCount_20 : decode cX6_editCount 20 = .ok (.ifnonnull 7, 3) := by decide +kernel
theorem dX6_editCount_23 : decode cX6_editCount 23 = .ok (.iconst 0, 1) := by decide +kernel
theorem dX6_editCount_24 : decode cX6_editCount 24 = .ok (.goto 7, 3) := by decide +kernel
theorem dX6_editCount_27 : decode cX6_editCount 27 = .ok (.aload_n 3, 1) := by decide +kernel
theorem dX6_editCount_28 : decode cX6_editCount 28 = .ok (.invokevirtual 44, 3) := by decide +kernel
theorem dX6_editCount_31 : decode cX6_editCount 31 = .ok (.iadd, 1) := by decide +kernel
theorem dX6_editCount_32 : decode cX6_editCount 32 = .ok (.istore_n 1, 1) := by decide +kernel
theorem dX6_editCount_33 : decode cX6_editCount 33 = .ok (.iinc 2 1, 3) := by decide +kernel
theorem dX6_editCount_36 : decode cX6_editCount 36 = .ok (.goto (-32), 3) := by decide +kernel
theorem dX6_editCount_39 : decode cX6_editCount 39 = .ok (.iload_n 1, 1) := by decide +kernel
theorem dX6_editCount_40 : decode cX6_editCount 40 = .ok (.ireturn, 1) := by decide +kernel
theorem dX6_draw_0 : decode cX6_draw 0 = .ok (.aload_n 0, 1) := by decide +kernel
theorem dX6_draw_1 : decode cX6_draw 1 = .ok (.aload_n 0, 1) := by decide +kernel
theorem dX6_draw_2 : decode cX6_draw 2 = .ok (.getfield 30, 3) := by decide +kernel
theorem dX6_draw_5 : decode cX6_draw 5 = .ok (.ldc 47, 2) := by decide +kernel
theorem dX6_draw_7 : decode cX6_draw 7 = .ok (.imul, 1) := by decide +kernel
theorem dX6_draw_8 : decode cX6_draw 8 = .ok (.sipush 12345, 3) := by decide +kernel
theorem dX6_draw_11 : decode cX6_draw 11 = .ok (.iadd, 1) := by decide +kernel
theorem dX6_draw_12 : decode cX6_draw 12 = .ok (.putfield 30, 3) := by decide +kernel
theorem dX6_draw_15 : decode cX6_draw 15 = .ok (.iload_n 1, 1) := by decide +kernel
theorem dX6_draw_16 : decode cX6_draw 16 = .ok (.ifCond .le 15, 3) := by decide +kernel
theorem dX6_draw_19 : decode cX6_draw 19 = .ok (.aload_n 0, 1) := by decide +kernel
theorem dX6_draw_20 : decode cX6_draw 20 = .ok (.getfield 30, 3) := by decide +kernel
theorem dX6_draw_23 : decode cX6_draw 23 = .ok (.bipush 16, 2) := by decide +kernel
theorem dX6_draw_25 : decode cX6_draw 25 = .ok (.iushr, 1) := by decide +kernel
theorem dX6_draw_26 : decode cX6_draw 26 = .ok (.iload_n 1, 1) := by decide +kernel
theorem dX6_draw_27 : decode cX6_draw 27 = .ok (.irem, 1) := by decide +kernel
theorem dX6_draw_28 : decode cX6_draw 28 = .ok (.goto 4, 3) := by decide +kernel
theorem dX6_draw_31 : decode cX6_draw 31 = .ok (.iconst 0, 1) := by decide +kernel
theorem dX6_draw_32 : decode cX6_draw 32 = .ok (.ireturn, 1) := by decide +kernel
theorem dX7_init_0 : decode cX7_init 0 = .ok (.aload_n 0, 1) := by decide +kernel
theorem dX7_init_1 : decode cX7_init 1 = .ok (.invokespecial 3, 3) := by decide +kernel
theorem dX7_init_4 : decode cX7_init 4 = .ok (.aload_n 0, 1) := by decide +kernel
theorem dX7_init_5 : decode cX7_init 5 = .ok (.bipush 80, 2) := by decide +kernel
theorem dX7_init_7 : decode cX7_init 7 = .ok (.newarray .int, 2) := by decide +kernel
theorem dX7_init_9 : decode cX7_init 9 = .ok (.putfield 9, 3) := by decide +kernel
theorem dX7_init_12 : decode cX7_init 12 = .ok (.aload_n 0, 1) := by decide +kernel
theorem dX7_init_13 : decode cX7_init 13 = .ok (.bipush 80, 2) := by decide +kernel
theorem dX7_init_15 : decode cX7_init 15 = .ok (.newarray .int, 2) := by decide +kernel
theorem dX7_init_17 : decode cX7_init 17 = .ok (.putfield 15, 3) := by decide +kernel
theorem dX7_init_20 : decode cX7_init 20 = .ok (.aload_n 0, 1) := by decide +kernel
theorem dX7_init_21 : decode cX7_init 21 = .ok (.bipush 80, 2) := by decide +kernel
theorem dX7_init_23 : decode cX7_init 23 = .ok (.newarray .int, 2) := by decide +kernel
theorem dX7_init_25 : decode cX7_init 25 = .ok (.putfield 18, 3) := by decide +kernel
theorem dX7_init_28 : decode cX7_init 28 = .ok (.aload_n 0, 1) := by decide +kernel
theorem dX7_init_29 : decode cX7_init 29 = .ok (.iconst 0, 1) := by decide +kernel
theorem dX7_init_30 : decode cX7_init 30 = .ok (.putfield 21, 3) := by decide +kernel
theorem dX7_init_33 : decode cX7_init 33 = .ok (.return_, 1) := by decide +kernel
theorem dX7_init__0 : decode cX7_init_ 0 = .ok (.aload_n 0, 1) := by decide +kernel
theorem dX7_init__1 : decode cX7_init_ 1 = .ok (.invokespecial 3, 3) := by decide +kernel
theorem dX7_init__4 : decode cX7_init_ 4 = .ok (.aload_n 0, 1) := by decide +kernel
theorem dX7_init__5 : decode cX7_init_ 5 = .ok (.bipush 80, 2) := by decide +kernel
theorem dX7_init__7 : decode cX7_init_ 7 = .ok (.newarray .int, 2) := by decide +kernel
theorem dX7_init__9 : decode cX7_init_ 9 = .ok (.putfield 9, 3) := by decide +kernel
theorem dX7_init__12 : decode cX7_init_ 12 = .ok (.aload_n 0, 1) := by decide +kernel
theorem dX7_init__13 : decode cX7_init_ 13 = .ok (.bipush 80, 2) := by decide +kernel
theorem dX7_init__15 : decode cX7_init_ 15 = .ok (.newarray .int, 2) := by decide +kernel
theorem dX7_init__17 : decode cX7_init_ 17 = .ok (.putfield 15, 3) := by decide +kernel
theorem dX7_init__20 : decode cX7_init_ 20 = .ok (.aload_n 0, 1) := by decide +kernel
theorem dX7_init__21 : decode cX7_init_ 21 = .ok (.bipush 80, 2) := by decide +kernel
theorem dX7_init__23 : decode cX7_init_ 23 = .ok (.newarray .int, 2) := by decide +kernel
theorem dX7_init__25 : decode cX7_init_ 25 = .ok (.putfield 18, 3) := by decide +kernel
theorem dX7_init__28 : decode cX7_init_ 28 = .ok (.aload_n 0, 1) := by decide +kernel
theorem dX7_init__29 : decode cX7_init_ 29 = .ok (.iconst 0, 1) := by decide +kernel
theorem dX7_init__30 : decode cX7_init_ 30 = .ok (.putfield 21, 3) := by decide +kernel
theorem dX7_init__33 : decode cX7_init_ 33 = .ok (.aload_n 1, 1) := by decide +kernel
theorem dX7_init__34 : decode cX7_init_ 34 = .ok (.getfield 9, 3) := by decide +kernel
theorem dX7_init__37 : decode cX7_init_ 37 = .ok (.iconst 0, 1) := by decide +kernel
theorem dX7_init__38 : decode cX7_init_ 38 = .ok (.aload_n 0, 1) := by decide +kernel
theorem dX7_init__39 : decode cX7_init_ 39 = .ok (.getfield 9, 3) := by decide +kernel
theorem dX7_init__42 : decode cX7_init_ 42 = .ok (.iconst 0, 1) := by decide +kernel
theorem dX7_init__43 : decode cX7_init_ 43 = .ok (.bipush 80, 2) := by decide +kernel
theorem dX7_init__45 : decode cX7_init_ 45 = .ok (.invokestatic 25, 3) := by decide +kernel
theorem dX7_init__48 : decode cX7_init_ 48 = .ok (.aload_n 1, 1) := by decide +kernel
theorem dX7_init__49 : decode cX7_init_ 49 = .ok (.getfield 15, 3) := by decide +kernel
theorem dX7_init__52 : decode cX7_init_ 52 = .ok (.iconst 0, 1) := by decide +kernel
theorem dX7_init__53 : decode cX7_init_ 53 = .ok (.aload_n 0, 1) := by decide +kernel
theorem dX7_init__54 : decode cX7_init_ 54 = .ok (.getfield 15, 3) := by decide +kernel
theorem dX7_init__57 : decode cX7_init_ 57 = .ok (.iconst 0, 1) := by decide +kernel
theorem dX7_init__58 : decode cX7_init_ 58 = .ok (.bipush 80, 2) := by decide +kernel
theorem dX7_init__60 : decode cX7_init_ 60 = .ok (.invokestatic 25, 3) := by decide +kernel
theorem dX7_init__63 : decode cX7_init_ 63 = .ok (.aload_n 1, 1) := by decide +kernel
theorem dX7_init__64 : decode cX7_init_ 64 = .ok (.getfield 18, 3) := by decide +kernel
theorem dX7_init__67 : decode cX7_init_ 67 = .ok (.iconst 0, 1) := by decide +kernel
theorem dX7_init__68 : decode cX7_init_ 68 = .ok (.aload_n 0, 1) := by decide +kernel
theorem dX7_init__69 : decode cX7_init_ 69 = .ok (.getfield 18, 3) := by decide +kernel
theorem dX7_init__72 : decode cX7_init_ 72 = .ok (.iconst 0, 1) := by decide +kernel
theorem dX7_init__73 : decode cX7_init_ 73 = .ok (.bipush 80, 2) := by decide +kernel
theorem dX7_init__75 : decode cX7_init_ 75 = .ok (.invokestatic 25, 3) := by decide +kernel
theorem dX7_init__78 : decode cX7_init_ 78 = .ok (.aload_n 0, 1) := by decide +kernel
theorem dX7_init__79 : decode cX7_init_ 79 = .ok (.aload_n 1, 1) := by decide +kernel
theorem dX7_init__80 : decode cX7_init_ 80 = .ok (.getfield 21, 3) := by decide +kernel
theorem dX7_init__83 : decode cX7_init_ 83 = .ok (.putfield 21, 3) := by decide +kernel
theorem dX7_init__86 : decode cX7_init_ 86 = .ok (.return_, 1) := by decide +kernel
theorem dX7_has_0 : decode cX7_has 0 = .ok (.iload_n 1, 1) := by decide +kernel
theorem dX7_has_1 : decode cX7_has 1 = .ok (.ifCond .lt 15, 3) := by decide +kernel
theorem dX7_has_4 : decode cX7_has 4 = .ok (.iload_n 1, 1) := by decide +kernel
theorem dX7_has_5 : decode cX7_has 5 = .ok (.aload_n 0, 1) := by decide +kernel
theorem dX7_has_6 : decode cX7_has 6 = .ok (.getfield 21, 3) := by decide +kernel
theorem dX7_has_9 : decode cX7_has 9 = .ok (.if_icmp .ge 7, 3) := by decide +kernel
theorem dX7_has_12 : decode cX7_has 12 = .ok (.iconst 1, 1) := by decide +kernel
theorem dX7_has_13 : decode cX7_has 13 = .ok (.goto 4, 3) := by decide +kernel
theorem dX7_has_16 : decode cX7_has 16 = .ok (.iconst 0, 1) := by decide +kernel
theorem dX7_has_17 : decode cX7_has 17 = .ok (.ireturn, 1) := by decide +kernel
theorem dX7_keyAt_0 : decode cX7_keyAt 0 = .ok (.aload_n 0, 1) := by decide +kernel
theorem dX7_keyAt_1 : decode cX7_keyAt 1 = .ok (.iload_n 1, 1) := by decide +kernel
theorem dX7_keyAt_2 : decode cX7_keyAt 2 = .ok (.invokevirtual 31, 3) := by decide +kernel
theorem dX7_keyAt_5 : decode cX7_keyAt 5 = .ok (.ifCond .eq 12, 3) := by decide +kernel
theorem dX7_keyAt_8 : decode cX7_keyAt 8 = .ok (.aload_n 0, 1) := by decide +kernel
theorem dX7_keyAt_9 : decode cX7_keyAt 9 = .ok (.getfield 9, 3) := by decide +kernel
theorem dX7_keyAt_12 : decode cX7_keyAt 12 = .ok (.iload_n 1, 1) := by decide +kernel
theorem dX7_keyAt_13 : decode cX7_keyAt 13 = .ok (.iaload, 1) := by decide +kernel
theorem dX7_keyAt_14 : decode cX7_keyAt 14 = .ok (.goto 4, 3) := by decide +kernel
theorem dX7_keyAt_17 : decode cX7_keyAt 17 = .ok (.iconst 0, 1) := by decide +kernel
theorem dX7_keyAt_18 : decode cX7_keyAt 18 = .ok (.ireturn, 1) := by decide +kernel
theorem dX7_labelAt_0 : decode cX7_labelAt 0 = .ok (.aload_n 0, 1) := by decide +kernel
theorem dX7_labelAt_1 : decode cX7_labelAt 1 = .ok (.iload_n 1, 1) := by decide +kernel
theorem dX7_labelAt_2 : decode cX7_labelAt 2 = .ok (.invokevirtual 31, 3) := by decide +kernel
theorem dX7_labelAt_5 : decode cX7_labelAt 5 = .ok (.ifCond .eq 12, 3) := by decide +kernel
theorem dX7_labelAt_8 : decode cX7_labelAt 8 = .ok (.aload_n 0, 1) := by decide +kernel
theorem dX7_labelAt_9 : decode cX7_labelAt 9 = .ok (.getfield 15, 3) := by decide +kernel
theorem dX7_labelAt_12 : decode cX7_labelAt 12 = .ok (.iload_n 1, 1) := by decide +kernel
theorem dX7_labelAt_13 : decode cX7_labelAt 13 = .ok (.iaload, 1) := by decide +kernel
theorem dX7_labelAt_14 : decode cX7_labelAt 14 = .ok (.goto 4, 3) := by decide +kernel
theorem dX7_labelAt_17 : decode cX7_labelAt 17 = .ok (.iconst 0, 1) := by decide +kernel
theorem dX7_labelAt_18 : decode cX7_labelAt 18 = .ok (.ireturn, 1) := by decide +kernel
theorem dX7_depthAt_0 : decode cX7_depthAt 0 = .ok (.aload_n 0, 1) := by decide +kernel
theorem dX7_depthAt_1 : decode cX7_depthAt 1 = .ok (.iload_n 1, 1) := by decide +kernel
theorem dX7_depthAt_2 : decode cX7_depthAt 2 = .ok (.invokevirtual 31, 3) := by decide +kernel
theorem dX7_depthAt_5 : decode cX7_depthAt 5 = .ok (.ifCond .eq 12, 3) := by decide +kernel
theorem dX7_depthAt_8 : decode cX7_depthAt 8 = .ok (.aload_n 0, 1) := by decide +kernel
theorem dX7_depthAt_9 : decode cX7_depthAt 9 = .ok (.getfield 18, 3) := by decide +kernel
theorem dX7_depthAt_12 : decode cX7_depthAt 12 = .ok (.iload_n 1, 1) := by decide +kernel
theorem dX7_depthAt_13 : decode cX7_depthAt 13 = .ok (.iaload, 1) := by decide +kernel
theorem dX7_depthAt_14 : decode cX7_depthAt 14 = .ok (.goto 4, 3) := by decide +kernel
theorem dX7_depthAt_17 : decode cX7_depthAt 17 = .ok (.iconst 0, 1) := by decide +kernel
theorem dX7_depthAt_18 : decode cX7_depthAt 18 = .ok (.ireturn, 1) := by decide +kernel
theorem dX7_whereOf_0 : decode cX7_whereOf 0 = .ok (.iconst 0, 1) := by decide +kernel
theorem dX7_whereOf_1 : decode cX7_whereOf 1 = .ok (.istore_n 2, 1) := by decide +kernel
theorem dX7_whereOf_2 : decode cX7_whereOf 2 = .ok (.iload_n 2, 1) := by decide +kernel
theorem dX7_whereOf_3 : decode cX7_whereOf 3 = .ok (.aload_n 0, 1) := by decide +kernel
theorem dX7_whereOf_4 : decode cX7_whereOf 4 = .ok (.getfield 21, 3) := by decide +kernel
theorem dX7_whereOf_7 : decode cX7_whereOf 7 = .ok (.if_icmp .ge 21, 3) := by decide +kernel
theorem dX7_whereOf_10 : decode cX7_whereOf 10 = .ok (.aload_n 0, 1) := by decide +kernel
theorem dX7_whereOf_11 : decode cX7_whereOf 11 = .ok (.getfield 9, 3) := by decide +kernel
theorem dX7_whereOf_14 : decode cX7_whereOf 14 = .ok (.iload_n 2, 1) := by decide +kernel
theorem dX7_whereOf_15 : decode cX7_whereOf 15 = .ok (.iaload, 1) := by decide +kernel
theorem dX7_whereOf_16 : decode cX7_whereOf 16 = .ok (.iload_n 1, 1) := by decide +kernel
theorem dX7_whereOf_17 : decode cX7_whereOf 17 = .ok (.if_icmp .ne 5, 3) := by decide +kernel
theorem dX7_whereOf_20 : decode cX7_whereOf 20 = .ok (.iload_n 2, 1) := by decide +kernel
theorem dX7_whereOf_21 : decode cX7_whereOf 21 = .ok (.ireturn, 1) := by decide +kernel
theorem dX7_whereOf_22 : decode cX7_whereOf 22 = .ok (.iinc 2 1, 3) := by decide +kernel
theorem dX7_whereOf_25 : decode cX7_whereOf 25 = .ok (.goto (-23), 3) := by decide +kernel
theorem dX7_whereOf_28 : decode cX7_whereOf 28 = .ok (.iconst (-1), 1) := by decide +kernel
theorem dX7_whereOf_29 : decode cX7_whereOf 29 = .ok (.ireturn, 1) := by decide +kernel
theorem dX7_parentAt_0 : decode cX7_parentAt 0 = .ok (.aload_n 0, 1) := by decide +kernel
theorem dX7_parentAt_1 : decode cX7_parentAt 1 = .ok (.iload_n 1, 1) := by decide +kernel
theorem dX7_parentAt_2 : decode cX7_parentAt 2 = .ok (.invokevirtual 31, 3) := by decide +kernel
theorem dX7_parentAt_5 : decode cX7_parentAt 5 = .ok (.ifCond .eq 34, 3) := by decide +kernel
theorem dX7_parentAt_8 : decode cX7_parentAt 8 = .ok (.iload_n 1, 1) := by decide +kernel
theorem dX7_parentAt_9 : decode cX7_parentAt 9 = .ok (.iconst 1, 1) := by decide +kernel
theorem dX7_parentAt_10 : decode cX7_parentAt 10 = .ok (.isub, 1) := by decide +kernel
theorem dX7_parentAt_11 : decode cX7_parentAt 11 = .ok (.istore_n 2, 1) := by decide +kernel
theorem dX7_parentAt_12 : decode cX7_parentAt 12 = .ok (.iload_n 2, 1) := by decide +kernel
theorem dX7_parentAt_13 : decode cX7_parentAt 13 = .ok (.ifCond .lt 26, 3) := by decide +kernel
theorem dX7_parentAt_16 : decode cX7_parentAt 16 = .ok (.aload_n 0, 1) := by decide +kernel
theorem dX7_parentAt_17 : decode cX7_parentAt 17 = .ok (.getfield 18, 3) := by decide +kernel
theorem dX7_parentAt_20 : decode cX7_parentAt 20 = .ok (.iload_n 2, 1) := by decide +kernel
theorem dX7_parentAt_21 : decode cX7_parentAt 21 = .ok (.iaload, 1) := by decide +kernel
theorem dX7_parentAt_22 : decode cX7_parentAt 22 = .ok (.aload_n 0, 1) := by decide +kernel
theorem dX7_parentAt_23 : decode cX7_parentAt 23 = .ok (.getfield 18, 3) := by decide +kernel
theorem dX7_parentAt_26 : decode cX7_parentAt 26 = .ok (.iload_n 1, 1) := by decide +kernel
theorem dX7_parentAt_27 : decode cX7_parentAt 27 = .ok (.iaload, 1) := by decide +kernel
theorem dX7_parentAt_28 : decode cX7_parentAt 28 = .ok (.if_icmp .ge 5, 3) := by decide +kernel
theorem dX7_parentAt_31 : decode cX7_parentAt 31 = .ok (.iload_n 2, 1) := by decide +kernel
theorem dX7_parentAt_32 : decode cX7_parentAt 32 = .ok (.ireturn, 1) := by decide +kernel
theorem dX7_parentAt_33 : decode cX7_parentAt 33 = .ok (.iinc 2 (-1), 3) := by decide +kernel
theorem dX7_parentAt_36 : decode cX7_parentAt 36 = .ok (.goto (-24), 3) := by decide +kernel
theorem dX7_parentAt_39 : decode cX7_parentAt 39 = .ok (.iconst (-1), 1) := by decide +kernel
theorem dX7_parentAt_40 : decode cX7_parentAt 40 = .ok (.ireturn, 1) := by decide +kernel
theorem dX7_parentKeyAt_0 : decode cX7_parentKeyAt 0 = .ok (.aload_n 0, 1) := by decide +kernel
theorem dX7_parentKeyAt_1 : decode cX7_parentKeyAt 1 = .ok (.aload_n 0, 1) := by decide +kernel
theorem dX7_parentKeyAt_2 : decode cX7_parentKeyAt 2 = .ok (.iload_n 1, 1) := by decide +kernel
theorem dX7_parentKeyAt_3 : decode cX7_parentKeyAt 3 = .ok (.invokevirtual 35, 3) := by decide +kernel
theorem dX7_parentKeyAt_6 : decode cX7_parentKeyAt 6 = .ok (.invokevirtual 39, 3) := by decide +kernel
theorem dX7_parentKeyAt_9 : decode cX7_parentKeyAt 9 = .ok (.ireturn, 1) := by decide +kernel
theorem dX7_placeAt_0 : decode cX7_placeAt 0 = .ok (.iconst 0, 1) := by decide +kernel
theorem dX7_placeAt_1 : decode cX7_placeAt 1 = .ok (.istore_n 2, 1) := by decide +kernel
theorem dX7_placeAt_2 : decode cX7_placeAt 2 = .ok (.aload_n 0, 1) := by decide +kernel
theorem dX7_placeAt_3 : decode cX7_placeAt 3 = .ok (.iload_n 1, 1) := by decide +kernel
theorem dX7_placeAt_4 : decode cX7_placeAt 4 = .ok (.invokevirtual 31, 3) := by decide +kernel
theorem dX7_placeAt_7 : decode cX7_placeAt 7 = .ok (.ifCond .eq 50, 3) := by decide +kernel
theorem dX7_placeAt_10 : decode cX7_placeAt 10 = .ok (.iload_n 1, 1) := by decide +kernel
theorem dX7_placeAt_11 : decode cX7_placeAt 11 = .ok (.iconst 1, 1) := by decide +kernel
theorem dX7_placeAt_12 : decode cX7_placeAt 12 = .ok (.isub, 1) := by decide +kernel
theorem dX7_placeAt_13 : decode cX7_placeAt 13 = .ok (.istore_n 3, 1) := by decide +kernel
theorem dX7_placeAt_14 : decode cX7_placeAt 14 = .ok (.iload_n 3, 1) := by decide +kernel
theorem dX7_placeAt_15 : decode cX7_placeAt 15 = .ok (.ifCond .lt 42, 3) := by decide +kernel
theorem dX7_placeAt_18 : decode cX7_placeAt 18 = .ok (.aload_n 0, 1) := by decide +kernel
theorem dX7_placeAt_19 : decode cX7_placeAt 19 = .ok (.getfield 18, 3) := by decide +kernel
theorem dX7_placeAt_22 : decode cX7_placeAt 22 = .ok (.iload_n 3, 1) := by decide +kernel
theorem dX7_placeAt_23 : decode cX7_placeAt 23 = .ok (.iaload, 1) := by decide +kernel
theorem dX7_placeAt_24 : decode cX7_placeAt 24 = .ok (.aload_n 0, 1) := by decide +kernel
theorem dX7_placeAt_25 : decode cX7_placeAt 25 = .ok (.getfield 18, 3) := by decide +kernel
theorem dX7_placeAt_28 : decode cX7_placeAt 28 = .ok (.iload_n 1, 1) := by decide +kernel
theorem dX7_placeAt_29 : decode cX7_placeAt 29 = .ok (.iaload, 1) := by decide +kernel
theorem dX7_placeAt_30 : decode cX7_placeAt 30 = .ok (.if_icmp .lt 27, 3) := by decide +kernel
theorem dX7_placeAt_33 : decode cX7_placeAt 33 = .ok (.aload_n 0, 1) := by decide +kernel
theorem dX7_placeAt_34 : decode cX7_placeAt 34 = .ok (.getfield 18, 3) := by decide +kernel
theorem dX7_placeAt_37 : decode cX7_placeAt 37 = .ok (.iload_n 3, 1) := by decide +kernel
theorem dX7_placeAt_38 : decode cX7_placeAt 38 = .ok (.iaload, 1) := by decide +kernel
theorem dX7_placeAt_39 : decode cX7_placeAt 39 = .ok (.aload_n 0, 1) := by decide +kernel
theorem dX7_placeAt_40 : decode cX7_placeAt 40 = .ok (.getfield 18, 3) := by decide +kernel
theorem dX7_placeAt_43 : decode cX7_placeAt 43 = .ok (.iload_n 1, 1) := by decide +kernel
theorem dX7_placeAt_44 : decode cX7_placeAt 44 = .ok (.iaload, 1) := by decide +kernel
theorem dX7_placeAt_45 : decode cX7_placeAt 45 = .ok (.if_icmp .ne 6, 3) := by decide +kernel
theorem dX7_placeAt_48 : decode cX7_placeAt 48 = .ok (.iinc 2 1, 3) := by decide +kernel
theorem dX7_placeAt_51 : decode cX7_placeAt 51 = .ok (.iinc 3 (-1), 3) := by decide +kernel
theorem dX7_placeAt_54 : decode cX7_placeAt 54 = .ok (.goto (-40), 3) := by decide +kernel
theorem dX7_placeAt_57 : decode cX7_placeAt 57 = .ok (.iload_n 2, 1) := by decide +kernel
theorem dX7_placeAt_58 : decode cX7_placeAt 58 = .ok (.ireturn, 1) := by decide +kernel
theorem dX7_endOf_0 : decode cX7_endOf 0 = .ok (.iload_n 1, 1) := by decide +kernel
theorem dX7_endOf_1 : decode cX7_endOf 1 = .ok (.iconst 1, 1) := by decide +kernel
theorem dX7_endOf_2 : decode cX7_endOf 2 = .ok (.iadd, 1) := by decide +kernel
theorem dX7_endOf_3 : decode cX7_endOf 3 = .ok (.istore_n 2, 1) := by decide +kernel
theorem dX7_endOf_4 : decode cX7_endOf 4 = .ok (.aload_n 0, 1) := by decide +kernel
theorem dX7_endOf_5 : decode cX7_endOf 5 = .ok (.iload_n 1, 1) := by decide +kernel
theorem dX7_endOf_6 : decode cX7_endOf 6 = .ok (.invokevirtual 31, 3) := by decide +kernel
theorem dX7_endOf_9 : decode cX7_endOf 9 = .ok (.ifCond .eq 32, 3) := by decide +kernel
theorem dX7_endOf_12 : decode cX7_endOf 12 = .ok (.iload_n 2, 1) := by decide +kernel
theorem dX7_endOf_13 : decode cX7_endOf 13 = .ok (.aload_n 0, 1) := by decide +kernel
theorem dX7_endOf_14 : decode cX7_endOf 14 = .ok (.getfield 21, 3) := by decide +kernel
theorem dX7_endOf_17 : decode cX7_endOf 17 = .ok (.if_icmp .ge 24, 3) := by decide +kernel
theorem dX7_endOf_20 : decode cX7_endOf 20 = .ok (.aload_n 0, 1) := by decide +kernel
theorem dX7_endOf_21 : decode cX7_endOf 21 = .ok (.getfield 18, 3) := by decide +kernel
theorem dX7_endOf_24 : decode cX7_endOf 24 = .ok (.iload_n 2, 1) := by decide +kernel
theorem dX7_endOf_25 : decode cX7_endOf 25 = .ok (.iaload, 1) := by decide +kernel
theorem dX7_endOf_26 : decode cX7_endOf 26 = .ok (.aload_n 0, 1) := by decide +kernel
theorem dX7_endOf_27 : decode cX7_endOf 27 = .ok (.getfield 18, 3) := by decide +kernel
theorem dX7_endOf_30 : decode cX7_endOf 30 = .ok (.iload_n 1, 1) := by decide +kernel
theorem dX7_endOf_31 : decode cX7_endOf 31 = .ok (.iaload, 1) := by decide +kernel
theorem dX7_endOf_32 : decode cX7_endOf 32 = .ok (.if_icmp .le 9, 3) := by decide +kernel
theorem dX7_endOf_35 : decode cX7_endOf 35 = .ok (.iinc 2 1, 3) := by decide +kernel
theorem dX7_endOf_38 : decode cX7_endOf 38 = .ok (.goto (-26), 3) := by decide +kernel
theorem dX7_endOf_41 : decode cX7_endOf 41 = .ok (.iload_n 2, 1) := by decide +kernel
theorem dX7_endOf_42 : decode cX7_endOf 42 = .ok (.ireturn, 1) := by decide +kernel
theorem dX7_childCount_0 : decode cX7_childCount 0 = .ok (.iconst 0, 1) := by decide +kernel
theorem dX7_childCount_1 : decode cX7_childCount 1 = .ok (.istore_n 2, 1) := by decide +kernel
theorem dX7_childCount_2 : decode cX7_childCount 2 = .ok (.aload_n 0, 1) := by decide +kernel
theorem dX7_childCount_3 : decode cX7_childCount 3 = .ok (.iload_n 1, 1) := by decide +kernel
theorem dX7_childCount_4 : decode cX7_childCount 4 = .ok (.invokevirtual 31, 3) := by decide +kernel
theorem dX7_childCount_7 : decode cX7_childCount 7 = .ok (.ifCond .eq 56, 3) := by decide +kernel
theorem dX7_childCount_10 : decode cX7_childCount 10 = .ok (.iload_n 1, 1) := by decide +kernel
theorem dX7_childCount_11 : decode cX7_childCount 11 = .ok (.iconst 1, 1) := by decide +kernel
theorem dX7_childCount_12 : decode cX7_childCount 12 = .ok (.iadd, 1) := by decide +kernel
theorem dX7_childCount_13 : decode cX7_childCount 13 = .ok (.istore_n 3, 1) := by decide +kernel
theorem dX7_childCount_14 : decode cX7_childCount 14 = .ok (.iload_n 3, 1) := by decide +kernel
theorem dX7_childCount_15 : decode cX7_childCount 15 = .ok (.aload_n 0, 1) := by decide +kernel
theorem dX7_childCount_16 : decode cX7_childCount 16 = .ok (.getfield 21, 3) := by decide +kernel
theorem dX7_childCount_19 : decode cX7_childCount 19 = .ok (.if_icmp .ge 44, 3) := by decide +kernel
theorem dX7_childCount_22 : decode cX7_childCount 22 = .ok (.aload_n 0, 1) := by decide +kernel
theorem dX7_childCount_23 : decode cX7_childCount 23 = .ok (.getfield 18, 3) := by decide +kernel
theorem dX7_childCount_26 : decode cX7_childCount 26 = .ok (.iload_n 3, 1) := by decide +kernel
theorem dX7_childCount_27 : decode cX7_childCount 27 = .ok (.iaload, 1) := by decide +kernel
theorem dX7_childCount_28 : decode cX7_childCount 28 = .ok (.aload_n 0, 1) := by decide +kernel
theorem dX7_childCount_29 : decode cX7_childCount 29 = .ok (.getfield 18, 3) := by decide +kernel
theorem dX7_childCount_32 : decode cX7_childCount 32 = .ok (.iload_n 1, 1) := by decide +kernel
theorem dX7_childCount_33 : decode cX7_childCount 33 = .ok (.iaload, 1) := by decide +kernel
theorem dX7_childCount_34 : decode cX7_childCount 34 = .ok (.if_icmp .le 29, 3) := by decide +kernel
theorem dX7_childCount_37 : decode cX7_childCount 37 = .ok (.aload_n 0, 1) := by decide +kernel
theorem dX7_childCount_38 : decode cX7_childCount 38 = .ok (.getfield 18, 3) := by decide +kernel
theorem dX7_childCount_41 : decode cX7_childCount 41 = .ok (.iload_n 3, 1) := by decide +kernel
theorem dX7_childCount_42 : decode cX7_childCount 42 = .ok (.iaload, 1) := by decide +kernel
theorem dX7_childCount_43 : decode cX7_childCount 43 = .ok (.aload_n 0, 1) := by decide +kernel
theorem dX7_childCount_44 : decode cX7_childCount 44 = .ok (.getfield 18, 3) := by decide +kernel
theorem dX7_childCount_47 : decode cX7_childCount 47 = .ok (.iload_n 1, 1) := by decide +kernel
theorem dX7_childCount_48 : decode cX7_childCount 48 = .ok (.iaload, 1) := by decide +kernel
theorem dX7_childCount_49 : decode cX7_childCount 49 = .ok (.iconst 1, 1) := by decide +kernel
theorem dX7_childCount_50 : decode cX7_childCount 50 = .ok (.iadd, 1) := by decide +kernel
theorem dX7_childCount_51 : decode cX7_childCount 51 = .ok (.if_icmp .ne 6, 3) := by decide +kernel
theorem dX7_childCount_54 : decode cX7_childCount 54 = .ok (.iinc 2 1, 3) := by decide +kernel
theorem dX7_childCount_57 : decode cX7_childCount 57 = .ok (.iinc 3 1, 3) := by decide +kernel
theorem dX7_childCount_60 : decode cX7_childCount 60 = .ok (.goto (-46), 3) := by decide +kernel
theorem dX7_childCount_63 : decode cX7_childCount 63 = .ok (.iload_n 2, 1) := by decide +kernel
theorem dX7_childCount_64 : decode cX7_childCount 64 = .ok (.ireturn, 1) := by decide +kernel
theorem dX7_spot_0 : decode cX7_spot 0 = .ok (.aload_n 0, 1) := by decide +kernel
theorem dX7_spot_1 : decode cX7_spot 1 = .ok (.iload_n 1, 1) := by decide +kernel
theorem dX7_spot_2 : decode cX7_spot 2 = .ok (.invokevirtual 42, 3) := by decide +kernel
theorem dX7_spot_5 : decode cX7_spot 5 = .ok (.istore 4, 2) := by decide +kernel
theorem dX7_spot_7 : decode cX7_spot 7 = .ok (.iconst 0, 1) := by decide +kernel
theorem dX7_spot_8 : decode cX7_spot 8 = .ok (.istore 5, 2) := by decide +kernel
theorem dX7_spot_10 : decode cX7_spot 10 = .ok (.iload_n 1, 1) := by decide +kernel
theorem dX7_spot_11 : decode cX7_spot 11 = .ok (.iconst 1, 1) := by decide +kernel
theorem dX7_spot_12 : decode cX7_spot 12 = .ok (.iadd, 1) := by decide +kernel
theorem dX7_spot_13 : decode cX7_spot 13 = .ok (.istore 6, 2) := by decide +kernel
theorem dX7_spot_15 : decode cX7_spot 15 = .ok (.iload 6, 2) := by decide +kernel
theorem dX7_spot_17 : decode cX7_spot 17 = .ok (.iload 4, 2) := by decide +kernel
theorem dX7_spot_19 : decode cX7_spot 19 = .ok (.if_icmp .ge 43, 3) := by decide +kernel
theorem dX7_spot_22 : decode cX7_spot 22 = .ok (.aload_n 0, 1) := by decide +kernel
theorem dX7_spot_23 : decode cX7_spot 23 = .ok (.iload 6, 2) := by decide +kernel
theorem dX7_spot_25 : decode cX7_spot 25 = .ok (.invokevirtual 45, 3) := by decide +kernel
theorem dX7_spot_28 : decode cX7_spot 28 = .ok (.aload_n 0, 1) := by decide +kernel
theorem dX7_spot_29 : decode cX7_spot 29 = .ok (.iload_n 1, 1) := by decide +kernel
theorem dX7_spot_30 : decode cX7_spot 30 = .ok (.invokevirtual 45, 3) := by decide +kernel
theorem dX7_spot_33 : decode cX7_spot 33 = .ok (.iconst 1, 1) := by decide +kernel
theorem dX7_spot_34 : decode cX7_spot 34 = .ok (.iadd, 1) := by decide +kernel
theorem dX7_spot_35 : decode cX7_spot 35 = .ok (.if_icmp .ne 21, 3) := by decide +kernel
theorem dX7_spot_38 : decode cX7_spot 38 = .ok (.iload 6, 2) := by decide +kernel
theorem dX7_spot_40 : decode cX7_spot 40 = .ok (.iload_n 3, 1) := by decide +kernel
theorem dX7_spot_41 : decode cX7_spot 41 = .ok (.if_icmp .eq 15, 3) := by decide +kernel
theorem dX7_spot_44 : decode cX7_spot 44 = .ok (.iload 5, 2) := by decide +kernel
theorem dX7_spot_46 : decode cX7_spot 46 = .ok (.iload_n 2, 1) := by decide +kernel
theorem dX7_spot_47 : decode cX7_spot 47 = .ok (.if_icmp .ne 6, 3) := by decide +kernel
theorem dX7_spot_50 : decode cX7_spot 50 = .ok (.iload 6, 2) := by decide +kernel
theorem dX7_spot_52 : decode cX7_spot 52 = .ok (.ireturn, 1) := by decide +kernel
theorem dX7_spot_53 : decode cX7_spot 53 = .ok (.iinc 5 1, 3) := by decide +kernel
theorem dX7_spot_56 : decode cX7_spot 56 = .ok (.iinc 6 1, 3) := by decide +kernel
theorem dX7_spot_59 : decode cX7_spot 59 = .ok (.goto (-44), 3) := by decide +kernel
theorem dX7_spot_62 : decode cX7_spot 62 = .ok (.iload 4, 2) := by decide +kernel
theorem dX7_spot_64 : decode cX7_spot 64 = .ok (.ireturn, 1) := by decide +kernel
theorem dX7_isWithin_0 : decode cX7_isWithin 0 = .ok (.iload_n 1, 1) := by decide +kernel
theorem dX7_isWithin_1 : decode cX7_isWithin 1 = .ok (.iload_n 2, 1) := by decide +kernel
theorem dX7_isWithin_2 : decode cX7_isWithin 2 = .ok (.if_icmp .lt 16, 3) := by decide +kernel
theorem dX7_isWithin_5 : decode cX7_isWithin 5 = .ok (.iload_n 1, 1) := by decide +kernel
theorem dX7_isWithin_6 : decode cX7_isWithin 6 = .ok (.aload_n 0, 1) := by decide +kernel
theorem dX7_isWithin_7 : decode cX7_isWithin 7 = .ok (.iload_n 2, 1) := by decide +kernel
theorem dX7_isWithin_8 : decode cX7_isWithin 8 = .ok (.invokevirtual 42, 3) := by decide +kernel
theorem dX7_isWithin_11 : decode cX7_isWithin 11 = .ok (.if_icmp .ge 7, 3) := by decide +kernel
theorem dX7_isWithin_14 : decode cX7_isWithin 14 = .ok (.iconst 1, 1) := by decide +kernel
theorem dX7_isWithin_15 : decode cX7_isWithin 15 = .ok (.goto 4, 3) := by decide +kernel
theorem dX7_isWithin_18 : decode cX7_isWithin 18 = .ok (.iconst 0, 1) := by decide +kernel
theorem dX7_isWithin_19 : decode cX7_isWithin 19 = .ok (.ireturn, 1) := by decide +kernel
theorem dX7_lowestOver_0 : decode cX7_lowestOver 0 = .ok (.iload_n 1, 1) := by decide +kernel
theorem dX7_lowestOver_1 : decode cX7_lowestOver 1 = .ok (.istore_n 3, 1) := by decide +kernel
theorem dX7_lowestOver_2 : decode cX7_lowestOver 2 = .ok (.iload_n 3, 1) := by decide +kernel
theorem dX7_lowestOver_3 : decode cX7_lowestOver 3 = .ok (.ifCond .le 29, 3) := by decide +kernel
theorem dX7_lowestOver_6 : decode cX7_lowestOver 6 = .ok (.aload_n 0, 1) := by decide +kernel
theorem dX7_lowestOver_7 : decode cX7_lowestOver 7 = .ok (.iload_n 1, 1) := by decide +kernel
theorem dX7_lowestOver_8 : decode cX7_lowestOver 8 = .ok (.iload_n 3, 1) := by decide +kernel
theorem dX7_lowestOver_9 : decode cX7_lowestOver 9 = .ok (.invokevirtual 48, 3) := by decide +kernel
theorem dX7_lowestOver_12 : decode cX7_lowestOver 12 = .ok (.ifCond .eq 14, 3) := by decide +kernel
theorem dX7_lowestOver_15 : decode cX7_lowestOver 15 = .ok (.aload_n 0, 1) := by decide +kernel
theorem dX7_lowestOver_16 : decode cX7_lowestOver 16 = .ok (.iload_n 2, 1) := by decide +kernel
theorem dX7_lowestOver_17 : decode cX7_lowestOver 17 = .ok (.iload_n 3, 1) := by decide +kernel
theorem dX7_lowestOver_18 : decode cX7_lowestOver 18 = .ok (.invokevirtual 48, 3) := by decide +kernel
theorem dX7_lowestOver_21 : decode cX7_lowestOver 21 = .ok (.ifCond .eq 5, 3) := by decide +kernel
theorem dX7_lowestOver_24 : decode cX7_lowestOver 24 = .ok (.iload_n 3, 1) := by decide +kernel
theorem dX7_lowestOver_25 : decode cX7_lowestOver 25 = .ok (.ireturn, 1) := by decide +kernel
theorem dX7_lowestOver_26 : decode cX7_lowestOver 26 = .ok (.iinc 3 (-1), 3) := by decide +kernel
theorem dX7_lowestOver_29 : decode cX7_lowestOver 29 = .ok (.goto (-27), 3) := by decide +kernel
theorem dX7_lowestOver_32 : decode cX7_lowestOver 32 = .ok (.iconst 0, 1) := by decide +kernel
theorem dX7_lowestOver_33 : decode cX7_lowestOver 33 = .ok (.ireturn, 1) := by decide +kernel
theorem dX7_firstUnlike_0 : decode cX7_firstUnlike 0 = .ok (.aload_n 0, 1) := by decide +kernel
theorem dX7_firstUnlike_1 : decode cX7_firstUnlike 1 = .ok (.getfield 21, 3) := by decide +kernel
theorem dX7_firstUnlike_4 : decode cX7_firstUnlike 4 = .ok (.aload_n 1, 1) := by decide +kernel
theorem dX7_firstUnlike_5 : decode cX7_firstUnlike 5 = .ok (.getfield 21, 3) := by decide +kernel
theorem dX7_firstUnlike_8 : decode cX7_firstUnlike 8 = .ok (.invokestatic 52, 3) := by decide +kernel
theorem dX7_firstUnlike_11 : decode cX7_firstUnlike 11 = .ok (.istore_n 2, 1) := by decide +kernel
theorem dX7_firstUnlike_12 : decode cX7_firstUnlike 12 = .ok (.iconst 0, 1) := by decide +kernel
theorem dX7_firstUnlike_13 : decode cX7_firstUnlike 13 = .ok (.istore_n 3, 1) := by decide +kernel
theorem dX7_firstUnlike_14 : decode cX7_firstUnlike 14 = .ok (.iload_n 3, 1) := by decide +kernel
theorem dX7_firstUnlike_15 : decode cX7_firstUnlike 15 = .ok (.iload_n 2, 1) := by decide +kernel
theorem dX7_firstUnlike_16 : decode cX7_firstUnlike 16 = .ok (.if_icmp .ge 72, 3) := by decide +kernel
theorem dX7_firstUnlike_19 : decode cX7_firstUnlike 19 = .ok (.aload_n 0, 1) := by decide +kernel
theorem dX7_firstUnlike_20 : decode cX7_firstUnlike 20 = .ok (.iload_n 3, 1) := by decide +kernel
theorem dX7_firstUnlike_21 : decode cX7_firstUnlike 21 = .ok (.invokevirtual 31, 3) := by decide +kernel
theorem dX7_firstUnlike_24 : decode cX7_firstUnlike 24 = .ok (.ifCond .eq 56, 3) := by decide +kernel
theorem dX7_firstUnlike_27 : decode cX7_firstUnlike 27 = .ok (.aload_n 1, 1) := by decide +kernel
theorem dX7_firstUnlike_28 : decode cX7_firstUnlike 28 = .ok (.iload_n 3, 1) := by decide +kernel
theorem dX7_firstUnlike_29 : decode cX7_firstUnlike 29 = .ok (.invokevirtual 31, 3) := by decide +kernel
theorem dX7_firstUnlike_32 : decode cX7_firstUnlike 32 = .ok (.ifCond .eq 48, 3) := by decide +kernel
theorem dX7_firstUnlike_35 : decode cX7_firstUnlike 35 = .ok (.aload_n 0, 1) := by decide +kernel
theorem dX7_firstUnlike_36 : decode cX7_firstUnlike 36 = .ok (.getfield 9, 3) := by decide +kernel
theorem dX7_firstUnlike_39 : decode cX7_firstUnlike 39 = .ok (.iload_n 3, 1) := by decide +kernel
theorem dX7_firstUnlike_40 : decode cX7_firstUnlike 40 = .ok (.iaload, 1) := by decide +kernel
theorem dX7_firstUnlike_41 : decode cX7_firstUnlike 41 = .ok (.aload_n 1, 1) := by decide +kernel
theorem dX7_firstUnlike_42 : decode cX7_firstUnlike 42 = .ok (.getfield 9, 3) := by decide +kernel
theorem dX7_firstUnlike_45 : decode cX7_firstUnlike 45 = .ok (.iload_n 3, 1) := by decide +kernel
theorem dX7_firstUnlike_46 : decode cX7_firstUnlike 46 = .ok (.iaload, 1) := by decide +kernel
theorem dX7_firstUnlike_47 : decode cX7_firstUnlike 47 = .ok (.if_icmp .ne 33, 3) := by decide +kernel
theorem dX7_firstUnlike_50 : decode cX7_firstUnlike 50 = .ok (.aload_n 0, 1) := by decide +kernel
theorem dX7_firstUnlike_51 : decode cX7_firstUnlike 51 = .ok (.getfield 15, 3) := by decide +kernel
theorem dX7_firstUnlike_54 : decode cX7_firstUnlike 54 = .ok (.iload_n 3, 1) := by decide +kernel
theorem dX7_firstUnlike_55 : decode cX7_firstUnlike 55 = .ok (.iaload, 1) := by decide +kernel
theorem dX7_firstUnlike_56 : decode cX7_firstUnlike 56 = .ok (.aload_n 1, 1) := by decide +kernel
theorem dX7_firstUnlike_57 : decode cX7_firstUnlike 57 = .ok (.getfield 15, 3) := by decide +kernel
theorem dX7_firstUnlike_60 : decode cX7_firstUnlike 60 = .ok (.iload_n 3, 1) := by decide +kernel
theorem dX7_firstUnlike_61 : decode cX7_firstUnlike 61 = .ok (.iaload, 1) := by decide +kernel
theorem dX7_firstUnlike_62 : decode cX7_firstUnlike 62 = .ok (.if_icmp .ne 18, 3) := by decide +kernel
theorem dX7_firstUnlike_65 : decode cX7_firstUnlike 65 = .ok (.aload_n 0, 1) := by decide +kernel
theorem dX7_firstUnlike_66 : decode cX7_firstUnlike 66 = .ok (.getfield 18, 3) := by decide +kernel
theorem dX7_firstUnlike_69 : decode cX7_firstUnlike 69 = .ok (.iload_n 3, 1) := by decide +kernel
theorem dX7_firstUnlike_70 : decode cX7_firstUnlike 70 = .ok (.iaload, 1) := by decide +kernel
theorem dX7_firstUnlike_71 : decode cX7_firstUnlike 71 = .ok (.aload_n 1, 1) := by decide +kernel
theorem dX7_firstUnlike_72 : decode cX7_firstUnlike 72 = .ok (.getfield 18, 3) := by decide +kernel
theorem dX7_firstUnlike_75 : decode cX7_firstUnlike 75 = .ok (.iload_n 3, 1) := by decide +kernel
theorem dX7_firstUnlike_76 : decode cX7_firstUnlike 76 = .ok (.iaload, 1) := by decide +kernel
theorem dX7_firstUnlike_77 : decode cX7_firstUnlike 77 = .ok (.if_icmp .eq 5, 3) := by decide +kernel
theorem dX7_firstUnlike_80 : decode cX7_firstUnlike 80 = .ok (.iload_n 3, 1) := by decide +kernel
theorem dX7_firstUnlike_81 : decode cX7_firstUnlike 81 = .ok (.ireturn, 1) := by decide +kernel
theorem dX7_firstUnlike_82 : decode cX7_firstUnlike 82 = .ok (.iinc 3 1, 3) := by decide +kernel
theorem dX7_firstUnlike_85 : decode cX7_firstUnlike 85 = .ok (.goto (-71), 3) := by decide +kernel
theorem dX7_firstUnlike_88 : decode cX7_firstUnlike 88 = .ok (.iconst (-1), 1) := by decide +kernel
theorem dX7_firstUnlike_89 : decode cX7_firstUnlike 89 = .ok (.ireturn, 1) := by decide +kernel
theorem dX7_firstWrong_0 : decode cX7_firstWrong 0 = .ok (.iconst 0, 1) := by decide +kernel
theorem dX7_firstWrong_1 : decode cX7_firstWrong 1 = .ok (.istore_n 3, 1) := by decide +kernel
theorem dX7_firstWrong_2 : decode cX7_firstWrong 2 = .ok (.iload_n 3, 1) := by decide +kernel
theorem dX7_firstWrong_3 : decode cX7_firstWrong 3 = .ok (.iload_n 2, 1) := by decide +kernel
