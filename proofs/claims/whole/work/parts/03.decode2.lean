theorem dX9_lays_28 : decode cX9_lays 28 = .ok (.iload_n 2, 1) := by decide +kernel
theorem dX9_lays_29 : decode cX9_lays 29 = .ok (.iadd, 1) := by decide +kernel
theorem dX9_lays_30 : decode cX9_lays 30 = .ok (.aload_n 0, 1) := by decide +kernel
theorem dX9_lays_31 : decode cX9_lays 31 = .ok (.getfield 44, 3) := by decide +kernel
theorem dX9_lays_34 : decode cX9_lays 34 = .ok (.iload_n 2, 1) := by decide +kernel
theorem dX9_lays_35 : decode cX9_lays 35 = .ok (.iaload, 1) := by decide +kernel
theorem dX9_lays_36 : decode cX9_lays 36 = .ok (.iastore, 1) := by decide +kernel
theorem dX9_lays_37 : decode cX9_lays 37 = .ok (.aload_n 0, 1) := by decide +kernel
theorem dX9_lays_38 : decode cX9_lays 38 = .ok (.getfield 16, 3) := by decide +kernel
theorem dX9_lays_41 : decode cX9_lays 41 = .ok (.bipush 64, 2) := by decide +kernel
theorem dX9_lays_43 : decode cX9_lays 43 = .ok (.iload_n 1, 1) := by decide +kernel
theorem dX9_lays_44 : decode cX9_lays 44 = .ok (.imul, 1) := by decide +kernel
theorem dX9_lays_45 : decode cX9_lays 45 = .ok (.iload_n 2, 1) := by decide +kernel
theorem dX9_lays_46 : decode cX9_lays 46 = .ok (.iadd, 1) := by decide +kernel
theorem dX9_lays_47 : decode cX9_lays 47 = .ok (.aload_n 0, 1) := by decide +kernel
theorem dX9_lays_48 : decode cX9_lays 48 = .ok (.getfield 47, 3) := by decide +kernel
theorem dX9_lays_51 : decode cX9_lays 51 = .ok (.iload_n 2, 1) := by decide +kernel
theorem dX9_lays_52 : decode cX9_lays 52 = .ok (.iaload, 1) := by decide +kernel
theorem dX9_lays_53 : decode cX9_lays 53 = .ok (.iastore, 1) := by decide +kernel
theorem dX9_lays_54 : decode cX9_lays 54 = .ok (.aload_n 0, 1) := by decide +kernel
theorem dX9_lays_55 : decode cX9_lays 55 = .ok (.getfield 19, 3) := by decide +kernel
theorem dX9_lays_58 : decode cX9_lays 58 = .ok (.bipush 64, 2) := by decide +kernel
theorem dX9_lays_60 : decode cX9_lays 60 = .ok (.iload_n 1, 1) := by decide +kernel
theorem dX9_lays_61 : decode cX9_lays 61 = .ok (.imul, 1) := by decide +kernel
theorem dX9_lays_62 : decode cX9_lays 62 = .ok (.iload_n 2, 1) := by decide +kernel
theorem dX9_lays_63 : decode cX9_lays 63 = .ok (.iadd, 1) := by decide +kernel
theorem dX9_lays_64 : decode cX9_lays 64 = .ok (.aload_n 0, 1) := by decide +kernel
theorem dX9_lays_65 : decode cX9_lays 65 = .ok (.getfield 50, 3) := by decide +kernel
theorem dX9_lays_68 : decode cX9_lays 68 = .ok (.iload_n 2, 1) := by decide +kernel
theorem dX9_lays_69 : decode cX9_lays 69 = .ok (.iaload, 1) := by decide +kernel
theorem dX9_lays_70 : decode cX9_lays 70 = .ok (.iastore, 1) := by decide +kernel
theorem dX9_lays_71 : decode cX9_lays 71 = .ok (.iinc 2 1, 3) := by decide +kernel
theorem dX9_lays_74 : decode cX9_lays 74 = .ok (.goto (-62), 3) := by decide +kernel
theorem dX9_lays_77 : decode cX9_lays 77 = .ok (.return_, 1) := by decide +kernel
theorem dX9_find_0 : decode cX9_find 0 = .ok (.iconst 0, 1) := by decide +kernel
theorem dX9_find_1 : decode cX9_find 1 = .ok (.istore_n 2, 1) := by decide +kernel
theorem dX9_find_2 : decode cX9_find 2 = .ok (.iload_n 2, 1) := by decide +kernel
theorem dX9_find_3 : decode cX9_find 3 = .ok (.aload_n 0, 1) := by decide +kernel
theorem dX9_find_4 : decode cX9_find 4 = .ok (.getfield 127, 3) := by decide +kernel
theorem dX9_find_7 : decode cX9_find 7 = .ok (.if_icmp .ge 21, 3) := by decide +kernel
theorem dX9_find_10 : decode cX9_find 10 = .ok (.aload_n 0, 1) := by decide +kernel
theorem dX9_find_11 : decode cX9_find 11 = .ok (.getfield 44, 3) := by decide +kernel
theorem dX9_find_14 : decode cX9_find 14 = .ok (.iload_n 2, 1) := by decide +kernel
theorem dX9_find_15 : decode cX9_find 15 = .ok (.iaload, 1) := by decide +kernel
theorem dX9_find_16 : decode cX9_find 16 = .ok (.iload_n 1, 1) := by decide +kernel
theorem dX9_find_17 : decode cX9_find 17 = .ok (.if_icmp .ne 5, 3) := by decide +kernel
theorem dX9_find_20 : decode cX9_find 20 = .ok (.iload_n 2, 1) := by decide +kernel
theorem dX9_find_21 : decode cX9_find 21 = .ok (.ireturn, 1) := by decide +kernel
theorem dX9_find_22 : decode cX9_find 22 = .ok (.iinc 2 1, 3) := by decide +kernel
theorem dX9_find_25 : decode cX9_find 25 = .ok (.goto (-23), 3) := by decide +kernel
theorem dX9_find_28 : decode cX9_find 28 = .ok (.iconst (-1), 1) := by decide +kernel
theorem dX9_find_29 : decode cX9_find 29 = .ok (.ireturn, 1) := by decide +kernel
theorem dX9_end_0 : decode cX9_end 0 = .ok (.iload_n 1, 1) := by decide +kernel
theorem dX9_end_1 : decode cX9_end 1 = .ok (.iconst 1, 1) := by decide +kernel
theorem dX9_end_2 : decode cX9_end 2 = .ok (.iadd, 1) := by decide +kernel
theorem dX9_end_3 : decode cX9_end 3 = .ok (.istore_n 2, 1) := by decide +kernel
theorem dX9_end_4 : decode cX9_end 4 = .ok (.iload_n 2, 1) := by decide +kernel
theorem dX9_end_5 : decode cX9_end 5 = .ok (.aload_n 0, 1) := by decide +kernel
theorem dX9_end_6 : decode cX9_end 6 = .ok (.getfield 127, 3) := by decide +kernel
theorem dX9_end_9 : decode cX9_end 9 = .ok (.if_icmp .ge 24, 3) := by decide +kernel
theorem dX9_end_12 : decode cX9_end 12 = .ok (.aload_n 0, 1) := by decide +kernel
theorem dX9_end_13 : decode cX9_end 13 = .ok (.getfield 50, 3) := by decide +kernel
theorem dX9_end_16 : decode cX9_end 16 = .ok (.iload_n 2, 1) := by decide +kernel
theorem dX9_end_17 : decode cX9_end 17 = .ok (.iaload, 1) := by decide +kernel
theorem dX9_end_18 : decode cX9_end 18 = .ok (.aload_n 0, 1) := by decide +kernel
theorem dX9_end_19 : decode cX9_end 19 = .ok (.getfield 50, 3) := by decide +kernel
theorem dX9_end_22 : decode cX9_end 22 = .ok (.iload_n 1, 1) := by decide +kernel
theorem dX9_end_23 : decode cX9_end 23 = .ok (.iaload, 1) := by decide +kernel
theorem dX9_end_24 : decode cX9_end 24 = .ok (.if_icmp .le 9, 3) := by decide +kernel
theorem dX9_end_27 : decode cX9_end 27 = .ok (.iinc 2 1, 3) := by decide +kernel
theorem dX9_end_30 : decode cX9_end 30 = .ok (.goto (-26), 3) := by decide +kernel
theorem dX9_end_33 : decode cX9_end 33 = .ok (.iload_n 2, 1) := by decide +kernel
theorem dX9_end_34 : decode cX9_end 34 = .ok (.ireturn, 1) := by decide +kernel
theorem dX9_parent_0 : decode cX9_parent 0 = .ok (.iload_n 1, 1) := by decide +kernel
theorem dX9_parent_1 : decode cX9_parent 1 = .ok (.iconst 1, 1) := by decide +kernel
theorem dX9_parent_2 : decode cX9_parent 2 = .ok (.isub, 1) := by decide +kernel
theorem dX9_parent_3 : decode cX9_parent 3 = .ok (.istore_n 2, 1) := by decide +kernel
theorem dX9_parent_4 : decode cX9_parent 4 = .ok (.iload_n 2, 1) := by decide +kernel
theorem dX9_parent_5 : decode cX9_parent 5 = .ok (.ifCond .lt 24, 3) := by decide +kernel
theorem dX9_parent_8 : decode cX9_parent 8 = .ok (.aload_n 0, 1) := by decide +kernel
theorem dX9_parent_9 : decode cX9_parent 9 = .ok (.getfield 50, 3) := by decide +kernel
theorem dX9_parent_12 : decode cX9_parent 12 = .ok (.iload_n 2, 1) := by decide +kernel
theorem dX9_parent_13 : decode cX9_parent 13 = .ok (.iaload, 1) := by decide +kernel
theorem dX9_parent_14 : decode cX9_parent 14 = .ok (.aload_n 0, 1) := by decide +kernel
theorem dX9_parent_15 : decode cX9_parent 15 = .ok (.getfield 50, 3) := by decide +kernel
theorem dX9_parent_18 : decode cX9_parent 18 = .ok (.iload_n 1, 1) := by decide +kernel
theorem dX9_parent_19 : decode cX9_parent 19 = .ok (.iaload, 1) := by decide +kernel
theorem dX9_parent_20 : decode cX9_parent 20 = .ok (.if_icmp .lt 9, 3) := by decide +kernel
theorem dX9_parent_23 : decode cX9_parent 23 = .ok (.iinc 2 (-1), 3) := by decide +kernel
theorem dX9_parent_26 : decode cX9_parent 26 = .ok (.goto (-22), 3) := by decide +kernel
theorem dX9_parent_29 : decode cX9_parent 29 = .ok (.iload_n 2, 1) := by decide +kernel
theorem dX9_parent_30 : decode cX9_parent 30 = .ok (.ireturn, 1) := by decide +kernel
theorem dX9_parentKey_0 : decode cX9_parentKey 0 = .ok (.iload_n 1, 1) := by decide +kernel
theorem dX9_parentKey_1 : decode cX9_parentKey 1 = .ok (.ifCond .gt 7, 3) := by decide +kernel
theorem dX9_parentKey_4 : decode cX9_parentKey 4 = .ok (.iconst 0, 1) := by decide +kernel
theorem dX9_parentKey_5 : decode cX9_parentKey 5 = .ok (.goto 13, 3) := by decide +kernel
theorem dX9_parentKey_8 : decode cX9_parentKey 8 = .ok (.aload_n 0, 1) := by decide +kernel
theorem dX9_parentKey_9 : decode cX9_parentKey 9 = .ok (.getfield 44, 3) := by decide +kernel
theorem dX9_parentKey_12 : decode cX9_parentKey 12 = .ok (.aload_n 0, 1) := by decide +kernel
theorem dX9_parentKey_13 : decode cX9_parentKey 13 = .ok (.iload_n 1, 1) := by decide +kernel
theorem dX9_parentKey_14 : decode cX9_parentKey 14 = .ok (.invokevirtual 130, 3) := by decide +kernel
theorem dX9_parentKey_17 : decode cX9_parentKey 17 = .ok (.iaload, 1) := by decide +kernel
theorem dX9_parentKey_18 : decode cX9_parentKey 18 = .ok (.ireturn, 1) := by decide +kernel
theorem dX9_place_0 : decode cX9_place 0 = .ok (.iconst 0, 1) := by decide +kernel
theorem dX9_place_1 : decode cX9_place 1 = .ok (.istore_n 2, 1) := by decide +kernel
theorem dX9_place_2 : decode cX9_place 2 = .ok (.iload_n 1, 1) := by decide +kernel
theorem dX9_place_3 : decode cX9_place 3 = .ok (.iconst 1, 1) := by decide +kernel
theorem dX9_place_4 : decode cX9_place 4 = .ok (.isub, 1) := by decide +kernel
theorem dX9_place_5 : decode cX9_place 5 = .ok (.istore_n 3, 1) := by decide +kernel
theorem dX9_place_6 : decode cX9_place 6 = .ok (.iload_n 3, 1) := by decide +kernel
theorem dX9_place_7 : decode cX9_place 7 = .ok (.ifCond .lt 42, 3) := by decide +kernel
theorem dX9_place_10 : decode cX9_place 10 = .ok (.aload_n 0, 1) := by decide +kernel
theorem dX9_place_11 : decode cX9_place 11 = .ok (.getfield 50, 3) := by decide +kernel
theorem dX9_place_14 : decode cX9_place 14 = .ok (.iload_n 3, 1) := by decide +kernel
theorem dX9_place_15 : decode cX9_place 15 = .ok (.iaload, 1) := by decide +kernel
theorem dX9_place_16 : decode cX9_place 16 = .ok (.aload_n 0, 1) := by decide +kernel
theorem dX9_place_17 : decode cX9_place 17 = .ok (.getfield 50, 3) := by decide +kernel
theorem dX9_place_20 : decode cX9_place 20 = .ok (.iload_n 1, 1) := by decide +kernel
theorem dX9_place_21 : decode cX9_place 21 = .ok (.iaload, 1) := by decide +kernel
theorem dX9_place_22 : decode cX9_place 22 = .ok (.if_icmp .lt 27, 3) := by decide +kernel
theorem dX9_place_25 : decode cX9_place 25 = .ok (.aload_n 0, 1) := by decide +kernel
theorem dX9_place_26 : decode cX9_place 26 = .ok (.getfield 50, 3) := by decide +kernel
theorem dX9_place_29 : decode cX9_place 29 = .ok (.iload_n 3, 1) := by decide +kernel
theorem dX9_place_30 : decode cX9_place 30 = .ok (.iaload, 1) := by decide +kernel
theorem dX9_place_31 : decode cX9_place 31 = .ok (.aload_n 0, 1) := by decide +kernel
theorem dX9_place_32 : decode cX9_place 32 = .ok (.getfield 50, 3) := by decide +kernel
theorem dX9_place_35 : decode cX9_place 35 = .ok (.iload_n 1, 1) := by decide +kernel
theorem dX9_place_36 : decode cX9_place 36 = .ok (.iaload, 1) := by decide +kernel
theorem dX9_place_37 : decode cX9_place 37 = .ok (.if_icmp .ne 6, 3) := by decide +kernel
theorem dX9_place_40 : decode cX9_place 40 = .ok (.iinc 2 1, 3) := by decide +kernel
theorem dX9_place_43 : decode cX9_place 43 = .ok (.iinc 3 (-1), 3) := by decide +kernel
theorem dX9_place_46 : decode cX9_place 46 = .ok (.goto (-40), 3) := by decide +kernel
theorem dX9_place_49 : decode cX9_place 49 = .ok (.iload_n 2, 1) := by decide +kernel
theorem dX9_place_50 : decode cX9_place 50 = .ok (.ireturn, 1) := by decide +kernel
theorem dX9_children_0 : decode cX9_children 0 = .ok (.iconst 0, 1) := by decide +kernel
theorem dX9_children_1 : decode cX9_children 1 = .ok (.istore_n 2, 1) := by decide +kernel
theorem dX9_children_2 : decode cX9_children 2 = .ok (.iload_n 1, 1) := by decide +kernel
theorem dX9_children_3 : decode cX9_children 3 = .ok (.iconst 1, 1) := by decide +kernel
theorem dX9_children_4 : decode cX9_children 4 = .ok (.iadd, 1) := by decide +kernel
theorem dX9_children_5 : decode cX9_children 5 = .ok (.istore_n 3, 1) := by decide +kernel
theorem dX9_children_6 : decode cX9_children 6 = .ok (.iload_n 3, 1) := by decide +kernel
theorem dX9_children_7 : decode cX9_children 7 = .ok (.aload_n 0, 1) := by decide +kernel
theorem dX9_children_8 : decode cX9_children 8 = .ok (.iload_n 1, 1) := by decide +kernel
theorem dX9_children_9 : decode cX9_children 9 = .ok (.invokevirtual 133, 3) := by decide +kernel
theorem dX9_children_12 : decode cX9_children 12 = .ok (.if_icmp .ge 29, 3) := by decide +kernel
theorem dX9_children_15 : decode cX9_children 15 = .ok (.aload_n 0, 1) := by decide +kernel
theorem dX9_children_16 : decode cX9_children 16 = .ok (.getfield 50, 3) := by decide +kernel
theorem dX9_children_19 : decode cX9_children 19 = .ok (.iload_n 3, 1) := by decide +kernel
theorem dX9_children_20 : decode cX9_children 20 = .ok (.iaload, 1) := by decide +kernel
theorem dX9_children_21 : decode cX9_children 21 = .ok (.aload_n 0, 1) := by decide +kernel
theorem dX9_children_22 : decode cX9_children 22 = .ok (.getfield 50, 3) := by decide +kernel
theorem dX9_children_25 : decode cX9_children 25 = .ok (.iload_n 1, 1) := by decide +kernel
theorem dX9_children_26 : decode cX9_children 26 = .ok (.iaload, 1) := by decide +kernel
theorem dX9_children_27 : decode cX9_children 27 = .ok (.iconst 1, 1) := by decide +kernel
theorem dX9_children_28 : decode cX9_children 28 = .ok (.iadd, 1) := by decide +kernel
theorem dX9_children_29 : decode cX9_children 29 = .ok (.if_icmp .ne 6, 3) := by decide +kernel
theorem dX9_children_32 : decode cX9_children 32 = .ok (.iinc 2 1, 3) := by decide +kernel
theorem dX9_children_35 : decode cX9_children 35 = .ok (.iinc 3 1, 3) := by decide +kernel
theorem dX9_children_38 : decode cX9_children 38 = .ok (.goto (-32), 3) := by decide +kernel
theorem dX9_children_41 : decode cX9_children 41 = .ok (.iload_n 2, 1) := by decide +kernel
theorem dX9_children_42 : decode cX9_children 42 = .ok (.ireturn, 1) := by decide +kernel
theorem dX9_child_0 : decode cX9_child 0 = .ok (.iload_n 1, 1) := by decide +kernel
theorem dX9_child_1 : decode cX9_child 1 = .ok (.iconst 1, 1) := by decide +kernel
theorem dX9_child_2 : decode cX9_child 2 = .ok (.iadd, 1) := by decide +kernel
theorem dX9_child_3 : decode cX9_child 3 = .ok (.istore_n 3, 1) := by decide +kernel
theorem dX9_child_4 : decode cX9_child 4 = .ok (.iconst 0, 1) := by decide +kernel
theorem dX9_child_5 : decode cX9_child 5 = .ok (.istore 4, 2) := by decide +kernel
theorem dX9_child_7 : decode cX9_child 7 = .ok (.iload 4, 2) := by decide +kernel
theorem dX9_child_9 : decode cX9_child 9 = .ok (.iload_n 2, 1) := by decide +kernel
theorem dX9_child_10 : decode cX9_child 10 = .ok (.if_icmp .ge 24, 3) := by decide +kernel
theorem dX9_child_13 : decode cX9_child 13 = .ok (.iload_n 3, 1) := by decide +kernel
theorem dX9_child_14 : decode cX9_child 14 = .ok (.aload_n 0, 1) := by decide +kernel
theorem dX9_child_15 : decode cX9_child 15 = .ok (.iload_n 1, 1) := by decide +kernel
theorem dX9_child_16 : decode cX9_child 16 = .ok (.invokevirtual 133, 3) := by decide +kernel
theorem dX9_child_19 : decode cX9_child 19 = .ok (.if_icmp .ge 15, 3) := by decide +kernel
theorem dX9_child_22 : decode cX9_child 22 = .ok (.aload_n 0, 1) := by decide +kernel
theorem dX9_child_23 : decode cX9_child 23 = .ok (.iload_n 3, 1) := by decide +kernel
theorem dX9_child_24 : decode cX9_child 24 = .ok (.invokevirtual 133, 3) := by decide +kernel
theorem dX9_child_27 : decode cX9_child 27 = .ok (.istore_n 3, 1) := by decide +kernel
theorem dX9_child_28 : decode cX9_child 28 = .ok (.iinc 4 1, 3) := by decide +kernel
theorem dX9_child_31 : decode cX9_child 31 = .ok (.goto (-24), 3) := by decide +kernel
theorem dX9_child_34 : decode cX9_child 34 = .ok (.iload_n 3, 1) := by decide +kernel
theorem dX9_child_35 : decode cX9_child 35 = .ok (.ireturn, 1) := by decide +kernel
theorem dX9_cuts_0 : decode cX9_cuts 0 = .ok (.iconst 0, 1) := by decide +kernel
theorem dX9_cuts_1 : decode cX9_cuts 1 = .ok (.istore_n 3, 1) := by decide +kernel
theorem dX9_cuts_2 : decode cX9_cuts 2 = .ok (.iload_n 3, 1) := by decide +kernel
theorem dX9_cuts_3 : decode cX9_cuts 3 = .ok (.iload_n 2, 1) := by decide +kernel
theorem dX9_cuts_4 : decode cX9_cuts 4 = .ok (.if_icmp .ge 58, 3) := by decide +kernel
theorem dX9_cuts_7 : decode cX9_cuts 7 = .ok (.aload_n 0, 1) := by decide +kernel
theorem dX9_cuts_8 : decode cX9_cuts 8 = .ok (.getfield 53, 3) := by decide +kernel
theorem dX9_cuts_11 : decode cX9_cuts 11 = .ok (.iload_n 3, 1) := by decide +kernel
theorem dX9_cuts_12 : decode cX9_cuts 12 = .ok (.aload_n 0, 1) := by decide +kernel
theorem dX9_cuts_13 : decode cX9_cuts 13 = .ok (.getfield 44, 3) := by decide +kernel
theorem dX9_cuts_16 : decode cX9_cuts 16 = .ok (.iload_n 1, 1) := by decide +kernel
theorem dX9_cuts_17 : decode cX9_cuts 17 = .ok (.iload_n 3, 1) := by decide +kernel
theorem dX9_cuts_18 : decode cX9_cuts 18 = .ok (.iadd, 1) := by decide +kernel
theorem dX9_cuts_19 : decode cX9_cuts 19 = .ok (.iaload, 1) := by decide +kernel
theorem dX9_cuts_20 : decode cX9_cuts 20 = .ok (.iastore, 1) := by decide +kernel
theorem dX9_cuts_21 : decode cX9_cuts 21 = .ok (.aload_n 0, 1) := by decide +kernel
theorem dX9_cuts_22 : decode cX9_cuts 22 = .ok (.getfield 56, 3) := by decide +kernel
theorem dX9_cuts_25 : decode cX9_cuts 25 = .ok (.iload_n 3, 1) := by decide +kernel
theorem dX9_cuts_26 : decode cX9_cuts 26 = .ok (.aload_n 0, 1) := by decide +kernel
theorem dX9_cuts_27 : decode cX9_cuts 27 = .ok (.getfield 47, 3) := by decide +kernel
theorem dX9_cuts_30 : decode cX9_cuts 30 = .ok (.iload_n 1, 1) := by decide +kernel
theorem dX9_cuts_31 : decode cX9_cuts 31 = .ok (.iload_n 3, 1) := by decide +kernel
theorem dX9_cuts_32 : decode cX9_cuts 32 = .ok (.iadd, 1) := by decide +kernel
theorem dX9_cuts_33 : decode cX9_cuts 33 = .ok (.iaload, 1) := by decide +kernel
theorem dX9_cuts_34 : decode cX9_cuts 34 = .ok (.iastore, 1) := by decide +kernel
theorem dX9_cuts_35 : decode cX9_cuts 35 = .ok (.aload_n 0, 1) := by decide +kernel
theorem dX9_cuts_36 : decode cX9_cuts 36 = .ok (.getfield 59, 3) := by decide +kernel
theorem dX9_cuts_39 : decode cX9_cuts 39 = .ok (.iload_n 3, 1) := by decide +kernel
theorem dX9_cuts_40 : decode cX9_cuts 40 = .ok (.aload_n 0, 1) := by decide +kernel
theorem dX9_cuts_41 : decode cX9_cuts 41 = .ok (.getfield 50, 3) := by decide +kernel
theorem dX9_cuts_44 : decode cX9_cuts 44 = .ok (.iload_n 1, 1) := by decide +kernel
theorem dX9_cuts_45 : decode cX9_cuts 45 = .ok (.iload_n 3, 1) := by decide +kernel
theorem dX9_cuts_46 : decode cX9_cuts 46 = .ok (.iadd, 1) := by decide +kernel
theorem dX9_cuts_47 : decode cX9_cuts 47 = .ok (.iaload, 1) := by decide +kernel
theorem dX9_cuts_48 : decode cX9_cuts 48 = .ok (.aload_n 0, 1) := by decide +kernel
theorem dX9_cuts_49 : decode cX9_cuts 49 = .ok (.getfield 50, 3) := by decide +kernel
theorem dX9_cuts_52 : decode cX9_cuts 52 = .ok (.iload_n 1, 1) := by decide +kernel
theorem dX9_cuts_53 : decode cX9_cuts 53 = .ok (.iaload, 1) := by decide +kernel
theorem dX9_cuts_54 : decode cX9_cuts 54 = .ok (.isub, 1) := by decide +kernel
theorem dX9_cuts_55 : decode cX9_cuts 55 = .ok (.iastore, 1) := by decide +kernel
theorem dX9_cuts_56 : decode cX9_cuts 56 = .ok (.iinc 3 1, 3) := by decide +kernel
theorem dX9_cuts_59 : decode cX9_cuts 59 = .ok (.goto (-57), 3) := by decide +kernel
theorem dX9_cuts_62 : decode cX9_cuts 62 = .ok (.aload_n 0, 1) := by decide +kernel
theorem dX9_cuts_63 : decode cX9_cuts 63 = .ok (.dup, 1) := by decide +kernel
theorem dX9_cuts_64 : decode cX9_cuts 64 = .ok (.getfield 127, 3) := by decide +kernel
theorem dX9_cuts_67 : decode cX9_cuts 67 = .ok (.iload_n 2, 1) := by decide +kernel
theorem dX9_cuts_68 : decode cX9_cuts 68 = .ok (.isub, 1) := by decide +kernel
theorem dX9_cuts_69 : decode cX9_cuts 69 = .ok (.putfield 127, 3) := by decide +kernel
theorem dX9_cuts_72 : decode cX9_cuts 72 = .ok (.iload_n 1, 1) := by decide +kernel
theorem dX9_cuts_73 : decode cX9_cuts 73 = .ok (.istore_n 3, 1) := by decide +kernel
theorem dX9_cuts_74 : decode cX9_cuts 74 = .ok (.iload_n 3, 1) := by decide +kernel
theorem dX9_cuts_75 : decode cX9_cuts 75 = .ok (.aload_n 0, 1) := by decide +kernel
theorem dX9_cuts_76 : decode cX9_cuts 76 = .ok (.getfield 127, 3) := by decide +kernel
theorem dX9_cuts_79 : decode cX9_cuts 79 = .ok (.if_icmp .ge 51, 3) := by decide +kernel
theorem dX9_cuts_82 : decode cX9_cuts 82 = .ok (.aload_n 0, 1) := by decide +kernel
theorem dX9_cuts_83 : decode cX9_cuts 83 = .ok (.getfield 44, 3) := by decide +kernel
theorem dX9_cuts_86 : decode cX9_cuts 86 = .ok (.iload_n 3, 1) := by decide +kernel
theorem dX9_cuts_87 : decode cX9_cuts 87 = .ok (.aload_n 0, 1) := by decide +kernel
theorem dX9_cuts_88 : decode cX9_cuts 88 = .ok (.getfield 44, 3) := by decide +kernel
theorem dX9_cuts_91 : decode cX9_cuts 91 = .ok (.iload_n 3, 1) := by decide +kernel
theorem dX9_cuts_92 : decode cX9_cuts 92 = .ok (.iload_n 2, 1) := by decide +kernel
theorem dX9_cuts_93 : decode cX9_cuts 93 = .ok (.iadd, 1) := by decide +kernel
theorem dX9_cuts_94 : decode cX9_cuts 94 = .ok (.iaload, 1) := by decide +kernel
theorem dX9_cuts_95 : decode cX9_cuts 95 = .ok (.iastore, 1) := by decide +kernel
theorem dX9_cuts_96 : decode cX9_cuts 96 = .ok (.aload_n 0, 1) := by decide +kernel
theorem dX9_cuts_97 : decode cX9_cuts 97 = .ok (.getfield 47, 3) := by decide +kernel
theorem dX9_cuts_100 : decode cX9_cuts 100 = .ok (.iload_n 3, 1) := by decide +kernel
theorem dX9_cuts_101 : decode cX9_cuts 101 = .ok (.aload_n 0, 1) := by decide +kernel
theorem dX9_cuts_102 : decode cX9_cuts 102 = .ok (.getfield 47, 3) := by decide +kernel
theorem dX9_cuts_105 : decode cX9_cuts 105 = .ok (.iload_n 3, 1) := by decide +kernel
theorem dX9_cuts_106 : decode cX9_cuts 106 = .ok (.iload_n 2, 1) := by decide +kernel
theorem dX9_cuts_107 : decode cX9_cuts 107 = .ok (.iadd, 1) := by decide +kernel
theorem dX9_cuts_108 : decode cX9_cuts 108 = .ok (.iaload, 1) := by decide +kernel
theorem dX9_cuts_109 : decode cX9_cuts 109 = .ok (.iastore, 1) := by decide +kernel
theorem dX9_cuts_110 : decode cX9_cuts 110 = .ok (.aload_n 0, 1) := by decide +kernel
theorem dX9_cuts_111 : decode cX9_cuts 111 = .ok (.getfield 50, 3) := by decide +kernel
theorem dX9_cuts_114 : decode cX9_cuts 114 = .ok (.iload_n 3, 1) := by decide +kernel
theorem dX9_cuts_115 : decode cX9_cuts 115 = .ok (.aload_n 0, 1) := by decide +kernel
theorem dX9_cuts_116 : decode cX9_cuts 116 = .ok (.getfield 50, 3) := by decide +kernel
theorem dX9_cuts_119 : decode cX9_cuts 119 = .ok (.iload_n 3, 1) := by decide +kernel
theorem dX9_cuts_120 : decode cX9_cuts 120 = .ok (.iload_n 2, 1) := by decide +kernel
theorem dX9_cuts_121 : decode cX9_cuts 121 = .ok (.iadd, 1) := by decide +kernel
theorem dX9_cuts_122 : decode cX9_cuts 122 = .ok (.iaload, 1) := by decide +kernel
theorem dX9_cuts_123 : decode cX9_cuts 123 = .ok (.iastore, 1) := by decide +kernel
theorem dX9_cuts_124 : decode cX9_cuts 124 = .ok (.iinc 3 1, 3) := by decide +kernel
theorem dX9_cuts_127 : decode cX9_cuts 127 = .ok (.goto (-53), 3) := by decide +kernel
theorem dX9_cuts_130 : decode cX9_cuts 130 = .ok (.return_, 1) := by decide +kernel
theorem dX9_puts_0 : decode cX9_puts 0 = .ok (.aload_n 0, 1) := by decide +kernel
theorem dX9_puts_1 : decode cX9_puts 1 = .ok (.iload_n 2, 1) := by decide +kernel
theorem dX9_puts_2 : decode cX9_puts 2 = .ok (.iload_n 3, 1) := by decide +kernel
theorem dX9_puts_3 : decode cX9_puts 3 = .ok (.invokevirtual 136, 3) := by decide +kernel
theorem dX9_puts_6 : decode cX9_puts 6 = .ok (.istore 4, 2) := by decide +kernel
theorem dX9_puts_8 : decode cX9_puts 8 = .ok (.aload_n 0, 1) := by decide +kernel
theorem dX9_puts_9 : decode cX9_puts 9 = .ok (.getfield 50, 3) := by decide +kernel
theorem dX9_puts_12 : decode cX9_puts 12 = .ok (.iload_n 2, 1) := by decide +kernel
theorem dX9_puts_13 : decode cX9_puts 13 = .ok (.iaload, 1) := by decide +kernel
theorem dX9_puts_14 : decode cX9_puts 14 = .ok (.iconst 1, 1) := by decide +kernel
theorem dX9_puts_15 : decode cX9_puts 15 = .ok (.iadd, 1) := by decide +kernel
theorem dX9_puts_16 : decode cX9_puts 16 = .ok (.istore 5, 2) := by decide +kernel
theorem dX9_puts_18 : decode cX9_puts 18 = .ok (.aload_n 0, 1) := by decide +kernel
theorem dX9_puts_19 : decode cX9_puts 19 = .ok (.getfield 127, 3) := by decide +kernel
theorem dX9_puts_22 : decode cX9_puts 22 = .ok (.iconst 1, 1) := by decide +kernel
theorem dX9_puts_23 : decode cX9_puts 23 = .ok (.isub, 1) := by decide +kernel
theorem dX9_puts_24 : decode cX9_puts 24 = .ok (.istore 6, 2) := by decide +kernel
theorem dX9_puts_26 : decode cX9_puts 26 = .ok (.iload 6, 2) := by decide +kernel
theorem dX9_puts_28 : decode cX9_puts 28 = .ok (.iload 4, 2) := by decide +kernel
theorem dX9_puts_30 : decode cX9_puts 30 = .ok (.if_icmp .lt 57, 3) := by decide +kernel
theorem dX9_puts_33 : decode cX9_puts 33 = .ok (.aload_n 0, 1) := by decide +kernel
theorem dX9_puts_34 : decode cX9_puts 34 = .ok (.getfield 44, 3) := by decide +kernel
theorem dX9_puts_37 : decode cX9_puts 37 = .ok (.iload 6, 2) := by decide +kernel
theorem dX9_puts_39 : decode cX9_puts 39 = .ok (.iload_n 1, 1) := by decide +kernel
theorem dX9_puts_40 : decode cX9_puts 40 = .ok (.iadd, 1) := by decide +kernel
theorem dX9_puts_41 : decode cX9_puts 41 = .ok (.aload_n 0, 1) := by decide +kernel
theorem dX9_puts_42 : decode cX9_puts 42 = .ok (.getfield 44, 3) := by decide +kernel
theorem dX9_puts_45 : decode cX9_puts 45 = .ok (.iload 6, 2) := by decide +kernel
theorem dX9_puts_47 : decode cX9_puts 47 = .ok (.iaload, 1) := by decide +kernel
theorem dX9_puts_48 : decode cX9_puts 48 = .ok (.iastore, 1) := by decide +kernel
theorem dX9_puts_49 : decode cX9_puts 49 = .ok (.aload_n 0, 1) := by decide +kernel
theorem dX9_puts_50 : decode cX9_puts 50 = .ok (.getfield 47, 3) := by decide +kernel
theorem dX9_puts_53 : decode cX9_puts 53 = .ok (.iload 6, 2) := by decide +kernel
theorem dX9_puts_55 : decode cX9_puts 55 = .ok (.iload_n 1, 1) := by decide +kernel
theorem dX9_puts_56 : decode cX9_puts 56 = .ok (.iadd, 1) := by decide +kernel
theorem dX9_puts_57 : decode cX9_puts 57 = .ok (.aload_n 0, 1) := by decide +kernel
theorem dX9_puts_58 : decode cX9_puts 58 = .ok (.getfield 47, 3) := by decide +kernel
theorem dX9_puts_61 : decode cX9_puts 61 = .ok (.iload 6, 2) := by decide +kernel
theorem dX9_puts_63 : decode cX9_puts 63 = .ok (.iaload, 1) := by decide +kernel
theorem dX9_puts_64 : decode cX9_puts 64 = .ok (.iastore, 1) := by decide +kernel
theorem dX9_puts_65 : decode cX9_puts 65 = .ok (.aload_n 0, 1) := by decide +kernel
theorem dX9_puts_66 : decode cX9_puts 66 = .ok (.getfield 50, 3) := by decide +kernel
theorem dX9_puts_69 : decode cX9_puts 69 = .ok (.iload 6, 2) := by decide +kernel
theorem dX9_puts_71 : decode cX9_puts 71 = .ok (.iload_n 1, 1) := by decide +kernel
theorem dX9_puts_72 : decode cX9_puts 72 = .ok (.iadd, 1) := by decide +kernel
theorem dX9_puts_73 : decode cX9_puts 73 = .ok (.aload_n 0, 1) := by decide +kernel
theorem dX9_puts_74 : decode cX9_puts 74 = .ok (.getfield 50, 3) := by decide +kernel
theorem dX9_puts_77 : decode cX9_puts 77 = .ok (.iload 6, 2) := by decide +kernel
theorem dX9_puts_79 : decode cX9_puts 79 = .ok (.iaload, 1) := by decide +kernel
theorem dX9_puts_80 : decode cX9_puts 80 = .ok (.iastore, 1) := by decide +kernel
theorem dX9_puts_81 : decode cX9_puts 81 = .ok (.iinc 6 (-1), 3) := by decide +kernel
theorem dX9_puts_84 : decode cX9_puts 84 = .ok (.goto (-58), 3) := by decide +kernel
theorem dX9_puts_87 : decode cX9_puts 87 = .ok (.aload_n 0, 1) := by decide +kernel
theorem dX9_puts_88 : decode cX9_puts 88 = .ok (.dup, 1) := by decide +kernel
theorem dX9_puts_89 : decode cX9_puts 89 = .ok (.getfield 127, 3) := by decide +kernel
theorem dX9_puts_92 : decode cX9_puts 92 = .ok (.iload_n 1, 1) := by decide +kernel
theorem dX9_puts_93 : decode cX9_puts 93 = .ok (.iadd, 1) := by decide +kernel
theorem dX9_puts_94 : decode cX9_puts 94 = .ok (.putfield 127, 3) := by decide +kernel
theorem dX9_puts_97 : decode cX9_puts 97 = .ok (.iconst 0, 1) := by decide +kernel
theorem dX9_puts_98 : decode cX9_puts 98 = .ok (.istore 6, 2) := by decide +kernel
theorem dX9_puts_100 : decode cX9_puts 100 = .ok (.iload 6, 2) := by decide +kernel
theorem dX9_puts_102 : decode cX9_puts 102 = .ok (.iload_n 1, 1) := by decide +kernel
theorem dX9_puts_103 : decode cX9_puts 103 = .ok (.if_icmp .ge 63, 3) := by decide +kernel
theorem dX9_puts_106 : decode cX9_puts 106 = .ok (.aload_n 0, 1) := by decide +kernel
theorem dX9_puts_107 : decode cX9_puts 107 = .ok (.getfield 44, 3) := by decide +kernel
theorem dX9_puts_110 : decode cX9_puts 110 = .ok (.iload 4, 2) := by decide +kernel
theorem dX9_puts_112 : decode cX9_puts 112 = .ok (.iload 6, 2) := by decide +kernel
theorem dX9_puts_114 : decode cX9_puts 114 = .ok (.iadd, 1) := by decide +kernel
theorem dX9_puts_115 : decode cX9_puts 115 = .ok (.aload_n 0, 1) := by decide +kernel
theorem dX9_puts_116 : decode cX9_puts 116 = .ok (.getfield 53, 3) := by decide +kernel
theorem dX9_puts_119 : decode cX9_puts 119 = .ok (.iload 6, 2) := by decide +kernel
theorem dX9_puts_121 : decode cX9_puts 121 = .ok (.iaload, 1) := by decide +kernel
theorem dX9_puts_122 : decode cX9_puts 122 = .ok (.iastore, 1) := by decide +kernel
theorem dX9_puts_123 : decode cX9_puts 123 = .ok (.aload_n 0, 1) := by decide +kernel
theorem dX9_puts_124 : decode cX9_puts 124 = .ok (.getfield 47, 3) := by decide +kernel
theorem dX9_puts_127 : decode cX9_puts 127 = .ok (.iload 4, 2) := by decide +kernel
theorem dX9_puts_129 : decode cX9_puts 129 = .ok (.iload 6, 2) := by decide +kernel
theorem dX9_puts_131 : decode cX9_puts 131 = .ok (.iadd, 1) := by decide +kernel
theorem dX9_puts_132 : decode cX9_puts 132 = .ok (.aload_n 0, 1) := by decide +kernel
theorem dX9_puts_133 : decode cX9_puts 133 = .ok (.getfield 56, 3) := by decide +kernel
theorem dX9_puts_136 : decode cX9_puts 136 = .ok (.iload 6, 2) := by decide +kernel
theorem dX9_puts_138 : decode cX9_puts 138 = .ok (.iaload, 1) := by decide +kernel
theorem dX9_puts_139 : decode cX9_puts 139 = .ok (.iastore, 1) := by decide +kernel
theorem dX9_puts_140 : decode cX9_puts 140 = .ok (.aload_n 0, 1) := by decide +kernel
theorem dX9_puts_141 : decode cX9_puts 141 = .ok (.getfield 50, 3) := by decide +kernel
theorem dX9_puts_144 : decode cX9_puts 144 = .ok (.iload 4, 2) := by decide +kernel
theorem dX9_puts_146 : decode cX9_puts 146 = .ok (.iload 6, 2) := by decide +kernel
theorem dX9_puts_148 : decode cX9_puts 148 = .ok (.iadd, 1) := by decide +kernel
theorem dX9_puts_149 : decode cX9_puts 149 = .ok (.aload_n 0, 1) := by decide +kernel
theorem dX9_puts_150 : decode cX9_puts 150 = .ok (.getfield 59, 3) := by decide +kernel
theorem dX9_puts_153 : decode cX9_puts 153 = .ok (.iload 6, 2) := by decide +kernel
theorem dX9_puts_155 : decode cX9_puts 155 = .ok (.iaload, 1) := by decide +kernel
theorem dX9_puts_156 : decode cX9_puts 156 = .ok (.iload 5, 2) := by decide +kernel
theorem dX9_puts_158 : decode cX9_puts 158 = .ok (.iadd, 1) := by decide +kernel
theorem dX9_puts_159 : decode cX9_puts 159 = .ok (.iastore, 1) := by decide +kernel
theorem dX9_puts_160 : decode cX9_puts 160 = .ok (.iinc 6 1, 3) := by decide +kernel
theorem dX9_puts_163 : decode cX9_puts 163 = .ok (.goto (-63), 3) := by decide +kernel
theorem dX9_puts_166 : decode cX9_puts 166 = .ok (.return_, 1) := by decide +kernel
theorem dX9_isBelow_0 : decode cX9_isBelow 0 = .ok (.iload_n 1, 1) := by decide +kernel
theorem dX9_isBelow_1 : decode cX9_isBelow 1 = .ok (.iload_n 2, 1) := by decide +kernel
theorem dX9_isBelow_2 : decode cX9_isBelow 2 = .ok (.if_icmp .lt 16, 3) := by decide +kernel
theorem dX9_isBelow_5 : decode cX9_isBelow 5 = .ok (.iload_n 1, 1) := by decide +kernel
theorem dX9_isBelow_6 : decode cX9_isBelow 6 = .ok (.aload_n 0, 1) := by decide +kernel
theorem dX9_isBelow_7 : decode cX9_isBelow 7 = .ok (.iload_n 2, 1) := by decide +kernel
theorem dX9_isBelow_8 : decode cX9_isBelow 8 = .ok (.invokevirtual 133, 3) := by decide +kernel
theorem dX9_isBelow_11 : decode cX9_isBelow 11 = .ok (.if_icmp .ge 7, 3) := by decide +kernel
theorem dX9_isBelow_14 : decode cX9_isBelow 14 = .ok (.iconst 1, 1) := by decide +kernel
theorem dX9_isBelow_15 : decode cX9_isBelow 15 = .ok (.goto 4, 3) := by decide +kernel
theorem dX9_isBelow_18 : decode cX9_isBelow 18 = .ok (.iconst 0, 1) := by decide +kernel
theorem dX9_isBelow_19 : decode cX9_isBelow 19 = .ok (.ireturn, 1) := by decide +kernel
theorem dX9_sign_0 : decode cX9_sign 0 = .ok (.aload_n 0, 1) := by decide +kernel
theorem dX9_sign_1 : decode cX9_sign 1 = .ok (.getfield 139, 3) := by decide +kernel
theorem dX9_sign_4 : decode cX9_sign 4 = .ok (.aload_n 0, 1) := by decide +kernel
theorem dX9_sign_5 : decode cX9_sign 5 = .ok (.getfield 34, 3) := by decide +kernel
theorem dX9_sign_8 : decode cX9_sign 8 = .ok (.aload_n 0, 1) := by decide +kernel
theorem dX9_sign_9 : decode cX9_sign 9 = .ok (.getfield 142, 3) := by decide +kernel
theorem dX9_sign_12 : decode cX9_sign 12 = .ok (.iaload, 1) := by decide +kernel
theorem dX9_sign_13 : decode cX9_sign 13 = .ok (.if_icmp .ge 25, 3) := by decide +kernel
theorem dX9_sign_16 : decode cX9_sign 16 = .ok (.aload_n 0, 1) := by decide +kernel
theorem dX9_sign_17 : decode cX9_sign 17 = .ok (.getfield 37, 3) := by decide +kernel
theorem dX9_sign_20 : decode cX9_sign 20 = .ok (.sipush 160, 3) := by decide +kernel
theorem dX9_sign_23 : decode cX9_sign 23 = .ok (.aload_n 0, 1) := by decide +kernel
theorem dX9_sign_24 : decode cX9_sign 24 = .ok (.getfield 142, 3) := by decide +kernel
theorem dX9_sign_27 : decode cX9_sign 27 = .ok (.imul, 1) := by decide +kernel
theorem dX9_sign_28 : decode cX9_sign 28 = .ok (.aload_n 0, 1) := by decide +kernel
theorem dX9_sign_29 : decode cX9_sign 29 = .ok (.getfield 139, 3) := by decide +kernel
theorem dX9_sign_32 : decode cX9_sign 32 = .ok (.iadd, 1) := by decide +kernel
theorem dX9_sign_33 : decode cX9_sign 33 = .ok (.laload, 1) := by decide +kernel
theorem dX9_sign_34 : decode cX9_sign 34 = .ok (.l2i, 1) := by decide +kernel
theorem dX9_sign_35 : decode cX9_sign 35 = .ok (.goto 4, 3) := by decide +kernel
theorem dX9_sign_38 : decode cX9_sign 38 = .ok (.iconst (-1), 1) := by decide +kernel
theorem dX9_sign_39 : decode cX9_sign 39 = .ok (.ireturn, 1) := by decide +kernel
theorem dX9_is_0 : decode cX9_is 0 = .ok (.aload_n 0, 1) := by decide +kernel
theorem dX9_is_1 : decode cX9_is 1 = .ok (.invokevirtual 145, 3) := by decide +kernel
theorem dX9_is_4 : decode cX9_is 4 = .ok (.iload_n 1, 1) := by decide +kernel
theorem dX9_is_5 : decode cX9_is 5 = .ok (.if_icmp .eq 5, 3) := by decide +kernel
theorem dX9_is_8 : decode cX9_is 8 = .ok (.iconst 0, 1) := by decide +kernel
theorem dX9_is_9 : decode cX9_is 9 = .ok (.ireturn, 1) := by decide +kernel
theorem dX9_is_10 : decode cX9_is 10 = .ok (.aload_n 0, 1) := by decide +kernel
theorem dX9_is_11 : decode cX9_is 11 = .ok (.dup, 1) := by decide +kernel
theorem dX9_is_12 : decode cX9_is 12 = .ok (.getfield 139, 3) := by decide +kernel
theorem dX9_is_15 : decode cX9_is 15 = .ok (.iconst 1, 1) := by decide +kernel
theorem dX9_is_16 : decode cX9_is 16 = .ok (.iadd, 1) := by decide +kernel
theorem dX9_is_17 : decode cX9_is 17 = .ok (.putfield 139, 3) := by decide +kernel
theorem dX9_is_20 : decode cX9_is 20 = .ok (.iconst 1, 1) := by decide +kernel
theorem dX9_is_21 : decode cX9_is 21 = .ok (.ireturn, 1) := by decide +kernel
theorem dX9_isDigit_0 : decode cX9_isDigit 0 = .ok (.aload_n 0, 1) := by decide +kernel
theorem dX9_isDigit_1 : decode cX9_isDigit 1 = .ok (.invokevirtual 145, 3) := by decide +kernel
theorem dX9_isDigit_4 : decode cX9_isDigit 4 = .ok (.bipush 48, 2) := by decide +kernel
theorem dX9_isDigit_6 : decode cX9_isDigit 6 = .ok (.bipush 57, 2) := by decide +kernel
theorem dX9_isDigit_8 : decode cX9_isDigit 8 = .ok (.invokestatic 106, 3) := by decide +kernel
theorem dX9_isDigit_11 : decode cX9_isDigit 11 = .ok (.ireturn, 1) := by decide +kernel
theorem dX9_node_0 : decode cX9_node 0 = .ok (.aload_n 0, 1) := by decide +kernel
theorem dX9_node_1 : decode cX9_node 1 = .ok (.invokevirtual 145, 3) := by decide +kernel
theorem dX9_node_4 : decode cX9_node 4 = .ok (.bipush 97, 2) := by decide +kernel
theorem dX9_node_6 : decode cX9_node 6 = .ok (.bipush 122, 2) := by decide +kernel
theorem dX9_node_8 : decode cX9_node 8 = .ok (.invokestatic 106, 3) := by decide +kernel
theorem dX9_node_11 : decode cX9_node 11 = .ok (.ifCond .eq 12, 3) := by decide +kernel
theorem dX9_node_14 : decode cX9_node 14 = .ok (.aload_n 0, 1) := by decide +kernel
theorem dX9_node_15 : decode cX9_node 15 = .ok (.getfield 127, 3) := by decide +kernel
theorem dX9_node_18 : decode cX9_node 18 = .ok (.bipush 40, 2) := by decide +kernel
theorem dX9_node_20 : decode cX9_node 20 = .ok (.if_icmp .ne 5, 3) := by decide +kernel
theorem dX9_node_23 : decode cX9_node 23 = .ok (.iconst 0, 1) := by decide +kernel
theorem dX9_node_24 : decode cX9_node 24 = .ok (.ireturn, 1) := by decide +kernel
theorem dX9_node_25 : decode cX9_node 25 = .ok (.aload_n 0, 1) := by decide +kernel
theorem dX9_node_26 : decode cX9_node 26 = .ok (.invokevirtual 145, 3) := by decide +kernel
theorem dX9_node_29 : decode cX9_node 29 = .ok (.istore_n 2, 1) := by decide +kernel
theorem dX9_node_30 : decode cX9_node 30 = .ok (.aload_n 0, 1) := by decide +kernel
theorem dX9_node_31 : decode cX9_node 31 = .ok (.dup, 1) := by decide +kernel
theorem dX9_node_32 : decode cX9_node 32 = .ok (.getfield 139, 3) := by decide +kernel
theorem dX9_node_35 : decode cX9_node 35 = .ok (.iconst 1, 1) := by decide +kernel
theorem dX9_node_36 : decode cX9_node 36 = .ok (.iadd, 1) := by decide +kernel
theorem dX9_node_37 : decode cX9_node 37 = .ok (.putfield 139, 3) := by decide +kernel
theorem dX9_node_40 : decode cX9_node 40 = .ok (.aload_n 0, 1) := by decide +kernel
theorem dX9_node_41 : decode cX9_node 41 = .ok (.getfield 139, 3) := by decide +kernel
theorem dX9_node_44 : decode cX9_node 44 = .ok (.istore_n 3, 1) := by decide +kernel
theorem dX9_node_45 : decode cX9_node 45 = .ok (.iconst 0, 1) := by decide +kernel
theorem dX9_node_46 : decode cX9_node 46 = .ok (.istore 4, 2) := by decide +kernel
theorem dX9_node_48 : decode cX9_node 48 = .ok (.aload_n 0, 1) := by decide +kernel
theorem dX9_node_49 : decode cX9_node 49 = .ok (.getfield 139, 3) := by decide +kernel
theorem dX9_node_52 : decode cX9_node 52 = .ok (.iload_n 3, 1) := by decide +kernel
theorem dX9_node_53 : decode cX9_node 53 = .ok (.isub, 1) := by decide +kernel
theorem dX9_node_54 : decode cX9_node 54 = .ok (.iconst 2, 1) := by decide +kernel
theorem dX9_node_55 : decode cX9_node 55 = .ok (.if_icmp .ge 38, 3) := by decide +kernel
theorem dX9_node_58 : decode cX9_node 58 = .ok (.aload_n 0, 1) := by decide +kernel
theorem dX9_node_59 : decode cX9_node 59 = .ok (.invokevirtual 149, 3) := by decide +kernel
theorem dX9_node_62 : decode cX9_node 62 = .ok (.ifCond .eq 31, 3) := by decide +kernel
theorem dX9_node_65 : decode cX9_node 65 = .ok (.bipush 10, 2) := by decide +kernel
theorem dX9_node_67 : decode cX9_node 67 = .ok (.iload 4, 2) := by decide +kernel
theorem dX9_node_69 : decode cX9_node 69 = .ok (.imul, 1) := by decide +kernel
theorem dX9_node_70 : decode cX9_node 70 = .ok (.aload_n 0, 1) := by decide +kernel
theorem dX9_node_71 : decode cX9_node 71 = .ok (.invokevirtual 145, 3) := by decide +kernel
theorem dX9_node_74 : decode cX9_node 74 = .ok (.iadd, 1) := by decide +kernel
theorem dX9_node_75 : decode cX9_node 75 = .ok (.bipush 48, 2) := by decide +kernel
theorem dX9_node_77 : decode cX9_node 77 = .ok (.isub, 1) := by decide +kernel
theorem dX9_node_78 : decode cX9_node 78 = .ok (.istore 4, 2) := by decide +kernel
theorem dX9_node_80 : decode cX9_node 80 = .ok (.aload_n 0, 1) := by decide +kernel
theorem dX9_node_81 : decode cX9_node 81 = .ok (.dup, 1) := by decide +kernel
theorem dX9_node_82 : decode cX9_node 82 = .ok (.getfield 139, 3) := by decide +kernel
theorem dX9_node_85 : decode cX9_node 85 = .ok (.iconst 1, 1) := by decide +kernel
theorem dX9_node_86 : decode cX9_node 86 = .ok (.iadd, 1) := by decide +kernel
theorem dX9_node_87 : decode cX9_node 87 = .ok (.putfield 139, 3) := by decide +kernel
theorem dX9_node_90 : decode cX9_node 90 = .ok (.goto (-42), 3) := by decide +kernel
theorem dX9_node_93 : decode cX9_node 93 = .ok (.aload_n 0, 1) := by decide +kernel
theorem dX9_node_94 : decode cX9_node 94 = .ok (.getfield 139, 3) := by decide +kernel
theorem dX9_node_97 : decode cX9_node 97 = .ok (.iload_n 3, 1) := by decide +kernel
theorem dX9_node_98 : decode cX9_node 98 = .ok (.if_icmp .ne 5, 3) := by decide +kernel
theorem dX9_node_101 : decode cX9_node 101 = .ok (.iconst 0, 1) := by decide +kernel
theorem dX9_node_102 : decode cX9_node 102 = .ok (.ireturn, 1) := by decide +kernel
theorem dX9_node_103 : decode cX9_node 103 = .ok (.iload 4, 2) := by decide +kernel
theorem dX9_node_105 : decode cX9_node 105 = .ok (.iconst 1, 1) := by decide +kernel
theorem dX9_node_106 : decode cX9_node 106 = .ok (.bipush 60, 2) := by decide +kernel
theorem dX9_node_108 : decode cX9_node 108 = .ok (.invokestatic 106, 3) := by decide +kernel
theorem dX9_node_111 : decode cX9_node 111 = .ok (.ifCond .eq 13, 3) := by decide +kernel
theorem dX9_node_114 : decode cX9_node 114 = .ok (.aload_n 0, 1) := by decide +kernel
theorem dX9_node_115 : decode cX9_node 115 = .ok (.iload 4, 2) := by decide +kernel
theorem dX9_node_117 : decode cX9_node 117 = .ok (.invokevirtual 153, 3) := by decide +kernel
theorem dX9_node_120 : decode cX9_node 120 = .ok (.iconst (-1), 1) := by decide +kernel
theorem dX9_node_121 : decode cX9_node 121 = .ok (.if_icmp .eq 10, 3) := by decide +kernel
theorem dX9_node_124 : decode cX9_node 124 = .ok (.aload_n 0, 1) := by decide +kernel
theorem dX9_node_125 : decode cX9_node 125 = .ok (.iload_n 3, 1) := by decide +kernel
theorem dX9_node_126 : decode cX9_node 126 = .ok (.putfield 139, 3) := by decide +kernel
theorem dX9_node_129 : decode cX9_node 129 = .ok (.iconst 0, 1) := by decide +kernel
theorem dX9_node_130 : decode cX9_node 130 = .ok (.ireturn, 1) := by decide +kernel
theorem dX9_node_131 : decode cX9_node 131 = .ok (.aload_n 0, 1) := by decide +kernel
theorem dX9_node_132 : decode cX9_node 132 = .ok (.getfield 44, 3) := by decide +kernel
theorem dX9_node_135 : decode cX9_node 135 = .ok (.aload_n 0, 1) := by decide +kernel
theorem dX9_node_136 : decode cX9_node 136 = .ok (.getfield 127, 3) := by decide +kernel
theorem dX9_node_139 : decode cX9_node 139 = .ok (.iload 4, 2) := by decide +kernel
theorem dX9_node_141 : decode cX9_node 141 = .ok (.iastore, 1) := by decide +kernel
theorem dX9_node_142 : decode cX9_node 142 = .ok (.aload_n 0, 1) := by decide +kernel
theorem dX9_node_143 : decode cX9_node 143 = .ok (.getfield 47, 3) := by decide +kernel
theorem dX9_node_146 : decode cX9_node 146 = .ok (.aload_n 0, 1) := by decide +kernel
theorem dX9_node_147 : decode cX9_node 147 = .ok (.getfield 127, 3) := by decide +kernel
theorem dX9_node_150 : decode cX9_node 150 = .ok (.iload_n 2, 1) := by decide +kernel
theorem dX9_node_151 : decode cX9_node 151 = .ok (.iastore, 1) := by decide +kernel
theorem dX9_node_152 : decode cX9_node 152 = .ok (.aload_n 0, 1) := by decide +kernel
theorem dX9_node_153 : decode cX9_node 153 = .ok (.getfield 50, 3) := by decide +kernel
theorem dX9_node_156 : decode cX9_node 156 = .ok (.aload_n 0, 1) := by decide +kernel
theorem dX9_node_157 : decode cX9_node 157 = .ok (.getfield 127, 3) := by decide +kernel
theorem dX9_node_160 : decode cX9_node 160 = .ok (.iload_n 1, 1) := by decide +kernel
theorem dX9_node_161 : decode cX9_node 161 = .ok (.iastore, 1) := by decide +kernel
theorem dX9_node_162 : decode cX9_node 162 = .ok (.aload_n 0, 1) := by decide +kernel
theorem dX9_node_163 : decode cX9_node 163 = .ok (.dup, 1) := by decide +kernel
theorem dX9_node_164 : decode cX9_node 164 = .ok (.getfield 127, 3) := by decide +kernel
theorem dX9_node_167 : decode cX9_node 167 = .ok (.iconst 1, 1) := by decide +kernel
theorem dX9_node_168 : decode cX9_node 168 = .ok (.iadd, 1) := by decide +kernel
theorem dX9_node_169 : decode cX9_node 169 = .ok (.putfield 127, 3) := by decide +kernel
theorem dX9_node_172 : decode cX9_node 172 = .ok (.aload_n 0, 1) := by decide +kernel
theorem dX9_node_173 : decode cX9_node 173 = .ok (.bipush 40, 2) := by decide +kernel
theorem dX9_node_175 : decode cX9_node 175 = .ok (.invokevirtual 156, 3) := by decide +kernel
theorem dX9_node_178 : decode cX9_node 178 = .ok (.ifCond .ne 5, 3) := by decide +kernel
theorem dX9_node_181 : decode cX9_node 181 = .ok (.iconst 1, 1) := by decide +kernel
theorem dX9_node_182 : decode cX9_node 182 = .ok (.ireturn, 1) := by decide +kernel
theorem dX9_node_183 : decode cX9_node 183 = .ok (.aload_n 0, 1) := by decide +kernel
theorem dX9_node_184 : decode cX9_node 184 = .ok (.iload_n 1, 1) := by decide +kernel
theorem dX9_node_185 : decode cX9_node 185 = .ok (.iconst 1, 1) := by decide +kernel
theorem dX9_node_186 : decode cX9_node 186 = .ok (.iadd, 1) := by decide +kernel
theorem dX9_node_187 : decode cX9_node 187 = .ok (.invokevirtual 159, 3) := by decide +kernel
theorem dX9_node_190 : decode cX9_node 190 = .ok (.istore 5, 2) := by decide +kernel
theorem dX9_node_192 : decode cX9_node 192 = .ok (.iload 5, 2) := by decide +kernel
theorem dX9_node_194 : decode cX9_node 194 = .ok (.ifCond .eq 24, 3) := by decide +kernel
theorem dX9_node_197 : decode cX9_node 197 = .ok (.aload_n 0, 1) := by decide +kernel
theorem dX9_node_198 : decode cX9_node 198 = .ok (.bipush 44, 2) := by decide +kernel
theorem dX9_node_200 : decode cX9_node 200 = .ok (.invokevirtual 156, 3) := by decide +kernel
theorem dX9_node_203 : decode cX9_node 203 = .ok (.ifCond .eq 15, 3) := by decide +kernel
theorem dX9_node_206 : decode cX9_node 206 = .ok (.aload_n 0, 1) := by decide +kernel
theorem dX9_node_207 : decode cX9_node 207 = .ok (.iload_n 1, 1) := by decide +kernel
theorem dX9_node_208 : decode cX9_node 208 = .ok (.iconst 1, 1) := by decide +kernel
theorem dX9_node_209 : decode cX9_node 209 = .ok (.iadd, 1) := by decide +kernel
theorem dX9_node_210 : decode cX9_node 210 = .ok (.invokevirtual 159, 3) := by decide +kernel
theorem dX9_node_213 : decode cX9_node 213 = .ok (.istore 5, 2) := by decide +kernel
theorem dX9_node_215 : decode cX9_node 215 = .ok (.goto (-23), 3) := by decide +kernel
theorem dX9_node_218 : decode cX9_node 218 = .ok (.iload 5, 2) := by decide +kernel
theorem dX9_node_220 : decode cX9_node 220 = .ok (.ifCond .eq 16, 3) := by decide +kernel
theorem dX9_node_223 : decode cX9_node 223 = .ok (.aload_n 0, 1) := by decide +kernel
theorem dX9_node_224 : decode cX9_node 224 = .ok (.bipush 41, 2) := by decide +kernel
theorem dX9_node_226 : decode cX9_node 226 = .ok (.invokevirtual 156, 3) := by decide +kernel
theorem dX9_node_229 : decode cX9_node 229 = .ok (.ifCond .eq 7, 3) := by decide +kernel
theorem dX9_node_232 : decode cX9_node 232 = .ok (.iconst 1, 1) := by decide +kernel
theorem dX9_node_233 : decode cX9_node 233 = .ok (.goto 4, 3) := by decide +kernel
theorem dX9_node_236 : decode cX9_node 236 = .ok (.iconst 0, 1) := by decide +kernel
theorem dX9_node_237 : decode cX9_node 237 = .ok (.ireturn, 1) := by decide +kernel
theorem dX9_tree_0 : decode cX9_tree 0 = .ok (.aload_n 0, 1) := by decide +kernel
theorem dX9_tree_1 : decode cX9_tree 1 = .ok (.iload_n 1, 1) := by decide +kernel
theorem dX9_tree_2 : decode cX9_tree 2 = .ok (.invokevirtual 117, 3) := by decide +kernel
theorem dX9_tree_5 : decode cX9_tree 5 = .ok (.istore_n 2, 1) := by decide +kernel
theorem dX9_tree_6 : decode cX9_tree 6 = .ok (.iload_n 2, 1) := by decide +kernel
theorem dX9_tree_7 : decode cX9_tree 7 = .ok (.ifCond .ge 9, 3) := by decide +kernel
theorem dX9_tree_10 : decode cX9_tree 10 = .ok (.aload_n 0, 1) := by decide +kernel
theorem dX9_tree_11 : decode cX9_tree 11 = .ok (.iload_n 2, 1) := by decide +kernel
theorem dX9_tree_12 : decode cX9_tree 12 = .ok (.invokevirtual 99, 3) := by decide +kernel
theorem dX9_tree_15 : decode cX9_tree 15 = .ok (.ireturn, 1) := by decide +kernel
theorem dX9_tree_16 : decode cX9_tree 16 = .ok (.aload_n 0, 1) := by decide +kernel
theorem dX9_tree_17 : decode cX9_tree 17 = .ok (.iload_n 1, 1) := by decide +kernel
theorem dX9_tree_18 : decode cX9_tree 18 = .ok (.putfield 142, 3) := by decide +kernel
theorem dX9_tree_21 : decode cX9_tree 21 = .ok (.aload_n 0, 1) := by decide +kernel
theorem dX9_tree_22 : decode cX9_tree 22 = .ok (.iconst 0, 1) := by decide +kernel
theorem dX9_tree_23 : decode cX9_tree 23 = .ok (.putfield 139, 3) := by decide +kernel
theorem dX9_tree_26 : decode cX9_tree 26 = .ok (.aload_n 0, 1) := by decide +kernel
theorem dX9_tree_27 : decode cX9_tree 27 = .ok (.iconst 0, 1) := by decide +kernel
theorem dX9_tree_28 : decode cX9_tree 28 = .ok (.putfield 127, 3) := by decide +kernel
theorem dX9_tree_31 : decode cX9_tree 31 = .ok (.aload_n 0, 1) := by decide +kernel
theorem dX9_tree_32 : decode cX9_tree 32 = .ok (.iconst 0, 1) := by decide +kernel
theorem dX9_tree_33 : decode cX9_tree 33 = .ok (.invokevirtual 159, 3) := by decide +kernel
theorem dX9_tree_36 : decode cX9_tree 36 = .ok (.ifCond .eq 20, 3) := by decide +kernel
theorem dX9_tree_39 : decode cX9_tree 39 = .ok (.aload_n 0, 1) := by decide +kernel
theorem dX9_tree_40 : decode cX9_tree 40 = .ok (.getfield 139, 3) := by decide +kernel
theorem dX9_tree_43 : decode cX9_tree 43 = .ok (.aload_n 0, 1) := by decide +kernel
theorem dX9_tree_44 : decode cX9_tree 44 = .ok (.getfield 34, 3) := by decide +kernel
theorem dX9_tree_47 : decode cX9_tree 47 = .ok (.iload_n 1, 1) := by decide +kernel
theorem dX9_tree_48 : decode cX9_tree 48 = .ok (.iaload, 1) := by decide +kernel
theorem dX9_tree_49 : decode cX9_tree 49 = .ok (.if_icmp .ne 7, 3) := by decide +kernel
theorem dX9_tree_52 : decode cX9_tree 52 = .ok (.iconst 1, 1) := by decide +kernel
theorem dX9_tree_53 : decode cX9_tree 53 = .ok (.goto 4, 3) := by decide +kernel
theorem dX9_tree_56 : decode cX9_tree 56 = .ok (.iconst 0, 1) := by decide +kernel
theorem dX9_tree_57 : decode cX9_tree 57 = .ok (.istore_n 3, 1) := by decide +kernel
theorem dX9_tree_58 : decode cX9_tree 58 = .ok (.aload_n 0, 1) := by decide +kernel
theorem dX9_tree_59 : decode cX9_tree 59 = .ok (.iload_n 3, 1) := by decide +kernel
theorem dX9_tree_60 : decode cX9_tree 60 = .ok (.ifCond .eq 7, 3) := by decide +kernel
theorem dX9_tree_63 : decode cX9_tree 63 = .ok (.iconst (-1), 1) := by decide +kernel
theorem dX9_tree_64 : decode cX9_tree 64 = .ok (.goto 7, 3) := by decide +kernel
theorem dX9_tree_67 : decode cX9_tree 67 = .ok (.aload_n 0, 1) := by decide +kernel
theorem dX9_tree_68 : decode cX9_tree 68 = .ok (.getfield 139, 3) := by decide +kernel
theorem dX9_tree_71 : decode cX9_tree 71 = .ok (.putfield 96, 3) := by decide +kernel
theorem dX9_tree_74 : decode cX9_tree 74 = .ok (.iload_n 3, 1) := by decide +kernel
theorem dX9_tree_75 : decode cX9_tree 75 = .ok (.ifCond .ne 10, 3) := by decide +kernel
theorem dX9_tree_78 : decode cX9_tree 78 = .ok (.aload_n 0, 1) := by decide +kernel
theorem dX9_tree_79 : decode cX9_tree 79 = .ok (.bipush (-6), 2) := by decide +kernel
theorem dX9_tree_81 : decode cX9_tree 81 = .ok (.invokevirtual 99, 3) := by decide +kernel
theorem dX9_tree_84 : decode cX9_tree 84 = .ok (.ireturn, 1) := by decide +kernel
theorem dX9_tree_85 : decode cX9_tree 85 = .ok (.aload_n 0, 1) := by decide +kernel
theorem dX9_tree_86 : decode cX9_tree 86 = .ok (.getfield 103, 3) := by decide +kernel
theorem dX9_tree_89 : decode cX9_tree 89 = .ok (.bipush 16, 2) := by decide +kernel
theorem dX9_tree_91 : decode cX9_tree 91 = .ok (.if_icmp .ne 10, 3) := by decide +kernel
theorem dX9_tree_94 : decode cX9_tree 94 = .ok (.aload_n 0, 1) := by decide +kernel
theorem dX9_tree_95 : decode cX9_tree 95 = .ok (.bipush (-7), 2) := by decide +kernel
theorem dX9_tree_97 : decode cX9_tree 97 = .ok (.invokevirtual 99, 3) := by decide +kernel
theorem dX9_tree_100 : decode cX9_tree 100 = .ok (.ireturn, 1) := by decide +kernel
theorem dX9_tree_101 : decode cX9_tree 101 = .ok (.aload_n 0, 1) := by decide +kernel
theorem dX9_tree_102 : decode cX9_tree 102 = .ok (.aload_n 0, 1) := by decide +kernel
theorem dX9_tree_103 : decode cX9_tree 103 = .ok (.getfield 103, 3) := by decide +kernel
theorem dX9_tree_106 : decode cX9_tree 106 = .ok (.invokevirtual 162, 3) := by decide +kernel
theorem dX9_tree_109 : decode cX9_tree 109 = .ok (.aload_n 0, 1) := by decide +kernel
theorem dX9_tree_110 : decode cX9_tree 110 = .ok (.dup, 1) := by decide +kernel
theorem dX9_tree_111 : decode cX9_tree 111 = .ok (.getfield 103, 3) := by decide +kernel
theorem dX9_tree_114 : decode cX9_tree 114 = .ok (.dup_x1, 1) := by decide +kernel
theorem dX9_tree_115 : decode cX9_tree 115 = .ok (.iconst 1, 1) := by decide +kernel
theorem dX9_tree_116 : decode cX9_tree 116 = .ok (.iadd, 1) := by decide +kernel
theorem dX9_tree_117 : decode cX9_tree 117 = .ok (.putfield 103, 3) := by decide +kernel
theorem dX9_tree_120 : decode cX9_tree 120 = .ok (.ireturn, 1) := by decide +kernel
theorem dX9_fault_0 : decode cX9_fault 0 = .ok (.aload_n 0, 1) := by decide +kernel
theorem dX9_fault_1 : decode cX9_fault 1 = .ok (.getfield 96, 3) := by decide +kernel
theorem dX9_fault_4 : decode cX9_fault 4 = .ok (.ireturn, 1) := by decide +kernel
theorem dX9_nodes_0 : decode cX9_nodes 0 = .ok (.aload_n 0, 1) := by decide +kernel
theorem dX9_nodes_1 : decode cX9_nodes 1 = .ok (.iload_n 1, 1) := by decide +kernel
theorem dX9_nodes_2 : decode cX9_nodes 2 = .ok (.invokevirtual 166, 3) := by decide +kernel
theorem dX9_nodes_5 : decode cX9_nodes 5 = .ok (.ifCond .eq 12, 3) := by decide +kernel
theorem dX9_nodes_8 : decode cX9_nodes 8 = .ok (.aload_n 0, 1) := by decide +kernel
theorem dX9_nodes_9 : decode cX9_nodes 9 = .ok (.getfield 7, 3) := by decide +kernel
theorem dX9_nodes_12 : decode cX9_nodes 12 = .ok (.iload_n 1, 1) := by decide +kernel
theorem dX9_nodes_13 : decode cX9_nodes 13 = .ok (.iaload, 1) := by decide +kernel
theorem dX9_nodes_14 : decode cX9_nodes 14 = .ok (.goto 8, 3) := by decide +kernel
theorem dX9_nodes_17 : decode cX9_nodes 17 = .ok (.aload_n 0, 1) := by decide +kernel
theorem dX9_nodes_18 : decode cX9_nodes 18 = .ok (.iconst (-1), 1) := by decide +kernel
theorem dX9_nodes_19 : decode cX9_nodes 19 = .ok (.invokevirtual 99, 3) := by decide +kernel
theorem dX9_nodes_22 : decode cX9_nodes 22 = .ok (.ireturn, 1) := by decide +kernel
theorem dX9_node__0 : decode cX9_node_ 0 = .ok (.aload_n 0, 1) := by decide +kernel
theorem dX9_node__1 : decode cX9_node_ 1 = .ok (.iload_n 1, 1) := by decide +kernel
theorem dX9_node__2 : decode cX9_node_ 2 = .ok (.invokevirtual 166, 3) := by decide +kernel
theorem dX9_node__5 : decode cX9_node_ 5 = .ok (.ifCond .ne 9, 3) := by decide +kernel
theorem dX9_node__8 : decode cX9_node_ 8 = .ok (.aload_n 0, 1) := by decide +kernel
theorem dX9_node__9 : decode cX9_node_ 9 = .ok (.iconst (-1), 1) := by decide +kernel
theorem dX9_node__10 : decode cX9_node_ 10 = .ok (.invokevirtual 99, 3) := by decide +kernel
theorem dX9_node__13 : decode cX9_node_ 13 = .ok (.ireturn, 1) := by decide +kernel
theorem dX9_node__14 : decode cX9_node_ 14 = .ok (.iload_n 2, 1) := by decide +kernel
theorem dX9_node__15 : decode cX9_node_ 15 = .ok (.iconst 0, 1) := by decide +kernel
theorem dX9_node__16 : decode cX9_node_ 16 = .ok (.aload_n 0, 1) := by decide +kernel
theorem dX9_node__17 : decode cX9_node_ 17 = .ok (.getfield 7, 3) := by decide +kernel
theorem dX9_node__20 : decode cX9_node_ 20 = .ok (.iload_n 1, 1) := by decide +kernel
theorem dX9_node__21 : decode cX9_node_ 21 = .ok (.iaload, 1) := by decide +kernel
theorem dX9_node__22 : decode cX9_node_ 22 = .ok (.iconst 1, 1) := by decide +kernel
theorem dX9_node__23 : decode cX9_node_ 23 = .ok (.isub, 1) := by decide +kernel
theorem dX9_node__24 : decode cX9_node_ 24 = .ok (.invokestatic 106, 3) := by decide +kernel
theorem dX9_node__27 : decode cX9_node_ 27 = .ok (.ifCond .ne 10, 3) := by decide +kernel
theorem dX9_node__30 : decode cX9_node_ 30 = .ok (.aload_n 0, 1) := by decide +kernel
theorem dX9_node__31 : decode cX9_node_ 31 = .ok (.bipush (-5), 2) := by decide +kernel
theorem dX9_node__33 : decode cX9_node_ 33 = .ok (.invokevirtual 99, 3) := by decide +kernel
theorem dX9_node__36 : decode cX9_node_ 36 = .ok (.ireturn, 1) := by decide +kernel
theorem dX9_node__37 : decode cX9_node_ 37 = .ok (.aload_n 0, 1) := by decide +kernel
theorem dX9_node__38 : decode cX9_node_ 38 = .ok (.iload_n 1, 1) := by decide +kernel
theorem dX9_node__39 : decode cX9_node_ 39 = .ok (.invokevirtual 169, 3) := by decide +kernel
theorem dX9_node__42 : decode cX9_node_ 42 = .ok (.iload_n 3, 1) := by decide +kernel
theorem dX9_node__43 : decode cX9_node_ 43 = .ok (.tableswitch 88 0 6 #[41, 48, 55, 61, 67, 73, 80], 41) := by decide +kernel
theorem dX9_node__84 : decode cX9_node_ 84 = .ok (.aload_n 0, 1) := by decide +kernel
theorem dX9_node__85 : decode cX9_node_ 85 = .ok (.getfield 44, 3) := by decide +kernel
theorem dX9_node__88 : decode cX9_node_ 88 = .ok (.iload_n 2, 1) := by decide +kernel
theorem dX9_node__89 : decode cX9_node_ 89 = .ok (.iaload, 1) := by decide +kernel
theorem dX9_node__90 : decode cX9_node_ 90 = .ok (.ireturn, 1) := by decide +kernel
theorem dX9_node__91 : decode cX9_node_ 91 = .ok (.aload_n 0, 1) := by decide +kernel
theorem dX9_node__92 : decode cX9_node_ 92 = .ok (.getfield 47, 3) := by decide +kernel
theorem dX9_node__95 : decode cX9_node_ 95 = .ok (.iload_n 2, 1) := by decide +kernel
theorem dX9_node__96 : decode cX9_node_ 96 = .ok (.iaload, 1) := by decide +kernel
theorem dX9_node__97 : decode cX9_node_ 97 = .ok (.ireturn, 1) := by decide +kernel
theorem dX9_node__98 : decode cX9_node_ 98 = .ok (.aload_n 0, 1) := by decide +kernel
theorem dX9_node__99 : decode cX9_node_ 99 = .ok (.iload_n 2, 1) := by decide +kernel
theorem dX9_node__100 : decode cX9_node_ 100 = .ok (.invokevirtual 172, 3) := by decide +kernel
theorem dX9_node__103 : decode cX9_node_ 103 = .ok (.ireturn, 1) := by decide +kernel
theorem dX9_node__104 : decode cX9_node_ 104 = .ok (.aload_n 0, 1) := by decide +kernel
theorem dX9_node__105 : decode cX9_node_ 105 = .ok (.iload_n 2, 1) := by decide +kernel
theorem dX9_node__106 : decode cX9_node_ 106 = .ok (.invokevirtual 175, 3) := by decide +kernel
theorem dX9_node__109 : decode cX9_node_ 109 = .ok (.ireturn, 1) := by decide +kernel
theorem dX9_node__110 : decode cX9_node_ 110 = .ok (.aload_n 0, 1) := by decide +kernel
theorem dX9_node__111 : decode cX9_node_ 111 = .ok (.iload_n 2, 1) := by decide +kernel
theorem dX9_node__112 : decode cX9_node_ 112 = .ok (.invokevirtual 178, 3) := by decide +kernel
theorem dX9_node__115 : decode cX9_node_ 115 = .ok (.ireturn, 1) := by decide +kernel
theorem dX9_node__116 : decode cX9_node_ 116 = .ok (.aload_n 0, 1) := by decide +kernel
theorem dX9_node__117 : decode cX9_node_ 117 = .ok (.getfield 50, 3) := by decide +kernel
theorem dX9_node__120 : decode cX9_node_ 120 = .ok (.iload_n 2, 1) := by decide +kernel
theorem dX9_node__121 : decode cX9_node_ 121 = .ok (.iaload, 1) := by decide +kernel
theorem dX9_node__122 : decode cX9_node_ 122 = .ok (.ireturn, 1) := by decide +kernel
theorem dX9_node__123 : decode cX9_node_ 123 = .ok (.aload_n 0, 1) := by decide +kernel
theorem dX9_node__124 : decode cX9_node_ 124 = .ok (.iload_n 2, 1) := by decide +kernel
theorem dX9_node__125 : decode cX9_node_ 125 = .ok (.invokevirtual 133, 3) := by decide +kernel
theorem dX9_node__128 : decode cX9_node_ 128 = .ok (.iload_n 2, 1) := by decide +kernel
theorem dX9_node__129 : decode cX9_node_ 129 = .ok (.isub, 1) := by decide +kernel
theorem dX9_node__130 : decode cX9_node_ 130 = .ok (.ireturn, 1) := by decide +kernel
theorem dX9_node__131 : decode cX9_node_ 131 = .ok (.aload_n 0, 1) := by decide +kernel
theorem dX9_node__132 : decode cX9_node_ 132 = .ok (.bipush (-5), 2) := by decide +kernel
theorem dX9_node__134 : decode cX9_node_ 134 = .ok (.invokevirtual 99, 3) := by decide +kernel
theorem dX9_node__137 : decode cX9_node_ 137 = .ok (.ireturn, 1) := by decide +kernel
theorem dX9_find__0 : decode cX9_find_ 0 = .ok (.aload_n 0, 1) := by decide +kernel
theorem dX9_find__1 : decode cX9_find_ 1 = .ok (.iload_n 1, 1) := by decide +kernel
theorem dX9_find__2 : decode cX9_find_ 2 = .ok (.invokevirtual 166, 3) := by decide +kernel
theorem dX9_find__5 : decode cX9_find_ 5 = .ok (.ifCond .ne 9, 3) := by decide +kernel
theorem dX9_find__8 : decode cX9_find_ 8 = .ok (.aload_n 0, 1) := by decide +kernel
theorem dX9_find__9 : decode cX9_find_ 9 = .ok (.iconst (-1), 1) := by decide +kernel
theorem dX9_find__10 : decode cX9_find_ 10 = .ok (.invokevirtual 181, 3) := by decide +kernel
theorem dX9_find__13 : decode cX9_find_ 13 = .ok (.ireturn, 1) := by decide +kernel
theorem dX9_find__14 : decode cX9_find_ 14 = .ok (.aload_n 0, 1) := by decide +kernel
theorem dX9_find__15 : decode cX9_find_ 15 = .ok (.iload_n 1, 1) := by decide +kernel
theorem dX9_find__16 : decode cX9_find_ 16 = .ok (.invokevirtual 169, 3) := by decide +kernel
theorem dX9_find__19 : decode cX9_find_ 19 = .ok (.aload_n 0, 1) := by decide +kernel
theorem dX9_find__20 : decode cX9_find_ 20 = .ok (.iload_n 2, 1) := by decide +kernel
theorem dX9_find__21 : decode cX9_find_ 21 = .ok (.invokevirtual 153, 3) := by decide +kernel
theorem dX9_find__24 : decode cX9_find_ 24 = .ok (.ireturn, 1) := by decide +kernel
theorem dX9_child__0 : decode cX9_child_ 0 = .ok (.aload_n 0, 1) := by decide +kernel
theorem dX9_child__1 : decode cX9_child_ 1 = .ok (.iload_n 1, 1) := by decide +kernel
theorem dX9_child__2 : decode cX9_child_ 2 = .ok (.invokevirtual 166, 3) := by decide +kernel
theorem dX9_child__5 : decode cX9_child_ 5 = .ok (.ifCond .ne 9, 3) := by decide +kernel
theorem dX9_child__8 : decode cX9_child_ 8 = .ok (.aload_n 0, 1) := by decide +kernel
theorem dX9_child__9 : decode cX9_child_ 9 = .ok (.iconst (-1), 1) := by decide +kernel
theorem dX9_child__10 : decode cX9_child_ 10 = .ok (.invokevirtual 99, 3) := by decide +kernel
theorem dX9_child__13 : decode cX9_child_ 13 = .ok (.ireturn, 1) := by decide +kernel
theorem dX9_child__14 : decode cX9_child_ 14 = .ok (.aload_n 0, 1) := by decide +kernel
theorem dX9_child__15 : decode cX9_child_ 15 = .ok (.iload_n 1, 1) := by decide +kernel
theorem dX9_child__16 : decode cX9_child_ 16 = .ok (.invokevirtual 169, 3) := by decide +kernel
theorem dX9_child__19 : decode cX9_child_ 19 = .ok (.aload_n 0, 1) := by decide +kernel
theorem dX9_child__20 : decode cX9_child_ 20 = .ok (.iload_n 2, 1) := by decide +kernel
theorem dX9_child__21 : decode cX9_child_ 21 = .ok (.invokevirtual 153, 3) := by decide +kernel
theorem dX9_child__24 : decode cX9_child_ 24 = .ok (.istore 4, 2) := by decide +kernel
theorem dX9_child__26 : decode cX9_child_ 26 = .ok (.iload 4, 2) := by decide +kernel
theorem dX9_child__28 : decode cX9_child_ 28 = .ok (.iconst (-1), 1) := by decide +kernel
theorem dX9_child__29 : decode cX9_child_ 29 = .ok (.if_icmp .eq 19, 3) := by decide +kernel
theorem dX9_child__32 : decode cX9_child_ 32 = .ok (.iload_n 3, 1) := by decide +kernel
theorem dX9_child__33 : decode cX9_child_ 33 = .ok (.iconst 0, 1) := by decide +kernel
theorem dX9_child__34 : decode cX9_child_ 34 = .ok (.aload_n 0, 1) := by decide +kernel
theorem dX9_child__35 : decode cX9_child_ 35 = .ok (.iload 4, 2) := by decide +kernel
theorem dX9_child__37 : decode cX9_child_ 37 = .ok (.invokevirtual 178, 3) := by decide +kernel
theorem dX9_child__40 : decode cX9_child_ 40 = .ok (.iconst 1, 1) := by decide +kernel
theorem dX9_child__41 : decode cX9_child_ 41 = .ok (.isub, 1) := by decide +kernel
theorem dX9_child__42 : decode cX9_child_ 42 = .ok (.invokestatic 106, 3) := by decide +kernel
theorem dX9_child__45 : decode cX9_child_ 45 = .ok (.ifCond .ne 10, 3) := by decide +kernel
theorem dX9_child__48 : decode cX9_child_ 48 = .ok (.aload_n 0, 1) := by decide +kernel
theorem dX9_child__49 : decode cX9_child_ 49 = .ok (.bipush (-5), 2) := by decide +kernel
theorem dX9_child__51 : decode cX9_child_ 51 = .ok (.invokevirtual 99, 3) := by decide +kernel
theorem dX9_child__54 : decode cX9_child_ 54 = .ok (.ireturn, 1) := by decide +kernel
theorem dX9_child__55 : decode cX9_child_ 55 = .ok (.aload_n 0, 1) := by decide +kernel
theorem dX9_child__56 : decode cX9_child_ 56 = .ok (.getfield 44, 3) := by decide +kernel
theorem dX9_child__59 : decode cX9_child_ 59 = .ok (.aload_n 0, 1) := by decide +kernel
theorem dX9_child__60 : decode cX9_child_ 60 = .ok (.iload 4, 2) := by decide +kernel
theorem dX9_child__62 : decode cX9_child_ 62 = .ok (.iload_n 3, 1) := by decide +kernel
theorem dX9_child__63 : decode cX9_child_ 63 = .ok (.invokevirtual 136, 3) := by decide +kernel
theorem dX9_child__66 : decode cX9_child_ 66 = .ok (.iaload, 1) := by decide +kernel
theorem dX9_child__67 : decode cX9_child_ 67 = .ok (.ireturn, 1) := by decide +kernel
theorem dX9_above_0 : decode cX9_above 0 = .ok (.aload_n 0, 1) := by decide +kernel
theorem dX9_above_1 : decode cX9_above 1 = .ok (.iload_n 1, 1) := by decide +kernel
theorem dX9_above_2 : decode cX9_above 2 = .ok (.invokevirtual 166, 3) := by decide +kernel
theorem dX9_above_5 : decode cX9_above 5 = .ok (.ifCond .ne 9, 3) := by decide +kernel
theorem dX9_above_8 : decode cX9_above 8 = .ok (.aload_n 0, 1) := by decide +kernel
theorem dX9_above_9 : decode cX9_above 9 = .ok (.iconst (-1), 1) := by decide +kernel
theorem dX9_above_10 : decode cX9_above 10 = .ok (.invokevirtual 99, 3) := by decide +kernel
theorem dX9_above_13 : decode cX9_above 13 = .ok (.ireturn, 1) := by decide +kernel
theorem dX9_above_14 : decode cX9_above 14 = .ok (.aload_n 0, 1) := by decide +kernel
theorem dX9_above_15 : decode cX9_above 15 = .ok (.iload_n 1, 1) := by decide +kernel
theorem dX9_above_16 : decode cX9_above 16 = .ok (.invokevirtual 169, 3) := by decide +kernel
theorem dX9_above_19 : decode cX9_above 19 = .ok (.aload_n 0, 1) := by decide +kernel
theorem dX9_above_20 : decode cX9_above 20 = .ok (.iload_n 2, 1) := by decide +kernel
theorem dX9_above_21 : decode cX9_above 21 = .ok (.invokevirtual 153, 3) := by decide +kernel
theorem dX9_above_24 : decode cX9_above 24 = .ok (.istore 4, 2) := by decide +kernel
theorem dX9_above_26 : decode cX9_above 26 = .ok (.aload_n 0, 1) := by decide +kernel
theorem dX9_above_27 : decode cX9_above 27 = .ok (.iload_n 3, 1) := by decide +kernel
theorem dX9_above_28 : decode cX9_above 28 = .ok (.invokevirtual 153, 3) := by decide +kernel
theorem dX9_above_31 : decode cX9_above 31 = .ok (.istore 5, 2) := by decide +kernel
theorem dX9_above_33 : decode cX9_above 33 = .ok (.iload 4, 2) := by decide +kernel
theorem dX9_above_35 : decode cX9_above 35 = .ok (.iconst (-1), 1) := by decide +kernel
theorem dX9_above_36 : decode cX9_above 36 = .ok (.if_icmp .eq 9, 3) := by decide +kernel
theorem dX9_above_39 : decode cX9_above 39 = .ok (.iload 5, 2) := by decide +kernel
theorem dX9_above_41 : decode cX9_above 41 = .ok (.iconst (-1), 1) := by decide +kernel
theorem dX9_above_42 : decode cX9_above 42 = .ok (.if_icmp .ne 10, 3) := by decide +kernel
theorem dX9_above_45 : decode cX9_above 45 = .ok (.aload_n 0, 1) := by decide +kernel
theorem dX9_above_46 : decode cX9_above 46 = .ok (.bipush (-5), 2) := by decide +kernel
theorem dX9_above_48 : decode cX9_above 48 = .ok (.invokevirtual 99, 3) := by decide +kernel
theorem dX9_above_51 : decode cX9_above 51 = .ok (.ireturn, 1) := by decide +kernel
theorem dX9_above_52 : decode cX9_above 52 = .ok (.aload_n 0, 1) := by decide +kernel
theorem dX9_above_53 : decode cX9_above 53 = .ok (.iload 5, 2) := by decide +kernel
theorem dX9_above_55 : decode cX9_above 55 = .ok (.iload 4, 2) := by decide +kernel
theorem dX9_above_57 : decode cX9_above 57 = .ok (.invokevirtual 184, 3) := by decide +kernel
theorem dX9_above_60 : decode cX9_above 60 = .ok (.ifCond .ne 14, 3) := by decide +kernel
theorem dX9_above_63 : decode cX9_above 63 = .ok (.aload_n 0, 1) := by decide +kernel
theorem dX9_above_64 : decode cX9_above 64 = .ok (.iload 4, 2) := by decide +kernel
theorem dX9_above_66 : decode cX9_above 66 = .ok (.invokevirtual 130, 3) := by decide +kernel
theorem dX9_above_69 : decode cX9_above 69 = .ok (.istore 4, 2) := by decide +kernel
theorem dX9_above_71 : decode cX9_above 71 = .ok (.goto (-19), 3) := by decide +kernel
theorem dX9_above_74 : decode cX9_above 74 = .ok (.aload_n 0, 1) := by decide +kernel
theorem dX9_above_75 : decode cX9_above 75 = .ok (.getfield 44, 3) := by decide +kernel
theorem dX9_above_78 : decode cX9_above 78 = .ok (.iload 4, 2) := by decide +kernel
theorem dX9_above_80 : decode cX9_above 80 = .ok (.iaload, 1) := by decide +kernel
theorem dX9_above_81 : decode cX9_above 81 = .ok (.ireturn, 1) := by decide +kernel
theorem dX9_same_0 : decode cX9_same 0 = .ok (.aload_n 0, 1) := by decide +kernel
theorem dX9_same_1 : decode cX9_same 1 = .ok (.iload_n 1, 1) := by decide +kernel
theorem dX9_same_2 : decode cX9_same 2 = .ok (.invokevirtual 166, 3) := by decide +kernel
theorem dX9_same_5 : decode cX9_same 5 = .ok (.ifCond .eq 11, 3) := by decide +kernel
theorem dX9_same_8 : decode cX9_same 8 = .ok (.aload_n 0, 1) := by decide +kernel
theorem dX9_same_9 : decode cX9_same 9 = .ok (.iload_n 2, 1) := by decide +kernel
theorem dX9_same_10 : decode cX9_same 10 = .ok (.invokevirtual 166, 3) := by decide +kernel
theorem dX9_same_13 : decode cX9_same 13 = .ok (.ifCond .ne 9, 3) := by decide +kernel
theorem dX9_same_16 : decode cX9_same 16 = .ok (.aload_n 0, 1) := by decide +kernel
theorem dX9_same_17 : decode cX9_same 17 = .ok (.iconst (-1), 1) := by decide +kernel
theorem dX9_same_18 : decode cX9_same 18 = .ok (.invokevirtual 99, 3) := by decide +kernel
theorem dX9_same_21 : decode cX9_same 21 = .ok (.ireturn, 1) := by decide +kernel
theorem dX9_same_22 : decode cX9_same 22 = .ok (.iconst 0, 1) := by decide +kernel
theorem dX9_same_23 : decode cX9_same 23 = .ok (.istore_n 3, 1) := by decide +kernel
theorem dX9_same_24 : decode cX9_same 24 = .ok (.iload_n 3, 1) := by decide +kernel
theorem dX9_same_25 : decode cX9_same 25 = .ok (.aload_n 0, 1) := by decide +kernel
theorem dX9_same_26 : decode cX9_same 26 = .ok (.getfield 7, 3) := by decide +kernel
theorem dX9_same_29 : decode cX9_same 29 = .ok (.iload_n 1, 1) := by decide +kernel
theorem dX9_same_30 : decode cX9_same 30 = .ok (.iaload, 1) := by decide +kernel
theorem dX9_same_31 : decode cX9_same 31 = .ok (.if_icmp .lt 13, 3) := by decide +kernel
theorem dX9_same_34 : decode cX9_same 34 = .ok (.iload_n 3, 1) := by decide +kernel
theorem dX9_same_35 : decode cX9_same 35 = .ok (.aload_n 0, 1) := by decide +kernel
theorem dX9_same_36 : decode cX9_same 36 = .ok (.getfield 7, 3) := by decide +kernel
theorem dX9_same_39 : decode cX9_same 39 = .ok (.iload_n 2, 1) := by decide +kernel
theorem dX9_same_40 : decode cX9_same 40 = .ok (.iaload, 1) := by decide +kernel
theorem dX9_same_41 : decode cX9_same 41 = .ok (.if_icmp .ge 100, 3) := by decide +kernel
theorem dX9_same_44 : decode cX9_same 44 = .ok (.bipush 64, 2) := by decide +kernel
theorem dX9_same_46 : decode cX9_same 46 = .ok (.iload_n 1, 1) := by decide +kernel
theorem dX9_same_47 : decode cX9_same 47 = .ok (.imul, 1) := by decide +kernel
theorem dX9_same_48 : decode cX9_same 48 = .ok (.iload_n 3, 1) := by decide +kernel
theorem dX9_same_49 : decode cX9_same 49 = .ok (.iadd, 1) := by decide +kernel
theorem dX9_same_50 : decode cX9_same 50 = .ok (.istore 4, 2) := by decide +kernel
theorem dX9_same_52 : decode cX9_same 52 = .ok (.bipush 64, 2) := by decide +kernel
theorem dX9_same_54 : decode cX9_same 54 = .ok (.iload_n 2, 1) := by decide +kernel
theorem dX9_same_55 : decode cX9_same 55 = .ok (.imul, 1) := by decide +kernel
theorem dX9_same_56 : decode cX9_same 56 = .ok (.iload_n 3, 1) := by decide +kernel
theorem dX9_same_57 : decode cX9_same 57 = .ok (.iadd, 1) := by decide +kernel
theorem dX9_same_58 : decode cX9_same 58 = .ok (.istore 5, 2) := by decide +kernel
theorem dX9_same_60 : decode cX9_same 60 = .ok (.iload_n 3, 1) := by decide +kernel
theorem dX9_same_61 : decode cX9_same 61 = .ok (.aload_n 0, 1) := by decide +kernel
theorem dX9_same_62 : decode cX9_same 62 = .ok (.getfield 7, 3) := by decide +kernel
theorem dX9_same_65 : decode cX9_same 65 = .ok (.iload_n 1, 1) := by decide +kernel
theorem dX9_same_66 : decode cX9_same 66 = .ok (.iaload, 1) := by decide +kernel
theorem dX9_same_67 : decode cX9_same 67 = .ok (.if_icmp .ge 64, 3) := by decide +kernel
theorem dX9_same_70 : decode cX9_same 70 = .ok (.iload_n 3, 1) := by decide +kernel
theorem dX9_same_71 : decode cX9_same 71 = .ok (.aload_n 0, 1) := by decide +kernel
theorem dX9_same_72 : decode cX9_same 72 = .ok (.getfield 7, 3) := by decide +kernel
theorem dX9_same_75 : decode cX9_same 75 = .ok (.iload_n 2, 1) := by decide +kernel
theorem dX9_same_76 : decode cX9_same 76 = .ok (.iaload, 1) := by decide +kernel
theorem dX9_same_77 : decode cX9_same 77 = .ok (.if_icmp .ge 54, 3) := by decide +kernel
theorem dX9_same_80 : decode cX9_same 80 = .ok (.aload_n 0, 1) := by decide +kernel
theorem dX9_same_81 : decode cX9_same 81 = .ok (.getfield 13, 3) := by decide +kernel
theorem dX9_same_84 : decode cX9_same 84 = .ok (.iload 4, 2) := by decide +kernel
theorem dX9_same_86 : decode cX9_same 86 = .ok (.iaload, 1) := by decide +kernel
theorem dX9_same_87 : decode cX9_same 87 = .ok (.aload_n 0, 1) := by decide +kernel
theorem dX9_same_88 : decode cX9_same 88 = .ok (.getfield 13, 3) := by decide +kernel
theorem dX9_same_91 : decode cX9_same 91 = .ok (.iload 5, 2) := by decide +kernel
theorem dX9_same_93 : decode cX9_same 93 = .ok (.iaload, 1) := by decide +kernel
theorem dX9_same_94 : decode cX9_same 94 = .ok (.if_icmp .ne 37, 3) := by decide +kernel
theorem dX9_same_97 : decode cX9_same 97 = .ok (.aload_n 0, 1) := by decide +kernel
theorem dX9_same_98 : decode cX9_same 98 = .ok (.getfield 16, 3) := by decide +kernel
theorem dX9_same_101 : decode cX9_same 101 = .ok (.iload 4, 2) := by decide +kernel
theorem dX9_same_103 : decode cX9_same 103 = .ok (.iaload, 1) := by decide +kernel
theorem dX9_same_104 : decode cX9_same 104 = .ok (.aload_n 0, 1) := by decide +kernel
theorem dX9_same_105 : decode cX9_same 105 = .ok (.getfield 16, 3) := by decide +kernel
theorem dX9_same_108 : decode cX9_same 108 = .ok (.iload 5, 2) := by decide +kernel
theorem dX9_same_110 : decode cX9_same 110 = .ok (.iaload, 1) := by decide +kernel
theorem dX9_same_111 : decode cX9_same 111 = .ok (.if_icmp .ne 20, 3) := by decide +kernel
theorem dX9_same_114 : decode cX9_same 114 = .ok (.aload_n 0, 1) := by decide +kernel
theorem dX9_same_115 : decode cX9_same 115 = .ok (.getfield 19, 3) := by decide +kernel
theorem dX9_same_118 : decode cX9_same 118 = .ok (.iload 4, 2) := by decide +kernel
theorem dX9_same_120 : decode cX9_same 120 = .ok (.iaload, 1) := by decide +kernel
theorem dX9_same_121 : decode cX9_same 121 = .ok (.aload_n 0, 1) := by decide +kernel
theorem dX9_same_122 : decode cX9_same 122 = .ok (.getfield 19, 3) := by decide +kernel
theorem dX9_same_125 : decode cX9_same 125 = .ok (.iload 5, 2) := by decide +kernel
theorem dX9_same_127 : decode cX9_same 127 = .ok (.iaload, 1) := by decide +kernel
theorem dX9_same_128 : decode cX9_same 128 = .ok (.if_icmp .eq 7, 3) := by decide +kernel
theorem dX9_same_131 : decode cX9_same 131 = .ok (.iload_n 3, 1) := by decide +kernel
theorem dX9_same_132 : decode cX9_same 132 = .ok (.iconst 1, 1) := by decide +kernel
theorem dX9_same_133 : decode cX9_same 133 = .ok (.iadd, 1) := by decide +kernel
theorem dX9_same_134 : decode cX9_same 134 = .ok (.ireturn, 1) := by decide +kernel
theorem dX9_same_135 : decode cX9_same 135 = .ok (.iinc 3 1, 3) := by decide +kernel
theorem dX9_same_138 : decode cX9_same 138 = .ok (.goto (-114), 3) := by decide +kernel
theorem dX9_same_141 : decode cX9_same 141 = .ok (.iconst 0, 1) := by decide +kernel
theorem dX9_same_142 : decode cX9_same 142 = .ok (.ireturn, 1) := by decide +kernel
theorem dX9_drop_0 : decode cX9_drop 0 = .ok (.aload_n 0, 1) := by decide +kernel
theorem dX9_drop_1 : decode cX9_drop 1 = .ok (.iload_n 1, 1) := by decide +kernel
theorem dX9_drop_2 : decode cX9_drop 2 = .ok (.invokevirtual 166, 3) := by decide +kernel
theorem dX9_drop_5 : decode cX9_drop 5 = .ok (.ifCond .ne 9, 3) := by decide +kernel
theorem dX9_drop_8 : decode cX9_drop 8 = .ok (.aload_n 0, 1) := by decide +kernel
theorem dX9_drop_9 : decode cX9_drop 9 = .ok (.iconst (-1), 1) := by decide +kernel
theorem dX9_drop_10 : decode cX9_drop 10 = .ok (.invokevirtual 99, 3) := by decide +kernel
theorem dX9_drop_13 : decode cX9_drop 13 = .ok (.ireturn, 1) := by decide +kernel
theorem dX9_drop_14 : decode cX9_drop 14 = .ok (.iload_n 1, 1) := by decide +kernel
theorem dX9_drop_15 : decode cX9_drop 15 = .ok (.aload_n 0, 1) := by decide +kernel
theorem dX9_drop_16 : decode cX9_drop 16 = .ok (.getfield 103, 3) := by decide +kernel
theorem dX9_drop_19 : decode cX9_drop 19 = .ok (.iconst 1, 1) := by decide +kernel
theorem dX9_drop_20 : decode cX9_drop 20 = .ok (.isub, 1) := by decide +kernel
theorem dX9_drop_21 : decode cX9_drop 21 = .ok (.if_icmp .eq 10, 3) := by decide +kernel
theorem dX9_drop_24 : decode cX9_drop 24 = .ok (.aload_n 0, 1) := by decide +kernel
theorem dX9_drop_25 : decode cX9_drop 25 = .ok (.bipush (-6), 2) := by decide +kernel
theorem dX9_drop_27 : decode cX9_drop 27 = .ok (.invokevirtual 99, 3) := by decide +kernel
theorem dX9_drop_30 : decode cX9_drop 30 = .ok (.ireturn, 1) := by decide +kernel
theorem dX9_drop_31 : decode cX9_drop 31 = .ok (.aload_n 0, 1) := by decide +kernel
theorem dX9_drop_32 : decode cX9_drop 32 = .ok (.dup, 1) := by decide +kernel
theorem dX9_drop_33 : decode cX9_drop 33 = .ok (.getfield 103, 3) := by decide +kernel
theorem dX9_drop_36 : decode cX9_drop 36 = .ok (.iconst 1, 1) := by decide +kernel
theorem dX9_drop_37 : decode cX9_drop 37 = .ok (.isub, 1) := by decide +kernel
theorem dX9_drop_38 : decode cX9_drop 38 = .ok (.putfield 103, 3) := by decide +kernel
theorem dX9_drop_41 : decode cX9_drop 41 = .ok (.aload_n 0, 1) := by decide +kernel
theorem dX9_drop_42 : decode cX9_drop 42 = .ok (.getfield 103, 3) := by decide +kernel
theorem dX9_drop_45 : decode cX9_drop 45 = .ok (.ireturn, 1) := by decide +kernel
theorem dX9_does_0 : decode cX9_does 0 = .ok (.aload_n 0, 1) := by decide +kernel
theorem dX9_does_1 : decode cX9_does 1 = .ok (.aload_n 1, 1) := by decide +kernel
theorem dX9_does_2 : decode cX9_does 2 = .ok (.iload_n 2, 1) := by decide +kernel
theorem dX9_does_3 : decode cX9_does 3 = .ok (.iconst 1, 1) := by decide +kernel
theorem dX9_does_4 : decode cX9_does 4 = .ok (.iadd, 1) := by decide +kernel
theorem dX9_does_5 : decode cX9_does 5 = .ok (.iaload, 1) := by decide +kernel
theorem dX9_does_6 : decode cX9_does 6 = .ok (.invokevirtual 153, 3) := by decide +kernel
theorem dX9_does_9 : decode cX9_does 9 = .ok (.istore_n 3, 1) := by decide +kernel
theorem dX9_does_10 : decode cX9_does 10 = .ok (.aload_n 1, 1) := by decide +kernel
theorem dX9_does_11 : decode cX9_does 11 = .ok (.iload_n 2, 1) := by decide +kernel
theorem dX9_does_12 : decode cX9_does 12 = .ok (.iaload, 1) := by decide +kernel
theorem dX9_does_13 : decode cX9_does 13 = .ok (.tableswitch 209 0 2 #[27, 61, 124], 27) := by decide +kernel
theorem dX9_does_40 : decode cX9_does 40 = .ok (.iload_n 3, 1) := by decide +kernel
theorem dX9_does_41 : decode cX9_does 41 = .ok (.iconst (-1), 1) := by decide +kernel
theorem dX9_does_42 : decode cX9_does 42 = .ok (.if_icmp .eq 17, 3) := by decide +kernel
theorem dX9_does_45 : decode cX9_does 45 = .ok (.aload_n 0, 1) := by decide +kernel
theorem dX9_does_46 : decode cX9_does 46 = .ok (.getfield 47, 3) := by decide +kernel
theorem dX9_does_49 : decode cX9_does 49 = .ok (.iload_n 3, 1) := by decide +kernel
theorem dX9_does_50 : decode cX9_does 50 = .ok (.iaload, 1) := by decide +kernel
theorem dX9_does_51 : decode cX9_does 51 = .ok (.aload_n 1, 1) := by decide +kernel
theorem dX9_does_52 : decode cX9_does 52 = .ok (.iload_n 2, 1) := by decide +kernel
theorem dX9_does_53 : decode cX9_does 53 = .ok (.iconst 2, 1) := by decide +kernel
theorem dX9_does_54 : decode cX9_does 54 = .ok (.iadd, 1) := by decide +kernel
theorem dX9_does_55 : decode cX9_does 55 = .ok (.iaload, 1) := by decide +kernel
theorem dX9_does_56 : decode cX9_does 56 = .ok (.if_icmp .eq 5, 3) := by decide +kernel
theorem dX9_does_59 : decode cX9_does 59 = .ok (.iconst 0, 1) := by decide +kernel
theorem dX9_does_60 : decode cX9_does 60 = .ok (.ireturn, 1) := by decide +kernel
theorem dX9_does_61 : decode cX9_does 61 = .ok (.aload_n 0, 1) := by decide +kernel
theorem dX9_does_62 : decode cX9_does 62 = .ok (.getfield 47, 3) := by decide +kernel
theorem dX9_does_65 : decode cX9_does 65 = .ok (.iload_n 3, 1) := by decide +kernel
theorem dX9_does_66 : decode cX9_does 66 = .ok (.aload_n 1, 1) := by decide +kernel
theorem dX9_does_67 : decode cX9_does 67 = .ok (.iload_n 2, 1) := by decide +kernel
theorem dX9_does_68 : decode cX9_does 68 = .ok (.iconst 3, 1) := by decide +kernel
theorem dX9_does_69 : decode cX9_does 69 = .ok (.iadd, 1) := by decide +kernel
theorem dX9_does_70 : decode cX9_does 70 = .ok (.iaload, 1) := by decide +kernel
theorem dX9_does_71 : decode cX9_does 71 = .ok (.iastore, 1) := by decide +kernel
theorem dX9_does_72 : decode cX9_does 72 = .ok (.iconst 1, 1) := by decide +kernel
theorem dX9_does_73 : decode cX9_does 73 = .ok (.ireturn, 1) := by decide +kernel
theorem dX9_does_74 : decode cX9_does 74 = .ok (.iload_n 3, 1) := by decide +kernel
theorem dX9_does_75 : decode cX9_does 75 = .ok (.iconst (-1), 1) := by decide +kernel
theorem dX9_does_76 : decode cX9_does 76 = .ok (.if_icmp .eq 51, 3) := by decide +kernel
theorem dX9_does_79 : decode cX9_does 79 = .ok (.aload_n 0, 1) := by decide +kernel
theorem dX9_does_80 : decode cX9_does 80 = .ok (.iload_n 3, 1) := by decide +kernel
theorem dX9_does_81 : decode cX9_does 81 = .ok (.invokevirtual 178, 3) := by decide +kernel
theorem dX9_does_84 : decode cX9_does 84 = .ok (.ifCond .gt 43, 3) := by decide +kernel
theorem dX9_does_87 : decode cX9_does 87 = .ok (.aload_n 0, 1) := by decide +kernel
theorem dX9_does_88 : decode cX9_does 88 = .ok (.getfield 47, 3) := by decide +kernel
theorem dX9_does_91 : decode cX9_does 91 = .ok (.iload_n 3, 1) := by decide +kernel
theorem dX9_does_92 : decode cX9_does 92 = .ok (.iaload, 1) := by decide +kernel
theorem dX9_does_93 : decode cX9_does 93 = .ok (.aload_n 1, 1) := by decide +kernel
theorem dX9_does_94 : decode cX9_does 94 = .ok (.iload_n 2, 1) := by decide +kernel
theorem dX9_does_95 : decode cX9_does 95 = .ok (.iconst 2, 1) := by decide +kernel
theorem dX9_does_96 : decode cX9_does 96 = .ok (.iadd, 1) := by decide +kernel
theorem dX9_does_97 : decode cX9_does 97 = .ok (.iaload, 1) := by decide +kernel
theorem dX9_does_98 : decode cX9_does 98 = .ok (.if_icmp .ne 29, 3) := by decide +kernel
theorem dX9_does_101 : decode cX9_does 101 = .ok (.aload_n 0, 1) := by decide +kernel
theorem dX9_does_102 : decode cX9_does 102 = .ok (.iload_n 3, 1) := by decide +kernel
theorem dX9_does_103 : decode cX9_does 103 = .ok (.invokevirtual 172, 3) := by decide +kernel
theorem dX9_does_106 : decode cX9_does 106 = .ok (.aload_n 1, 1) := by decide +kernel
theorem dX9_does_107 : decode cX9_does 107 = .ok (.iload_n 2, 1) := by decide +kernel
theorem dX9_does_108 : decode cX9_does 108 = .ok (.iconst 3, 1) := by decide +kernel
theorem dX9_does_109 : decode cX9_does 109 = .ok (.iadd, 1) := by decide +kernel
theorem dX9_does_110 : decode cX9_does 110 = .ok (.iaload, 1) := by decide +kernel
theorem dX9_does_111 : decode cX9_does 111 = .ok (.if_icmp .ne 16, 3) := by decide +kernel
theorem dX9_does_114 : decode cX9_does 114 = .ok (.aload_n 0, 1) := by decide +kernel
theorem dX9_does_115 : decode cX9_does 115 = .ok (.iload_n 3, 1) := by decide +kernel
theorem dX9_does_116 : decode cX9_does 116 = .ok (.invokevirtual 175, 3) := by decide +kernel
theorem dX9_does_119 : decode cX9_does 119 = .ok (.aload_n 1, 1) := by decide +kernel
theorem dX9_does_120 : decode cX9_does 120 = .ok (.iload_n 2, 1) := by decide +kernel
theorem dX9_does_121 : decode cX9_does 121 = .ok (.iconst 4, 1) := by decide +kernel
theorem dX9_does_122 : decode cX9_does 122 = .ok (.iadd, 1) := by decide +kernel
theorem dX9_does_123 : decode cX9_does 123 = .ok (.iaload, 1) := by decide +kernel
theorem dX9_does_124 : decode cX9_does 124 = .ok (.if_icmp .eq 5, 3) := by decide +kernel
theorem dX9_does_127 : decode cX9_does 127 = .ok (.iconst 0, 1) := by decide +kernel
theorem dX9_does_128 : decode cX9_does 128 = .ok (.ireturn, 1) := by decide +kernel
theorem dX9_does_129 : decode cX9_does 129 = .ok (.aload_n 0, 1) := by decide +kernel
theorem dX9_does_130 : decode cX9_does 130 = .ok (.iload_n 3, 1) := by decide +kernel
theorem dX9_does_131 : decode cX9_does 131 = .ok (.iconst 1, 1) := by decide +kernel
theorem dX9_does_132 : decode cX9_does 132 = .ok (.invokevirtual 188, 3) := by decide +kernel
theorem dX9_does_135 : decode cX9_does 135 = .ok (.iconst 1, 1) := by decide +kernel
theorem dX9_does_136 : decode cX9_does 136 = .ok (.ireturn, 1) := by decide +kernel
theorem dX9_does_137 : decode cX9_does 137 = .ok (.aload_n 0, 1) := by decide +kernel
theorem dX9_does_138 : decode cX9_does 138 = .ok (.aload_n 1, 1) := by decide +kernel
theorem dX9_does_139 : decode cX9_does 139 = .ok (.iload_n 2, 1) := by decide +kernel
theorem dX9_does_140 : decode cX9_does 140 = .ok (.iconst 3, 1) := by decide +kernel
theorem dX9_does_141 : decode cX9_does 141 = .ok (.iadd, 1) := by decide +kernel
theorem dX9_does_142 : decode cX9_does 142 = .ok (.iaload, 1) := by decide +kernel
theorem dX9_does_143 : decode cX9_does 143 = .ok (.invokevirtual 153, 3) := by decide +kernel
theorem dX9_does_146 : decode cX9_does 146 = .ok (.istore 4, 2) := by decide +kernel
theorem dX9_does_148 : decode cX9_does 148 = .ok (.iload_n 3, 1) := by decide +kernel
theorem dX9_does_149 : decode cX9_does 149 = .ok (.iconst (-1), 1) := by decide +kernel
theorem dX9_does_150 : decode cX9_does 150 = .ok (.if_icmp .ne 27, 3) := by decide +kernel
theorem dX9_does_153 : decode cX9_does 153 = .ok (.iload 4, 2) := by decide +kernel
theorem dX9_does_155 : decode cX9_does 155 = .ok (.iconst (-1), 1) := by decide +kernel
theorem dX9_does_156 : decode cX9_does 156 = .ok (.if_icmp .eq 21, 3) := by decide +kernel
theorem dX9_does_159 : decode cX9_does 159 = .ok (.aload_n 1, 1) := by decide +kernel
theorem dX9_does_160 : decode cX9_does 160 = .ok (.iload_n 2, 1) := by decide +kernel
theorem dX9_does_161 : decode cX9_does 161 = .ok (.iconst 4, 1) := by decide +kernel
theorem dX9_does_162 : decode cX9_does 162 = .ok (.iadd, 1) := by decide +kernel
theorem dX9_does_163 : decode cX9_does 163 = .ok (.iaload, 1) := by decide +kernel
theorem dX9_does_164 : decode cX9_does 164 = .ok (.iconst 0, 1) := by decide +kernel
theorem dX9_does_165 : decode cX9_does 165 = .ok (.aload_n 0, 1) := by decide +kernel
theorem dX9_does_166 : decode cX9_does 166 = .ok (.iload 4, 2) := by decide +kernel
theorem dX9_does_168 : decode cX9_does 168 = .ok (.invokevirtual 178, 3) := by decide +kernel
theorem dX9_does_171 : decode cX9_does 171 = .ok (.invokestatic 106, 3) := by decide +kernel
theorem dX9_does_174 : decode cX9_does 174 = .ok (.ifCond .ne 5, 3) := by decide +kernel
theorem dX9_does_177 : decode cX9_does 177 = .ok (.iconst 0, 1) := by decide +kernel
theorem dX9_does_178 : decode cX9_does 178 = .ok (.ireturn, 1) := by decide +kernel
theorem dX9_does_179 : decode cX9_does 179 = .ok (.aload_n 0, 1) := by decide +kernel
theorem dX9_does_180 : decode cX9_does 180 = .ok (.getfield 53, 3) := by decide +kernel
theorem dX9_does_183 : decode cX9_does 183 = .ok (.iconst 0, 1) := by decide +kernel
theorem dX9_does_184 : decode cX9_does 184 = .ok (.aload_n 1, 1) := by decide +kernel
theorem dX9_does_185 : decode cX9_does 185 = .ok (.iload_n 2, 1) := by decide +kernel
theorem dX9_does_186 : decode cX9_does 186 = .ok (.iconst 1, 1) := by decide +kernel
theorem dX9_does_187 : decode cX9_does 187 = .ok (.iadd, 1) := by decide +kernel
theorem dX9_does_188 : decode cX9_does 188 = .ok (.iaload, 1) := by decide +kernel
theorem dX9_does_189 : decode cX9_does 189 = .ok (.iastore, 1) := by decide +kernel
theorem dX9_does_190 : decode cX9_does 190 = .ok (.aload_n 0, 1) := by decide +kernel
theorem dX9_does_191 : decode cX9_does 191 = .ok (.getfield 56, 3) := by decide +kernel
theorem dX9_does_194 : decode cX9_does 194 = .ok (.iconst 0, 1) := by decide +kernel
theorem dX9_does_195 : decode cX9_does 195 = .ok (.aload_n 1, 1) := by decide +kernel
theorem dX9_does_196 : decode cX9_does 196 = .ok (.iload_n 2, 1) := by decide +kernel
theorem dX9_does_197 : decode cX9_does 197 = .ok (.iconst 2, 1) := by decide +kernel
theorem dX9_does_198 : decode cX9_does 198 = .ok (.iadd, 1) := by decide +kernel
theorem dX9_does_199 : decode cX9_does 199 = .ok (.iaload, 1) := by decide +kernel
theorem dX9_does_200 : decode cX9_does 200 = .ok (.iastore, 1) := by decide +kernel
theorem dX9_does_201 : decode cX9_does 201 = .ok (.aload_n 0, 1) := by decide +kernel
theorem dX9_does_202 : decode cX9_does 202 = .ok (.getfield 59, 3) := by decide +kernel
theorem dX9_does_205 : decode cX9_does 205 = .ok (.iconst 0, 1) := by decide +kernel
theorem dX9_does_206 : decode cX9_does 206 = .ok (.iconst 0, 1) := by decide +kernel
theorem dX9_does_207 : decode cX9_does 207 = .ok (.iastore, 1) := by decide +kernel
theorem dX9_does_208 : decode cX9_does 208 = .ok (.aload_n 0, 1) := by decide +kernel
theorem dX9_does_209 : decode cX9_does 209 = .ok (.iconst 1, 1) := by decide +kernel
theorem dX9_does_210 : decode cX9_does 210 = .ok (.iload 4, 2) := by decide +kernel
theorem dX9_does_212 : decode cX9_does 212 = .ok (.aload_n 1, 1) := by decide +kernel
theorem dX9_does_213 : decode cX9_does 213 = .ok (.iload_n 2, 1) := by decide +kernel
theorem dX9_does_214 : decode cX9_does 214 = .ok (.iconst 4, 1) := by decide +kernel
theorem dX9_does_215 : decode cX9_does 215 = .ok (.iadd, 1) := by decide +kernel
theorem dX9_does_216 : decode cX9_does 216 = .ok (.iaload, 1) := by decide +kernel
theorem dX9_does_217 : decode cX9_does 217 = .ok (.invokevirtual 192, 3) := by decide +kernel
theorem dX9_does_220 : decode cX9_does 220 = .ok (.iconst 1, 1) := by decide +kernel
theorem dX9_does_221 : decode cX9_does 221 = .ok (.ireturn, 1) := by decide +kernel
theorem dX9_does_222 : decode cX9_does 222 = .ok (.aload_n 0, 1) := by decide +kernel
theorem dX9_does_223 : decode cX9_does 223 = .ok (.aload_n 1, 1) := by decide +kernel
theorem dX9_does_224 : decode cX9_does 224 = .ok (.iload_n 2, 1) := by decide +kernel
theorem dX9_does_225 : decode cX9_does 225 = .ok (.iload_n 3, 1) := by decide +kernel
theorem dX9_does_226 : decode cX9_does 226 = .ok (.invokevirtual 196, 3) := by decide +kernel
theorem dX9_does_229 : decode cX9_does 229 = .ok (.ireturn, 1) := by decide +kernel
theorem dX9_moves_0 : decode cX9_moves 0 = .ok (.aload_n 0, 1) := by decide +kernel
theorem dX9_moves_1 : decode cX9_moves 1 = .ok (.aload_n 1, 1) := by decide +kernel
theorem dX9_moves_2 : decode cX9_moves 2 = .ok (.iload_n 2, 1) := by decide +kernel
theorem dX9_moves_3 : decode cX9_moves 3 = .ok (.iconst 5, 1) := by decide +kernel
theorem dX9_moves_4 : decode cX9_moves 4 = .ok (.iadd, 1) := by decide +kernel
theorem dX9_moves_5 : decode cX9_moves 5 = .ok (.iaload, 1) := by decide +kernel
theorem dX9_moves_6 : decode cX9_moves 6 = .ok (.invokevirtual 153, 3) := by decide +kernel
theorem dX9_moves_9 : decode cX9_moves 9 = .ok (.istore 4, 2) := by decide +kernel
theorem dX9_moves_11 : decode cX9_moves 11 = .ok (.iload_n 3, 1) := by decide +kernel
theorem dX9_moves_12 : decode cX9_moves 12 = .ok (.ifCond .le 45, 3) := by decide +kernel
theorem dX9_moves_15 : decode cX9_moves 15 = .ok (.iload 4, 2) := by decide +kernel
theorem dX9_moves_17 : decode cX9_moves 17 = .ok (.iconst (-1), 1) := by decide +kernel
theorem dX9_moves_18 : decode cX9_moves 18 = .ok (.if_icmp .eq 39, 3) := by decide +kernel
theorem dX9_moves_21 : decode cX9_moves 21 = .ok (.aload_n 0, 1) := by decide +kernel
theorem dX9_moves_22 : decode cX9_moves 22 = .ok (.iload_n 3, 1) := by decide +kernel
theorem dX9_moves_23 : decode cX9_moves 23 = .ok (.invokevirtual 172, 3) := by decide +kernel
theorem dX9_moves_26 : decode cX9_moves 26 = .ok (.aload_n 1, 1) := by decide +kernel
theorem dX9_moves_27 : decode cX9_moves 27 = .ok (.iload_n 2, 1) := by decide +kernel
theorem dX9_moves_28 : decode cX9_moves 28 = .ok (.iconst 3, 1) := by decide +kernel
theorem dX9_moves_29 : decode cX9_moves 29 = .ok (.iadd, 1) := by decide +kernel
theorem dX9_moves_30 : decode cX9_moves 30 = .ok (.iaload, 1) := by decide +kernel
theorem dX9_moves_31 : decode cX9_moves 31 = .ok (.if_icmp .ne 26, 3) := by decide +kernel
theorem dX9_moves_34 : decode cX9_moves 34 = .ok (.aload_n 0, 1) := by decide +kernel
theorem dX9_moves_35 : decode cX9_moves 35 = .ok (.iload_n 3, 1) := by decide +kernel
theorem dX9_moves_36 : decode cX9_moves 36 = .ok (.invokevirtual 175, 3) := by decide +kernel
theorem dX9_moves_39 : decode cX9_moves 39 = .ok (.aload_n 1, 1) := by decide +kernel
theorem dX9_moves_40 : decode cX9_moves 40 = .ok (.iload_n 2, 1) := by decide +kernel
theorem dX9_moves_41 : decode cX9_moves 41 = .ok (.iconst 4, 1) := by decide +kernel
theorem dX9_moves_42 : decode cX9_moves 42 = .ok (.iadd, 1) := by decide +kernel
theorem dX9_moves_43 : decode cX9_moves 43 = .ok (.iaload, 1) := by decide +kernel
theorem dX9_moves_44 : decode cX9_moves 44 = .ok (.if_icmp .ne 13, 3) := by decide +kernel
theorem dX9_moves_47 : decode cX9_moves 47 = .ok (.aload_n 0, 1) := by decide +kernel
theorem dX9_moves_48 : decode cX9_moves 48 = .ok (.iload 4, 2) := by decide +kernel
theorem dX9_moves_50 : decode cX9_moves 50 = .ok (.iload_n 3, 1) := by decide +kernel
theorem dX9_moves_51 : decode cX9_moves 51 = .ok (.invokevirtual 184, 3) := by decide +kernel
theorem dX9_moves_54 : decode cX9_moves 54 = .ok (.ifCond .eq 5, 3) := by decide +kernel
theorem dX9_moves_57 : decode cX9_moves 57 = .ok (.iconst 0, 1) := by decide +kernel
theorem dX9_moves_58 : decode cX9_moves 58 = .ok (.ireturn, 1) := by decide +kernel
theorem dX9_moves_59 : decode cX9_moves 59 = .ok (.aload_n 0, 1) := by decide +kernel
theorem dX9_moves_60 : decode cX9_moves 60 = .ok (.iload 4, 2) := by decide +kernel
theorem dX9_moves_62 : decode cX9_moves 62 = .ok (.invokevirtual 178, 3) := by decide +kernel
theorem dX9_moves_65 : decode cX9_moves 65 = .ok (.aload_n 0, 1) := by decide +kernel
theorem dX9_moves_66 : decode cX9_moves 66 = .ok (.iload_n 3, 1) := by decide +kernel
theorem dX9_moves_67 : decode cX9_moves 67 = .ok (.invokevirtual 130, 3) := by decide +kernel
theorem dX9_moves_70 : decode cX9_moves 70 = .ok (.iload 4, 2) := by decide +kernel
theorem dX9_moves_72 : decode cX9_moves 72 = .ok (.if_icmp .ne 7, 3) := by decide +kernel
theorem dX9_moves_75 : decode cX9_moves 75 = .ok (.iconst 1, 1) := by decide +kernel
theorem dX9_moves_76 : decode cX9_moves 76 = .ok (.goto 4, 3) := by decide +kernel
theorem dX9_moves_79 : decode cX9_moves 79 = .ok (.iconst 0, 1) := by decide +kernel
theorem dX9_moves_80 : decode cX9_moves 80 = .ok (.isub, 1) := by decide +kernel
theorem dX9_moves_81 : decode cX9_moves 81 = .ok (.istore 5, 2) := by decide +kernel
theorem dX9_moves_83 : decode cX9_moves 83 = .ok (.aload_n 1, 1) := by decide +kernel
theorem dX9_moves_84 : decode cX9_moves 84 = .ok (.iload_n 2, 1) := by decide +kernel
theorem dX9_moves_85 : decode cX9_moves 85 = .ok (.bipush 6, 2) := by decide +kernel
theorem dX9_moves_87 : decode cX9_moves 87 = .ok (.iadd, 1) := by decide +kernel
theorem dX9_moves_88 : decode cX9_moves 88 = .ok (.iaload, 1) := by decide +kernel
theorem dX9_moves_89 : decode cX9_moves 89 = .ok (.iconst 0, 1) := by decide +kernel
theorem dX9_moves_90 : decode cX9_moves 90 = .ok (.iload 5, 2) := by decide +kernel
theorem dX9_moves_92 : decode cX9_moves 92 = .ok (.invokestatic 106, 3) := by decide +kernel
theorem dX9_moves_95 : decode cX9_moves 95 = .ok (.ifCond .ne 5, 3) := by decide +kernel
theorem dX9_moves_98 : decode cX9_moves 98 = .ok (.iconst 0, 1) := by decide +kernel
theorem dX9_moves_99 : decode cX9_moves 99 = .ok (.ireturn, 1) := by decide +kernel
theorem dX9_moves_100 : decode cX9_moves 100 = .ok (.aload_n 0, 1) := by decide +kernel
theorem dX9_moves_101 : decode cX9_moves 101 = .ok (.iload_n 3, 1) := by decide +kernel
theorem dX9_moves_102 : decode cX9_moves 102 = .ok (.invokevirtual 133, 3) := by decide +kernel
theorem dX9_moves_105 : decode cX9_moves 105 = .ok (.iload_n 3, 1) := by decide +kernel
theorem dX9_moves_106 : decode cX9_moves 106 = .ok (.isub, 1) := by decide +kernel
theorem dX9_moves_107 : decode cX9_moves 107 = .ok (.istore 6, 2) := by decide +kernel
theorem dX9_moves_109 : decode cX9_moves 109 = .ok (.aload_n 0, 1) := by decide +kernel
theorem dX9_moves_110 : decode cX9_moves 110 = .ok (.iload_n 3, 1) := by decide +kernel
theorem dX9_moves_111 : decode cX9_moves 111 = .ok (.iload 6, 2) := by decide +kernel
theorem dX9_moves_113 : decode cX9_moves 113 = .ok (.invokevirtual 188, 3) := by decide +kernel
theorem dX9_moves_116 : decode cX9_moves 116 = .ok (.aload_n 0, 1) := by decide +kernel
theorem dX9_moves_117 : decode cX9_moves 117 = .ok (.iload 6, 2) := by decide +kernel
theorem dX9_moves_119 : decode cX9_moves 119 = .ok (.aload_n 0, 1) := by decide +kernel
theorem dX9_moves_120 : decode cX9_moves 120 = .ok (.aload_n 1, 1) := by decide +kernel
theorem dX9_moves_121 : decode cX9_moves 121 = .ok (.iload_n 2, 1) := by decide +kernel
theorem dX9_moves_122 : decode cX9_moves 122 = .ok (.iconst 5, 1) := by decide +kernel
theorem dX9_moves_123 : decode cX9_moves 123 = .ok (.iadd, 1) := by decide +kernel
theorem dX9_moves_124 : decode cX9_moves 124 = .ok (.iaload, 1) := by decide +kernel
theorem dX9_moves_125 : decode cX9_moves 125 = .ok (.invokevirtual 153, 3) := by decide +kernel
theorem dX9_moves_128 : decode cX9_moves 128 = .ok (.aload_n 1, 1) := by decide +kernel
theorem dX9_moves_129 : decode cX9_moves 129 = .ok (.iload_n 2, 1) := by decide +kernel
theorem dX9_moves_130 : decode cX9_moves 130 = .ok (.bipush 6, 2) := by decide +kernel
theorem dX9_moves_132 : decode cX9_moves 132 = .ok (.iadd, 1) := by decide +kernel
theorem dX9_moves_133 : decode cX9_moves 133 = .ok (.iaload, 1) := by decide +kernel
theorem dX9_moves_134 : decode cX9_moves 134 = .ok (.invokevirtual 192, 3) := by decide +kernel
theorem dX9_moves_137 : decode cX9_moves 137 = .ok (.iconst 1, 1) := by decide +kernel
theorem dX9_moves_138 : decode cX9_moves 138 = .ok (.ireturn, 1) := by decide +kernel
theorem dX9_makes_0 : decode cX9_makes 0 = .ok (.bipush 7, 2) := by decide +kernel
theorem dX9_makes_2 : decode cX9_makes 2 = .ok (.aload_n 0, 1) := by decide +kernel
theorem dX9_makes_3 : decode cX9_makes 3 = .ok (.getfield 200, 3) := by decide +kernel
theorem dX9_makes_6 : decode cX9_makes 6 = .ok (.imul, 1) := by decide +kernel
theorem dX9_makes_7 : decode cX9_makes 7 = .ok (.istore 8, 2) := by decide +kernel
theorem dX9_makes_9 : decode cX9_makes 9 = .ok (.aload_n 0, 1) := by decide +kernel
theorem dX9_makes_10 : decode cX9_makes 10 = .ok (.getfield 62, 3) := by decide +kernel
theorem dX9_makes_13 : decode cX9_makes 13 = .ok (.iload 8, 2) := by decide +kernel
theorem dX9_makes_15 : decode cX9_makes 15 = .ok (.iload_n 1, 1) := by decide +kernel
theorem dX9_makes_16 : decode cX9_makes 16 = .ok (.iastore, 1) := by decide +kernel
theorem dX9_makes_17 : decode cX9_makes 17 = .ok (.aload_n 0, 1) := by decide +kernel
theorem dX9_makes_18 : decode cX9_makes 18 = .ok (.getfield 62, 3) := by decide +kernel
theorem dX9_makes_21 : decode cX9_makes 21 = .ok (.iload 8, 2) := by decide +kernel
theorem dX9_makes_23 : decode cX9_makes 23 = .ok (.iconst 1, 1) := by decide +kernel
theorem dX9_makes_24 : decode cX9_makes 24 = .ok (.iadd, 1) := by decide +kernel
theorem dX9_makes_25 : decode cX9_makes 25 = .ok (.iload_n 2, 1) := by decide +kernel
theorem dX9_makes_26 : decode cX9_makes 26 = .ok (.iastore, 1) := by decide +kernel
theorem dX9_makes_27 : decode cX9_makes 27 = .ok (.aload_n 0, 1) := by decide +kernel
theorem dX9_makes_28 : decode cX9_makes 28 = .ok (.getfield 62, 3) := by decide +kernel
theorem dX9_makes_31 : decode cX9_makes 31 = .ok (.iload 8, 2) := by decide +kernel
theorem dX9_makes_33 : decode cX9_makes 33 = .ok (.iconst 2, 1) := by decide +kernel
theorem dX9_makes_34 : decode cX9_makes 34 = .ok (.iadd, 1) := by decide +kernel
theorem dX9_makes_35 : decode cX9_makes 35 = .ok (.iload_n 3, 1) := by decide +kernel
theorem dX9_makes_36 : decode cX9_makes 36 = .ok (.iastore, 1) := by decide +kernel
theorem dX9_makes_37 : decode cX9_makes 37 = .ok (.aload_n 0, 1) := by decide +kernel
theorem dX9_makes_38 : decode cX9_makes 38 = .ok (.getfield 62, 3) := by decide +kernel
theorem dX9_makes_41 : decode cX9_makes 41 = .ok (.iload 8, 2) := by decide +kernel
theorem dX9_makes_43 : decode cX9_makes 43 = .ok (.iconst 3, 1) := by decide +kernel
theorem dX9_makes_44 : decode cX9_makes 44 = .ok (.iadd, 1) := by decide +kernel
theorem dX9_makes_45 : decode cX9_makes 45 = .ok (.iload 4, 2) := by decide +kernel
theorem dX9_makes_47 : decode cX9_makes 47 = .ok (.iastore, 1) := by decide +kernel
theorem dX9_makes_48 : decode cX9_makes 48 = .ok (.aload_n 0, 1) := by decide +kernel
theorem dX9_makes_49 : decode cX9_makes 49 = .ok (.getfield 62, 3) := by decide +kernel
theorem dX9_makes_52 : decode cX9_makes 52 = .ok (.iload 8, 2) := by decide +kernel
theorem dX9_makes_54 : decode cX9_makes 54 = .ok (.iconst 4, 1) := by decide +kernel
theorem dX9_makes_55 : decode cX9_makes 55 = .ok (.iadd, 1) := by decide +kernel
theorem dX9_makes_56 : decode cX9_makes 56 = .ok (.iload 5, 2) := by decide +kernel
theorem dX9_makes_58 : decode cX9_makes 58 = .ok (.iastore, 1) := by decide +kernel
theorem dX9_makes_59 : decode cX9_makes 59 = .ok (.aload_n 0, 1) := by decide +kernel
theorem dX9_makes_60 : decode cX9_makes 60 = .ok (.getfield 62, 3) := by decide +kernel
theorem dX9_makes_63 : decode cX9_makes 63 = .ok (.iload 8, 2) := by decide +kernel
theorem dX9_makes_65 : decode cX9_makes 65 = .ok (.iconst 5, 1) := by decide +kernel
theorem dX9_makes_66 : decode cX9_makes 66 = .ok (.iadd, 1) := by decide +kernel
theorem dX9_makes_67 : decode cX9_makes 67 = .ok (.iload 6, 2) := by decide +kernel
theorem dX9_makes_69 : decode cX9_makes 69 = .ok (.iastore, 1) := by decide +kernel
theorem dX9_makes_70 : decode cX9_makes 70 = .ok (.aload_n 0, 1) := by decide +kernel
theorem dX9_makes_71 : decode cX9_makes 71 = .ok (.getfield 62, 3) := by decide +kernel
theorem dX9_makes_74 : decode cX9_makes 74 = .ok (.iload 8, 2) := by decide +kernel
theorem dX9_makes_76 : decode cX9_makes 76 = .ok (.bipush 6, 2) := by decide +kernel
theorem dX9_makes_78 : decode cX9_makes 78 = .ok (.iadd, 1) := by decide +kernel
theorem dX9_makes_79 : decode cX9_makes 79 = .ok (.iload 7, 2) := by decide +kernel
theorem dX9_makes_81 : decode cX9_makes 81 = .ok (.iastore, 1) := by decide +kernel
theorem dX9_makes_82 : decode cX9_makes 82 = .ok (.aload_n 0, 1) := by decide +kernel
theorem dX9_makes_83 : decode cX9_makes 83 = .ok (.dup, 1) := by decide +kernel
theorem dX9_makes_84 : decode cX9_makes 84 = .ok (.getfield 200, 3) := by decide +kernel
theorem dX9_makes_87 : decode cX9_makes 87 = .ok (.iconst 1, 1) := by decide +kernel
theorem dX9_makes_88 : decode cX9_makes 88 = .ok (.iadd, 1) := by decide +kernel
theorem dX9_makes_89 : decode cX9_makes 89 = .ok (.putfield 200, 3) := by decide +kernel
theorem dX9_makes_92 : decode cX9_makes 92 = .ok (.return_, 1) := by decide +kernel
theorem dX9_goes_0 : decode cX9_goes 0 = .ok (.aload_n 0, 1) := by decide +kernel
theorem dX9_goes_1 : decode cX9_goes 1 = .ok (.iload_n 1, 1) := by decide +kernel
theorem dX9_goes_2 : decode cX9_goes 2 = .ok (.iload_n 2, 1) := by decide +kernel
theorem dX9_goes_3 : decode cX9_goes 3 = .ok (.iload_n 3, 1) := by decide +kernel
theorem dX9_goes_4 : decode cX9_goes 4 = .ok (.iload 4, 2) := by decide +kernel
theorem dX9_goes_6 : decode cX9_goes 6 = .ok (.iload 5, 2) := by decide +kernel
theorem dX9_goes_8 : decode cX9_goes 8 = .ok (.iload 6, 2) := by decide +kernel
theorem dX9_goes_10 : decode cX9_goes 10 = .ok (.iload 7, 2) := by decide +kernel
theorem dX9_goes_12 : decode cX9_goes 12 = .ok (.invokevirtual 203, 3) := by decide +kernel
theorem dX9_goes_15 : decode cX9_goes 15 = .ok (.aload_n 0, 1) := by decide +kernel
theorem dX9_goes_16 : decode cX9_goes 16 = .ok (.aload_n 0, 1) := by decide +kernel
theorem dX9_goes_17 : decode cX9_goes 17 = .ok (.getfield 62, 3) := by decide +kernel
theorem dX9_goes_20 : decode cX9_goes 20 = .ok (.bipush 7, 2) := by decide +kernel
theorem dX9_goes_22 : decode cX9_goes 22 = .ok (.aload_n 0, 1) := by decide +kernel
theorem dX9_goes_23 : decode cX9_goes 23 = .ok (.getfield 200, 3) := by decide +kernel
theorem dX9_goes_26 : decode cX9_goes 26 = .ok (.imul, 1) := by decide +kernel
theorem dX9_goes_27 : decode cX9_goes 27 = .ok (.bipush 7, 2) := by decide +kernel
theorem dX9_goes_29 : decode cX9_goes 29 = .ok (.isub, 1) := by decide +kernel
theorem dX9_goes_30 : decode cX9_goes 30 = .ok (.invokevirtual 207, 3) := by decide +kernel
theorem dX9_goes_33 : decode cX9_goes 33 = .ok (.pop, 1) := by decide +kernel
theorem dX9_goes_34 : decode cX9_goes 34 = .ok (.return_, 1) := by decide +kernel
theorem dX9_keyOf_0 : decode cX9_keyOf 0 = .ok (.aload_n 0, 1) := by decide +kernel
theorem dX9_keyOf_1 : decode cX9_keyOf 1 = .ok (.getfield 13, 3) := by decide +kernel
theorem dX9_keyOf_4 : decode cX9_keyOf 4 = .ok (.bipush 64, 2) := by decide +kernel
theorem dX9_keyOf_6 : decode cX9_keyOf 6 = .ok (.iload_n 1, 1) := by decide +kernel
theorem dX9_keyOf_7 : decode cX9_keyOf 7 = .ok (.imul, 1) := by decide +kernel
theorem dX9_keyOf_8 : decode cX9_keyOf 8 = .ok (.iload_n 2, 1) := by decide +kernel
theorem dX9_keyOf_9 : decode cX9_keyOf 9 = .ok (.iadd, 1) := by decide +kernel
theorem dX9_keyOf_10 : decode cX9_keyOf 10 = .ok (.iaload, 1) := by decide +kernel
theorem dX9_keyOf_11 : decode cX9_keyOf 11 = .ok (.ireturn, 1) := by decide +kernel
theorem dX9_indexOf_0 : decode cX9_indexOf 0 = .ok (.iconst 0, 1) := by decide +kernel
theorem dX9_indexOf_1 : decode cX9_indexOf 1 = .ok (.istore_n 3, 1) := by decide +kernel
theorem dX9_indexOf_2 : decode cX9_indexOf 2 = .ok (.iload_n 3, 1) := by decide +kernel
theorem dX9_indexOf_3 : decode cX9_indexOf 3 = .ok (.aload_n 0, 1) := by decide +kernel
theorem dX9_indexOf_4 : decode cX9_indexOf 4 = .ok (.getfield 7, 3) := by decide +kernel
theorem dX9_indexOf_7 : decode cX9_indexOf 7 = .ok (.iload_n 1, 1) := by decide +kernel
theorem dX9_indexOf_8 : decode cX9_indexOf 8 = .ok (.iaload, 1) := by decide +kernel
theorem dX9_indexOf_9 : decode cX9_indexOf 9 = .ok (.if_icmp .ge 21, 3) := by decide +kernel
theorem dX9_indexOf_12 : decode cX9_indexOf 12 = .ok (.aload_n 0, 1) := by decide +kernel
theorem dX9_indexOf_13 : decode cX9_indexOf 13 = .ok (.iload_n 1, 1) := by decide +kernel
theorem dX9_indexOf_14 : decode cX9_indexOf 14 = .ok (.iload_n 3, 1) := by decide +kernel
theorem dX9_indexOf_15 : decode cX9_indexOf 15 = .ok (.invokevirtual 211, 3) := by decide +kernel
theorem dX9_indexOf_18 : decode cX9_indexOf 18 = .ok (.iload_n 2, 1) := by decide +kernel
theorem dX9_indexOf_19 : decode cX9_indexOf 19 = .ok (.if_icmp .ne 5, 3) := by decide +kernel
theorem dX9_indexOf_22 : decode cX9_indexOf 22 = .ok (.iload_n 3, 1) := by decide +kernel
theorem dX9_indexOf_23 : decode cX9_indexOf 23 = .ok (.ireturn, 1) := by decide +kernel
theorem dX9_indexOf_24 : decode cX9_indexOf 24 = .ok (.iinc 3 1, 3) := by decide +kernel
theorem dX9_indexOf_27 : decode cX9_indexOf 27 = .ok (.goto (-25), 3) := by decide +kernel
theorem dX9_indexOf_30 : decode cX9_indexOf 30 = .ok (.iconst (-1), 1) := by decide +kernel
theorem dX9_indexOf_31 : decode cX9_indexOf 31 = .ok (.ireturn, 1) := by decide +kernel
theorem dX9_next_0 : decode cX9_next 0 = .ok (.aload_n 0, 1) := by decide +kernel
theorem dX9_next_1 : decode cX9_next 1 = .ok (.getfield 19, 3) := by decide +kernel
theorem dX9_next_4 : decode cX9_next 4 = .ok (.bipush 64, 2) := by decide +kernel
theorem dX9_next_6 : decode cX9_next 6 = .ok (.iload_n 1, 1) := by decide +kernel
theorem dX9_next_7 : decode cX9_next 7 = .ok (.imul, 1) := by decide +kernel
theorem dX9_next_8 : decode cX9_next 8 = .ok (.iload_n 2, 1) := by decide +kernel
theorem dX9_next_9 : decode cX9_next 9 = .ok (.iadd, 1) := by decide +kernel
theorem dX9_next_10 : decode cX9_next 10 = .ok (.iaload, 1) := by decide +kernel
theorem dX9_next_11 : decode cX9_next 11 = .ok (.istore 4, 2) := by decide +kernel
theorem dX9_next_13 : decode cX9_next 13 = .ok (.iload_n 3, 1) := by decide +kernel
theorem dX9_next_14 : decode cX9_next 14 = .ok (.iconst 1, 1) := by decide +kernel
theorem dX9_next_15 : decode cX9_next 15 = .ok (.iadd, 1) := by decide +kernel
theorem dX9_next_16 : decode cX9_next 16 = .ok (.istore 5, 2) := by decide +kernel
theorem dX9_next_18 : decode cX9_next 18 = .ok (.iload 5, 2) := by decide +kernel
theorem dX9_next_20 : decode cX9_next 20 = .ok (.aload_n 0, 1) := by decide +kernel
theorem dX9_next_21 : decode cX9_next 21 = .ok (.getfield 7, 3) := by decide +kernel
theorem dX9_next_24 : decode cX9_next 24 = .ok (.iload_n 1, 1) := by decide +kernel
theorem dX9_next_25 : decode cX9_next 25 = .ok (.iaload, 1) := by decide +kernel
theorem dX9_next_26 : decode cX9_next 26 = .ok (.if_icmp .ge 28, 3) := by decide +kernel
theorem dX9_next_29 : decode cX9_next 29 = .ok (.aload_n 0, 1) := by decide +kernel
theorem dX9_next_30 : decode cX9_next 30 = .ok (.getfield 19, 3) := by decide +kernel
theorem dX9_next_33 : decode cX9_next 33 = .ok (.bipush 64, 2) := by decide +kernel
theorem dX9_next_35 : decode cX9_next 35 = .ok (.iload_n 1, 1) := by decide +kernel
theorem dX9_next_36 : decode cX9_next 36 = .ok (.imul, 1) := by decide +kernel
theorem dX9_next_37 : decode cX9_next 37 = .ok (.iload 5, 2) := by decide +kernel
theorem dX9_next_39 : decode cX9_next 39 = .ok (.iadd, 1) := by decide +kernel
theorem dX9_next_40 : decode cX9_next 40 = .ok (.iaload, 1) := by decide +kernel
theorem dX9_next_41 : decode cX9_next 41 = .ok (.iload 4, 2) := by decide +kernel
theorem dX9_next_43 : decode cX9_next 43 = .ok (.iconst 1, 1) := by decide +kernel
theorem dX9_next_44 : decode cX9_next 44 = .ok (.iadd, 1) := by decide +kernel
theorem dX9_next_45 : decode cX9_next 45 = .ok (.if_icmp .le 9, 3) := by decide +kernel
theorem dX9_next_48 : decode cX9_next 48 = .ok (.iinc 5 1, 3) := by decide +kernel
theorem dX9_next_51 : decode cX9_next 51 = .ok (.goto (-33), 3) := by decide +kernel
theorem dX9_next_54 : decode cX9_next 54 = .ok (.iload 5, 2) := by decide +kernel
theorem dX9_next_56 : decode cX9_next 56 = .ok (.aload_n 0, 1) := by decide +kernel
theorem dX9_next_57 : decode cX9_next 57 = .ok (.getfield 7, 3) := by decide +kernel
theorem dX9_next_60 : decode cX9_next 60 = .ok (.iload_n 1, 1) := by decide +kernel
theorem dX9_next_61 : decode cX9_next 61 = .ok (.iaload, 1) := by decide +kernel
theorem dX9_next_62 : decode cX9_next 62 = .ok (.if_icmp .ge 27, 3) := by decide +kernel
theorem dX9_next_65 : decode cX9_next 65 = .ok (.aload_n 0, 1) := by decide +kernel
theorem dX9_next_66 : decode cX9_next 66 = .ok (.getfield 19, 3) := by decide +kernel
theorem dX9_next_69 : decode cX9_next 69 = .ok (.bipush 64, 2) := by decide +kernel
theorem dX9_next_71 : decode cX9_next 71 = .ok (.iload_n 1, 1) := by decide +kernel
theorem dX9_next_72 : decode cX9_next 72 = .ok (.imul, 1) := by decide +kernel
theorem dX9_next_73 : decode cX9_next 73 = .ok (.iload 5, 2) := by decide +kernel
theorem dX9_next_75 : decode cX9_next 75 = .ok (.iadd, 1) := by decide +kernel
theorem dX9_next_76 : decode cX9_next 76 = .ok (.iaload, 1) := by decide +kernel
theorem dX9_next_77 : decode cX9_next 77 = .ok (.iload 4, 2) := by decide +kernel
theorem dX9_next_79 : decode cX9_next 79 = .ok (.iconst 1, 1) := by decide +kernel
theorem dX9_next_80 : decode cX9_next 80 = .ok (.iadd, 1) := by decide +kernel
theorem dX9_next_81 : decode cX9_next 81 = .ok (.if_icmp .ne 8, 3) := by decide +kernel
theorem dX9_next_84 : decode cX9_next 84 = .ok (.iload 5, 2) := by decide +kernel
theorem dX9_next_86 : decode cX9_next 86 = .ok (.goto 4, 3) := by decide +kernel
theorem dX9_next_89 : decode cX9_next 89 = .ok (.iconst (-1), 1) := by decide +kernel
theorem dX9_next_90 : decode cX9_next 90 = .ok (.ireturn, 1) := by decide +kernel
theorem dX9_placeIn_0 : decode cX9_placeIn 0 = .ok (.aload_n 0, 1) := by decide +kernel
theorem dX9_placeIn_1 : decode cX9_placeIn 1 = .ok (.iload_n 1, 1) := by decide +kernel
theorem dX9_placeIn_2 : decode cX9_placeIn 2 = .ok (.invokevirtual 153, 3) := by decide +kernel
theorem dX9_placeIn_5 : decode cX9_placeIn 5 = .ok (.istore_n 3, 1) := by decide +kernel
theorem dX9_placeIn_6 : decode cX9_placeIn 6 = .ok (.iload_n 3, 1) := by decide +kernel
theorem dX9_placeIn_7 : decode cX9_placeIn 7 = .ok (.ifCond .le 20, 3) := by decide +kernel
theorem dX9_placeIn_10 : decode cX9_placeIn 10 = .ok (.aload_n 0, 1) := by decide +kernel
theorem dX9_placeIn_11 : decode cX9_placeIn 11 = .ok (.iload_n 3, 1) := by decide +kernel
theorem dX9_placeIn_12 : decode cX9_placeIn 12 = .ok (.invokevirtual 172, 3) := by decide +kernel
theorem dX9_placeIn_15 : decode cX9_placeIn 15 = .ok (.iload_n 2, 1) := by decide +kernel
theorem dX9_placeIn_16 : decode cX9_placeIn 16 = .ok (.if_icmp .ne 11, 3) := by decide +kernel
theorem dX9_placeIn_19 : decode cX9_placeIn 19 = .ok (.aload_n 0, 1) := by decide +kernel
theorem dX9_placeIn_20 : decode cX9_placeIn 20 = .ok (.iload_n 3, 1) := by decide +kernel
theorem dX9_placeIn_21 : decode cX9_placeIn 21 = .ok (.invokevirtual 175, 3) := by decide +kernel
theorem dX9_placeIn_24 : decode cX9_placeIn 24 = .ok (.goto 4, 3) := by decide +kernel
theorem dX9_placeIn_27 : decode cX9_placeIn 27 = .ok (.iconst (-1), 1) := by decide +kernel
theorem dX9_placeIn_28 : decode cX9_placeIn 28 = .ok (.ireturn, 1) := by decide +kernel
theorem dX9_staying_0 : decode cX9_staying 0 = .ok (.aload_n 0, 1) := by decide +kernel
theorem dX9_staying_1 : decode cX9_staying 1 = .ok (.iload_n 1, 1) := by decide +kernel
theorem dX9_staying_2 : decode cX9_staying 2 = .ok (.iload_n 2, 1) := by decide +kernel
theorem dX9_staying_3 : decode cX9_staying 3 = .ok (.invokevirtual 211, 3) := by decide +kernel
theorem dX9_staying_6 : decode cX9_staying 6 = .ok (.istore_n 3, 1) := by decide +kernel
theorem dX9_staying_7 : decode cX9_staying 7 = .ok (.iconst 0, 1) := by decide +kernel
theorem dX9_staying_8 : decode cX9_staying 8 = .ok (.istore 4, 2) := by decide +kernel
theorem dX9_staying_10 : decode cX9_staying 10 = .ok (.aload_n 0, 1) := by decide +kernel
theorem dX9_staying_11 : decode cX9_staying 11 = .ok (.iload_n 1, 1) := by decide +kernel
theorem dX9_staying_12 : decode cX9_staying 12 = .ok (.iload_n 2, 1) := by decide +kernel
theorem dX9_staying_13 : decode cX9_staying 13 = .ok (.iload_n 2, 1) := by decide +kernel
theorem dX9_staying_14 : decode cX9_staying 14 = .ok (.invokevirtual 214, 3) := by decide +kernel
theorem dX9_staying_17 : decode cX9_staying 17 = .ok (.istore 5, 2) := by decide +kernel
theorem dX9_staying_19 : decode cX9_staying 19 = .ok (.iload 5, 2) := by decide +kernel
theorem dX9_staying_21 : decode cX9_staying 21 = .ok (.iconst (-1), 1) := by decide +kernel
theorem dX9_staying_22 : decode cX9_staying 22 = .ok (.if_icmp .eq 38, 3) := by decide +kernel
theorem dX9_staying_25 : decode cX9_staying 25 = .ok (.aload_n 0, 1) := by decide +kernel
theorem dX9_staying_26 : decode cX9_staying 26 = .ok (.getfield 53, 3) := by decide +kernel
theorem dX9_staying_29 : decode cX9_staying 29 = .ok (.iload 4, 2) := by decide +kernel
theorem dX9_staying_31 : decode cX9_staying 31 = .ok (.aload_n 0, 1) := by decide +kernel
theorem dX9_staying_32 : decode cX9_staying 32 = .ok (.aload_n 0, 1) := by decide +kernel
theorem dX9_staying_33 : decode cX9_staying 33 = .ok (.iload_n 1, 1) := by decide +kernel
theorem dX9_staying_34 : decode cX9_staying 34 = .ok (.iload 5, 2) := by decide +kernel
theorem dX9_staying_36 : decode cX9_staying 36 = .ok (.invokevirtual 211, 3) := by decide +kernel
theorem dX9_staying_39 : decode cX9_staying 39 = .ok (.iload_n 3, 1) := by decide +kernel
theorem dX9_staying_40 : decode cX9_staying 40 = .ok (.invokevirtual 218, 3) := by decide +kernel
theorem dX9_staying_43 : decode cX9_staying 43 = .ok (.iastore, 1) := by decide +kernel
theorem dX9_staying_44 : decode cX9_staying 44 = .ok (.iinc 4 1, 3) := by decide +kernel
theorem dX9_staying_47 : decode cX9_staying 47 = .ok (.aload_n 0, 1) := by decide +kernel
theorem dX9_staying_48 : decode cX9_staying 48 = .ok (.iload_n 1, 1) := by decide +kernel
theorem dX9_staying_49 : decode cX9_staying 49 = .ok (.iload_n 2, 1) := by decide +kernel
theorem dX9_staying_50 : decode cX9_staying 50 = .ok (.iload 5, 2) := by decide +kernel
theorem dX9_staying_52 : decode cX9_staying 52 = .ok (.invokevirtual 214, 3) := by decide +kernel
theorem dX9_staying_55 : decode cX9_staying 55 = .ok (.istore 5, 2) := by decide +kernel
theorem dX9_staying_57 : decode cX9_staying 57 = .ok (.goto (-38), 3) := by decide +kernel
theorem dX9_staying_60 : decode cX9_staying 60 = .ok (.iconst 0, 1) := by decide +kernel
theorem dX9_staying_61 : decode cX9_staying 61 = .ok (.istore 5, 2) := by decide +kernel
theorem dX9_staying_63 : decode cX9_staying 63 = .ok (.iload 4, 2) := by decide +kernel
theorem dX9_staying_65 : decode cX9_staying 65 = .ok (.iconst 1, 1) := by decide +kernel
theorem dX9_staying_66 : decode cX9_staying 66 = .ok (.isub, 1) := by decide +kernel
theorem dX9_staying_67 : decode cX9_staying 67 = .ok (.istore 6, 2) := by decide +kernel
theorem dX9_staying_69 : decode cX9_staying 69 = .ok (.iload 6, 2) := by decide +kernel
theorem dX9_staying_71 : decode cX9_staying 71 = .ok (.ifCond .lt 119, 3) := by decide +kernel
theorem dX9_staying_74 : decode cX9_staying 74 = .ok (.aload_n 0, 1) := by decide +kernel
theorem dX9_staying_75 : decode cX9_staying 75 = .ok (.getfield 68, 3) := by decide +kernel
theorem dX9_staying_78 : decode cX9_staying 78 = .ok (.iload 6, 2) := by decide +kernel
theorem dX9_staying_80 : decode cX9_staying 80 = .ok (.aload_n 0, 1) := by decide +kernel
theorem dX9_staying_81 : decode cX9_staying 81 = .ok (.getfield 53, 3) := by decide +kernel
theorem dX9_staying_84 : decode cX9_staying 84 = .ok (.iload 6, 2) := by decide +kernel
theorem dX9_staying_86 : decode cX9_staying 86 = .ok (.iaload, 1) := by decide +kernel
theorem dX9_staying_87 : decode cX9_staying 87 = .ok (.iconst (-1), 1) := by decide +kernel
theorem dX9_staying_88 : decode cX9_staying 88 = .ok (.if_icmp .ne 7, 3) := by decide +kernel
theorem dX9_staying_91 : decode cX9_staying 91 = .ok (.iconst 0, 1) := by decide +kernel
theorem dX9_staying_92 : decode cX9_staying 92 = .ok (.goto 4, 3) := by decide +kernel
theorem dX9_staying_95 : decode cX9_staying 95 = .ok (.iconst 1, 1) := by decide +kernel
theorem dX9_staying_96 : decode cX9_staying 96 = .ok (.iastore, 1) := by decide +kernel
theorem dX9_staying_97 : decode cX9_staying 97 = .ok (.iload 6, 2) := by decide +kernel
theorem dX9_staying_99 : decode cX9_staying 99 = .ok (.iconst 1, 1) := by decide +kernel
theorem dX9_staying_100 : decode cX9_staying 100 = .ok (.iadd, 1) := by decide +kernel
theorem dX9_staying_101 : decode cX9_staying 101 = .ok (.istore 7, 2) := by decide +kernel
theorem dX9_staying_103 : decode cX9_staying 103 = .ok (.iload 7, 2) := by decide +kernel
theorem dX9_staying_105 : decode cX9_staying 105 = .ok (.iload 4, 2) := by decide +kernel
theorem dX9_staying_107 : decode cX9_staying 107 = .ok (.if_icmp .ge 63, 3) := by decide +kernel
theorem dX9_staying_110 : decode cX9_staying 110 = .ok (.aload_n 0, 1) := by decide +kernel
theorem dX9_staying_111 : decode cX9_staying 111 = .ok (.getfield 53, 3) := by decide +kernel
theorem dX9_staying_114 : decode cX9_staying 114 = .ok (.iload 6, 2) := by decide +kernel
theorem dX9_staying_116 : decode cX9_staying 116 = .ok (.iaload, 1) := by decide +kernel
theorem dX9_staying_117 : decode cX9_staying 117 = .ok (.iconst (-1), 1) := by decide +kernel
theorem dX9_staying_118 : decode cX9_staying 118 = .ok (.if_icmp .eq 52, 3) := by decide +kernel
theorem dX9_staying_121 : decode cX9_staying 121 = .ok (.aload_n 0, 1) := by decide +kernel
theorem dX9_staying_122 : decode cX9_staying 122 = .ok (.getfield 53, 3) := by decide +kernel
theorem dX9_staying_125 : decode cX9_staying 125 = .ok (.iload 7, 2) := by decide +kernel
theorem dX9_staying_127 : decode cX9_staying 127 = .ok (.iaload, 1) := by decide +kernel
theorem dX9_staying_128 : decode cX9_staying 128 = .ok (.aload_n 0, 1) := by decide +kernel
theorem dX9_staying_129 : decode cX9_staying 129 = .ok (.getfield 53, 3) := by decide +kernel
theorem dX9_staying_132 : decode cX9_staying 132 = .ok (.iload 6, 2) := by decide +kernel
theorem dX9_staying_134 : decode cX9_staying 134 = .ok (.iaload, 1) := by decide +kernel
theorem dX9_staying_135 : decode cX9_staying 135 = .ok (.if_icmp .le 29, 3) := by decide +kernel
theorem dX9_staying_138 : decode cX9_staying 138 = .ok (.aload_n 0, 1) := by decide +kernel
theorem dX9_staying_139 : decode cX9_staying 139 = .ok (.getfield 68, 3) := by decide +kernel
theorem dX9_staying_142 : decode cX9_staying 142 = .ok (.iload 6, 2) := by decide +kernel
theorem dX9_staying_144 : decode cX9_staying 144 = .ok (.aload_n 0, 1) := by decide +kernel
theorem dX9_staying_145 : decode cX9_staying 145 = .ok (.getfield 68, 3) := by decide +kernel
theorem dX9_staying_148 : decode cX9_staying 148 = .ok (.iload 6, 2) := by decide +kernel
theorem dX9_staying_150 : decode cX9_staying 150 = .ok (.iaload, 1) := by decide +kernel
theorem dX9_staying_151 : decode cX9_staying 151 = .ok (.aload_n 0, 1) := by decide +kernel
theorem dX9_staying_152 : decode cX9_staying 152 = .ok (.getfield 68, 3) := by decide +kernel
theorem dX9_staying_155 : decode cX9_staying 155 = .ok (.iload 7, 2) := by decide +kernel
theorem dX9_staying_157 : decode cX9_staying 157 = .ok (.iaload, 1) := by decide +kernel
theorem dX9_staying_158 : decode cX9_staying 158 = .ok (.iconst 1, 1) := by decide +kernel
theorem dX9_staying_159 : decode cX9_staying 159 = .ok (.iadd, 1) := by decide +kernel
theorem dX9_staying_160 : decode cX9_staying 160 = .ok (.invokestatic 221, 3) := by decide +kernel
theorem dX9_staying_163 : decode cX9_staying 163 = .ok (.iastore, 1) := by decide +kernel
theorem dX9_staying_164 : decode cX9_staying 164 = .ok (.iinc 7 1, 3) := by decide +kernel
theorem dX9_staying_167 : decode cX9_staying 167 = .ok (.goto (-64), 3) := by decide +kernel
theorem dX9_staying_170 : decode cX9_staying 170 = .ok (.iload 5, 2) := by decide +kernel
theorem dX9_staying_172 : decode cX9_staying 172 = .ok (.aload_n 0, 1) := by decide +kernel
theorem dX9_staying_173 : decode cX9_staying 173 = .ok (.getfield 68, 3) := by decide +kernel
theorem dX9_staying_176 : decode cX9_staying 176 = .ok (.iload 6, 2) := by decide +kernel
theorem dX9_staying_178 : decode cX9_staying 178 = .ok (.iaload, 1) := by decide +kernel
theorem dX9_staying_179 : decode cX9_staying 179 = .ok (.invokestatic 221, 3) := by decide +kernel
theorem dX9_staying_182 : decode cX9_staying 182 = .ok (.istore 5, 2) := by decide +kernel
theorem dX9_staying_184 : decode cX9_staying 184 = .ok (.iinc 6 (-1), 3) := by decide +kernel
theorem dX9_staying_187 : decode cX9_staying 187 = .ok (.goto (-118), 3) := by decide +kernel
theorem dX9_staying_190 : decode cX9_staying 190 = .ok (.lconst 0, 1) := by decide +kernel
theorem dX9_staying_191 : decode cX9_staying 191 = .ok (.lstore 6, 2) := by decide +kernel
theorem dX9_staying_193 : decode cX9_staying 193 = .ok (.iconst (-1), 1) := by decide +kernel
theorem dX9_staying_194 : decode cX9_staying 194 = .ok (.istore 8, 2) := by decide +kernel
theorem dX9_staying_196 : decode cX9_staying 196 = .ok (.iconst (-1), 1) := by decide +kernel
theorem dX9_staying_197 : decode cX9_staying 197 = .ok (.istore 9, 2) := by decide +kernel
theorem dX9_staying_199 : decode cX9_staying 199 = .ok (.iload 5, 2) := by decide +kernel
theorem dX9_staying_201 : decode cX9_staying 201 = .ok (.istore 10, 2) := by decide +kernel
theorem dX9_staying_203 : decode cX9_staying 203 = .ok (.iload 10, 2) := by decide +kernel
theorem dX9_staying_205 : decode cX9_staying 205 = .ok (.ifCond .le 104, 3) := by decide +kernel
theorem dX9_staying_208 : decode cX9_staying 208 = .ok (.iconst (-1), 1) := by decide +kernel
theorem dX9_staying_209 : decode cX9_staying 209 = .ok (.istore 11, 2) := by decide +kernel
theorem dX9_staying_211 : decode cX9_staying 211 = .ok (.iload 8, 2) := by decide +kernel
theorem dX9_staying_213 : decode cX9_staying 213 = .ok (.iconst 1, 1) := by decide +kernel
theorem dX9_staying_214 : decode cX9_staying 214 = .ok (.iadd, 1) := by decide +kernel
theorem dX9_staying_215 : decode cX9_staying 215 = .ok (.istore 12, 2) := by decide +kernel
theorem dX9_staying_217 : decode cX9_staying 217 = .ok (.iload 12, 2) := by decide +kernel
theorem dX9_staying_219 : decode cX9_staying 219 = .ok (.iload 4, 2) := by decide +kernel
theorem dX9_staying_221 : decode cX9_staying 221 = .ok (.if_icmp .ge 60, 3) := by decide +kernel
theorem dX9_staying_224 : decode cX9_staying 224 = .ok (.aload_n 0, 1) := by decide +kernel
theorem dX9_staying_225 : decode cX9_staying 225 = .ok (.getfield 68, 3) := by decide +kernel
theorem dX9_staying_228 : decode cX9_staying 228 = .ok (.iload 12, 2) := by decide +kernel
theorem dX9_staying_230 : decode cX9_staying 230 = .ok (.iaload, 1) := by decide +kernel
theorem dX9_staying_231 : decode cX9_staying 231 = .ok (.iload 10, 2) := by decide +kernel
theorem dX9_staying_233 : decode cX9_staying 233 = .ok (.if_icmp .ne 42, 3) := by decide +kernel
theorem dX9_staying_236 : decode cX9_staying 236 = .ok (.aload_n 0, 1) := by decide +kernel
theorem dX9_staying_237 : decode cX9_staying 237 = .ok (.getfield 53, 3) := by decide +kernel
theorem dX9_staying_240 : decode cX9_staying 240 = .ok (.iload 12, 2) := by decide +kernel
theorem dX9_staying_242 : decode cX9_staying 242 = .ok (.iaload, 1) := by decide +kernel
theorem dX9_staying_243 : decode cX9_staying 243 = .ok (.iload 9, 2) := by decide +kernel
theorem dX9_staying_245 : decode cX9_staying 245 = .ok (.if_icmp .le 30, 3) := by decide +kernel
theorem dX9_staying_248 : decode cX9_staying 248 = .ok (.iload 11, 2) := by decide +kernel
theorem dX9_staying_250 : decode cX9_staying 250 = .ok (.iconst (-1), 1) := by decide +kernel
theorem dX9_staying_251 : decode cX9_staying 251 = .ok (.if_icmp .eq 20, 3) := by decide +kernel
theorem dX9_staying_254 : decode cX9_staying 254 = .ok (.aload_n 0, 1) := by decide +kernel
theorem dX9_staying_255 : decode cX9_staying 255 = .ok (.getfield 53, 3) := by decide +kernel
theorem dX9_staying_258 : decode cX9_staying 258 = .ok (.iload 12, 2) := by decide +kernel
theorem dX9_staying_260 : decode cX9_staying 260 = .ok (.iaload, 1) := by decide +kernel
theorem dX9_staying_261 : decode cX9_staying 261 = .ok (.aload_n 0, 1) := by decide +kernel
theorem dX9_staying_262 : decode cX9_staying 262 = .ok (.getfield 53, 3) := by decide +kernel
theorem dX9_staying_265 : decode cX9_staying 265 = .ok (.iload 11, 2) := by decide +kernel
theorem dX9_staying_267 : decode cX9_staying 267 = .ok (.iaload, 1) := by decide +kernel
theorem dX9_staying_268 : decode cX9_staying 268 = .ok (.if_icmp .ge 7, 3) := by decide +kernel
theorem dX9_staying_271 : decode cX9_staying 271 = .ok (.iload 12, 2) := by decide +kernel
theorem dX9_staying_273 : decode cX9_staying 273 = .ok (.istore 11, 2) := by decide +kernel
theorem dX9_staying_275 : decode cX9_staying 275 = .ok (.iinc 12 1, 3) := by decide +kernel
theorem dX9_staying_278 : decode cX9_staying 278 = .ok (.goto (-61), 3) := by decide +kernel
theorem dX9_staying_281 : decode cX9_staying 281 = .ok (.lload 6, 2) := by decide +kernel
theorem dX9_staying_283 : decode cX9_staying 283 = .ok (.lconst 1, 1) := by decide +kernel
theorem dX9_staying_284 : decode cX9_staying 284 = .ok (.iload 11, 2) := by decide +kernel
theorem dX9_staying_286 : decode cX9_staying 286 = .ok (.lshl, 1) := by decide +kernel
theorem dX9_staying_287 : decode cX9_staying 287 = .ok (.lor, 1) := by decide +kernel
theorem dX9_staying_288 : decode cX9_staying 288 = .ok (.lstore 6, 2) := by decide +kernel
theorem dX9_staying_290 : decode cX9_staying 290 = .ok (.iload 11, 2) := by decide +kernel
theorem dX9_staying_292 : decode cX9_staying 292 = .ok (.istore 8, 2) := by decide +kernel
theorem dX9_staying_294 : decode cX9_staying 294 = .ok (.aload_n 0, 1) := by decide +kernel
theorem dX9_staying_295 : decode cX9_staying 295 = .ok (.getfield 53, 3) := by decide +kernel
theorem dX9_staying_298 : decode cX9_staying 298 = .ok (.iload 11, 2) := by decide +kernel
theorem dX9_staying_300 : decode cX9_staying 300 = .ok (.iaload, 1) := by decide +kernel
theorem dX9_staying_301 : decode cX9_staying 301 = .ok (.istore 9, 2) := by decide +kernel
theorem dX9_staying_303 : decode cX9_staying 303 = .ok (.iinc 10 (-1), 3) := by decide +kernel
theorem dX9_staying_306 : decode cX9_staying 306 = .ok (.goto (-103), 3) := by decide +kernel
theorem dX9_staying_309 : decode cX9_staying 309 = .ok (.lload 6, 2) := by decide +kernel
theorem dX9_staying_311 : decode cX9_staying 311 = .ok (.lreturn, 1) := by decide +kernel
theorem dX9_ordered_0 : decode cX9_ordered 0 = .ok (.aload_n 0, 1) := by decide +kernel
theorem dX9_ordered_1 : decode cX9_ordered 1 = .ok (.iload_n 2, 1) := by decide +kernel
theorem dX9_ordered_2 : decode cX9_ordered 2 = .ok (.iload_n 3, 1) := by decide +kernel
theorem dX9_ordered_3 : decode cX9_ordered 3 = .ok (.invokevirtual 226, 3) := by decide +kernel
theorem dX9_ordered_6 : decode cX9_ordered 6 = .ok (.lstore 4, 2) := by decide +kernel
theorem dX9_ordered_8 : decode cX9_ordered 8 = .ok (.aload_n 0, 1) := by decide +kernel
theorem dX9_ordered_9 : decode cX9_ordered 9 = .ok (.iload_n 2, 1) := by decide +kernel
theorem dX9_ordered_10 : decode cX9_ordered 10 = .ok (.iload_n 3, 1) := by decide +kernel
theorem dX9_ordered_11 : decode cX9_ordered 11 = .ok (.invokevirtual 211, 3) := by decide +kernel
theorem dX9_ordered_14 : decode cX9_ordered 14 = .ok (.istore 6, 2) := by decide +kernel
theorem dX9_ordered_16 : decode cX9_ordered 16 = .ok (.iconst 0, 1) := by decide +kernel
theorem dX9_ordered_17 : decode cX9_ordered 17 = .ok (.istore 7, 2) := by decide +kernel
theorem dX9_ordered_19 : decode cX9_ordered 19 = .ok (.iconst (-1), 1) := by decide +kernel
theorem dX9_ordered_20 : decode cX9_ordered 20 = .ok (.istore 8, 2) := by decide +kernel
theorem dX9_ordered_22 : decode cX9_ordered 22 = .ok (.aload_n 0, 1) := by decide +kernel
theorem dX9_ordered_23 : decode cX9_ordered 23 = .ok (.iload_n 2, 1) := by decide +kernel
theorem dX9_ordered_24 : decode cX9_ordered 24 = .ok (.iload_n 3, 1) := by decide +kernel
theorem dX9_ordered_25 : decode cX9_ordered 25 = .ok (.iload_n 3, 1) := by decide +kernel
theorem dX9_ordered_26 : decode cX9_ordered 26 = .ok (.invokevirtual 214, 3) := by decide +kernel
theorem dX9_ordered_29 : decode cX9_ordered 29 = .ok (.istore 9, 2) := by decide +kernel
theorem dX9_ordered_31 : decode cX9_ordered 31 = .ok (.iload 9, 2) := by decide +kernel
theorem dX9_ordered_33 : decode cX9_ordered 33 = .ok (.iconst (-1), 1) := by decide +kernel
theorem dX9_ordered_34 : decode cX9_ordered 34 = .ok (.if_icmp .eq 192, 3) := by decide +kernel
theorem dX9_ordered_37 : decode cX9_ordered 37 = .ok (.aload_n 0, 1) := by decide +kernel
theorem dX9_ordered_38 : decode cX9_ordered 38 = .ok (.iload_n 2, 1) := by decide +kernel
theorem dX9_ordered_39 : decode cX9_ordered 39 = .ok (.iload 9, 2) := by decide +kernel
theorem dX9_ordered_41 : decode cX9_ordered 41 = .ok (.invokevirtual 211, 3) := by decide +kernel
theorem dX9_ordered_44 : decode cX9_ordered 44 = .ok (.istore 10, 2) := by decide +kernel
theorem dX9_ordered_46 : decode cX9_ordered 46 = .ok (.lload 4, 2) := by decide +kernel
theorem dX9_ordered_48 : decode cX9_ordered 48 = .ok (.iload 7, 2) := by decide +kernel
theorem dX9_ordered_50 : decode cX9_ordered 50 = .ok (.lshr, 1) := by decide +kernel
theorem dX9_ordered_51 : decode cX9_ordered 51 = .ok (.lconst 1, 1) := by decide +kernel
theorem dX9_ordered_52 : decode cX9_ordered 52 = .ok (.land, 1) := by decide +kernel
theorem dX9_ordered_53 : decode cX9_ordered 53 = .ok (.lconst 0, 1) := by decide +kernel
theorem dX9_ordered_54 : decode cX9_ordered 54 = .ok (.lcmp, 1) := by decide +kernel
theorem dX9_ordered_55 : decode cX9_ordered 55 = .ok (.ifCond .ne 151, 3) := by decide +kernel
theorem dX9_ordered_58 : decode cX9_ordered 58 = .ok (.aload_n 0, 1) := by decide +kernel
theorem dX9_ordered_59 : decode cX9_ordered 59 = .ok (.iload 10, 2) := by decide +kernel
theorem dX9_ordered_61 : decode cX9_ordered 61 = .ok (.invokevirtual 153, 3) := by decide +kernel
theorem dX9_ordered_64 : decode cX9_ordered 64 = .ok (.istore 11, 2) := by decide +kernel
theorem dX9_ordered_66 : decode cX9_ordered 66 = .ok (.iload 11, 2) := by decide +kernel
theorem dX9_ordered_68 : decode cX9_ordered 68 = .ok (.ifCond .le 18, 3) := by decide +kernel
theorem dX9_ordered_71 : decode cX9_ordered 71 = .ok (.aload_n 0, 1) := by decide +kernel
theorem dX9_ordered_72 : decode cX9_ordered 72 = .ok (.iload 11, 2) := by decide +kernel
theorem dX9_ordered_74 : decode cX9_ordered 74 = .ok (.invokevirtual 172, 3) := by decide +kernel
theorem dX9_ordered_77 : decode cX9_ordered 77 = .ok (.iload 6, 2) := by decide +kernel
theorem dX9_ordered_79 : decode cX9_ordered 79 = .ok (.if_icmp .ne 7, 3) := by decide +kernel
theorem dX9_ordered_82 : decode cX9_ordered 82 = .ok (.iconst 1, 1) := by decide +kernel
theorem dX9_ordered_83 : decode cX9_ordered 83 = .ok (.goto 4, 3) := by decide +kernel
theorem dX9_ordered_86 : decode cX9_ordered 86 = .ok (.iconst 0, 1) := by decide +kernel
theorem dX9_ordered_87 : decode cX9_ordered 87 = .ok (.istore 12, 2) := by decide +kernel
theorem dX9_ordered_89 : decode cX9_ordered 89 = .ok (.iload 8, 2) := by decide +kernel
theorem dX9_ordered_91 : decode cX9_ordered 91 = .ok (.iconst (-1), 1) := by decide +kernel
theorem dX9_ordered_92 : decode cX9_ordered 92 = .ok (.if_icmp .ne 7, 3) := by decide +kernel
theorem dX9_ordered_95 : decode cX9_ordered 95 = .ok (.iconst 0, 1) := by decide +kernel
theorem dX9_ordered_96 : decode cX9_ordered 96 = .ok (.goto 45, 3) := by decide +kernel
theorem dX9_ordered_99 : decode cX9_ordered 99 = .ok (.aload_n 0, 1) := by decide +kernel
theorem dX9_ordered_100 : decode cX9_ordered 100 = .ok (.aload_n 0, 1) := by decide +kernel
theorem dX9_ordered_101 : decode cX9_ordered 101 = .ok (.iload 8, 2) := by decide +kernel
theorem dX9_ordered_103 : decode cX9_ordered 103 = .ok (.invokevirtual 153, 3) := by decide +kernel
theorem dX9_ordered_106 : decode cX9_ordered 106 = .ok (.invokevirtual 175, 3) := by decide +kernel
theorem dX9_ordered_109 : decode cX9_ordered 109 = .ok (.iconst 1, 1) := by decide +kernel
theorem dX9_ordered_110 : decode cX9_ordered 110 = .ok (.iadd, 1) := by decide +kernel
theorem dX9_ordered_111 : decode cX9_ordered 111 = .ok (.iload 12, 2) := by decide +kernel
theorem dX9_ordered_113 : decode cX9_ordered 113 = .ok (.ifCond .eq 26, 3) := by decide +kernel
theorem dX9_ordered_116 : decode cX9_ordered 116 = .ok (.aload_n 0, 1) := by decide +kernel
theorem dX9_ordered_117 : decode cX9_ordered 117 = .ok (.iload 11, 2) := by decide +kernel
theorem dX9_ordered_119 : decode cX9_ordered 119 = .ok (.invokevirtual 175, 3) := by decide +kernel
theorem dX9_ordered_122 : decode cX9_ordered 122 = .ok (.aload_n 0, 1) := by decide +kernel
theorem dX9_ordered_123 : decode cX9_ordered 123 = .ok (.aload_n 0, 1) := by decide +kernel
theorem dX9_ordered_124 : decode cX9_ordered 124 = .ok (.iload 8, 2) := by decide +kernel
theorem dX9_ordered_126 : decode cX9_ordered 126 = .ok (.invokevirtual 153, 3) := by decide +kernel
theorem dX9_ordered_129 : decode cX9_ordered 129 = .ok (.invokevirtual 175, 3) := by decide +kernel
theorem dX9_ordered_132 : decode cX9_ordered 132 = .ok (.if_icmp .ge 7, 3) := by decide +kernel
theorem dX9_ordered_135 : decode cX9_ordered 135 = .ok (.iconst 1, 1) := by decide +kernel
theorem dX9_ordered_136 : decode cX9_ordered 136 = .ok (.goto 4, 3) := by decide +kernel
theorem dX9_ordered_139 : decode cX9_ordered 139 = .ok (.iconst 0, 1) := by decide +kernel
theorem dX9_ordered_140 : decode cX9_ordered 140 = .ok (.isub, 1) := by decide +kernel
theorem dX9_ordered_141 : decode cX9_ordered 141 = .ok (.istore 13, 2) := by decide +kernel
theorem dX9_ordered_143 : decode cX9_ordered 143 = .ok (.aload_n 0, 1) := by decide +kernel
theorem dX9_ordered_144 : decode cX9_ordered 144 = .ok (.iload_n 1, 1) := by decide +kernel
theorem dX9_ordered_145 : decode cX9_ordered 145 = .ok (.iload 10, 2) := by decide +kernel
theorem dX9_ordered_147 : decode cX9_ordered 147 = .ok (.invokevirtual 230, 3) := by decide +kernel
theorem dX9_ordered_150 : decode cX9_ordered 150 = .ok (.iconst (-1), 1) := by decide +kernel
theorem dX9_ordered_151 : decode cX9_ordered 151 = .ok (.if_icmp .ne 31, 3) := by decide +kernel
theorem dX9_ordered_154 : decode cX9_ordered 154 = .ok (.aload_n 0, 1) := by decide +kernel
theorem dX9_ordered_155 : decode cX9_ordered 155 = .ok (.iconst 2, 1) := by decide +kernel
theorem dX9_ordered_156 : decode cX9_ordered 156 = .ok (.iload 10, 2) := by decide +kernel
theorem dX9_ordered_158 : decode cX9_ordered 158 = .ok (.aload_n 0, 1) := by decide +kernel
theorem dX9_ordered_159 : decode cX9_ordered 159 = .ok (.getfield 16, 3) := by decide +kernel
theorem dX9_ordered_162 : decode cX9_ordered 162 = .ok (.bipush 64, 2) := by decide +kernel
theorem dX9_ordered_164 : decode cX9_ordered 164 = .ok (.iload_n 2, 1) := by decide +kernel
theorem dX9_ordered_165 : decode cX9_ordered 165 = .ok (.imul, 1) := by decide +kernel
theorem dX9_ordered_166 : decode cX9_ordered 166 = .ok (.iload 9, 2) := by decide +kernel
theorem dX9_ordered_168 : decode cX9_ordered 168 = .ok (.iadd, 1) := by decide +kernel
theorem dX9_ordered_169 : decode cX9_ordered 169 = .ok (.iaload, 1) := by decide +kernel
theorem dX9_ordered_170 : decode cX9_ordered 170 = .ok (.iload 6, 2) := by decide +kernel
theorem dX9_ordered_172 : decode cX9_ordered 172 = .ok (.iload 13, 2) := by decide +kernel
theorem dX9_ordered_174 : decode cX9_ordered 174 = .ok (.iconst 0, 1) := by decide +kernel
theorem dX9_ordered_175 : decode cX9_ordered 175 = .ok (.iconst 0, 1) := by decide +kernel
theorem dX9_ordered_176 : decode cX9_ordered 176 = .ok (.invokevirtual 233, 3) := by decide +kernel
theorem dX9_ordered_179 : decode cX9_ordered 179 = .ok (.goto 27, 3) := by decide +kernel
theorem dX9_ordered_182 : decode cX9_ordered 182 = .ok (.aload_n 0, 1) := by decide +kernel
theorem dX9_ordered_183 : decode cX9_ordered 183 = .ok (.iconst 3, 1) := by decide +kernel
theorem dX9_ordered_184 : decode cX9_ordered 184 = .ok (.iload 10, 2) := by decide +kernel
theorem dX9_ordered_186 : decode cX9_ordered 186 = .ok (.iconst 0, 1) := by decide +kernel
theorem dX9_ordered_187 : decode cX9_ordered 187 = .ok (.aload_n 0, 1) := by decide +kernel
theorem dX9_ordered_188 : decode cX9_ordered 188 = .ok (.iload 11, 2) := by decide +kernel
theorem dX9_ordered_190 : decode cX9_ordered 190 = .ok (.invokevirtual 172, 3) := by decide +kernel
theorem dX9_ordered_193 : decode cX9_ordered 193 = .ok (.aload_n 0, 1) := by decide +kernel
theorem dX9_ordered_194 : decode cX9_ordered 194 = .ok (.iload 11, 2) := by decide +kernel
theorem dX9_ordered_196 : decode cX9_ordered 196 = .ok (.invokevirtual 175, 3) := by decide +kernel
theorem dX9_ordered_199 : decode cX9_ordered 199 = .ok (.iload 6, 2) := by decide +kernel
theorem dX9_ordered_201 : decode cX9_ordered 201 = .ok (.iload 13, 2) := by decide +kernel
theorem dX9_ordered_203 : decode cX9_ordered 203 = .ok (.invokevirtual 233, 3) := by decide +kernel
theorem dX9_ordered_206 : decode cX9_ordered 206 = .ok (.iload 10, 2) := by decide +kernel
theorem dX9_ordered_208 : decode cX9_ordered 208 = .ok (.istore 8, 2) := by decide +kernel
theorem dX9_ordered_210 : decode cX9_ordered 210 = .ok (.iinc 7 1, 3) := by decide +kernel
theorem dX9_ordered_213 : decode cX9_ordered 213 = .ok (.aload_n 0, 1) := by decide +kernel
theorem dX9_ordered_214 : decode cX9_ordered 214 = .ok (.iload_n 2, 1) := by decide +kernel
theorem dX9_ordered_215 : decode cX9_ordered 215 = .ok (.iload_n 3, 1) := by decide +kernel
theorem dX9_ordered_216 : decode cX9_ordered 216 = .ok (.iload 9, 2) := by decide +kernel
theorem dX9_ordered_218 : decode cX9_ordered 218 = .ok (.invokevirtual 214, 3) := by decide +kernel
theorem dX9_ordered_221 : decode cX9_ordered 221 = .ok (.istore 9, 2) := by decide +kernel
theorem dX9_ordered_223 : decode cX9_ordered 223 = .ok (.goto (-192), 3) := by decide +kernel
theorem dX9_ordered_226 : decode cX9_ordered 226 = .ok (.return_, 1) := by decide +kernel
theorem dX9_differs_0 : decode cX9_differs 0 = .ok (.aload_n 0, 1) := by decide +kernel
theorem dX9_differs_1 : decode cX9_differs 1 = .ok (.iload_n 1, 1) := by decide +kernel
theorem dX9_differs_2 : decode cX9_differs 2 = .ok (.invokevirtual 169, 3) := by decide +kernel
theorem dX9_differs_5 : decode cX9_differs 5 = .ok (.aload_n 0, 1) := by decide +kernel
theorem dX9_differs_6 : decode cX9_differs 6 = .ok (.iconst 0, 1) := by decide +kernel
theorem dX9_differs_7 : decode cX9_differs 7 = .ok (.putfield 200, 3) := by decide +kernel
theorem dX9_differs_10 : decode cX9_differs 10 = .ok (.iconst 0, 1) := by decide +kernel
theorem dX9_differs_11 : decode cX9_differs 11 = .ok (.istore_n 3, 1) := by decide +kernel
theorem dX9_differs_12 : decode cX9_differs 12 = .ok (.iload_n 3, 1) := by decide +kernel
theorem dX9_differs_13 : decode cX9_differs 13 = .ok (.aload_n 0, 1) := by decide +kernel
theorem dX9_differs_14 : decode cX9_differs 14 = .ok (.getfield 7, 3) := by decide +kernel
theorem dX9_differs_17 : decode cX9_differs 17 = .ok (.iload_n 1, 1) := by decide +kernel
theorem dX9_differs_18 : decode cX9_differs 18 = .ok (.iaload, 1) := by decide +kernel
theorem dX9_differs_19 : decode cX9_differs 19 = .ok (.if_icmp .ge 91, 3) := by decide +kernel
theorem dX9_differs_22 : decode cX9_differs 22 = .ok (.aload_n 0, 1) := by decide +kernel
theorem dX9_differs_23 : decode cX9_differs 23 = .ok (.iload_n 2, 1) := by decide +kernel
theorem dX9_differs_24 : decode cX9_differs 24 = .ok (.aload_n 0, 1) := by decide +kernel
theorem dX9_differs_25 : decode cX9_differs 25 = .ok (.iload_n 1, 1) := by decide +kernel
theorem dX9_differs_26 : decode cX9_differs 26 = .ok (.iload_n 3, 1) := by decide +kernel
theorem dX9_differs_27 : decode cX9_differs 27 = .ok (.invokevirtual 211, 3) := by decide +kernel
theorem dX9_differs_30 : decode cX9_differs 30 = .ok (.invokevirtual 230, 3) := by decide +kernel
theorem dX9_differs_33 : decode cX9_differs 33 = .ok (.istore 4, 2) := by decide +kernel
theorem dX9_differs_35 : decode cX9_differs 35 = .ok (.iload 4, 2) := by decide +kernel
theorem dX9_differs_37 : decode cX9_differs 37 = .ok (.iconst (-1), 1) := by decide +kernel
theorem dX9_differs_38 : decode cX9_differs 38 = .ok (.if_icmp .eq 66, 3) := by decide +kernel
theorem dX9_differs_41 : decode cX9_differs 41 = .ok (.aload_n 0, 1) := by decide +kernel
theorem dX9_differs_42 : decode cX9_differs 42 = .ok (.getfield 16, 3) := by decide +kernel
theorem dX9_differs_45 : decode cX9_differs 45 = .ok (.bipush 64, 2) := by decide +kernel
theorem dX9_differs_47 : decode cX9_differs 47 = .ok (.iload_n 2, 1) := by decide +kernel
theorem dX9_differs_48 : decode cX9_differs 48 = .ok (.imul, 1) := by decide +kernel
theorem dX9_differs_49 : decode cX9_differs 49 = .ok (.iload 4, 2) := by decide +kernel
theorem dX9_differs_51 : decode cX9_differs 51 = .ok (.iadd, 1) := by decide +kernel
theorem dX9_differs_52 : decode cX9_differs 52 = .ok (.iaload, 1) := by decide +kernel
theorem dX9_differs_53 : decode cX9_differs 53 = .ok (.aload_n 0, 1) := by decide +kernel
theorem dX9_differs_54 : decode cX9_differs 54 = .ok (.getfield 16, 3) := by decide +kernel
theorem dX9_differs_57 : decode cX9_differs 57 = .ok (.bipush 64, 2) := by decide +kernel
theorem dX9_differs_59 : decode cX9_differs 59 = .ok (.iload_n 1, 1) := by decide +kernel
theorem dX9_differs_60 : decode cX9_differs 60 = .ok (.imul, 1) := by decide +kernel
theorem dX9_differs_61 : decode cX9_differs 61 = .ok (.iload_n 3, 1) := by decide +kernel
theorem dX9_differs_62 : decode cX9_differs 62 = .ok (.iadd, 1) := by decide +kernel
theorem dX9_differs_63 : decode cX9_differs 63 = .ok (.iaload, 1) := by decide +kernel
theorem dX9_differs_64 : decode cX9_differs 64 = .ok (.if_icmp .eq 40, 3) := by decide +kernel
theorem dX9_differs_67 : decode cX9_differs 67 = .ok (.aload_n 0, 1) := by decide +kernel
theorem dX9_differs_68 : decode cX9_differs 68 = .ok (.iconst 0, 1) := by decide +kernel
theorem dX9_differs_69 : decode cX9_differs 69 = .ok (.aload_n 0, 1) := by decide +kernel
theorem dX9_differs_70 : decode cX9_differs 70 = .ok (.iload_n 1, 1) := by decide +kernel
theorem dX9_differs_71 : decode cX9_differs 71 = .ok (.iload_n 3, 1) := by decide +kernel
theorem dX9_differs_72 : decode cX9_differs 72 = .ok (.invokevirtual 211, 3) := by decide +kernel
theorem dX9_differs_75 : decode cX9_differs 75 = .ok (.aload_n 0, 1) := by decide +kernel
theorem dX9_differs_76 : decode cX9_differs 76 = .ok (.getfield 16, 3) := by decide +kernel
theorem dX9_differs_79 : decode cX9_differs 79 = .ok (.bipush 64, 2) := by decide +kernel
theorem dX9_differs_81 : decode cX9_differs 81 = .ok (.iload_n 1, 1) := by decide +kernel
theorem dX9_differs_82 : decode cX9_differs 82 = .ok (.imul, 1) := by decide +kernel
theorem dX9_differs_83 : decode cX9_differs 83 = .ok (.iload_n 3, 1) := by decide +kernel
theorem dX9_differs_84 : decode cX9_differs 84 = .ok (.iadd, 1) := by decide +kernel
theorem dX9_differs_85 : decode cX9_differs 85 = .ok (.iaload, 1) := by decide +kernel
theorem dX9_differs_86 : decode cX9_differs 86 = .ok (.aload_n 0, 1) := by decide +kernel
theorem dX9_differs_87 : decode cX9_differs 87 = .ok (.getfield 16, 3) := by decide +kernel
theorem dX9_differs_90 : decode cX9_differs 90 = .ok (.bipush 64, 2) := by decide +kernel
theorem dX9_differs_92 : decode cX9_differs 92 = .ok (.iload_n 2, 1) := by decide +kernel
theorem dX9_differs_93 : decode cX9_differs 93 = .ok (.imul, 1) := by decide +kernel
theorem dX9_differs_94 : decode cX9_differs 94 = .ok (.iload 4, 2) := by decide +kernel
theorem dX9_differs_96 : decode cX9_differs 96 = .ok (.iadd, 1) := by decide +kernel
theorem dX9_differs_97 : decode cX9_differs 97 = .ok (.iaload, 1) := by decide +kernel
theorem dX9_differs_98 : decode cX9_differs 98 = .ok (.iconst 0, 1) := by decide +kernel
theorem dX9_differs_99 : decode cX9_differs 99 = .ok (.iconst 0, 1) := by decide +kernel
theorem dX9_differs_100 : decode cX9_differs 100 = .ok (.iconst 0, 1) := by decide +kernel
theorem dX9_differs_101 : decode cX9_differs 101 = .ok (.invokevirtual 233, 3) := by decide +kernel
theorem dX9_differs_104 : decode cX9_differs 104 = .ok (.iinc 3 1, 3) := by decide +kernel
theorem dX9_differs_107 : decode cX9_differs 107 = .ok (.goto (-95), 3) := by decide +kernel
theorem dX9_differs_110 : decode cX9_differs 110 = .ok (.iconst 0, 1) := by decide +kernel
theorem dX9_differs_111 : decode cX9_differs 111 = .ok (.istore_n 3, 1) := by decide +kernel
theorem dX9_differs_112 : decode cX9_differs 112 = .ok (.iload_n 3, 1) := by decide +kernel
theorem dX9_differs_113 : decode cX9_differs 113 = .ok (.aload_n 0, 1) := by decide +kernel
theorem dX9_differs_114 : decode cX9_differs 114 = .ok (.getfield 7, 3) := by decide +kernel
theorem dX9_differs_117 : decode cX9_differs 117 = .ok (.iload_n 2, 1) := by decide +kernel
theorem dX9_differs_118 : decode cX9_differs 118 = .ok (.iaload, 1) := by decide +kernel
theorem dX9_differs_119 : decode cX9_differs 119 = .ok (.if_icmp .ge 16, 3) := by decide +kernel
theorem dX9_differs_122 : decode cX9_differs 122 = .ok (.aload_n 0, 1) := by decide +kernel
theorem dX9_differs_123 : decode cX9_differs 123 = .ok (.iload_n 1, 1) := by decide +kernel
theorem dX9_differs_124 : decode cX9_differs 124 = .ok (.iload_n 2, 1) := by decide +kernel
theorem dX9_differs_125 : decode cX9_differs 125 = .ok (.iload_n 3, 1) := by decide +kernel
theorem dX9_differs_126 : decode cX9_differs 126 = .ok (.invokevirtual 236, 3) := by decide +kernel
theorem dX9_differs_129 : decode cX9_differs 129 = .ok (.iinc 3 1, 3) := by decide +kernel
theorem dX9_differs_132 : decode cX9_differs 132 = .ok (.goto (-20), 3) := by decide +kernel
theorem dX9_differs_135 : decode cX9_differs 135 = .ok (.aload_n 0, 1) := by decide +kernel
theorem dX9_differs_136 : decode cX9_differs 136 = .ok (.getfield 7, 3) := by decide +kernel
theorem dX9_differs_139 : decode cX9_differs 139 = .ok (.iload_n 1, 1) := by decide +kernel
theorem dX9_differs_140 : decode cX9_differs 140 = .ok (.iaload, 1) := by decide +kernel
theorem dX9_differs_141 : decode cX9_differs 141 = .ok (.iconst 1, 1) := by decide +kernel
theorem dX9_differs_142 : decode cX9_differs 142 = .ok (.isub, 1) := by decide +kernel
theorem dX9_differs_143 : decode cX9_differs 143 = .ok (.istore_n 3, 1) := by decide +kernel
theorem dX9_differs_144 : decode cX9_differs 144 = .ok (.iload_n 3, 1) := by decide +kernel
theorem dX9_differs_145 : decode cX9_differs 145 = .ok (.ifCond .lt 71, 3) := by decide +kernel
theorem dX9_differs_148 : decode cX9_differs 148 = .ok (.aload_n 0, 1) := by decide +kernel
theorem dX9_differs_149 : decode cX9_differs 149 = .ok (.iload_n 2, 1) := by decide +kernel
theorem dX9_differs_150 : decode cX9_differs 150 = .ok (.aload_n 0, 1) := by decide +kernel
theorem dX9_differs_151 : decode cX9_differs 151 = .ok (.iload_n 1, 1) := by decide +kernel
theorem dX9_differs_152 : decode cX9_differs 152 = .ok (.iload_n 3, 1) := by decide +kernel
theorem dX9_differs_153 : decode cX9_differs 153 = .ok (.invokevirtual 211, 3) := by decide +kernel
theorem dX9_differs_156 : decode cX9_differs 156 = .ok (.invokevirtual 230, 3) := by decide +kernel
theorem dX9_differs_159 : decode cX9_differs 159 = .ok (.iconst (-1), 1) := by decide +kernel
theorem dX9_differs_160 : decode cX9_differs 160 = .ok (.if_icmp .eq 6, 3) := by decide +kernel
theorem dX9_differs_163 : decode cX9_differs 163 = .ok (.goto 47, 3) := by decide +kernel
theorem dX9_differs_166 : decode cX9_differs 166 = .ok (.aload_n 0, 1) := by decide +kernel
theorem dX9_differs_167 : decode cX9_differs 167 = .ok (.aload_n 0, 1) := by decide +kernel
theorem dX9_differs_168 : decode cX9_differs 168 = .ok (.iload_n 1, 1) := by decide +kernel
theorem dX9_differs_169 : decode cX9_differs 169 = .ok (.iload_n 3, 1) := by decide +kernel
theorem dX9_differs_170 : decode cX9_differs 170 = .ok (.invokevirtual 211, 3) := by decide +kernel
theorem dX9_differs_173 : decode cX9_differs 173 = .ok (.invokevirtual 153, 3) := by decide +kernel
theorem dX9_differs_176 : decode cX9_differs 176 = .ok (.istore 4, 2) := by decide +kernel
theorem dX9_differs_178 : decode cX9_differs 178 = .ok (.aload_n 0, 1) := by decide +kernel
theorem dX9_differs_179 : decode cX9_differs 179 = .ok (.iconst 1, 1) := by decide +kernel
theorem dX9_differs_180 : decode cX9_differs 180 = .ok (.aload_n 0, 1) := by decide +kernel
theorem dX9_differs_181 : decode cX9_differs 181 = .ok (.iload_n 1, 1) := by decide +kernel
theorem dX9_differs_182 : decode cX9_differs 182 = .ok (.iload_n 3, 1) := by decide +kernel
theorem dX9_differs_183 : decode cX9_differs 183 = .ok (.invokevirtual 211, 3) := by decide +kernel
theorem dX9_differs_186 : decode cX9_differs 186 = .ok (.aload_n 0, 1) := by decide +kernel
theorem dX9_differs_187 : decode cX9_differs 187 = .ok (.getfield 47, 3) := by decide +kernel
theorem dX9_differs_190 : decode cX9_differs 190 = .ok (.iload 4, 2) := by decide +kernel
theorem dX9_differs_192 : decode cX9_differs 192 = .ok (.iaload, 1) := by decide +kernel
theorem dX9_differs_193 : decode cX9_differs 193 = .ok (.aload_n 0, 1) := by decide +kernel
theorem dX9_differs_194 : decode cX9_differs 194 = .ok (.iload 4, 2) := by decide +kernel
theorem dX9_differs_196 : decode cX9_differs 196 = .ok (.invokevirtual 172, 3) := by decide +kernel
theorem dX9_differs_199 : decode cX9_differs 199 = .ok (.aload_n 0, 1) := by decide +kernel
theorem dX9_differs_200 : decode cX9_differs 200 = .ok (.iload 4, 2) := by decide +kernel
theorem dX9_differs_202 : decode cX9_differs 202 = .ok (.invokevirtual 175, 3) := by decide +kernel
theorem dX9_differs_205 : decode cX9_differs 205 = .ok (.iconst 0, 1) := by decide +kernel
theorem dX9_differs_206 : decode cX9_differs 206 = .ok (.iconst 0, 1) := by decide +kernel
theorem dX9_differs_207 : decode cX9_differs 207 = .ok (.invokevirtual 233, 3) := by decide +kernel
theorem dX9_differs_210 : decode cX9_differs 210 = .ok (.iinc 3 (-1), 3) := by decide +kernel
theorem dX9_differs_213 : decode cX9_differs 213 = .ok (.goto (-69), 3) := by decide +kernel
theorem dX9_differs_216 : decode cX9_differs 216 = .ok (.return_, 1) := by decide +kernel
theorem dX9_newPatch_0 : decode cX9_newPatch 0 = .ok (.aload_n 0, 1) := by decide +kernel
theorem dX9_newPatch_1 : decode cX9_newPatch 1 = .ok (.getfield 110, 3) := by decide +kernel
theorem dX9_newPatch_4 : decode cX9_newPatch 4 = .ok (.bipush 16, 2) := by decide +kernel
theorem dX9_newPatch_6 : decode cX9_newPatch 6 = .ok (.if_icmp .eq 12, 3) := by decide +kernel
theorem dX9_newPatch_9 : decode cX9_newPatch 9 = .ok (.aload_n 0, 1) := by decide +kernel
theorem dX9_newPatch_10 : decode cX9_newPatch 10 = .ok (.getfield 200, 3) := by decide +kernel
theorem dX9_newPatch_13 : decode cX9_newPatch 13 = .ok (.bipush 120, 2) := by decide +kernel
theorem dX9_newPatch_15 : decode cX9_newPatch 15 = .ok (.if_icmp .le 10, 3) := by decide +kernel
theorem dX9_newPatch_18 : decode cX9_newPatch 18 = .ok (.aload_n 0, 1) := by decide +kernel
theorem dX9_newPatch_19 : decode cX9_newPatch 19 = .ok (.bipush (-7), 2) := by decide +kernel
theorem dX9_newPatch_21 : decode cX9_newPatch 21 = .ok (.invokevirtual 99, 3) := by decide +kernel
theorem dX9_newPatch_24 : decode cX9_newPatch 24 = .ok (.ireturn, 1) := by decide +kernel
theorem dX9_newPatch_25 : decode cX9_newPatch 25 = .ok (.aload_n 0, 1) := by decide +kernel
theorem dX9_newPatch_26 : decode cX9_newPatch 26 = .ok (.dup, 1) := by decide +kernel
theorem dX9_newPatch_27 : decode cX9_newPatch 27 = .ok (.getfield 110, 3) := by decide +kernel
theorem dX9_newPatch_30 : decode cX9_newPatch 30 = .ok (.dup_x1, 1) := by decide +kernel
theorem dX9_newPatch_31 : decode cX9_newPatch 31 = .ok (.iconst 1, 1) := by decide +kernel
theorem dX9_newPatch_32 : decode cX9_newPatch 32 = .ok (.iadd, 1) := by decide +kernel
theorem dX9_newPatch_33 : decode cX9_newPatch 33 = .ok (.putfield 110, 3) := by decide +kernel
theorem dX9_newPatch_36 : decode cX9_newPatch 36 = .ok (.istore_n 3, 1) := by decide +kernel
theorem dX9_newPatch_37 : decode cX9_newPatch 37 = .ok (.aload_n 0, 1) := by decide +kernel
theorem dX9_newPatch_38 : decode cX9_newPatch 38 = .ok (.dup, 1) := by decide +kernel
theorem dX9_newPatch_39 : decode cX9_newPatch 39 = .ok (.getfield 239, 3) := by decide +kernel
theorem dX9_newPatch_42 : decode cX9_newPatch 42 = .ok (.iconst 1, 1) := by decide +kernel
theorem dX9_newPatch_43 : decode cX9_newPatch 43 = .ok (.iadd, 1) := by decide +kernel
theorem dX9_newPatch_44 : decode cX9_newPatch 44 = .ok (.putfield 239, 3) := by decide +kernel
theorem dX9_newPatch_47 : decode cX9_newPatch 47 = .ok (.aload_n 0, 1) := by decide +kernel
theorem dX9_newPatch_48 : decode cX9_newPatch 48 = .ok (.getfield 22, 3) := by decide +kernel
theorem dX9_newPatch_51 : decode cX9_newPatch 51 = .ok (.iload_n 3, 1) := by decide +kernel
theorem dX9_newPatch_52 : decode cX9_newPatch 52 = .ok (.aload_n 0, 1) := by decide +kernel
theorem dX9_newPatch_53 : decode cX9_newPatch 53 = .ok (.getfield 200, 3) := by decide +kernel
theorem dX9_newPatch_56 : decode cX9_newPatch 56 = .ok (.iastore, 1) := by decide +kernel
theorem dX9_newPatch_57 : decode cX9_newPatch 57 = .ok (.aload_n 0, 1) := by decide +kernel
theorem dX9_newPatch_58 : decode cX9_newPatch 58 = .ok (.getfield 22, 3) := by decide +kernel
theorem dX9_newPatch_61 : decode cX9_newPatch 61 = .ok (.bipush 16, 2) := by decide +kernel
theorem dX9_newPatch_63 : decode cX9_newPatch 63 = .ok (.iload_n 3, 1) := by decide +kernel
theorem dX9_newPatch_64 : decode cX9_newPatch 64 = .ok (.iadd, 1) := by decide +kernel
theorem dX9_newPatch_65 : decode cX9_newPatch 65 = .ok (.aload_n 0, 1) := by decide +kernel
theorem dX9_newPatch_66 : decode cX9_newPatch 66 = .ok (.getfield 239, 3) := by decide +kernel
theorem dX9_newPatch_69 : decode cX9_newPatch 69 = .ok (.iastore, 1) := by decide +kernel
theorem dX9_newPatch_70 : decode cX9_newPatch 70 = .ok (.aload_n 0, 1) := by decide +kernel
theorem dX9_newPatch_71 : decode cX9_newPatch 71 = .ok (.getfield 22, 3) := by decide +kernel
theorem dX9_newPatch_74 : decode cX9_newPatch 74 = .ok (.bipush 32, 2) := by decide +kernel
theorem dX9_newPatch_76 : decode cX9_newPatch 76 = .ok (.iload_n 3, 1) := by decide +kernel
theorem dX9_newPatch_77 : decode cX9_newPatch 77 = .ok (.iadd, 1) := by decide +kernel
theorem dX9_newPatch_78 : decode cX9_newPatch 78 = .ok (.iload_n 1, 1) := by decide +kernel
theorem dX9_newPatch_79 : decode cX9_newPatch 79 = .ok (.iastore, 1) := by decide +kernel
theorem dX9_newPatch_80 : decode cX9_newPatch 80 = .ok (.aload_n 0, 1) := by decide +kernel
theorem dX9_newPatch_81 : decode cX9_newPatch 81 = .ok (.getfield 22, 3) := by decide +kernel
theorem dX9_newPatch_84 : decode cX9_newPatch 84 = .ok (.bipush 48, 2) := by decide +kernel
theorem dX9_newPatch_86 : decode cX9_newPatch 86 = .ok (.iload_n 3, 1) := by decide +kernel
theorem dX9_newPatch_87 : decode cX9_newPatch 87 = .ok (.iadd, 1) := by decide +kernel
theorem dX9_newPatch_88 : decode cX9_newPatch 88 = .ok (.iload_n 2, 1) := by decide +kernel
theorem dX9_newPatch_89 : decode cX9_newPatch 89 = .ok (.iastore, 1) := by decide +kernel
theorem dX9_newPatch_90 : decode cX9_newPatch 90 = .ok (.aload_n 0, 1) := by decide +kernel
theorem dX9_newPatch_91 : decode cX9_newPatch 91 = .ok (.getfield 22, 3) := by decide +kernel
theorem dX9_newPatch_94 : decode cX9_newPatch 94 = .ok (.bipush 64, 2) := by decide +kernel
theorem dX9_newPatch_96 : decode cX9_newPatch 96 = .ok (.iload_n 3, 1) := by decide +kernel
theorem dX9_newPatch_97 : decode cX9_newPatch 97 = .ok (.iadd, 1) := by decide +kernel
theorem dX9_newPatch_98 : decode cX9_newPatch 98 = .ok (.iload_n 1, 1) := by decide +kernel
theorem dX9_newPatch_99 : decode cX9_newPatch 99 = .ok (.iconst 3, 1) := by decide +kernel
theorem dX9_newPatch_100 : decode cX9_newPatch 100 = .ok (.if_icmp .ne 10, 3) := by decide +kernel
theorem dX9_newPatch_103 : decode cX9_newPatch 103 = .ok (.aload_n 0, 1) := by decide +kernel
theorem dX9_newPatch_104 : decode cX9_newPatch 104 = .ok (.getfield 242, 3) := by decide +kernel
theorem dX9_newPatch_107 : decode cX9_newPatch 107 = .ok (.goto 4, 3) := by decide +kernel
theorem dX9_newPatch_110 : decode cX9_newPatch 110 = .ok (.iconst 0, 1) := by decide +kernel
theorem dX9_newPatch_111 : decode cX9_newPatch 111 = .ok (.iastore, 1) := by decide +kernel
theorem dX9_newPatch_112 : decode cX9_newPatch 112 = .ok (.iconst 0, 1) := by decide +kernel
theorem dX9_newPatch_113 : decode cX9_newPatch 113 = .ok (.istore 4, 2) := by decide +kernel
theorem dX9_newPatch_115 : decode cX9_newPatch 115 = .ok (.iload 4, 2) := by decide +kernel
theorem dX9_newPatch_117 : decode cX9_newPatch 117 = .ok (.bipush 7, 2) := by decide +kernel
theorem dX9_newPatch_119 : decode cX9_newPatch 119 = .ok (.aload_n 0, 1) := by decide +kernel
theorem dX9_newPatch_120 : decode cX9_newPatch 120 = .ok (.getfield 200, 3) := by decide +kernel
theorem dX9_newPatch_123 : decode cX9_newPatch 123 = .ok (.imul, 1) := by decide +kernel
theorem dX9_newPatch_124 : decode cX9_newPatch 124 = .ok (.if_icmp .ge 29, 3) := by decide +kernel
theorem dX9_newPatch_127 : decode cX9_newPatch 127 = .ok (.aload_n 0, 1) := by decide +kernel
theorem dX9_newPatch_128 : decode cX9_newPatch 128 = .ok (.getfield 25, 3) := by decide +kernel
theorem dX9_newPatch_131 : decode cX9_newPatch 131 = .ok (.sipush 840, 3) := by decide +kernel
theorem dX9_newPatch_134 : decode cX9_newPatch 134 = .ok (.iload_n 3, 1) := by decide +kernel
theorem dX9_newPatch_135 : decode cX9_newPatch 135 = .ok (.imul, 1) := by decide +kernel
theorem dX9_newPatch_136 : decode cX9_newPatch 136 = .ok (.iload 4, 2) := by decide +kernel
theorem dX9_newPatch_138 : decode cX9_newPatch 138 = .ok (.iadd, 1) := by decide +kernel
theorem dX9_newPatch_139 : decode cX9_newPatch 139 = .ok (.aload_n 0, 1) := by decide +kernel
theorem dX9_newPatch_140 : decode cX9_newPatch 140 = .ok (.getfield 62, 3) := by decide +kernel
theorem dX9_newPatch_143 : decode cX9_newPatch 143 = .ok (.iload 4, 2) := by decide +kernel
theorem dX9_newPatch_145 : decode cX9_newPatch 145 = .ok (.iaload, 1) := by decide +kernel
theorem dX9_newPatch_146 : decode cX9_newPatch 146 = .ok (.iastore, 1) := by decide +kernel
theorem dX9_newPatch_147 : decode cX9_newPatch 147 = .ok (.iinc 4 1, 3) := by decide +kernel
theorem dX9_newPatch_150 : decode cX9_newPatch 150 = .ok (.goto (-35), 3) := by decide +kernel
theorem dX9_newPatch_153 : decode cX9_newPatch 153 = .ok (.iconst 0, 1) := by decide +kernel
theorem dX9_newPatch_154 : decode cX9_newPatch 154 = .ok (.istore 4, 2) := by decide +kernel
theorem dX9_newPatch_156 : decode cX9_newPatch 156 = .ok (.iload 4, 2) := by decide +kernel
theorem dX9_newPatch_158 : decode cX9_newPatch 158 = .ok (.iconst 2, 1) := by decide +kernel
theorem dX9_newPatch_159 : decode cX9_newPatch 159 = .ok (.aload_n 0, 1) := by decide +kernel
theorem dX9_newPatch_160 : decode cX9_newPatch 160 = .ok (.iconst 4, 1) := by decide +kernel
theorem dX9_newPatch_161 : decode cX9_newPatch 161 = .ok (.iload_n 3, 1) := by decide +kernel
theorem dX9_newPatch_162 : decode cX9_newPatch 162 = .ok (.invokevirtual 123, 3) := by decide +kernel
theorem dX9_newPatch_165 : decode cX9_newPatch 165 = .ok (.imul, 1) := by decide +kernel
theorem dX9_newPatch_166 : decode cX9_newPatch 166 = .ok (.if_icmp .ge 29, 3) := by decide +kernel
theorem dX9_newPatch_169 : decode cX9_newPatch 169 = .ok (.aload_n 0, 1) := by decide +kernel
theorem dX9_newPatch_170 : decode cX9_newPatch 170 = .ok (.getfield 28, 3) := by decide +kernel
theorem dX9_newPatch_173 : decode cX9_newPatch 173 = .ok (.sipush 240, 3) := by decide +kernel
theorem dX9_newPatch_176 : decode cX9_newPatch 176 = .ok (.iload_n 3, 1) := by decide +kernel
theorem dX9_newPatch_177 : decode cX9_newPatch 177 = .ok (.imul, 1) := by decide +kernel
theorem dX9_newPatch_178 : decode cX9_newPatch 178 = .ok (.iload 4, 2) := by decide +kernel
theorem dX9_newPatch_180 : decode cX9_newPatch 180 = .ok (.iadd, 1) := by decide +kernel
theorem dX9_newPatch_181 : decode cX9_newPatch 181 = .ok (.aload_n 0, 1) := by decide +kernel
theorem dX9_newPatch_182 : decode cX9_newPatch 182 = .ok (.getfield 65, 3) := by decide +kernel
theorem dX9_newPatch_185 : decode cX9_newPatch 185 = .ok (.iload 4, 2) := by decide +kernel
theorem dX9_newPatch_187 : decode cX9_newPatch 187 = .ok (.iaload, 1) := by decide +kernel
theorem dX9_newPatch_188 : decode cX9_newPatch 188 = .ok (.iastore, 1) := by decide +kernel
theorem dX9_newPatch_189 : decode cX9_newPatch 189 = .ok (.iinc 4 1, 3) := by decide +kernel
theorem dX9_newPatch_192 : decode cX9_newPatch 192 = .ok (.goto (-36), 3) := by decide +kernel
theorem dX9_newPatch_195 : decode cX9_newPatch 195 = .ok (.iload_n 3, 1) := by decide +kernel
theorem dX9_newPatch_196 : decode cX9_newPatch 196 = .ok (.ireturn, 1) := by decide +kernel
theorem dX9_isUnlike_0 : decode cX9_isUnlike 0 = .ok (.aload_n 0, 1) := by decide +kernel
theorem dX9_isUnlike_1 : decode cX9_isUnlike 1 = .ok (.iload_n 1, 1) := by decide +kernel
theorem dX9_isUnlike_2 : decode cX9_isUnlike 2 = .ok (.iconst 0, 1) := by decide +kernel
theorem dX9_isUnlike_3 : decode cX9_isUnlike 3 = .ok (.invokevirtual 211, 3) := by decide +kernel
theorem dX9_isUnlike_6 : decode cX9_isUnlike 6 = .ok (.aload_n 0, 1) := by decide +kernel
theorem dX9_isUnlike_7 : decode cX9_isUnlike 7 = .ok (.iload_n 2, 1) := by decide +kernel
theorem dX9_isUnlike_8 : decode cX9_isUnlike 8 = .ok (.iconst 0, 1) := by decide +kernel
theorem dX9_isUnlike_9 : decode cX9_isUnlike 9 = .ok (.invokevirtual 211, 3) := by decide +kernel
theorem dX9_isUnlike_12 : decode cX9_isUnlike 12 = .ok (.if_icmp .eq 7, 3) := by decide +kernel
theorem dX9_isUnlike_15 : decode cX9_isUnlike 15 = .ok (.iconst 1, 1) := by decide +kernel
theorem dX9_isUnlike_16 : decode cX9_isUnlike 16 = .ok (.goto 4, 3) := by decide +kernel
theorem dX9_isUnlike_19 : decode cX9_isUnlike 19 = .ok (.iconst 0, 1) := by decide +kernel
theorem dX9_isUnlike_20 : decode cX9_isUnlike 20 = .ok (.ireturn, 1) := by decide +kernel
theorem dX9_difference_0 : decode cX9_difference 0 = .ok (.aload_n 0, 1) := by decide +kernel
theorem dX9_difference_1 : decode cX9_difference 1 = .ok (.iload_n 1, 1) := by decide +kernel
theorem dX9_difference_2 : decode cX9_difference 2 = .ok (.invokevirtual 166, 3) := by decide +kernel
theorem dX9_difference_5 : decode cX9_difference 5 = .ok (.ifCond .eq 11, 3) := by decide +kernel
theorem dX9_difference_8 : decode cX9_difference 8 = .ok (.aload_n 0, 1) := by decide +kernel
theorem dX9_difference_9 : decode cX9_difference 9 = .ok (.iload_n 2, 1) := by decide +kernel
theorem dX9_difference_10 : decode cX9_difference 10 = .ok (.invokevirtual 166, 3) := by decide +kernel
theorem dX9_difference_13 : decode cX9_difference 13 = .ok (.ifCond .ne 9, 3) := by decide +kernel
theorem dX9_difference_16 : decode cX9_difference 16 = .ok (.aload_n 0, 1) := by decide +kernel
theorem dX9_difference_17 : decode cX9_difference 17 = .ok (.iconst (-1), 1) := by decide +kernel
theorem dX9_difference_18 : decode cX9_difference 18 = .ok (.invokevirtual 99, 3) := by decide +kernel
theorem dX9_difference_21 : decode cX9_difference 21 = .ok (.ireturn, 1) := by decide +kernel
theorem dX9_difference_22 : decode cX9_difference 22 = .ok (.aload_n 0, 1) := by decide +kernel
theorem dX9_difference_23 : decode cX9_difference 23 = .ok (.iload_n 1, 1) := by decide +kernel
theorem dX9_difference_24 : decode cX9_difference 24 = .ok (.iload_n 2, 1) := by decide +kernel
theorem dX9_difference_25 : decode cX9_difference 25 = .ok (.invokevirtual 245, 3) := by decide +kernel
theorem dX9_difference_28 : decode cX9_difference 28 = .ok (.ifCond .eq 10, 3) := by decide +kernel
theorem dX9_difference_31 : decode cX9_difference 31 = .ok (.aload_n 0, 1) := by decide +kernel
theorem dX9_difference_32 : decode cX9_difference 32 = .ok (.bipush (-6), 2) := by decide +kernel
theorem dX9_difference_34 : decode cX9_difference 34 = .ok (.invokevirtual 99, 3) := by decide +kernel
theorem dX9_difference_37 : decode cX9_difference 37 = .ok (.ireturn, 1) := by decide +kernel
theorem dX9_difference_38 : decode cX9_difference 38 = .ok (.aload_n 0, 1) := by decide +kernel
theorem dX9_difference_39 : decode cX9_difference 39 = .ok (.iload_n 1, 1) := by decide +kernel
theorem dX9_difference_40 : decode cX9_difference 40 = .ok (.iload_n 2, 1) := by decide +kernel
theorem dX9_difference_41 : decode cX9_difference 41 = .ok (.invokevirtual 248, 3) := by decide +kernel
theorem dX9_difference_44 : decode cX9_difference 44 = .ok (.aload_n 0, 1) := by decide +kernel
theorem dX9_difference_45 : decode cX9_difference 45 = .ok (.iconst 1, 1) := by decide +kernel
theorem dX9_difference_46 : decode cX9_difference 46 = .ok (.iconst (-1), 1) := by decide +kernel
theorem dX9_difference_47 : decode cX9_difference 47 = .ok (.invokevirtual 251, 3) := by decide +kernel
theorem dX9_difference_50 : decode cX9_difference 50 = .ok (.ireturn, 1) := by decide +kernel
theorem dX9_far_0 : decode cX9_far 0 = .ok (.aload_n 0, 1) := by decide +kernel
theorem dX9_far_1 : decode cX9_far 1 = .ok (.iload_n 1, 1) := by decide +kernel
theorem dX9_far_2 : decode cX9_far 2 = .ok (.invokevirtual 166, 3) := by decide +kernel
theorem dX9_far_5 : decode cX9_far 5 = .ok (.ifCond .eq 11, 3) := by decide +kernel
theorem dX9_far_8 : decode cX9_far 8 = .ok (.aload_n 0, 1) := by decide +kernel
theorem dX9_far_9 : decode cX9_far 9 = .ok (.iload_n 2, 1) := by decide +kernel
theorem dX9_far_10 : decode cX9_far 10 = .ok (.invokevirtual 166, 3) := by decide +kernel
theorem dX9_far_13 : decode cX9_far 13 = .ok (.ifCond .ne 9, 3) := by decide +kernel
theorem dX9_far_16 : decode cX9_far 16 = .ok (.aload_n 0, 1) := by decide +kernel
theorem dX9_far_17 : decode cX9_far 17 = .ok (.iconst (-1), 1) := by decide +kernel
theorem dX9_far_18 : decode cX9_far 18 = .ok (.invokevirtual 99, 3) := by decide +kernel
theorem dX9_far_21 : decode cX9_far 21 = .ok (.ireturn, 1) := by decide +kernel
theorem dX9_far_22 : decode cX9_far 22 = .ok (.aload_n 0, 1) := by decide +kernel
theorem dX9_far_23 : decode cX9_far 23 = .ok (.iload_n 1, 1) := by decide +kernel
theorem dX9_far_24 : decode cX9_far 24 = .ok (.iload_n 2, 1) := by decide +kernel
theorem dX9_far_25 : decode cX9_far 25 = .ok (.invokevirtual 245, 3) := by decide +kernel
theorem dX9_far_28 : decode cX9_far 28 = .ok (.ifCond .eq 10, 3) := by decide +kernel
theorem dX9_far_31 : decode cX9_far 31 = .ok (.aload_n 0, 1) := by decide +kernel
theorem dX9_far_32 : decode cX9_far 32 = .ok (.bipush (-6), 2) := by decide +kernel
theorem dX9_far_34 : decode cX9_far 34 = .ok (.invokevirtual 99, 3) := by decide +kernel
theorem dX9_far_37 : decode cX9_far 37 = .ok (.ireturn, 1) := by decide +kernel
theorem dX9_far_38 : decode cX9_far 38 = .ok (.aload_n 0, 1) := by decide +kernel
theorem dX9_far_39 : decode cX9_far 39 = .ok (.iload_n 1, 1) := by decide +kernel
theorem dX9_far_40 : decode cX9_far 40 = .ok (.iload_n 2, 1) := by decide +kernel
theorem dX9_far_41 : decode cX9_far 41 = .ok (.invokevirtual 248, 3) := by decide +kernel
theorem dX9_far_44 : decode cX9_far 44 = .ok (.aload_n 0, 1) := by decide +kernel
theorem dX9_far_45 : decode cX9_far 45 = .ok (.getfield 200, 3) := by decide +kernel
theorem dX9_far_48 : decode cX9_far 48 = .ok (.ireturn, 1) := by decide +kernel
theorem dX9_moves__0 : decode cX9_moves_ 0 = .ok (.aload_n 0, 1) := by decide +kernel
theorem dX9_moves__1 : decode cX9_moves_ 1 = .ok (.iload_n 1, 1) := by decide +kernel
theorem dX9_moves__2 : decode cX9_moves_ 2 = .ok (.invokevirtual 166, 3) := by decide +kernel
theorem dX9_moves__5 : decode cX9_moves_ 5 = .ok (.ifCond .eq 11, 3) := by decide +kernel
theorem dX9_moves__8 : decode cX9_moves_ 8 = .ok (.aload_n 0, 1) := by decide +kernel
theorem dX9_moves__9 : decode cX9_moves_ 9 = .ok (.iload_n 2, 1) := by decide +kernel
theorem dX9_moves__10 : decode cX9_moves_ 10 = .ok (.invokevirtual 166, 3) := by decide +kernel
theorem dX9_moves__13 : decode cX9_moves_ 13 = .ok (.ifCond .ne 9, 3) := by decide +kernel
theorem dX9_moves__16 : decode cX9_moves_ 16 = .ok (.aload_n 0, 1) := by decide +kernel
theorem dX9_moves__17 : decode cX9_moves_ 17 = .ok (.iconst (-1), 1) := by decide +kernel
theorem dX9_moves__18 : decode cX9_moves_ 18 = .ok (.invokevirtual 99, 3) := by decide +kernel
theorem dX9_moves__21 : decode cX9_moves_ 21 = .ok (.ireturn, 1) := by decide +kernel
theorem dX9_moves__22 : decode cX9_moves_ 22 = .ok (.aload_n 0, 1) := by decide +kernel
theorem dX9_moves__23 : decode cX9_moves_ 23 = .ok (.iload_n 1, 1) := by decide +kernel
theorem dX9_moves__24 : decode cX9_moves_ 24 = .ok (.iload_n 2, 1) := by decide +kernel
theorem dX9_moves__25 : decode cX9_moves_ 25 = .ok (.invokevirtual 245, 3) := by decide +kernel
theorem dX9_moves__28 : decode cX9_moves_ 28 = .ok (.ifCond .eq 10, 3) := by decide +kernel
theorem dX9_moves__31 : decode cX9_moves_ 31 = .ok (.aload_n 0, 1) := by decide +kernel
theorem dX9_moves__32 : decode cX9_moves_ 32 = .ok (.bipush (-6), 2) := by decide +kernel
theorem dX9_moves__34 : decode cX9_moves_ 34 = .ok (.invokevirtual 99, 3) := by decide +kernel
theorem dX9_moves__37 : decode cX9_moves_ 37 = .ok (.ireturn, 1) := by decide +kernel
theorem dX9_moves__38 : decode cX9_moves_ 38 = .ok (.aload_n 0, 1) := by decide +kernel
theorem dX9_moves__39 : decode cX9_moves_ 39 = .ok (.iload_n 1, 1) := by decide +kernel
theorem dX9_moves__40 : decode cX9_moves_ 40 = .ok (.iload_n 2, 1) := by decide +kernel
theorem dX9_moves__41 : decode cX9_moves_ 41 = .ok (.invokevirtual 248, 3) := by decide +kernel
theorem dX9_moves__44 : decode cX9_moves_ 44 = .ok (.iconst 0, 1) := by decide +kernel
theorem dX9_moves__45 : decode cX9_moves_ 45 = .ok (.istore_n 3, 1) := by decide +kernel
theorem dX9_moves__46 : decode cX9_moves_ 46 = .ok (.iconst 0, 1) := by decide +kernel
theorem dX9_moves__47 : decode cX9_moves_ 47 = .ok (.istore 4, 2) := by decide +kernel
theorem dX9_moves__49 : decode cX9_moves_ 49 = .ok (.iload 4, 2) := by decide +kernel
theorem dX9_moves__51 : decode cX9_moves_ 51 = .ok (.aload_n 0, 1) := by decide +kernel
theorem dX9_moves__52 : decode cX9_moves_ 52 = .ok (.getfield 200, 3) := by decide +kernel
theorem dX9_moves__55 : decode cX9_moves_ 55 = .ok (.if_icmp .ge 26, 3) := by decide +kernel
theorem dX9_moves__58 : decode cX9_moves_ 58 = .ok (.aload_n 0, 1) := by decide +kernel
theorem dX9_moves__59 : decode cX9_moves_ 59 = .ok (.getfield 62, 3) := by decide +kernel
theorem dX9_moves__62 : decode cX9_moves_ 62 = .ok (.bipush 7, 2) := by decide +kernel
theorem dX9_moves__64 : decode cX9_moves_ 64 = .ok (.iload 4, 2) := by decide +kernel
theorem dX9_moves__66 : decode cX9_moves_ 66 = .ok (.imul, 1) := by decide +kernel
theorem dX9_moves__67 : decode cX9_moves_ 67 = .ok (.iaload, 1) := by decide +kernel
theorem dX9_moves__68 : decode cX9_moves_ 68 = .ok (.iconst 3, 1) := by decide +kernel
theorem dX9_moves__69 : decode cX9_moves_ 69 = .ok (.if_icmp .ne 6, 3) := by decide +kernel
theorem dX9_moves__72 : decode cX9_moves_ 72 = .ok (.iinc 3 1, 3) := by decide +kernel
theorem dX9_moves__75 : decode cX9_moves_ 75 = .ok (.iinc 4 1, 3) := by decide +kernel
theorem dX9_moves__78 : decode cX9_moves_ 78 = .ok (.goto (-29), 3) := by decide +kernel
theorem dX9_moves__81 : decode cX9_moves_ 81 = .ok (.iload_n 3, 1) := by decide +kernel
theorem dX9_moves__82 : decode cX9_moves_ 82 = .ok (.ireturn, 1) := by decide +kernel
theorem dX9_edit_0 : decode cX9_edit 0 = .ok (.aload_n 0, 1) := by decide +kernel
theorem dX9_edit_1 : decode cX9_edit 1 = .ok (.getfield 25, 3) := by decide +kernel
theorem dX9_edit_4 : decode cX9_edit 4 = .ok (.sipush 840, 3) := by decide +kernel
theorem dX9_edit_7 : decode cX9_edit 7 = .ok (.iload_n 1, 1) := by decide +kernel
theorem dX9_edit_8 : decode cX9_edit 8 = .ok (.imul, 1) := by decide +kernel
theorem dX9_edit_9 : decode cX9_edit 9 = .ok (.iload_n 2, 1) := by decide +kernel
theorem dX9_edit_10 : decode cX9_edit 10 = .ok (.iadd, 1) := by decide +kernel
theorem dX9_edit_11 : decode cX9_edit 11 = .ok (.iaload, 1) := by decide +kernel
theorem dX9_edit_12 : decode cX9_edit 12 = .ok (.ireturn, 1) := by decide +kernel
theorem dX9_patchOf_0 : decode cX9_patchOf 0 = .ok (.aload_n 0, 1) := by decide +kernel
theorem dX9_patchOf_1 : decode cX9_patchOf 1 = .ok (.iload_n 1, 1) := by decide +kernel
theorem dX9_patchOf_2 : decode cX9_patchOf 2 = .ok (.invokevirtual 120, 3) := by decide +kernel
theorem dX9_patchOf_5 : decode cX9_patchOf 5 = .ok (.ifCond .eq 12, 3) := by decide +kernel
theorem dX9_patchOf_8 : decode cX9_patchOf 8 = .ok (.iload_n 2, 1) := by decide +kernel
theorem dX9_patchOf_9 : decode cX9_patchOf 9 = .ok (.iconst 0, 1) := by decide +kernel
theorem dX9_patchOf_10 : decode cX9_patchOf 10 = .ok (.iconst 5, 1) := by decide +kernel
theorem dX9_patchOf_11 : decode cX9_patchOf 11 = .ok (.invokestatic 106, 3) := by decide +kernel
theorem dX9_patchOf_14 : decode cX9_patchOf 14 = .ok (.ifCond .ne 10, 3) := by decide +kernel
theorem dX9_patchOf_17 : decode cX9_patchOf 17 = .ok (.aload_n 0, 1) := by decide +kernel
theorem dX9_patchOf_18 : decode cX9_patchOf 18 = .ok (.bipush (-5), 2) := by decide +kernel
theorem dX9_patchOf_20 : decode cX9_patchOf 20 = .ok (.invokevirtual 99, 3) := by decide +kernel
theorem dX9_patchOf_23 : decode cX9_patchOf 23 = .ok (.ireturn, 1) := by decide +kernel
theorem dX9_patchOf_24 : decode cX9_patchOf 24 = .ok (.iload_n 2, 1) := by decide +kernel
theorem dX9_patchOf_25 : decode cX9_patchOf 25 = .ok (.iconst 2, 1) := by decide +kernel
theorem dX9_patchOf_26 : decode cX9_patchOf 26 = .ok (.if_icmp .ge 10, 3) := by decide +kernel
theorem dX9_patchOf_29 : decode cX9_patchOf 29 = .ok (.aload_n 0, 1) := by decide +kernel
theorem dX9_patchOf_30 : decode cX9_patchOf 30 = .ok (.iload_n 2, 1) := by decide +kernel
theorem dX9_patchOf_31 : decode cX9_patchOf 31 = .ok (.iload_n 1, 1) := by decide +kernel
theorem dX9_patchOf_32 : decode cX9_patchOf 32 = .ok (.invokevirtual 123, 3) := by decide +kernel
theorem dX9_patchOf_35 : decode cX9_patchOf 35 = .ok (.ireturn, 1) := by decide +kernel
theorem dX9_patchOf_36 : decode cX9_patchOf 36 = .ok (.iconst 0, 1) := by decide +kernel
theorem dX9_patchOf_37 : decode cX9_patchOf 37 = .ok (.istore_n 3, 1) := by decide +kernel
theorem dX9_patchOf_38 : decode cX9_patchOf 38 = .ok (.iconst 0, 1) := by decide +kernel
theorem dX9_patchOf_39 : decode cX9_patchOf 39 = .ok (.istore 4, 2) := by decide +kernel
theorem dX9_patchOf_41 : decode cX9_patchOf 41 = .ok (.iload 4, 2) := by decide +kernel
theorem dX9_patchOf_43 : decode cX9_patchOf 43 = .ok (.aload_n 0, 1) := by decide +kernel
theorem dX9_patchOf_44 : decode cX9_patchOf 44 = .ok (.iconst 0, 1) := by decide +kernel
theorem dX9_patchOf_45 : decode cX9_patchOf 45 = .ok (.iload_n 1, 1) := by decide +kernel
theorem dX9_patchOf_46 : decode cX9_patchOf 46 = .ok (.invokevirtual 123, 3) := by decide +kernel
theorem dX9_patchOf_49 : decode cX9_patchOf 49 = .ok (.if_icmp .ge 28, 3) := by decide +kernel
theorem dX9_patchOf_52 : decode cX9_patchOf 52 = .ok (.aload_n 0, 1) := by decide +kernel
theorem dX9_patchOf_53 : decode cX9_patchOf 53 = .ok (.iload_n 1, 1) := by decide +kernel
theorem dX9_patchOf_54 : decode cX9_patchOf 54 = .ok (.bipush 7, 2) := by decide +kernel
theorem dX9_patchOf_56 : decode cX9_patchOf 56 = .ok (.iload 4, 2) := by decide +kernel
theorem dX9_patchOf_58 : decode cX9_patchOf 58 = .ok (.imul, 1) := by decide +kernel
theorem dX9_patchOf_59 : decode cX9_patchOf 59 = .ok (.invokevirtual 254, 3) := by decide +kernel
theorem dX9_patchOf_62 : decode cX9_patchOf 62 = .ok (.iload_n 2, 1) := by decide +kernel
theorem dX9_patchOf_63 : decode cX9_patchOf 63 = .ok (.iconst 2, 1) := by decide +kernel
theorem dX9_patchOf_64 : decode cX9_patchOf 64 = .ok (.isub, 1) := by decide +kernel
theorem dX9_patchOf_65 : decode cX9_patchOf 65 = .ok (.if_icmp .ne 6, 3) := by decide +kernel
theorem dX9_patchOf_68 : decode cX9_patchOf 68 = .ok (.iinc 3 1, 3) := by decide +kernel
theorem dX9_patchOf_71 : decode cX9_patchOf 71 = .ok (.iinc 4 1, 3) := by decide +kernel
theorem dX9_patchOf_74 : decode cX9_patchOf 74 = .ok (.goto (-33), 3) := by decide +kernel
theorem dX9_patchOf_77 : decode cX9_patchOf 77 = .ok (.iload_n 3, 1) := by decide +kernel
theorem dX9_patchOf_78 : decode cX9_patchOf 78 = .ok (.ireturn, 1) := by decide +kernel
theorem dX9_edit__0 : decode cX9_edit_ 0 = .ok (.aload_n 0, 1) := by decide +kernel
theorem dX9_edit__1 : decode cX9_edit_ 1 = .ok (.iload_n 1, 1) := by decide +kernel
theorem dX9_edit__2 : decode cX9_edit_ 2 = .ok (.invokevirtual 120, 3) := by decide +kernel
theorem dX9_edit__5 : decode cX9_edit_ 5 = .ok (.ifCond .ne 9, 3) := by decide +kernel
theorem dX9_edit__8 : decode cX9_edit_ 8 = .ok (.aload_n 0, 1) := by decide +kernel
theorem dX9_edit__9 : decode cX9_edit_ 9 = .ok (.iconst (-1), 1) := by decide +kernel
theorem dX9_edit__10 : decode cX9_edit_ 10 = .ok (.invokevirtual 99, 3) := by decide +kernel
theorem dX9_edit__13 : decode cX9_edit_ 13 = .ok (.ireturn, 1) := by decide +kernel
theorem dX9_edit__14 : decode cX9_edit_ 14 = .ok (.iload_n 2, 1) := by decide +kernel
theorem dX9_edit__15 : decode cX9_edit_ 15 = .ok (.iconst 0, 1) := by decide +kernel
theorem dX9_edit__16 : decode cX9_edit_ 16 = .ok (.aload_n 0, 1) := by decide +kernel
theorem dX9_edit__17 : decode cX9_edit_ 17 = .ok (.iconst 0, 1) := by decide +kernel
theorem dX9_edit__18 : decode cX9_edit_ 18 = .ok (.iload_n 1, 1) := by decide +kernel
theorem dX9_edit__19 : decode cX9_edit_ 19 = .ok (.invokevirtual 123, 3) := by decide +kernel
theorem dX9_edit__22 : decode cX9_edit_ 22 = .ok (.iconst 1, 1) := by decide +kernel
theorem dX9_edit__23 : decode cX9_edit_ 23 = .ok (.isub, 1) := by decide +kernel
theorem dX9_edit__24 : decode cX9_edit_ 24 = .ok (.invokestatic 106, 3) := by decide +kernel
theorem dX9_edit__27 : decode cX9_edit_ 27 = .ok (.ifCond .eq 27, 3) := by decide +kernel
theorem dX9_edit__30 : decode cX9_edit_ 30 = .ok (.iload_n 3, 1) := by decide +kernel
theorem dX9_edit__31 : decode cX9_edit_ 31 = .ok (.iconst 0, 1) := by decide +kernel
theorem dX9_edit__32 : decode cX9_edit_ 32 = .ok (.bipush 6, 2) := by decide +kernel
theorem dX9_edit__34 : decode cX9_edit_ 34 = .ok (.invokestatic 106, 3) := by decide +kernel
theorem dX9_edit__37 : decode cX9_edit_ 37 = .ok (.ifCond .eq 17, 3) := by decide +kernel
theorem dX9_edit__40 : decode cX9_edit_ 40 = .ok (.aload_n 0, 1) := by decide +kernel
theorem dX9_edit__41 : decode cX9_edit_ 41 = .ok (.iload_n 1, 1) := by decide +kernel
theorem dX9_edit__42 : decode cX9_edit_ 42 = .ok (.bipush 7, 2) := by decide +kernel
theorem dX9_edit__44 : decode cX9_edit_ 44 = .ok (.iload_n 2, 1) := by decide +kernel
theorem dX9_edit__45 : decode cX9_edit_ 45 = .ok (.imul, 1) := by decide +kernel
theorem dX9_edit__46 : decode cX9_edit_ 46 = .ok (.iload_n 3, 1) := by decide +kernel
theorem dX9_edit__47 : decode cX9_edit_ 47 = .ok (.iadd, 1) := by decide +kernel
theorem dX9_edit__48 : decode cX9_edit_ 48 = .ok (.invokevirtual 254, 3) := by decide +kernel
theorem dX9_edit__51 : decode cX9_edit_ 51 = .ok (.goto 9, 3) := by decide +kernel
theorem dX9_edit__54 : decode cX9_edit_ 54 = .ok (.aload_n 0, 1) := by decide +kernel
theorem dX9_edit__55 : decode cX9_edit_ 55 = .ok (.bipush (-5), 2) := by decide +kernel
theorem dX9_edit__57 : decode cX9_edit_ 57 = .ok (.invokevirtual 99, 3) := by decide +kernel
theorem dX9_edit__60 : decode cX9_edit_ 60 = .ok (.ireturn, 1) := by decide +kernel
theorem dX9_touched_0 : decode cX9_touched 0 = .ok (.aload_n 0, 1) := by decide +kernel
theorem dX9_touched_1 : decode cX9_touched 1 = .ok (.iload_n 1, 1) := by decide +kernel
theorem dX9_touched_2 : decode cX9_touched 2 = .ok (.invokevirtual 120, 3) := by decide +kernel
theorem dX9_touched_5 : decode cX9_touched 5 = .ok (.ifCond .ne 9, 3) := by decide +kernel
theorem dX9_touched_8 : decode cX9_touched 8 = .ok (.aload_n 0, 1) := by decide +kernel
theorem dX9_touched_9 : decode cX9_touched 9 = .ok (.iconst (-1), 1) := by decide +kernel
theorem dX9_touched_10 : decode cX9_touched 10 = .ok (.invokevirtual 99, 3) := by decide +kernel
theorem dX9_touched_13 : decode cX9_touched 13 = .ok (.ireturn, 1) := by decide +kernel
theorem dX9_touched_14 : decode cX9_touched 14 = .ok (.iload_n 2, 1) := by decide +kernel
theorem dX9_touched_15 : decode cX9_touched 15 = .ok (.iconst 0, 1) := by decide +kernel
theorem dX9_touched_16 : decode cX9_touched 16 = .ok (.iconst 1, 1) := by decide +kernel
theorem dX9_touched_17 : decode cX9_touched 17 = .ok (.invokestatic 106, 3) := by decide +kernel
theorem dX9_touched_20 : decode cX9_touched 20 = .ok (.ifCond .ne 10, 3) := by decide +kernel
theorem dX9_touched_23 : decode cX9_touched 23 = .ok (.aload_n 0, 1) := by decide +kernel
theorem dX9_touched_24 : decode cX9_touched 24 = .ok (.bipush (-5), 2) := by decide +kernel
theorem dX9_touched_26 : decode cX9_touched 26 = .ok (.invokevirtual 99, 3) := by decide +kernel
theorem dX9_touched_29 : decode cX9_touched 29 = .ok (.ireturn, 1) := by decide +kernel
theorem dX9_touched_30 : decode cX9_touched 30 = .ok (.iconst 0, 1) := by decide +kernel
theorem dX9_touched_31 : decode cX9_touched 31 = .ok (.istore_n 3, 1) := by decide +kernel
theorem dX9_touched_32 : decode cX9_touched 32 = .ok (.iconst 0, 1) := by decide +kernel
theorem dX9_touched_33 : decode cX9_touched 33 = .ok (.istore 4, 2) := by decide +kernel
theorem dX9_touched_35 : decode cX9_touched 35 = .ok (.iload 4, 2) := by decide +kernel
theorem dX9_touched_37 : decode cX9_touched 37 = .ok (.aload_n 0, 1) := by decide +kernel
theorem dX9_touched_38 : decode cX9_touched 38 = .ok (.iconst 0, 1) := by decide +kernel
theorem dX9_touched_39 : decode cX9_touched 39 = .ok (.iload_n 1, 1) := by decide +kernel
theorem dX9_touched_40 : decode cX9_touched 40 = .ok (.invokevirtual 123, 3) := by decide +kernel
theorem dX9_touched_43 : decode cX9_touched 43 = .ok (.if_icmp .ge 46, 3) := by decide +kernel
theorem dX9_touched_46 : decode cX9_touched 46 = .ok (.aload_n 0, 1) := by decide +kernel
theorem dX9_touched_47 : decode cX9_touched 47 = .ok (.iload_n 1, 1) := by decide +kernel
theorem dX9_touched_48 : decode cX9_touched 48 = .ok (.bipush 7, 2) := by decide +kernel
theorem dX9_touched_50 : decode cX9_touched 50 = .ok (.iload 4, 2) := by decide +kernel
theorem dX9_touched_52 : decode cX9_touched 52 = .ok (.imul, 1) := by decide +kernel
theorem dX9_touched_53 : decode cX9_touched 53 = .ok (.iconst 1, 1) := by decide +kernel
theorem dX9_touched_54 : decode cX9_touched 54 = .ok (.iadd, 1) := by decide +kernel
theorem dX9_touched_55 : decode cX9_touched 55 = .ok (.invokevirtual 254, 3) := by decide +kernel
theorem dX9_touched_58 : decode cX9_touched 58 = .ok (.bipush 30, 2) := by decide +kernel
theorem dX9_touched_60 : decode cX9_touched 60 = .ok (.iload_n 2, 1) := by decide +kernel
theorem dX9_touched_61 : decode cX9_touched 61 = .ok (.imul, 1) := by decide +kernel
theorem dX9_touched_62 : decode cX9_touched 62 = .ok (.isub, 1) := by decide +kernel
theorem dX9_touched_63 : decode cX9_touched 63 = .ok (.istore 5, 2) := by decide +kernel
theorem dX9_touched_65 : decode cX9_touched 65 = .ok (.iload 5, 2) := by decide +kernel
theorem dX9_touched_67 : decode cX9_touched 67 = .ok (.iconst 1, 1) := by decide +kernel
theorem dX9_touched_68 : decode cX9_touched 68 = .ok (.bipush 30, 2) := by decide +kernel
theorem dX9_touched_70 : decode cX9_touched 70 = .ok (.invokestatic 106, 3) := by decide +kernel
theorem dX9_touched_73 : decode cX9_touched 73 = .ok (.ifCond .eq 10, 3) := by decide +kernel
theorem dX9_touched_76 : decode cX9_touched 76 = .ok (.iload_n 3, 1) := by decide +kernel
theorem dX9_touched_77 : decode cX9_touched 77 = .ok (.iconst 1, 1) := by decide +kernel
theorem dX9_touched_78 : decode cX9_touched 78 = .ok (.iload 5, 2) := by decide +kernel
theorem dX9_touched_80 : decode cX9_touched 80 = .ok (.ishl, 1) := by decide +kernel
theorem dX9_touched_81 : decode cX9_touched 81 = .ok (.ior, 1) := by decide +kernel
theorem dX9_touched_82 : decode cX9_touched 82 = .ok (.istore_n 3, 1) := by decide +kernel
theorem dX9_touched_83 : decode cX9_touched 83 = .ok (.iinc 4 1, 3) := by decide +kernel
theorem dX9_touched_86 : decode cX9_touched 86 = .ok (.goto (-51), 3) := by decide +kernel
theorem dX9_touched_89 : decode cX9_touched 89 = .ok (.iload_n 3, 1) := by decide +kernel
theorem dX9_touched_90 : decode cX9_touched 90 = .ok (.ireturn, 1) := by decide +kernel
theorem dX9_stuck_0 : decode cX9_stuck 0 = .ok (.iconst 0, 1) := by decide +kernel
theorem dX9_stuck_1 : decode cX9_stuck 1 = .ok (.istore_n 2, 1) := by decide +kernel
theorem dX9_stuck_2 : decode cX9_stuck 2 = .ok (.iload_n 2, 1) := by decide +kernel
theorem dX9_stuck_3 : decode cX9_stuck 3 = .ok (.aload_n 0, 1) := by decide +kernel
theorem dX9_stuck_4 : decode cX9_stuck 4 = .ok (.iconst 0, 1) := by decide +kernel
theorem dX9_stuck_5 : decode cX9_stuck 5 = .ok (.iload_n 1, 1) := by decide +kernel
theorem dX9_stuck_6 : decode cX9_stuck 6 = .ok (.invokevirtual 123, 3) := by decide +kernel
theorem dX9_stuck_9 : decode cX9_stuck 9 = .ok (.if_icmp .ge 32, 3) := by decide +kernel
theorem dX9_stuck_12 : decode cX9_stuck 12 = .ok (.aload_n 0, 1) := by decide +kernel
theorem dX9_stuck_13 : decode cX9_stuck 13 = .ok (.aload_n 0, 1) := by decide +kernel
theorem dX9_stuck_14 : decode cX9_stuck 14 = .ok (.getfield 25, 3) := by decide +kernel
theorem dX9_stuck_17 : decode cX9_stuck 17 = .ok (.sipush 840, 3) := by decide +kernel
theorem dX9_stuck_20 : decode cX9_stuck 20 = .ok (.iload_n 1, 1) := by decide +kernel
theorem dX9_stuck_21 : decode cX9_stuck 21 = .ok (.imul, 1) := by decide +kernel
theorem dX9_stuck_22 : decode cX9_stuck 22 = .ok (.bipush 7, 2) := by decide +kernel
theorem dX9_stuck_24 : decode cX9_stuck 24 = .ok (.iload_n 2, 1) := by decide +kernel
theorem dX9_stuck_25 : decode cX9_stuck 25 = .ok (.imul, 1) := by decide +kernel
theorem dX9_stuck_26 : decode cX9_stuck 26 = .ok (.iadd, 1) := by decide +kernel
theorem dX9_stuck_27 : decode cX9_stuck 27 = .ok (.invokevirtual 207, 3) := by decide +kernel
theorem dX9_stuck_30 : decode cX9_stuck 30 = .ok (.ifCond .ne 5, 3) := by decide +kernel
theorem dX9_stuck_33 : decode cX9_stuck 33 = .ok (.iload_n 2, 1) := by decide +kernel
theorem dX9_stuck_34 : decode cX9_stuck 34 = .ok (.ireturn, 1) := by decide +kernel
theorem dX9_stuck_35 : decode cX9_stuck 35 = .ok (.iinc 2 1, 3) := by decide +kernel
theorem dX9_stuck_38 : decode cX9_stuck 38 = .ok (.goto (-36), 3) := by decide +kernel
theorem dX9_stuck_41 : decode cX9_stuck 41 = .ok (.iconst (-1), 1) := by decide +kernel
theorem dX9_stuck_42 : decode cX9_stuck 42 = .ok (.ireturn, 1) := by decide +kernel
theorem dX9_apply_0 : decode cX9_apply 0 = .ok (.aload_n 0, 1) := by decide +kernel
theorem dX9_apply_1 : decode cX9_apply 1 = .ok (.iload_n 1, 1) := by decide +kernel
theorem dX9_apply_2 : decode cX9_apply 2 = .ok (.invokevirtual 120, 3) := by decide +kernel
theorem dX9_apply_5 : decode cX9_apply 5 = .ok (.ifCond .eq 11, 3) := by decide +kernel
theorem dX9_apply_8 : decode cX9_apply 8 = .ok (.aload_n 0, 1) := by decide +kernel
theorem dX9_apply_9 : decode cX9_apply 9 = .ok (.iload_n 2, 1) := by decide +kernel
theorem dX9_apply_10 : decode cX9_apply 10 = .ok (.invokevirtual 166, 3) := by decide +kernel
theorem dX9_apply_13 : decode cX9_apply 13 = .ok (.ifCond .ne 9, 3) := by decide +kernel
theorem dX9_apply_16 : decode cX9_apply 16 = .ok (.aload_n 0, 1) := by decide +kernel
theorem dX9_apply_17 : decode cX9_apply 17 = .ok (.iconst (-1), 1) := by decide +kernel
theorem dX9_apply_18 : decode cX9_apply 18 = .ok (.invokevirtual 99, 3) := by decide +kernel
theorem dX9_apply_21 : decode cX9_apply 21 = .ok (.ireturn, 1) := by decide +kernel
theorem dX9_apply_22 : decode cX9_apply 22 = .ok (.aload_n 0, 1) := by decide +kernel
theorem dX9_apply_23 : decode cX9_apply 23 = .ok (.iload_n 2, 1) := by decide +kernel
theorem dX9_apply_24 : decode cX9_apply 24 = .ok (.invokevirtual 169, 3) := by decide +kernel
theorem dX9_apply_27 : decode cX9_apply 27 = .ok (.aload_n 0, 1) := by decide +kernel
theorem dX9_apply_28 : decode cX9_apply 28 = .ok (.iload_n 1, 1) := by decide +kernel
theorem dX9_apply_29 : decode cX9_apply 29 = .ok (.invokevirtual 257, 3) := by decide +kernel
theorem dX9_apply_32 : decode cX9_apply 32 = .ok (.iconst (-1), 1) := by decide +kernel
theorem dX9_apply_33 : decode cX9_apply 33 = .ok (.if_icmp .eq 10, 3) := by decide +kernel
theorem dX9_apply_36 : decode cX9_apply 36 = .ok (.aload_n 0, 1) := by decide +kernel
theorem dX9_apply_37 : decode cX9_apply 37 = .ok (.bipush (-6), 2) := by decide +kernel
theorem dX9_apply_39 : decode cX9_apply 39 = .ok (.invokevirtual 99, 3) := by decide +kernel
theorem dX9_apply_42 : decode cX9_apply 42 = .ok (.ireturn, 1) := by decide +kernel
theorem dX9_apply_43 : decode cX9_apply 43 = .ok (.aload_n 0, 1) := by decide +kernel
theorem dX9_apply_44 : decode cX9_apply 44 = .ok (.iload_n 2, 1) := by decide +kernel
theorem dX9_apply_45 : decode cX9_apply 45 = .ok (.invokevirtual 162, 3) := by decide +kernel
theorem dX9_apply_48 : decode cX9_apply 48 = .ok (.aload_n 0, 1) := by decide +kernel
theorem dX9_apply_49 : decode cX9_apply 49 = .ok (.getfield 127, 3) := by decide +kernel
theorem dX9_apply_52 : decode cX9_apply 52 = .ok (.ireturn, 1) := by decide +kernel
theorem dX9_sticks_0 : decode cX9_sticks 0 = .ok (.aload_n 0, 1) := by decide +kernel
theorem dX9_sticks_1 : decode cX9_sticks 1 = .ok (.iload_n 1, 1) := by decide +kernel
theorem dX9_sticks_2 : decode cX9_sticks 2 = .ok (.invokevirtual 120, 3) := by decide +kernel
theorem dX9_sticks_5 : decode cX9_sticks 5 = .ok (.ifCond .eq 11, 3) := by decide +kernel
theorem dX9_sticks_8 : decode cX9_sticks 8 = .ok (.aload_n 0, 1) := by decide +kernel
theorem dX9_sticks_9 : decode cX9_sticks 9 = .ok (.iload_n 2, 1) := by decide +kernel
theorem dX9_sticks_10 : decode cX9_sticks 10 = .ok (.invokevirtual 166, 3) := by decide +kernel
theorem dX9_sticks_13 : decode cX9_sticks 13 = .ok (.ifCond .ne 9, 3) := by decide +kernel
theorem dX9_sticks_16 : decode cX9_sticks 16 = .ok (.aload_n 0, 1) := by decide +kernel
theorem dX9_sticks_17 : decode cX9_sticks 17 = .ok (.iconst (-1), 1) := by decide +kernel
theorem dX9_sticks_18 : decode cX9_sticks 18 = .ok (.invokevirtual 181, 3) := by decide +kernel
theorem dX9_sticks_21 : decode cX9_sticks 21 = .ok (.ireturn, 1) := by decide +kernel
theorem dX9_sticks_22 : decode cX9_sticks 22 = .ok (.aload_n 0, 1) := by decide +kernel
theorem dX9_sticks_23 : decode cX9_sticks 23 = .ok (.iload_n 2, 1) := by decide +kernel
theorem dX9_sticks_24 : decode cX9_sticks 24 = .ok (.invokevirtual 169, 3) := by decide +kernel
theorem dX9_sticks_27 : decode cX9_sticks 27 = .ok (.aload_n 0, 1) := by decide +kernel
theorem dX9_sticks_28 : decode cX9_sticks 28 = .ok (.iload_n 1, 1) := by decide +kernel
theorem dX9_sticks_29 : decode cX9_sticks 29 = .ok (.invokevirtual 257, 3) := by decide +kernel
theorem dX9_sticks_32 : decode cX9_sticks 32 = .ok (.ireturn, 1) := by decide +kernel
theorem dX9_turns_0 : decode cX9_turns 0 = .ok (.aload_n 1, 1) := by decide +kernel
theorem dX9_turns_1 : decode cX9_turns 1 = .ok (.iload_n 2, 1) := by decide +kernel
theorem dX9_turns_2 : decode cX9_turns 2 = .ok (.iaload, 1) := by decide +kernel
theorem dX9_turns_3 : decode cX9_turns 3 = .ok (.lookupswitch 86 #[(0, 25), (3, 51)], 25) := by decide +kernel
theorem dX9_turns_28 : decode cX9_turns 28 = .ok (.aload_n 0, 1) := by decide +kernel
theorem dX9_turns_29 : decode cX9_turns 29 = .ok (.iconst 0, 1) := by decide +kernel
theorem dX9_turns_30 : decode cX9_turns 30 = .ok (.aload_n 1, 1) := by decide +kernel
theorem dX9_turns_31 : decode cX9_turns 31 = .ok (.iload_n 2, 1) := by decide +kernel
theorem dX9_turns_32 : decode cX9_turns 32 = .ok (.iconst 1, 1) := by decide +kernel
theorem dX9_turns_33 : decode cX9_turns 33 = .ok (.iadd, 1) := by decide +kernel
theorem dX9_turns_34 : decode cX9_turns 34 = .ok (.iaload, 1) := by decide +kernel
theorem dX9_turns_35 : decode cX9_turns 35 = .ok (.aload_n 1, 1) := by decide +kernel
theorem dX9_turns_36 : decode cX9_turns 36 = .ok (.iload_n 2, 1) := by decide +kernel
theorem dX9_turns_37 : decode cX9_turns 37 = .ok (.iconst 3, 1) := by decide +kernel
theorem dX9_turns_38 : decode cX9_turns 38 = .ok (.iadd, 1) := by decide +kernel
theorem dX9_turns_39 : decode cX9_turns 39 = .ok (.iaload, 1) := by decide +kernel
theorem dX9_turns_40 : decode cX9_turns 40 = .ok (.aload_n 1, 1) := by decide +kernel
theorem dX9_turns_41 : decode cX9_turns 41 = .ok (.iload_n 2, 1) := by decide +kernel
theorem dX9_turns_42 : decode cX9_turns 42 = .ok (.iconst 2, 1) := by decide +kernel
theorem dX9_turns_43 : decode cX9_turns 43 = .ok (.iadd, 1) := by decide +kernel
theorem dX9_turns_44 : decode cX9_turns 44 = .ok (.iaload, 1) := by decide +kernel
theorem dX9_turns_45 : decode cX9_turns 45 = .ok (.iconst 0, 1) := by decide +kernel
theorem dX9_turns_46 : decode cX9_turns 46 = .ok (.iconst 0, 1) := by decide +kernel
theorem dX9_turns_47 : decode cX9_turns 47 = .ok (.iconst 0, 1) := by decide +kernel
theorem dX9_turns_48 : decode cX9_turns 48 = .ok (.invokevirtual 203, 3) := by decide +kernel
theorem dX9_turns_51 : decode cX9_turns 51 = .ok (.goto 76, 3) := by decide +kernel
theorem dX9_turns_54 : decode cX9_turns 54 = .ok (.aload_n 0, 1) := by decide +kernel
theorem dX9_turns_55 : decode cX9_turns 55 = .ok (.iconst 3, 1) := by decide +kernel
theorem dX9_turns_56 : decode cX9_turns 56 = .ok (.aload_n 1, 1) := by decide +kernel
theorem dX9_turns_57 : decode cX9_turns 57 = .ok (.iload_n 2, 1) := by decide +kernel
theorem dX9_turns_58 : decode cX9_turns 58 = .ok (.iconst 1, 1) := by decide +kernel
theorem dX9_turns_59 : decode cX9_turns 59 = .ok (.iadd, 1) := by decide +kernel
theorem dX9_turns_60 : decode cX9_turns 60 = .ok (.iaload, 1) := by decide +kernel
theorem dX9_turns_61 : decode cX9_turns 61 = .ok (.iconst 0, 1) := by decide +kernel
theorem dX9_turns_62 : decode cX9_turns 62 = .ok (.aload_n 1, 1) := by decide +kernel
theorem dX9_turns_63 : decode cX9_turns 63 = .ok (.iload_n 2, 1) := by decide +kernel
theorem dX9_turns_64 : decode cX9_turns 64 = .ok (.iconst 5, 1) := by decide +kernel
theorem dX9_turns_65 : decode cX9_turns 65 = .ok (.iadd, 1) := by decide +kernel
theorem dX9_turns_66 : decode cX9_turns 66 = .ok (.iaload, 1) := by decide +kernel
theorem dX9_turns_67 : decode cX9_turns 67 = .ok (.aload_n 1, 1) := by decide +kernel
theorem dX9_turns_68 : decode cX9_turns 68 = .ok (.iload_n 2, 1) := by decide +kernel
theorem dX9_turns_69 : decode cX9_turns 69 = .ok (.bipush 6, 2) := by decide +kernel
theorem dX9_turns_71 : decode cX9_turns 71 = .ok (.iadd, 1) := by decide +kernel
theorem dX9_turns_72 : decode cX9_turns 72 = .ok (.iaload, 1) := by decide +kernel
theorem dX9_turns_73 : decode cX9_turns 73 = .ok (.aload_n 1, 1) := by decide +kernel
theorem dX9_turns_74 : decode cX9_turns 74 = .ok (.iload_n 2, 1) := by decide +kernel
theorem dX9_turns_75 : decode cX9_turns 75 = .ok (.iconst 3, 1) := by decide +kernel
theorem dX9_turns_76 : decode cX9_turns 76 = .ok (.iadd, 1) := by decide +kernel
theorem dX9_turns_77 : decode cX9_turns 77 = .ok (.iaload, 1) := by decide +kernel
theorem dX9_turns_78 : decode cX9_turns 78 = .ok (.aload_n 1, 1) := by decide +kernel
theorem dX9_turns_79 : decode cX9_turns 79 = .ok (.iload_n 2, 1) := by decide +kernel
theorem dX9_turns_80 : decode cX9_turns 80 = .ok (.iconst 4, 1) := by decide +kernel
theorem dX9_turns_81 : decode cX9_turns 81 = .ok (.iadd, 1) := by decide +kernel
theorem dX9_turns_82 : decode cX9_turns 82 = .ok (.iaload, 1) := by decide +kernel
theorem dX9_turns_83 : decode cX9_turns 83 = .ok (.invokevirtual 203, 3) := by decide +kernel
theorem dX9_turns_86 : decode cX9_turns 86 = .ok (.goto 41, 3) := by decide +kernel
theorem dX9_turns_89 : decode cX9_turns 89 = .ok (.aload_n 0, 1) := by decide +kernel
theorem dX9_turns_90 : decode cX9_turns 90 = .ok (.aload_n 1, 1) := by decide +kernel
theorem dX9_turns_91 : decode cX9_turns 91 = .ok (.iload_n 2, 1) := by decide +kernel
theorem dX9_turns_92 : decode cX9_turns 92 = .ok (.iaload, 1) := by decide +kernel
theorem dX9_turns_93 : decode cX9_turns 93 = .ok (.iconst 1, 1) := by decide +kernel
theorem dX9_turns_94 : decode cX9_turns 94 = .ok (.if_icmp .ne 7, 3) := by decide +kernel
theorem dX9_turns_97 : decode cX9_turns 97 = .ok (.iconst 2, 1) := by decide +kernel
theorem dX9_turns_98 : decode cX9_turns 98 = .ok (.goto 4, 3) := by decide +kernel
theorem dX9_turns_101 : decode cX9_turns 101 = .ok (.iconst 1, 1) := by decide +kernel
theorem dX9_turns_102 : decode cX9_turns 102 = .ok (.aload_n 1, 1) := by decide +kernel
theorem dX9_turns_103 : decode cX9_turns 103 = .ok (.iload_n 2, 1) := by decide +kernel
theorem dX9_turns_104 : decode cX9_turns 104 = .ok (.iconst 1, 1) := by decide +kernel
theorem dX9_turns_105 : decode cX9_turns 105 = .ok (.iadd, 1) := by decide +kernel
theorem dX9_turns_106 : decode cX9_turns 106 = .ok (.iaload, 1) := by decide +kernel
theorem dX9_turns_107 : decode cX9_turns 107 = .ok (.aload_n 1, 1) := by decide +kernel
theorem dX9_turns_108 : decode cX9_turns 108 = .ok (.iload_n 2, 1) := by decide +kernel
theorem dX9_turns_109 : decode cX9_turns 109 = .ok (.iconst 2, 1) := by decide +kernel
theorem dX9_turns_110 : decode cX9_turns 110 = .ok (.iadd, 1) := by decide +kernel
theorem dX9_turns_111 : decode cX9_turns 111 = .ok (.iaload, 1) := by decide +kernel
theorem dX9_turns_112 : decode cX9_turns 112 = .ok (.aload_n 1, 1) := by decide +kernel
theorem dX9_turns_113 : decode cX9_turns 113 = .ok (.iload_n 2, 1) := by decide +kernel
theorem dX9_turns_114 : decode cX9_turns 114 = .ok (.iconst 3, 1) := by decide +kernel
theorem dX9_turns_115 : decode cX9_turns 115 = .ok (.iadd, 1) := by decide +kernel
theorem dX9_turns_116 : decode cX9_turns 116 = .ok (.iaload, 1) := by decide +kernel
theorem dX9_turns_117 : decode cX9_turns 117 = .ok (.aload_n 1, 1) := by decide +kernel
theorem dX9_turns_118 : decode cX9_turns 118 = .ok (.iload_n 2, 1) := by decide +kernel
theorem dX9_turns_119 : decode cX9_turns 119 = .ok (.iconst 4, 1) := by decide +kernel
theorem dX9_turns_120 : decode cX9_turns 120 = .ok (.iadd, 1) := by decide +kernel
theorem dX9_turns_121 : decode cX9_turns 121 = .ok (.iaload, 1) := by decide +kernel
theorem dX9_turns_122 : decode cX9_turns 122 = .ok (.iconst 0, 1) := by decide +kernel
theorem dX9_turns_123 : decode cX9_turns 123 = .ok (.iconst 0, 1) := by decide +kernel
theorem dX9_turns_124 : decode cX9_turns 124 = .ok (.invokevirtual 203, 3) := by decide +kernel
theorem dX9_turns_127 : decode cX9_turns 127 = .ok (.return_, 1) := by decide +kernel
theorem dX9_invert_0 : decode cX9_invert 0 = .ok (.aload_n 0, 1) := by decide +kernel
theorem dX9_invert_1 : decode cX9_invert 1 = .ok (.iload_n 1, 1) := by decide +kernel
theorem dX9_invert_2 : decode cX9_invert 2 = .ok (.invokevirtual 120, 3) := by decide +kernel
theorem dX9_invert_5 : decode cX9_invert 5 = .ok (.ifCond .ne 9, 3) := by decide +kernel
theorem dX9_invert_8 : decode cX9_invert 8 = .ok (.aload_n 0, 1) := by decide +kernel
theorem dX9_invert_9 : decode cX9_invert 9 = .ok (.iconst (-1), 1) := by decide +kernel
theorem dX9_invert_10 : decode cX9_invert 10 = .ok (.invokevirtual 99, 3) := by decide +kernel
theorem dX9_invert_13 : decode cX9_invert 13 = .ok (.ireturn, 1) := by decide +kernel
theorem dX9_invert_14 : decode cX9_invert 14 = .ok (.aload_n 0, 1) := by decide +kernel
theorem dX9_invert_15 : decode cX9_invert 15 = .ok (.iconst 0, 1) := by decide +kernel
theorem dX9_invert_16 : decode cX9_invert 16 = .ok (.putfield 200, 3) := by decide +kernel
theorem dX9_invert_19 : decode cX9_invert 19 = .ok (.aload_n 0, 1) := by decide +kernel
theorem dX9_invert_20 : decode cX9_invert 20 = .ok (.iconst 0, 1) := by decide +kernel
theorem dX9_invert_21 : decode cX9_invert 21 = .ok (.iload_n 1, 1) := by decide +kernel
theorem dX9_invert_22 : decode cX9_invert 22 = .ok (.invokevirtual 123, 3) := by decide +kernel
theorem dX9_invert_25 : decode cX9_invert 25 = .ok (.iconst 1, 1) := by decide +kernel
theorem dX9_invert_26 : decode cX9_invert 26 = .ok (.isub, 1) := by decide +kernel
theorem dX9_invert_27 : decode cX9_invert 27 = .ok (.istore_n 2, 1) := by decide +kernel
theorem dX9_invert_28 : decode cX9_invert 28 = .ok (.iload_n 2, 1) := by decide +kernel
theorem dX9_invert_29 : decode cX9_invert 29 = .ok (.ifCond .lt 27, 3) := by decide +kernel
theorem dX9_invert_32 : decode cX9_invert 32 = .ok (.aload_n 0, 1) := by decide +kernel
theorem dX9_invert_33 : decode cX9_invert 33 = .ok (.aload_n 0, 1) := by decide +kernel
theorem dX9_invert_34 : decode cX9_invert 34 = .ok (.getfield 25, 3) := by decide +kernel
theorem dX9_invert_37 : decode cX9_invert 37 = .ok (.sipush 840, 3) := by decide +kernel
theorem dX9_invert_40 : decode cX9_invert 40 = .ok (.iload_n 1, 1) := by decide +kernel
theorem dX9_invert_41 : decode cX9_invert 41 = .ok (.imul, 1) := by decide +kernel
theorem dX9_invert_42 : decode cX9_invert 42 = .ok (.bipush 7, 2) := by decide +kernel
theorem dX9_invert_44 : decode cX9_invert 44 = .ok (.iload_n 2, 1) := by decide +kernel
theorem dX9_invert_45 : decode cX9_invert 45 = .ok (.imul, 1) := by decide +kernel
theorem dX9_invert_46 : decode cX9_invert 46 = .ok (.iadd, 1) := by decide +kernel
theorem dX9_invert_47 : decode cX9_invert 47 = .ok (.invokevirtual 260, 3) := by decide +kernel
theorem dX9_invert_50 : decode cX9_invert 50 = .ok (.iinc 2 (-1), 3) := by decide +kernel
theorem dX9_invert_53 : decode cX9_invert 53 = .ok (.goto (-25), 3) := by decide +kernel
theorem dX9_invert_56 : decode cX9_invert 56 = .ok (.aload_n 0, 1) := by decide +kernel
theorem dX9_invert_57 : decode cX9_invert 57 = .ok (.iconst 2, 1) := by decide +kernel
theorem dX9_invert_58 : decode cX9_invert 58 = .ok (.iload_n 1, 1) := by decide +kernel
theorem dX9_invert_59 : decode cX9_invert 59 = .ok (.invokevirtual 251, 3) := by decide +kernel
theorem dX9_invert_62 : decode cX9_invert 62 = .ok (.ireturn, 1) := by decide +kernel
theorem dX9_all_0 : decode cX9_all 0 = .ok (.iconst 0, 1) := by decide +kernel
theorem dX9_all_1 : decode cX9_all 1 = .ok (.istore_n 2, 1) := by decide +kernel
theorem dX9_all_2 : decode cX9_all 2 = .ok (.iload_n 2, 1) := by decide +kernel
theorem dX9_all_3 : decode cX9_all 3 = .ok (.bipush 7, 2) := by decide +kernel
theorem dX9_all_5 : decode cX9_all 5 = .ok (.aload_n 0, 1) := by decide +kernel
theorem dX9_all_6 : decode cX9_all 6 = .ok (.iconst 0, 1) := by decide +kernel
theorem dX9_all_7 : decode cX9_all 7 = .ok (.iload_n 1, 1) := by decide +kernel
theorem dX9_all_8 : decode cX9_all 8 = .ok (.invokevirtual 123, 3) := by decide +kernel
theorem dX9_all_11 : decode cX9_all 11 = .ok (.imul, 1) := by decide +kernel
theorem dX9_all_12 : decode cX9_all 12 = .ok (.if_icmp .ge 29, 3) := by decide +kernel
theorem dX9_all_15 : decode cX9_all 15 = .ok (.aload_n 0, 1) := by decide +kernel
theorem dX9_all_16 : decode cX9_all 16 = .ok (.getfield 62, 3) := by decide +kernel
theorem dX9_all_19 : decode cX9_all 19 = .ok (.bipush 7, 2) := by decide +kernel
theorem dX9_all_21 : decode cX9_all 21 = .ok (.aload_n 0, 1) := by decide +kernel
theorem dX9_all_22 : decode cX9_all 22 = .ok (.getfield 200, 3) := by decide +kernel
theorem dX9_all_25 : decode cX9_all 25 = .ok (.imul, 1) := by decide +kernel
theorem dX9_all_26 : decode cX9_all 26 = .ok (.iload_n 2, 1) := by decide +kernel
theorem dX9_all_27 : decode cX9_all 27 = .ok (.iadd, 1) := by decide +kernel
theorem dX9_all_28 : decode cX9_all 28 = .ok (.aload_n 0, 1) := by decide +kernel
theorem dX9_all_29 : decode cX9_all 29 = .ok (.iload_n 1, 1) := by decide +kernel
theorem dX9_all_30 : decode cX9_all 30 = .ok (.iload_n 2, 1) := by decide +kernel
theorem dX9_all_31 : decode cX9_all 31 = .ok (.invokevirtual 254, 3) := by decide +kernel
theorem dX9_all_34 : decode cX9_all 34 = .ok (.iastore, 1) := by decide +kernel
theorem dX9_all_35 : decode cX9_all 35 = .ok (.iinc 2 1, 3) := by decide +kernel
theorem dX9_all_38 : decode cX9_all 38 = .ok (.goto (-36), 3) := by decide +kernel
theorem dX9_all_41 : decode cX9_all 41 = .ok (.aload_n 0, 1) := by decide +kernel
theorem dX9_all_42 : decode cX9_all 42 = .ok (.dup, 1) := by decide +kernel
theorem dX9_all_43 : decode cX9_all 43 = .ok (.getfield 200, 3) := by decide +kernel
theorem dX9_all_46 : decode cX9_all 46 = .ok (.aload_n 0, 1) := by decide +kernel
theorem dX9_all_47 : decode cX9_all 47 = .ok (.iconst 0, 1) := by decide +kernel
theorem dX9_all_48 : decode cX9_all 48 = .ok (.iload_n 1, 1) := by decide +kernel
theorem dX9_all_49 : decode cX9_all 49 = .ok (.invokevirtual 123, 3) := by decide +kernel
theorem dX9_all_52 : decode cX9_all 52 = .ok (.iadd, 1) := by decide +kernel
theorem dX9_all_53 : decode cX9_all 53 = .ok (.putfield 200, 3) := by decide +kernel
theorem dX9_all_56 : decode cX9_all 56 = .ok (.return_, 1) := by decide +kernel
theorem dX9_behind_0 : decode cX9_behind 0 = .ok (.aload_n 0, 1) := by decide +kernel
theorem dX9_behind_1 : decode cX9_behind 1 = .ok (.iload_n 1, 1) := by decide +kernel
theorem dX9_behind_2 : decode cX9_behind 2 = .ok (.invokevirtual 120, 3) := by decide +kernel
theorem dX9_behind_5 : decode cX9_behind 5 = .ok (.ifCond .eq 11, 3) := by decide +kernel
theorem dX9_behind_8 : decode cX9_behind 8 = .ok (.aload_n 0, 1) := by decide +kernel
theorem dX9_behind_9 : decode cX9_behind 9 = .ok (.iload_n 2, 1) := by decide +kernel
theorem dX9_behind_10 : decode cX9_behind 10 = .ok (.invokevirtual 120, 3) := by decide +kernel
theorem dX9_behind_13 : decode cX9_behind 13 = .ok (.ifCond .ne 9, 3) := by decide +kernel
theorem dX9_behind_16 : decode cX9_behind 16 = .ok (.aload_n 0, 1) := by decide +kernel
theorem dX9_behind_17 : decode cX9_behind 17 = .ok (.iconst (-1), 1) := by decide +kernel
theorem dX9_behind_18 : decode cX9_behind 18 = .ok (.invokevirtual 99, 3) := by decide +kernel
theorem dX9_behind_21 : decode cX9_behind 21 = .ok (.ireturn, 1) := by decide +kernel
theorem dX9_behind_22 : decode cX9_behind 22 = .ok (.aload_n 0, 1) := by decide +kernel
theorem dX9_behind_23 : decode cX9_behind 23 = .ok (.iconst 0, 1) := by decide +kernel
theorem dX9_behind_24 : decode cX9_behind 24 = .ok (.putfield 200, 3) := by decide +kernel
theorem dX9_behind_27 : decode cX9_behind 27 = .ok (.aload_n 0, 1) := by decide +kernel
theorem dX9_behind_28 : decode cX9_behind 28 = .ok (.iload_n 1, 1) := by decide +kernel
theorem dX9_behind_29 : decode cX9_behind 29 = .ok (.invokevirtual 264, 3) := by decide +kernel
theorem dX9_behind_32 : decode cX9_behind 32 = .ok (.aload_n 0, 1) := by decide +kernel
theorem dX9_behind_33 : decode cX9_behind 33 = .ok (.iconst 0, 1) := by decide +kernel
theorem dX9_behind_34 : decode cX9_behind 34 = .ok (.iload_n 1, 1) := by decide +kernel
theorem dX9_behind_35 : decode cX9_behind 35 = .ok (.invokevirtual 123, 3) := by decide +kernel
theorem dX9_behind_38 : decode cX9_behind 38 = .ok (.aload_n 0, 1) := by decide +kernel
theorem dX9_behind_39 : decode cX9_behind 39 = .ok (.iconst 0, 1) := by decide +kernel
theorem dX9_behind_40 : decode cX9_behind 40 = .ok (.iload_n 2, 1) := by decide +kernel
theorem dX9_behind_41 : decode cX9_behind 41 = .ok (.invokevirtual 123, 3) := by decide +kernel
theorem dX9_behind_44 : decode cX9_behind 44 = .ok (.iadd, 1) := by decide +kernel
theorem dX9_behind_45 : decode cX9_behind 45 = .ok (.bipush 120, 2) := by decide +kernel
theorem dX9_behind_47 : decode cX9_behind 47 = .ok (.if_icmp .le 10, 3) := by decide +kernel
theorem dX9_behind_50 : decode cX9_behind 50 = .ok (.aload_n 0, 1) := by decide +kernel
theorem dX9_behind_51 : decode cX9_behind 51 = .ok (.bipush (-7), 2) := by decide +kernel
theorem dX9_behind_53 : decode cX9_behind 53 = .ok (.invokevirtual 99, 3) := by decide +kernel
theorem dX9_behind_56 : decode cX9_behind 56 = .ok (.ireturn, 1) := by decide +kernel
theorem dX9_behind_57 : decode cX9_behind 57 = .ok (.aload_n 0, 1) := by decide +kernel
theorem dX9_behind_58 : decode cX9_behind 58 = .ok (.iload_n 2, 1) := by decide +kernel
theorem dX9_behind_59 : decode cX9_behind 59 = .ok (.invokevirtual 264, 3) := by decide +kernel
theorem dX9_behind_62 : decode cX9_behind 62 = .ok (.aload_n 0, 1) := by decide +kernel
theorem dX9_behind_63 : decode cX9_behind 63 = .ok (.iconst 0, 1) := by decide +kernel
theorem dX9_behind_64 : decode cX9_behind 64 = .ok (.iconst (-1), 1) := by decide +kernel
theorem dX9_behind_65 : decode cX9_behind 65 = .ok (.invokevirtual 251, 3) := by decide +kernel
theorem dX9_behind_68 : decode cX9_behind 68 = .ok (.ireturn, 1) := by decide +kernel
theorem dX9_vanish_0 : decode cX9_vanish 0 = .ok (.aload_n 0, 1) := by decide +kernel
theorem dX9_vanish_1 : decode cX9_vanish 1 = .ok (.dup, 1) := by decide +kernel
theorem dX9_vanish_2 : decode cX9_vanish 2 = .ok (.getfield 200, 3) := by decide +kernel
theorem dX9_vanish_5 : decode cX9_vanish 5 = .ok (.iload_n 2, 1) := by decide +kernel
theorem dX9_vanish_6 : decode cX9_vanish 6 = .ok (.isub, 1) := by decide +kernel
theorem dX9_vanish_7 : decode cX9_vanish 7 = .ok (.putfield 200, 3) := by decide +kernel
theorem dX9_vanish_10 : decode cX9_vanish 10 = .ok (.bipush 7, 2) := by decide +kernel
theorem dX9_vanish_12 : decode cX9_vanish 12 = .ok (.iload_n 1, 1) := by decide +kernel
theorem dX9_vanish_13 : decode cX9_vanish 13 = .ok (.imul, 1) := by decide +kernel
theorem dX9_vanish_14 : decode cX9_vanish 14 = .ok (.istore_n 3, 1) := by decide +kernel
theorem dX9_vanish_15 : decode cX9_vanish 15 = .ok (.iload_n 3, 1) := by decide +kernel
theorem dX9_vanish_16 : decode cX9_vanish 16 = .ok (.bipush 7, 2) := by decide +kernel
theorem dX9_vanish_18 : decode cX9_vanish 18 = .ok (.aload_n 0, 1) := by decide +kernel
theorem dX9_vanish_19 : decode cX9_vanish 19 = .ok (.getfield 200, 3) := by decide +kernel
theorem dX9_vanish_22 : decode cX9_vanish 22 = .ok (.imul, 1) := by decide +kernel
theorem dX9_vanish_23 : decode cX9_vanish 23 = .ok (.if_icmp .ge 26, 3) := by decide +kernel
theorem dX9_vanish_26 : decode cX9_vanish 26 = .ok (.aload_n 0, 1) := by decide +kernel
theorem dX9_vanish_27 : decode cX9_vanish 27 = .ok (.getfield 62, 3) := by decide +kernel
theorem dX9_vanish_30 : decode cX9_vanish 30 = .ok (.iload_n 3, 1) := by decide +kernel
theorem dX9_vanish_31 : decode cX9_vanish 31 = .ok (.aload_n 0, 1) := by decide +kernel
theorem dX9_vanish_32 : decode cX9_vanish 32 = .ok (.getfield 62, 3) := by decide +kernel
theorem dX9_vanish_35 : decode cX9_vanish 35 = .ok (.iload_n 3, 1) := by decide +kernel
theorem dX9_vanish_36 : decode cX9_vanish 36 = .ok (.bipush 7, 2) := by decide +kernel
theorem dX9_vanish_38 : decode cX9_vanish 38 = .ok (.iload_n 2, 1) := by decide +kernel
theorem dX9_vanish_39 : decode cX9_vanish 39 = .ok (.imul, 1) := by decide +kernel
theorem dX9_vanish_40 : decode cX9_vanish 40 = .ok (.iadd, 1) := by decide +kernel
theorem dX9_vanish_41 : decode cX9_vanish 41 = .ok (.iaload, 1) := by decide +kernel
theorem dX9_vanish_42 : decode cX9_vanish 42 = .ok (.iastore, 1) := by decide +kernel
theorem dX9_vanish_43 : decode cX9_vanish 43 = .ok (.iinc 3 1, 3) := by decide +kernel
theorem dX9_vanish_46 : decode cX9_vanish 46 = .ok (.goto (-31), 3) := by decide +kernel
theorem dX9_vanish_49 : decode cX9_vanish 49 = .ok (.return_, 1) := by decide +kernel
theorem dX9_undoes_0 : decode cX9_undoes 0 = .ok (.aload_n 0, 1) := by decide +kernel
theorem dX9_undoes_1 : decode cX9_undoes 1 = .ok (.aload_n 0, 1) := by decide +kernel
theorem dX9_undoes_2 : decode cX9_undoes 2 = .ok (.getfield 62, 3) := by decide +kernel
theorem dX9_undoes_5 : decode cX9_undoes 5 = .ok (.bipush 7, 2) := by decide +kernel
theorem dX9_undoes_7 : decode cX9_undoes 7 = .ok (.iload_n 1, 1) := by decide +kernel
theorem dX9_undoes_8 : decode cX9_undoes 8 = .ok (.imul, 1) := by decide +kernel
theorem dX9_undoes_9 : decode cX9_undoes 9 = .ok (.invokevirtual 260, 3) := by decide +kernel
theorem dX9_undoes_12 : decode cX9_undoes 12 = .ok (.aload_n 0, 1) := by decide +kernel
theorem dX9_undoes_13 : decode cX9_undoes 13 = .ok (.dup, 1) := by decide +kernel
theorem dX9_undoes_14 : decode cX9_undoes 14 = .ok (.getfield 200, 3) := by decide +kernel
theorem dX9_undoes_17 : decode cX9_undoes 17 = .ok (.iconst 1, 1) := by decide +kernel
theorem dX9_undoes_18 : decode cX9_undoes 18 = .ok (.isub, 1) := by decide +kernel
theorem dX9_undoes_19 : decode cX9_undoes 19 = .ok (.putfield 200, 3) := by decide +kernel
theorem dX9_undoes_22 : decode cX9_undoes 22 = .ok (.iconst 0, 1) := by decide +kernel
theorem dX9_undoes_23 : decode cX9_undoes 23 = .ok (.istore_n 2, 1) := by decide +kernel
theorem dX9_undoes_24 : decode cX9_undoes 24 = .ok (.iload_n 2, 1) := by decide +kernel
theorem dX9_undoes_25 : decode cX9_undoes 25 = .ok (.bipush 7, 2) := by decide +kernel
theorem dX9_undoes_27 : decode cX9_undoes 27 = .ok (.if_icmp .ge 42, 3) := by decide +kernel
theorem dX9_undoes_30 : decode cX9_undoes 30 = .ok (.aload_n 0, 1) := by decide +kernel
theorem dX9_undoes_31 : decode cX9_undoes 31 = .ok (.getfield 62, 3) := by decide +kernel
theorem dX9_undoes_34 : decode cX9_undoes 34 = .ok (.bipush 7, 2) := by decide +kernel
theorem dX9_undoes_36 : decode cX9_undoes 36 = .ok (.aload_n 0, 1) := by decide +kernel
theorem dX9_undoes_37 : decode cX9_undoes 37 = .ok (.getfield 200, 3) := by decide +kernel
theorem dX9_undoes_40 : decode cX9_undoes 40 = .ok (.imul, 1) := by decide +kernel
theorem dX9_undoes_41 : decode cX9_undoes 41 = .ok (.iload_n 2, 1) := by decide +kernel
theorem dX9_undoes_42 : decode cX9_undoes 42 = .ok (.iadd, 1) := by decide +kernel
theorem dX9_undoes_43 : decode cX9_undoes 43 = .ok (.iaload, 1) := by decide +kernel
theorem dX9_undoes_44 : decode cX9_undoes 44 = .ok (.aload_n 0, 1) := by decide +kernel
theorem dX9_undoes_45 : decode cX9_undoes 45 = .ok (.getfield 62, 3) := by decide +kernel
theorem dX9_undoes_48 : decode cX9_undoes 48 = .ok (.bipush 7, 2) := by decide +kernel
theorem dX9_undoes_50 : decode cX9_undoes 50 = .ok (.iload_n 1, 1) := by decide +kernel
theorem dX9_undoes_51 : decode cX9_undoes 51 = .ok (.imul, 1) := by decide +kernel
theorem dX9_undoes_52 : decode cX9_undoes 52 = .ok (.bipush 7, 2) := by decide +kernel
theorem dX9_undoes_54 : decode cX9_undoes 54 = .ok (.iadd, 1) := by decide +kernel
theorem dX9_undoes_55 : decode cX9_undoes 55 = .ok (.iload_n 2, 1) := by decide +kernel
theorem dX9_undoes_56 : decode cX9_undoes 56 = .ok (.iadd, 1) := by decide +kernel
theorem dX9_undoes_57 : decode cX9_undoes 57 = .ok (.iaload, 1) := by decide +kernel
theorem dX9_undoes_58 : decode cX9_undoes 58 = .ok (.if_icmp .eq 5, 3) := by decide +kernel
theorem dX9_undoes_61 : decode cX9_undoes 61 = .ok (.iconst 0, 1) := by decide +kernel
theorem dX9_undoes_62 : decode cX9_undoes 62 = .ok (.ireturn, 1) := by decide +kernel
theorem dX9_undoes_63 : decode cX9_undoes 63 = .ok (.iinc 2 1, 3) := by decide +kernel
theorem dX9_undoes_66 : decode cX9_undoes 66 = .ok (.goto (-42), 3) := by decide +kernel
theorem dX9_undoes_69 : decode cX9_undoes 69 = .ok (.iconst 1, 1) := by decide +kernel
theorem dX9_undoes_70 : decode cX9_undoes 70 = .ok (.ireturn, 1) := by decide +kernel
theorem dX9_squeezes_0 : decode cX9_squeezes 0 = .ok (.iconst 0, 1) := by decide +kernel
theorem dX9_squeezes_1 : decode cX9_squeezes 1 = .ok (.istore_n 1, 1) := by decide +kernel
theorem dX9_squeezes_2 : decode cX9_squeezes 2 = .ok (.iload_n 1, 1) := by decide +kernel
theorem dX9_squeezes_3 : decode cX9_squeezes 3 = .ok (.iconst 1, 1) := by decide +kernel
theorem dX9_squeezes_4 : decode cX9_squeezes 4 = .ok (.iadd, 1) := by decide +kernel
theorem dX9_squeezes_5 : decode cX9_squeezes 5 = .ok (.aload_n 0, 1) := by decide +kernel
theorem dX9_squeezes_6 : decode cX9_squeezes 6 = .ok (.getfield 200, 3) := by decide +kernel
theorem dX9_squeezes_9 : decode cX9_squeezes 9 = .ok (.if_icmp .ge 126, 3) := by decide +kernel
theorem dX9_squeezes_12 : decode cX9_squeezes 12 = .ok (.bipush 7, 2) := by decide +kernel
theorem dX9_squeezes_14 : decode cX9_squeezes 14 = .ok (.iload_n 1, 1) := by decide +kernel
theorem dX9_squeezes_15 : decode cX9_squeezes 15 = .ok (.imul, 1) := by decide +kernel
theorem dX9_squeezes_16 : decode cX9_squeezes 16 = .ok (.istore_n 2, 1) := by decide +kernel
theorem dX9_squeezes_17 : decode cX9_squeezes 17 = .ok (.aload_n 0, 1) := by decide +kernel
