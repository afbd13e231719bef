theorem dX4_search_36 : decode cX4_search 36 = .ok (.iload_n 2, 1) := by decide +kernel
theorem dX4_search_37 : decode cX4_search 37 = .ok (.invokestatic 60, 3) := by decide +kernel
theorem dX4_search_40 : decode cX4_search 40 = .ok (.istore_n 3, 1) := by decide +kernel
theorem dX4_search_41 : decode cX4_search 41 = .ok (.iload_n 2, 1) := by decide +kernel
theorem dX4_search_42 : decode cX4_search 42 = .ok (.aload_n 0, 1) := by decide +kernel
theorem dX4_search_43 : decode cX4_search 43 = .ok (.getfield 28, 3) := by decide +kernel
theorem dX4_search_46 : decode cX4_search 46 = .ok (.iconst (-1), 1) := by decide +kernel
theorem dX4_search_47 : decode cX4_search 47 = .ok (.ixor, 1) := by decide +kernel
theorem dX4_search_48 : decode cX4_search 48 = .ok (.iand, 1) := by decide +kernel
theorem dX4_search_49 : decode cX4_search 49 = .ok (.ifCond .ne 54, 3) := by decide +kernel
theorem dX4_search_52 : decode cX4_search 52 = .ok (.iload_n 3, 1) := by decide +kernel
theorem dX4_search_53 : decode cX4_search 53 = .ok (.iload_n 1, 1) := by decide +kernel
theorem dX4_search_54 : decode cX4_search 54 = .ok (.if_icmp .gt 49, 3) := by decide +kernel
theorem dX4_search_57 : decode cX4_search 57 = .ok (.aload_n 0, 1) := by decide +kernel
theorem dX4_search_58 : decode cX4_search 58 = .ok (.iload_n 2, 1) := by decide +kernel
theorem dX4_search_59 : decode cX4_search 59 = .ok (.invokevirtual 66, 3) := by decide +kernel
theorem dX4_search_62 : decode cX4_search 62 = .ok (.ifCond .eq 41, 3) := by decide +kernel
theorem dX4_search_65 : decode cX4_search 65 = .ok (.aload_n 0, 1) := by decide +kernel
theorem dX4_search_66 : decode cX4_search 66 = .ok (.iload_n 3, 1) := by decide +kernel
theorem dX4_search_67 : decode cX4_search 67 = .ok (.iload_n 1, 1) := by decide +kernel
theorem dX4_search_68 : decode cX4_search 68 = .ok (.if_icmp .ge 7, 3) := by decide +kernel
theorem dX4_search_71 : decode cX4_search 71 = .ok (.iload_n 2, 1) := by decide +kernel
theorem dX4_search_72 : decode cX4_search 72 = .ok (.goto 9, 3) := by decide +kernel
theorem dX4_search_75 : decode cX4_search 75 = .ok (.aload_n 0, 1) := by decide +kernel
theorem dX4_search_76 : decode cX4_search 76 = .ok (.getfield 57, 3) := by decide +kernel
theorem dX4_search_79 : decode cX4_search 79 = .ok (.iload_n 2, 1) := by decide +kernel
theorem dX4_search_80 : decode cX4_search 80 = .ok (.iand, 1) := by decide +kernel
theorem dX4_search_81 : decode cX4_search 81 = .ok (.putfield 57, 3) := by decide +kernel
theorem dX4_search_84 : decode cX4_search 84 = .ok (.aload_n 0, 1) := by decide +kernel
theorem dX4_search_85 : decode cX4_search 85 = .ok (.iload_n 3, 1) := by decide +kernel
theorem dX4_search_86 : decode cX4_search 86 = .ok (.iload_n 1, 1) := by decide +kernel
theorem dX4_search_87 : decode cX4_search 87 = .ok (.if_icmp .ge 7, 3) := by decide +kernel
theorem dX4_search_90 : decode cX4_search 90 = .ok (.iload_n 2, 1) := by decide +kernel
theorem dX4_search_91 : decode cX4_search 91 = .ok (.goto 7, 3) := by decide +kernel
theorem dX4_search_94 : decode cX4_search 94 = .ok (.aload_n 0, 1) := by decide +kernel
theorem dX4_search_95 : decode cX4_search 95 = .ok (.getfield 54, 3) := by decide +kernel
theorem dX4_search_98 : decode cX4_search 98 = .ok (.putfield 54, 3) := by decide +kernel
theorem dX4_search_101 : decode cX4_search 101 = .ok (.iload_n 3, 1) := by decide +kernel
theorem dX4_search_102 : decode cX4_search 102 = .ok (.istore_n 1, 1) := by decide +kernel
theorem dX4_search_103 : decode cX4_search 103 = .ok (.iinc 2 1, 3) := by decide +kernel
theorem dX4_search_106 : decode cX4_search 106 = .ok (.goto (-78), 3) := by decide +kernel
theorem dX4_search_109 : decode cX4_search 109 = .ok (.return_, 1) := by decide +kernel
theorem dX5_init_0 : decode cX5_init 0 = .ok (.aload_n 0, 1) := by decide +kernel
theorem dX5_init_1 : decode cX5_init 1 = .ok (.invokespecial 3, 3) := by decide +kernel
theorem dX5_init_4 : decode cX5_init 4 = .ok (.aload_n 0, 1) := by decide +kernel
theorem dX5_init_5 : decode cX5_init 5 = .ok (.bipush 8, 2) := by decide +kernel
theorem dX5_init_7 : decode cX5_init 7 = .ok (.newarray .int, 2) := by decide +kernel
theorem dX5_init_9 : decode cX5_init 9 = .ok (.putfield 11, 3) := by decide +kernel
theorem dX5_init_12 : decode cX5_init 12 = .ok (.aload_n 0, 1) := by decide +kernel
theorem dX5_init_13 : decode cX5_init 13 = .ok (.bipush 12, 2) := by decide +kernel
theorem dX5_init_15 : decode cX5_init 15 = .ok (.newarray .int, 2) := by decide +kernel
theorem dX5_init_17 : decode cX5_init 17 = .ok (.putfield 15, 3) := by decide +kernel
theorem dX5_init_20 : decode cX5_init 20 = .ok (.aload_n 0, 1) := by decide +kernel
theorem dX5_init_21 : decode cX5_init 21 = .ok (.bipush 12, 2) := by decide +kernel
theorem dX5_init_23 : decode cX5_init 23 = .ok (.newarray .int, 2) := by decide +kernel
theorem dX5_init_25 : decode cX5_init 25 = .ok (.putfield 18, 3) := by decide +kernel
theorem dX5_init_28 : decode cX5_init 28 = .ok (.aload_n 0, 1) := by decide +kernel
theorem dX5_init_29 : decode cX5_init 29 = .ok (.bipush 12, 2) := by decide +kernel
theorem dX5_init_31 : decode cX5_init 31 = .ok (.newarray .int, 2) := by decide +kernel
theorem dX5_init_33 : decode cX5_init 33 = .ok (.putfield 21, 3) := by decide +kernel
theorem dX5_init_36 : decode cX5_init 36 = .ok (.aload_n 0, 1) := by decide +kernel
theorem dX5_init_37 : decode cX5_init 37 = .ok (.bipush 12, 2) := by decide +kernel
theorem dX5_init_39 : decode cX5_init 39 = .ok (.newarray .int, 2) := by decide +kernel
theorem dX5_init_41 : decode cX5_init 41 = .ok (.putfield 24, 3) := by decide +kernel
theorem dX5_init_44 : decode cX5_init 44 = .ok (.aload_n 0, 1) := by decide +kernel
theorem dX5_init_45 : decode cX5_init 45 = .ok (.sipush 729, 3) := by decide +kernel
theorem dX5_init_48 : decode cX5_init 48 = .ok (.newarray .int, 2) := by decide +kernel
theorem dX5_init_50 : decode cX5_init 50 = .ok (.putfield 27, 3) := by decide +kernel
theorem dX5_init_53 : decode cX5_init 53 = .ok (.aload_n 0, 1) := by decide +kernel
theorem dX5_init_54 : decode cX5_init 54 = .ok (.invokevirtual 30, 3) := by decide +kernel
theorem dX5_init_57 : decode cX5_init 57 = .ok (.return_, 1) := by decide +kernel
theorem dX5_forget_0 : decode cX5_forget 0 = .ok (.getstatic 33, 3) := by decide +kernel
theorem dX5_forget_3 : decode cX5_forget 3 = .ok (.iconst 0, 1) := by decide +kernel
theorem dX5_forget_4 : decode cX5_forget 4 = .ok (.aload_n 0, 1) := by decide +kernel
theorem dX5_forget_5 : decode cX5_forget 5 = .ok (.getfield 11, 3) := by decide +kernel
theorem dX5_forget_8 : decode cX5_forget 8 = .ok (.iconst 0, 1) := by decide +kernel
theorem dX5_forget_9 : decode cX5_forget 9 = .ok (.bipush 8, 2) := by decide +kernel
theorem dX5_forget_11 : decode cX5_forget 11 = .ok (.invokestatic 36, 3) := by decide +kernel
theorem dX5_forget_14 : decode cX5_forget 14 = .ok (.aload_n 0, 1) := by decide +kernel
theorem dX5_forget_15 : decode cX5_forget 15 = .ok (.getfield 27, 3) := by decide +kernel
theorem dX5_forget_18 : decode cX5_forget 18 = .ok (.iconst (-1), 1) := by decide +kernel
theorem dX5_forget_19 : decode cX5_forget 19 = .ok (.invokestatic 42, 3) := by decide +kernel
theorem dX5_forget_22 : decode cX5_forget 22 = .ok (.aload_n 0, 1) := by decide +kernel
theorem dX5_forget_23 : decode cX5_forget 23 = .ok (.iconst 0, 1) := by decide +kernel
theorem dX5_forget_24 : decode cX5_forget 24 = .ok (.putfield 48, 3) := by decide +kernel
theorem dX5_forget_27 : decode cX5_forget 27 = .ok (.aload_n 0, 1) := by decide +kernel
theorem dX5_forget_28 : decode cX5_forget 28 = .ok (.iconst 0, 1) := by decide +kernel
theorem dX5_forget_29 : decode cX5_forget 29 = .ok (.putfield 52, 3) := by decide +kernel
theorem dX5_forget_32 : decode cX5_forget 32 = .ok (.return_, 1) := by decide +kernel
theorem dX5_isChanged_0 : decode cX5_isChanged 0 = .ok (.iconst 0, 1) := by decide +kernel
theorem dX5_isChanged_1 : decode cX5_isChanged 1 = .ok (.istore_n 2, 1) := by decide +kernel
theorem dX5_isChanged_2 : decode cX5_isChanged 2 = .ok (.iload_n 2, 1) := by decide +kernel
theorem dX5_isChanged_3 : decode cX5_isChanged 3 = .ok (.aload_n 0, 1) := by decide +kernel
theorem dX5_isChanged_4 : decode cX5_isChanged 4 = .ok (.getfield 48, 3) := by decide +kernel
theorem dX5_isChanged_7 : decode cX5_isChanged 7 = .ok (.if_icmp .ge 21, 3) := by decide +kernel
theorem dX5_isChanged_10 : decode cX5_isChanged 10 = .ok (.aload_n 0, 1) := by decide +kernel
theorem dX5_isChanged_11 : decode cX5_isChanged 11 = .ok (.getfield 15, 3) := by decide +kernel
theorem dX5_isChanged_14 : decode cX5_isChanged 14 = .ok (.iload_n 2, 1) := by decide +kernel
theorem dX5_isChanged_15 : decode cX5_isChanged 15 = .ok (.iaload, 1) := by decide +kernel
theorem dX5_isChanged_16 : decode cX5_isChanged 16 = .ok (.iload_n 1, 1) := by decide +kernel
theorem dX5_isChanged_17 : decode cX5_isChanged 17 = .ok (.if_icmp .ne 5, 3) := by decide +kernel
theorem dX5_isChanged_20 : decode cX5_isChanged 20 = .ok (.iconst 1, 1) := by decide +kernel
theorem dX5_isChanged_21 : decode cX5_isChanged 21 = .ok (.ireturn, 1) := by decide +kernel
theorem dX5_isChanged_22 : decode cX5_isChanged 22 = .ok (.iinc 2 1, 3) := by decide +kernel
theorem dX5_isChanged_25 : decode cX5_isChanged 25 = .ok (.goto (-23), 3) := by decide +kernel
theorem dX5_isChanged_28 : decode cX5_isChanged 28 = .ok (.iconst 0, 1) := by decide +kernel
theorem dX5_isChanged_29 : decode cX5_isChanged 29 = .ok (.ireturn, 1) := by decide +kernel
theorem dX5_appendChange_0 : decode cX5_appendChange 0 = .ok (.aload_n 0, 1) := by decide +kernel
theorem dX5_appendChange_1 : decode cX5_appendChange 1 = .ok (.getfield 48, 3) := by decide +kernel
theorem dX5_appendChange_4 : decode cX5_appendChange 4 = .ok (.bipush 12, 2) := by decide +kernel
theorem dX5_appendChange_6 : decode cX5_appendChange 6 = .ok (.if_icmp .ge 54, 3) := by decide +kernel
theorem dX5_appendChange_9 : decode cX5_appendChange 9 = .ok (.aload_n 0, 1) := by decide +kernel
theorem dX5_appendChange_10 : decode cX5_appendChange 10 = .ok (.getfield 15, 3) := by decide +kernel
theorem dX5_appendChange_13 : decode cX5_appendChange 13 = .ok (.aload_n 0, 1) := by decide +kernel
theorem dX5_appendChange_14 : decode cX5_appendChange 14 = .ok (.getfield 48, 3) := by decide +kernel
theorem dX5_appendChange_17 : decode cX5_appendChange 17 = .ok (.iload_n 1, 1) := by decide +kernel
theorem dX5_appendChange_18 : decode cX5_appendChange 18 = .ok (.iastore, 1) := by decide +kernel
theorem dX5_appendChange_19 : decode cX5_appendChange 19 = .ok (.aload_n 0, 1) := by decide +kernel
theorem dX5_appendChange_20 : decode cX5_appendChange 20 = .ok (.getfield 18, 3) := by decide +kernel
theorem dX5_appendChange_23 : decode cX5_appendChange 23 = .ok (.aload_n 0, 1) := by decide +kernel
theorem dX5_appendChange_24 : decode cX5_appendChange 24 = .ok (.getfield 48, 3) := by decide +kernel
theorem dX5_appendChange_27 : decode cX5_appendChange 27 = .ok (.iload_n 2, 1) := by decide +kernel
theorem dX5_appendChange_28 : decode cX5_appendChange 28 = .ok (.iastore, 1) := by decide +kernel
theorem dX5_appendChange_29 : decode cX5_appendChange 29 = .ok (.aload_n 0, 1) := by decide +kernel
theorem dX5_appendChange_30 : decode cX5_appendChange 30 = .ok (.getfield 21, 3) := by decide +kernel
theorem dX5_appendChange_33 : decode cX5_appendChange 33 = .ok (.aload_n 0, 1) := by decide +kernel
theorem dX5_appendChange_34 : decode cX5_appendChange 34 = .ok (.getfield 48, 3) := by decide +kernel
theorem dX5_appendChange_37 : decode cX5_appendChange 37 = .ok (.iload_n 3, 1) := by decide +kernel
theorem dX5_appendChange_38 : decode cX5_appendChange 38 = .ok (.iastore, 1) := by decide +kernel
theorem dX5_appendChange_39 : decode cX5_appendChange 39 = .ok (.aload_n 0, 1) := by decide +kernel
theorem dX5_appendChange_40 : decode cX5_appendChange 40 = .ok (.getfield 24, 3) := by decide +kernel
theorem dX5_appendChange_43 : decode cX5_appendChange 43 = .ok (.aload_n 0, 1) := by decide +kernel
theorem dX5_appendChange_44 : decode cX5_appendChange 44 = .ok (.getfield 48, 3) := by decide +kernel
theorem dX5_appendChange_47 : decode cX5_appendChange 47 = .ok (.iload 4, 2) := by decide +kernel
theorem dX5_appendChange_49 : decode cX5_appendChange 49 = .ok (.iastore, 1) := by decide +kernel
theorem dX5_appendChange_50 : decode cX5_appendChange 50 = .ok (.aload_n 0, 1) := by decide +kernel
theorem dX5_appendChange_51 : decode cX5_appendChange 51 = .ok (.dup, 1) := by decide +kernel
theorem dX5_appendChange_52 : decode cX5_appendChange 52 = .ok (.getfield 48, 3) := by decide +kernel
theorem dX5_appendChange_55 : decode cX5_appendChange 55 = .ok (.iconst 1, 1) := by decide +kernel
theorem dX5_appendChange_56 : decode cX5_appendChange 56 = .ok (.iadd, 1) := by decide +kernel
theorem dX5_appendChange_57 : decode cX5_appendChange 57 = .ok (.putfield 48, 3) := by decide +kernel
theorem dX5_appendChange_60 : decode cX5_appendChange 60 = .ok (.return_, 1) := by decide +kernel
theorem dX5_isLike_0 : decode cX5_isLike 0 = .ok (.aload_n 0, 1) := by decide +kernel
theorem dX5_isLike_1 : decode cX5_isLike 1 = .ok (.getfield 27, 3) := by decide +kernel
theorem dX5_isLike_4 : decode cX5_isLike 4 = .ok (.iload_n 1, 1) := by decide +kernel
theorem dX5_isLike_5 : decode cX5_isLike 5 = .ok (.bipush 27, 2) := by decide +kernel
theorem dX5_isLike_7 : decode cX5_isLike 7 = .ok (.imul, 1) := by decide +kernel
theorem dX5_isLike_8 : decode cX5_isLike 8 = .ok (.iload_n 2, 1) := by decide +kernel
theorem dX5_isLike_9 : decode cX5_isLike 9 = .ok (.iadd, 1) := by decide +kernel
theorem dX5_isLike_10 : decode cX5_isLike 10 = .ok (.iaload, 1) := by decide +kernel
theorem dX5_isLike_11 : decode cX5_isLike 11 = .ok (.iconst (-1), 1) := by decide +kernel
theorem dX5_isLike_12 : decode cX5_isLike 12 = .ok (.if_icmp .eq 7, 3) := by decide +kernel
theorem dX5_isLike_15 : decode cX5_isLike 15 = .ok (.iconst 1, 1) := by decide +kernel
theorem dX5_isLike_16 : decode cX5_isLike 16 = .ok (.goto 4, 3) := by decide +kernel
theorem dX5_isLike_19 : decode cX5_isLike 19 = .ok (.iconst 0, 1) := by decide +kernel
theorem dX5_isLike_20 : decode cX5_isLike 20 = .ok (.ireturn, 1) := by decide +kernel
theorem dX5_appendLike_0 : decode cX5_appendLike 0 = .ok (.aload_n 0, 1) := by decide +kernel
theorem dX5_appendLike_1 : decode cX5_appendLike 1 = .ok (.getfield 27, 3) := by decide +kernel
theorem dX5_appendLike_4 : decode cX5_appendLike 4 = .ok (.iload_n 1, 1) := by decide +kernel
theorem dX5_appendLike_5 : decode cX5_appendLike 5 = .ok (.bipush 27, 2) := by decide +kernel
theorem dX5_appendLike_7 : decode cX5_appendLike 7 = .ok (.imul, 1) := by decide +kernel
theorem dX5_appendLike_8 : decode cX5_appendLike 8 = .ok (.iload_n 2, 1) := by decide +kernel
theorem dX5_appendLike_9 : decode cX5_appendLike 9 = .ok (.iadd, 1) := by decide +kernel
theorem dX5_appendLike_10 : decode cX5_appendLike 10 = .ok (.iload_n 3, 1) := by decide +kernel
theorem dX5_appendLike_11 : decode cX5_appendLike 11 = .ok (.iastore, 1) := by decide +kernel
theorem dX5_appendLike_12 : decode cX5_appendLike 12 = .ok (.aload_n 0, 1) := by decide +kernel
theorem dX5_appendLike_13 : decode cX5_appendLike 13 = .ok (.getfield 27, 3) := by decide +kernel
theorem dX5_appendLike_16 : decode cX5_appendLike 16 = .ok (.iload_n 2, 1) := by decide +kernel
theorem dX5_appendLike_17 : decode cX5_appendLike 17 = .ok (.bipush 27, 2) := by decide +kernel
theorem dX5_appendLike_19 : decode cX5_appendLike 19 = .ok (.imul, 1) := by decide +kernel
theorem dX5_appendLike_20 : decode cX5_appendLike 20 = .ok (.iload_n 1, 1) := by decide +kernel
theorem dX5_appendLike_21 : decode cX5_appendLike 21 = .ok (.iadd, 1) := by decide +kernel
theorem dX5_appendLike_22 : decode cX5_appendLike 22 = .ok (.iload_n 3, 1) := by decide +kernel
theorem dX5_appendLike_23 : decode cX5_appendLike 23 = .ok (.iastore, 1) := by decide +kernel
theorem dX5_appendLike_24 : decode cX5_appendLike 24 = .ok (.aload_n 0, 1) := by decide +kernel
theorem dX5_appendLike_25 : decode cX5_appendLike 25 = .ok (.dup, 1) := by decide +kernel
theorem dX5_appendLike_26 : decode cX5_appendLike 26 = .ok (.getfield 52, 3) := by decide +kernel
theorem dX5_appendLike_29 : decode cX5_appendLike 29 = .ok (.iconst 1, 1) := by decide +kernel
theorem dX5_appendLike_30 : decode cX5_appendLike 30 = .ok (.iadd, 1) := by decide +kernel
theorem dX5_appendLike_31 : decode cX5_appendLike 31 = .ok (.putfield 52, 3) := by decide +kernel
theorem dX5_appendLike_34 : decode cX5_appendLike 34 = .ok (.return_, 1) := by decide +kernel
theorem dX5_swapCost_0 : decode cX5_swapCost 0 = .ok (.iload_n 1, 1) := by decide +kernel
theorem dX5_swapCost_1 : decode cX5_swapCost 1 = .ok (.iload_n 2, 1) := by decide +kernel
theorem dX5_swapCost_2 : decode cX5_swapCost 2 = .ok (.if_icmp .ne 5, 3) := by decide +kernel
theorem dX5_swapCost_5 : decode cX5_swapCost 5 = .ok (.iconst 0, 1) := by decide +kernel
theorem dX5_swapCost_6 : decode cX5_swapCost 6 = .ok (.ireturn, 1) := by decide +kernel
theorem dX5_swapCost_7 : decode cX5_swapCost 7 = .ok (.aload_n 0, 1) := by decide +kernel
theorem dX5_swapCost_8 : decode cX5_swapCost 8 = .ok (.iload_n 1, 1) := by decide +kernel
theorem dX5_swapCost_9 : decode cX5_swapCost 9 = .ok (.iload_n 2, 1) := by decide +kernel
theorem dX5_swapCost_10 : decode cX5_swapCost 10 = .ok (.invokevirtual 55, 3) := by decide +kernel
theorem dX5_swapCost_13 : decode cX5_swapCost 13 = .ok (.ifCond .eq 17, 3) := by decide +kernel
theorem dX5_swapCost_16 : decode cX5_swapCost 16 = .ok (.aload_n 0, 1) := by decide +kernel
theorem dX5_swapCost_17 : decode cX5_swapCost 17 = .ok (.getfield 27, 3) := by decide +kernel
theorem dX5_swapCost_20 : decode cX5_swapCost 20 = .ok (.iload_n 1, 1) := by decide +kernel
theorem dX5_swapCost_21 : decode cX5_swapCost 21 = .ok (.bipush 27, 2) := by decide +kernel
theorem dX5_swapCost_23 : decode cX5_swapCost 23 = .ok (.imul, 1) := by decide +kernel
theorem dX5_swapCost_24 : decode cX5_swapCost 24 = .ok (.iload_n 2, 1) := by decide +kernel
theorem dX5_swapCost_25 : decode cX5_swapCost 25 = .ok (.iadd, 1) := by decide +kernel
theorem dX5_swapCost_26 : decode cX5_swapCost 26 = .ok (.iaload, 1) := by decide +kernel
theorem dX5_swapCost_27 : decode cX5_swapCost 27 = .ok (.goto 9, 3) := by decide +kernel
theorem dX5_swapCost_30 : decode cX5_swapCost 30 = .ok (.aload_n 0, 1) := by decide +kernel
theorem dX5_swapCost_31 : decode cX5_swapCost 31 = .ok (.getfield 11, 3) := by decide +kernel
theorem dX5_swapCost_34 : decode cX5_swapCost 34 = .ok (.iconst 1, 1) := by decide +kernel
theorem dX5_swapCost_35 : decode cX5_swapCost 35 = .ok (.iaload, 1) := by decide +kernel
theorem dX5_swapCost_36 : decode cX5_swapCost 36 = .ok (.ireturn, 1) := by decide +kernel
theorem dX5_changeAt_0 : decode cX5_changeAt 0 = .ok (.bipush (-4), 2) := by decide +kernel
theorem dX5_changeAt_2 : decode cX5_changeAt 2 = .ok (.istore 4, 2) := by decide +kernel
theorem dX5_changeAt_4 : decode cX5_changeAt 4 = .ok (.iconst 0, 1) := by decide +kernel
theorem dX5_changeAt_5 : decode cX5_changeAt 5 = .ok (.istore 5, 2) := by decide +kernel
theorem dX5_changeAt_7 : decode cX5_changeAt 7 = .ok (.iload 5, 2) := by decide +kernel
theorem dX5_changeAt_9 : decode cX5_changeAt 9 = .ok (.aload_n 0, 1) := by decide +kernel
theorem dX5_changeAt_10 : decode cX5_changeAt 10 = .ok (.getfield 48, 3) := by decide +kernel
theorem dX5_changeAt_13 : decode cX5_changeAt 13 = .ok (.if_icmp .ge 71, 3) := by decide +kernel
theorem dX5_changeAt_16 : decode cX5_changeAt 16 = .ok (.iload 4, 2) := by decide +kernel
theorem dX5_changeAt_18 : decode cX5_changeAt 18 = .ok (.bipush (-4), 2) := by decide +kernel
theorem dX5_changeAt_20 : decode cX5_changeAt 20 = .ok (.if_icmp .eq 20, 3) := by decide +kernel
theorem dX5_changeAt_23 : decode cX5_changeAt 23 = .ok (.aload_n 0, 1) := by decide +kernel
theorem dX5_changeAt_24 : decode cX5_changeAt 24 = .ok (.getfield 18, 3) := by decide +kernel
theorem dX5_changeAt_27 : decode cX5_changeAt 27 = .ok (.iload 5, 2) := by decide +kernel
theorem dX5_changeAt_29 : decode cX5_changeAt 29 = .ok (.iaload, 1) := by decide +kernel
theorem dX5_changeAt_30 : decode cX5_changeAt 30 = .ok (.aload_n 0, 1) := by decide +kernel
theorem dX5_changeAt_31 : decode cX5_changeAt 31 = .ok (.getfield 18, 3) := by decide +kernel
theorem dX5_changeAt_34 : decode cX5_changeAt 34 = .ok (.iload 4, 2) := by decide +kernel
theorem dX5_changeAt_36 : decode cX5_changeAt 36 = .ok (.iaload, 1) := by decide +kernel
theorem dX5_changeAt_37 : decode cX5_changeAt 37 = .ok (.if_icmp .le 7, 3) := by decide +kernel
theorem dX5_changeAt_40 : decode cX5_changeAt 40 = .ok (.iconst 1, 1) := by decide +kernel
theorem dX5_changeAt_41 : decode cX5_changeAt 41 = .ok (.goto 4, 3) := by decide +kernel
theorem dX5_changeAt_44 : decode cX5_changeAt 44 = .ok (.iconst 0, 1) := by decide +kernel
theorem dX5_changeAt_45 : decode cX5_changeAt 45 = .ok (.istore 6, 2) := by decide +kernel
theorem dX5_changeAt_47 : decode cX5_changeAt 47 = .ok (.iload 6, 2) := by decide +kernel
theorem dX5_changeAt_49 : decode cX5_changeAt 49 = .ok (.ifCond .eq 29, 3) := by decide +kernel
theorem dX5_changeAt_52 : decode cX5_changeAt 52 = .ok (.aload_n 0, 1) := by decide +kernel
theorem dX5_changeAt_53 : decode cX5_changeAt 53 = .ok (.getfield 18, 3) := by decide +kernel
theorem dX5_changeAt_56 : decode cX5_changeAt 56 = .ok (.iload 5, 2) := by decide +kernel
theorem dX5_changeAt_58 : decode cX5_changeAt 58 = .ok (.iaload, 1) := by decide +kernel
theorem dX5_changeAt_59 : decode cX5_changeAt 59 = .ok (.iload_n 3, 1) := by decide +kernel
theorem dX5_changeAt_60 : decode cX5_changeAt 60 = .ok (.if_icmp .gt 18, 3) := by decide +kernel
theorem dX5_changeAt_63 : decode cX5_changeAt 63 = .ok (.aload_n 0, 1) := by decide +kernel
theorem dX5_changeAt_64 : decode cX5_changeAt 64 = .ok (.iload 5, 2) := by decide +kernel
theorem dX5_changeAt_66 : decode cX5_changeAt 66 = .ok (.lload_n 1, 1) := by decide +kernel
theorem dX5_changeAt_67 : decode cX5_changeAt 67 = .ok (.iload_n 3, 1) := by decide +kernel
theorem dX5_changeAt_68 : decode cX5_changeAt 68 = .ok (.invokevirtual 59, 3) := by decide +kernel
theorem dX5_changeAt_71 : decode cX5_changeAt 71 = .ok (.ifCond .eq 7, 3) := by decide +kernel
theorem dX5_changeAt_74 : decode cX5_changeAt 74 = .ok (.iload 5, 2) := by decide +kernel
theorem dX5_changeAt_76 : decode cX5_changeAt 76 = .ok (.istore 4, 2) := by decide +kernel
theorem dX5_changeAt_78 : decode cX5_changeAt 78 = .ok (.iinc 5 1, 3) := by decide +kernel
theorem dX5_changeAt_81 : decode cX5_changeAt 81 = .ok (.goto (-74), 3) := by decide +kernel
theorem dX5_changeAt_84 : decode cX5_changeAt 84 = .ok (.iload 4, 2) := by decide +kernel
theorem dX5_changeAt_86 : decode cX5_changeAt 86 = .ok (.ireturn, 1) := by decide +kernel
theorem dX5_standsAt_0 : decode cX5_standsAt 0 = .ok (.lconst 1, 1) := by decide +kernel
theorem dX5_standsAt_1 : decode cX5_standsAt 1 = .ok (.iconst 5, 1) := by decide +kernel
theorem dX5_standsAt_2 : decode cX5_standsAt 2 = .ok (.aload_n 0, 1) := by decide +kernel
theorem dX5_standsAt_3 : decode cX5_standsAt 3 = .ok (.getfield 18, 3) := by decide +kernel
theorem dX5_standsAt_6 : decode cX5_standsAt 6 = .ok (.iload_n 1, 1) := by decide +kernel
theorem dX5_standsAt_7 : decode cX5_standsAt 7 = .ok (.iaload, 1) := by decide +kernel
theorem dX5_standsAt_8 : decode cX5_standsAt 8 = .ok (.imul, 1) := by decide +kernel
theorem dX5_standsAt_9 : decode cX5_standsAt 9 = .ok (.lshl, 1) := by decide +kernel
theorem dX5_standsAt_10 : decode cX5_standsAt 10 = .ok (.lconst 1, 1) := by decide +kernel
theorem dX5_standsAt_11 : decode cX5_standsAt 11 = .ok (.lsub, 1) := by decide +kernel
theorem dX5_standsAt_12 : decode cX5_standsAt 12 = .ok (.lstore 5, 2) := by decide +kernel
theorem dX5_standsAt_14 : decode cX5_standsAt 14 = .ok (.lload_n 2, 1) := by decide +kernel
theorem dX5_standsAt_15 : decode cX5_standsAt 15 = .ok (.iconst 5, 1) := by decide +kernel
theorem dX5_standsAt_16 : decode cX5_standsAt 16 = .ok (.iload 4, 2) := by decide +kernel
theorem dX5_standsAt_18 : decode cX5_standsAt 18 = .ok (.aload_n 0, 1) := by decide +kernel
theorem dX5_standsAt_19 : decode cX5_standsAt 19 = .ok (.getfield 18, 3) := by decide +kernel
theorem dX5_standsAt_22 : decode cX5_standsAt 22 = .ok (.iload_n 1, 1) := by decide +kernel
theorem dX5_standsAt_23 : decode cX5_standsAt 23 = .ok (.iaload, 1) := by decide +kernel
theorem dX5_standsAt_24 : decode cX5_standsAt 24 = .ok (.isub, 1) := by decide +kernel
theorem dX5_standsAt_25 : decode cX5_standsAt 25 = .ok (.imul, 1) := by decide +kernel
theorem dX5_standsAt_26 : decode cX5_standsAt 26 = .ok (.lshr, 1) := by decide +kernel
theorem dX5_standsAt_27 : decode cX5_standsAt 27 = .ok (.lload 5, 2) := by decide +kernel
theorem dX5_standsAt_29 : decode cX5_standsAt 29 = .ok (.land, 1) := by decide +kernel
theorem dX5_standsAt_30 : decode cX5_standsAt 30 = .ok (.aload_n 0, 1) := by decide +kernel
theorem dX5_standsAt_31 : decode cX5_standsAt 31 = .ok (.getfield 15, 3) := by decide +kernel
theorem dX5_standsAt_34 : decode cX5_standsAt 34 = .ok (.iload_n 1, 1) := by decide +kernel
theorem dX5_standsAt_35 : decode cX5_standsAt 35 = .ok (.iaload, 1) := by decide +kernel
theorem dX5_standsAt_36 : decode cX5_standsAt 36 = .ok (.i2l, 1) := by decide +kernel
theorem dX5_standsAt_37 : decode cX5_standsAt 37 = .ok (.lcmp, 1) := by decide +kernel
theorem dX5_standsAt_38 : decode cX5_standsAt 38 = .ok (.ifCond .ne 7, 3) := by decide +kernel
theorem dX5_standsAt_41 : decode cX5_standsAt 41 = .ok (.iconst 1, 1) := by decide +kernel
theorem dX5_standsAt_42 : decode cX5_standsAt 42 = .ok (.goto 4, 3) := by decide +kernel
theorem dX5_standsAt_45 : decode cX5_standsAt 45 = .ok (.iconst 0, 1) := by decide +kernel
theorem dX5_standsAt_46 : decode cX5_standsAt 46 = .ok (.ireturn, 1) := by decide +kernel
theorem dX6_init_0 : decode cX6_init 0 = .ok (.aload_n 0, 1) := by decide +kernel
theorem dX6_init_1 : decode cX6_init 1 = .ok (.invokespecial 3, 3) := by decide +kernel
theorem dX6_init_4 : decode cX6_init 4 = .ok (.aload_n 0, 1) := by decide +kernel
theorem dX6_init_5 : decode cX6_init 5 = .ok (.bipush 64, 2) := by decide +kernel
theorem dX6_init_7 : decode cX6_init 7 = .ok (.newarray .int, 2) := by decide +kernel
theorem dX6_init_9 : decode cX6_init 9 = .ok (.putfield 11, 3) := by decide +kernel
theorem dX6_init_12 : decode cX6_init 12 = .ok (.aload_n 0, 1) := by decide +kernel
theorem dX6_init_13 : decode cX6_init 13 = .ok (.bipush (-4), 2) := by decide +kernel
theorem dX6_init_15 : decode cX6_init 15 = .ok (.putfield 15, 3) := by decide +kernel
theorem dX6_init_18 : decode cX6_init 18 = .ok (.return_, 1) := by decide +kernel
theorem dX6_isLane_0 : decode cX6_isLane 0 = .ok (.iload_n 0, 1) := by decide +kernel
theorem dX6_isLane_1 : decode cX6_isLane 1 = .ok (.ifCond .lt 12, 3) := by decide +kernel
theorem dX6_isLane_4 : decode cX6_isLane 4 = .ok (.iload_n 0, 1) := by decide +kernel
theorem dX6_isLane_5 : decode cX6_isLane 5 = .ok (.iconst 2, 1) := by decide +kernel
theorem dX6_isLane_6 : decode cX6_isLane 6 = .ok (.if_icmp .gt 7, 3) := by decide +kernel
theorem dX6_isLane_9 : decode cX6_isLane 9 = .ok (.iconst 1, 1) := by decide +kernel
theorem dX6_isLane_10 : decode cX6_isLane 10 = .ok (.goto 4, 3) := by decide +kernel
theorem dX6_isLane_13 : decode cX6_isLane 13 = .ok (.iconst 0, 1) := by decide +kernel
theorem dX6_isLane_14 : decode cX6_isLane 14 = .ok (.ireturn, 1) := by decide +kernel
theorem dX6_renew_0 : decode cX6_renew 0 = .ok (.aload_n 0, 1) := by decide +kernel
theorem dX6_renew_1 : decode cX6_renew 1 = .ok (.getfield 11, 3) := by decide +kernel
theorem dX6_renew_4 : decode cX6_renew 4 = .ok (.iconst 0, 1) := by decide +kernel
theorem dX6_renew_5 : decode cX6_renew 5 = .ok (.invokestatic 19, 3) := by decide +kernel
theorem dX6_renew_8 : decode cX6_renew 8 = .ok (.aload_n 0, 1) := by decide +kernel
theorem dX6_renew_9 : decode cX6_renew 9 = .ok (.iload_n 1, 1) := by decide +kernel
theorem dX6_renew_10 : decode cX6_renew 10 = .ok (.putfield 25, 3) := by decide +kernel
theorem dX6_renew_13 : decode cX6_renew 13 = .ok (.aload_n 0, 1) := by decide +kernel
theorem dX6_renew_14 : decode cX6_renew 14 = .ok (.iload_n 2, 1) := by decide +kernel
theorem dX6_renew_15 : decode cX6_renew 15 = .ok (.putfield 15, 3) := by decide +kernel
theorem dX6_renew_18 : decode cX6_renew 18 = .ok (.return_, 1) := by decide +kernel
theorem dX6_faultAt_0 : decode cX6_faultAt 0 = .ok (.aload_n 0, 1) := by decide +kernel
theorem dX6_faultAt_1 : decode cX6_faultAt 1 = .ok (.getfield 15, 3) := by decide +kernel
theorem dX6_faultAt_4 : decode cX6_faultAt 4 = .ok (.bipush (-4), 2) := by decide +kernel
theorem dX6_faultAt_6 : decode cX6_faultAt 6 = .ok (.if_icmp .ne 5, 3) := by decide +kernel
theorem dX6_faultAt_9 : decode cX6_faultAt 9 = .ok (.iconst 1, 1) := by decide +kernel
theorem dX6_faultAt_10 : decode cX6_faultAt 10 = .ok (.ireturn, 1) := by decide +kernel
theorem dX6_faultAt_11 : decode cX6_faultAt 11 = .ok (.iload_n 1, 1) := by decide +kernel
theorem dX6_faultAt_12 : decode cX6_faultAt 12 = .ok (.aload_n 0, 1) := by decide +kernel
theorem dX6_faultAt_13 : decode cX6_faultAt 13 = .ok (.getfield 25, 3) := by decide +kernel
theorem dX6_faultAt_16 : decode cX6_faultAt 16 = .ok (.if_icmp .eq 5, 3) := by decide +kernel
theorem dX6_faultAt_19 : decode cX6_faultAt 19 = .ok (.iconst 3, 1) := by decide +kernel
theorem dX6_faultAt_20 : decode cX6_faultAt 20 = .ok (.ireturn, 1) := by decide +kernel
theorem dX6_faultAt_21 : decode cX6_faultAt 21 = .ok (.iload_n 2, 1) := by decide +kernel
theorem dX6_faultAt_22 : decode cX6_faultAt 22 = .ok (.ifCond .lt 11, 3) := by decide +kernel
theorem dX6_faultAt_25 : decode cX6_faultAt 25 = .ok (.iload_n 2, 1) := by decide +kernel
theorem dX6_faultAt_26 : decode cX6_faultAt 26 = .ok (.aload_n 0, 1) := by decide +kernel
theorem dX6_faultAt_27 : decode cX6_faultAt 27 = .ok (.getfield 15, 3) := by decide +kernel
theorem dX6_faultAt_30 : decode cX6_faultAt 30 = .ok (.if_icmp .lt 7, 3) := by decide +kernel
theorem dX6_faultAt_33 : decode cX6_faultAt 33 = .ok (.iconst 2, 1) := by decide +kernel
theorem dX6_faultAt_34 : decode cX6_faultAt 34 = .ok (.goto 4, 3) := by decide +kernel
theorem dX6_faultAt_37 : decode cX6_faultAt 37 = .ok (.iconst 0, 1) := by decide +kernel
theorem dX6_faultAt_38 : decode cX6_faultAt 38 = .ok (.ireturn, 1) := by decide +kernel
theorem dX6_put_0 : decode cX6_put 0 = .ok (.iload_n 1, 1) := by decide +kernel
theorem dX6_put_1 : decode cX6_put 1 = .ok (.ifCond .lt 43, 3) := by decide +kernel
theorem dX6_put_4 : decode cX6_put 4 = .ok (.iload_n 1, 1) := by decide +kernel
theorem dX6_put_5 : decode cX6_put 5 = .ok (.aload_n 0, 1) := by decide +kernel
theorem dX6_put_6 : decode cX6_put 6 = .ok (.getfield 15, 3) := by decide +kernel
theorem dX6_put_9 : decode cX6_put 9 = .ok (.if_icmp .ge 35, 3) := by decide +kernel
theorem dX6_put_12 : decode cX6_put 12 = .ok (.aload_n 0, 1) := by decide +kernel
theorem dX6_put_13 : decode cX6_put 13 = .ok (.getfield 11, 3) := by decide +kernel
theorem dX6_put_16 : decode cX6_put 16 = .ok (.iload_n 1, 1) := by decide +kernel
theorem dX6_put_17 : decode cX6_put 17 = .ok (.aload_n 0, 1) := by decide +kernel
theorem dX6_put_18 : decode cX6_put 18 = .ok (.getfield 25, 3) := by decide +kernel
theorem dX6_put_21 : decode cX6_put 21 = .ok (.ifCond .ne 8, 3) := by decide +kernel
theorem dX6_put_24 : decode cX6_put 24 = .ok (.iload_n 2, 1) := by decide +kernel
theorem dX6_put_25 : decode cX6_put 25 = .ok (.i2b, 1) := by decide +kernel
theorem dX6_put_26 : decode cX6_put 26 = .ok (.goto 17, 3) := by decide +kernel
theorem dX6_put_29 : decode cX6_put 29 = .ok (.aload_n 0, 1) := by decide +kernel
theorem dX6_put_30 : decode cX6_put 30 = .ok (.getfield 25, 3) := by decide +kernel
theorem dX6_put_33 : decode cX6_put 33 = .ok (.iconst 1, 1) := by decide +kernel
theorem dX6_put_34 : decode cX6_put 34 = .ok (.if_icmp .ne 8, 3) := by decide +kernel
theorem dX6_put_37 : decode cX6_put 37 = .ok (.iload_n 2, 1) := by decide +kernel
theorem dX6_put_38 : decode cX6_put 38 = .ok (.i2s, 1) := by decide +kernel
theorem dX6_put_39 : decode cX6_put 39 = .ok (.goto 4, 3) := by decide +kernel
theorem dX6_put_42 : decode cX6_put 42 = .ok (.iload_n 2, 1) := by decide +kernel
theorem dX6_put_43 : decode cX6_put 43 = .ok (.iastore, 1) := by decide +kernel
theorem dX6_put_44 : decode cX6_put 44 = .ok (.return_, 1) := by decide +kernel
theorem dX6_cellAt_0 : decode cX6_cellAt 0 = .ok (.iload_n 1, 1) := by decide +kernel
theorem dX6_cellAt_1 : decode cX6_cellAt 1 = .ok (.ifCond .lt 20, 3) := by decide +kernel
theorem dX6_cellAt_4 : decode cX6_cellAt 4 = .ok (.iload_n 1, 1) := by decide +kernel
theorem dX6_cellAt_5 : decode cX6_cellAt 5 = .ok (.aload_n 0, 1) := by decide +kernel
theorem dX6_cellAt_6 : decode cX6_cellAt 6 = .ok (.getfield 15, 3) := by decide +kernel
theorem dX6_cellAt_9 : decode cX6_cellAt 9 = .ok (.if_icmp .ge 12, 3) := by decide +kernel
theorem dX6_cellAt_12 : decode cX6_cellAt 12 = .ok (.aload_n 0, 1) := by decide +kernel
theorem dX6_cellAt_13 : decode cX6_cellAt 13 = .ok (.getfield 11, 3) := by decide +kernel
theorem dX6_cellAt_16 : decode cX6_cellAt 16 = .ok (.iload_n 1, 1) := by decide +kernel
theorem dX6_cellAt_17 : decode cX6_cellAt 17 = .ok (.iaload, 1) := by decide +kernel
theorem dX6_cellAt_18 : decode cX6_cellAt 18 = .ok (.goto 4, 3) := by decide +kernel
theorem dX6_cellAt_21 : decode cX6_cellAt 21 = .ok (.iconst (-1), 1) := by decide +kernel
theorem dX6_cellAt_22 : decode cX6_cellAt 22 = .ok (.ireturn, 1) := by decide +kernel
theorem dX7_init_0 : decode cX7_init 0 = .ok (.aload_n 0, 1) := by decide +kernel
theorem dX7_init_1 : decode cX7_init 1 = .ok (.invokespecial 1, 3) := by decide +kernel
theorem dX7_init_4 : decode cX7_init 4 = .ok (.aload_n 0, 1) := by decide +kernel
theorem dX7_init_5 : decode cX7_init 5 = .ok (.sipush 200, 3) := by decide +kernel
theorem dX7_init_8 : decode cX7_init 8 = .ok (.newarray .byte, 2) := by decide +kernel
theorem dX7_init_10 : decode cX7_init 10 = .ok (.putfield 9, 3) := by decide +kernel
theorem dX7_init_13 : decode cX7_init 13 = .ok (.return_, 1) := by decide +kernel
theorem dX7_append_0 : decode cX7_append 0 = .ok (.aload_n 0, 1) := by decide +kernel
theorem dX7_append_1 : decode cX7_append 1 = .ok (.getfield 13, 3) := by decide +kernel
theorem dX7_append_4 : decode cX7_append 4 = .ok (.bipush 8, 2) := by decide +kernel
theorem dX7_append_6 : decode cX7_append 6 = .ok (.iadd, 1) := by decide +kernel
theorem dX7_append_7 : decode cX7_append 7 = .ok (.sipush 200, 3) := by decide +kernel
theorem dX7_append_10 : decode cX7_append 10 = .ok (.if_icmp .le 5, 3) := by decide +kernel
theorem dX7_append_13 : decode cX7_append 13 = .ok (.iconst 0, 1) := by decide +kernel
theorem dX7_append_14 : decode cX7_append 14 = .ok (.ireturn, 1) := by decide +kernel
theorem dX7_append_15 : decode cX7_append 15 = .ok (.bipush 56, 2) := by decide +kernel
theorem dX7_append_17 : decode cX7_append 17 = .ok (.istore_n 3, 1) := by decide +kernel
theorem dX7_append_18 : decode cX7_append 18 = .ok (.iload_n 3, 1) := by decide +kernel
theorem dX7_append_19 : decode cX7_append 19 = .ok (.ifCond .lt 33, 3) := by decide +kernel
theorem dX7_append_22 : decode cX7_append 22 = .ok (.aload_n 0, 1) := by decide +kernel
theorem dX7_append_23 : decode cX7_append 23 = .ok (.getfield 9, 3) := by decide +kernel
theorem dX7_append_26 : decode cX7_append 26 = .ok (.aload_n 0, 1) := by decide +kernel
theorem dX7_append_27 : decode cX7_append 27 = .ok (.getfield 13, 3) := by decide +kernel
theorem dX7_append_30 : decode cX7_append 30 = .ok (.lload_n 1, 1) := by decide +kernel
theorem dX7_append_31 : decode cX7_append 31 = .ok (.iload_n 3, 1) := by decide +kernel
theorem dX7_append_32 : decode cX7_append 32 = .ok (.lshr, 1) := by decide +kernel
theorem dX7_append_33 : decode cX7_append 33 = .ok (.l2i, 1) := by decide +kernel
theorem dX7_append_34 : decode cX7_append 34 = .ok (.i2b, 1) := by decide +kernel
theorem dX7_append_35 : decode cX7_append 35 = .ok (.bastore, 1) := by decide +kernel
theorem dX7_append_36 : decode cX7_append 36 = .ok (.aload_n 0, 1) := by decide +kernel
theorem dX7_append_37 : decode cX7_append 37 = .ok (.dup, 1) := by decide +kernel
theorem dX7_append_38 : decode cX7_append 38 = .ok (.getfield 13, 3) := by decide +kernel
theorem dX7_append_41 : decode cX7_append 41 = .ok (.iconst 1, 1) := by decide +kernel
theorem dX7_append_42 : decode cX7_append 42 = .ok (.iadd, 1) := by decide +kernel
theorem dX7_append_43 : decode cX7_append 43 = .ok (.putfield 13, 3) := by decide +kernel
theorem dX7_append_46 : decode cX7_append 46 = .ok (.iinc 3 (-8), 3) := by decide +kernel
theorem dX7_append_49 : decode cX7_append 49 = .ok (.goto (-31), 3) := by decide +kernel
theorem dX7_append_52 : decode cX7_append 52 = .ok (.iconst 1, 1) := by decide +kernel
theorem dX7_append_53 : decode cX7_append 53 = .ok (.ireturn, 1) := by decide +kernel
theorem dX7_byteAt_0 : decode cX7_byteAt 0 = .ok (.iload_n 1, 1) := by decide +kernel
theorem dX7_byteAt_1 : decode cX7_byteAt 1 = .ok (.ifCond .lt 11, 3) := by decide +kernel
theorem dX7_byteAt_4 : decode cX7_byteAt 4 = .ok (.iload_n 1, 1) := by decide +kernel
theorem dX7_byteAt_5 : decode cX7_byteAt 5 = .ok (.aload_n 0, 1) := by decide +kernel
theorem dX7_byteAt_6 : decode cX7_byteAt 6 = .ok (.getfield 13, 3) := by decide +kernel
theorem dX7_byteAt_9 : decode cX7_byteAt 9 = .ok (.if_icmp .lt 7, 3) := by decide +kernel
theorem dX7_byteAt_12 : decode cX7_byteAt 12 = .ok (.iconst 0, 1) := by decide +kernel
theorem dX7_byteAt_13 : decode cX7_byteAt 13 = .ok (.goto 9, 3) := by decide +kernel
theorem dX7_byteAt_16 : decode cX7_byteAt 16 = .ok (.aload_n 0, 1) := by decide +kernel
theorem dX7_byteAt_17 : decode cX7_byteAt 17 = .ok (.getfield 9, 3) := by decide +kernel
theorem dX7_byteAt_20 : decode cX7_byteAt 20 = .ok (.iload_n 1, 1) := by decide +kernel
theorem dX7_byteAt_21 : decode cX7_byteAt 21 = .ok (.baload, 1) := by decide +kernel
theorem dX7_byteAt_22 : decode cX7_byteAt 22 = .ok (.ireturn, 1) := by decide +kernel
theorem dX8_init_0 : decode cX8_init 0 = .ok (.aload_n 0, 1) := by decide +kernel
theorem dX8_init_1 : decode cX8_init 1 = .ok (.invokespecial 1, 3) := by decide +kernel
theorem dX8_init_4 : decode cX8_init 4 = .ok (.aload_n 0, 1) := by decide +kernel
theorem dX8_init_5 : decode cX8_init 5 = .ok (.aload_n 1, 1) := by decide +kernel
theorem dX8_init_6 : decode cX8_init 6 = .ok (.putfield 7, 3) := by decide +kernel
theorem dX8_init_9 : decode cX8_init 9 = .ok (.return_, 1) := by decide +kernel
theorem dX8_readInto_0 : decode cX8_readInto 0 = .ok (.aload_n 0, 1) := by decide +kernel
theorem dX8_readInto_1 : decode cX8_readInto 1 = .ok (.aload_n 1, 1) := by decide +kernel
theorem dX8_readInto_2 : decode cX8_readInto 2 = .ok (.putfield 13, 3) := by decide +kernel
theorem dX8_readInto_5 : decode cX8_readInto 5 = .ok (.aload_n 0, 1) := by decide +kernel
theorem dX8_readInto_6 : decode cX8_readInto 6 = .ok (.getfield 13, 3) := by decide +kernel
theorem dX8_readInto_9 : decode cX8_readInto 9 = .ok (.invokevirtual 17, 3) := by decide +kernel
theorem dX8_readInto_12 : decode cX8_readInto 12 = .ok (.aload_n 0, 1) := by decide +kernel
theorem dX8_readInto_13 : decode cX8_readInto 13 = .ok (.iconst 0, 1) := by decide +kernel
theorem dX8_readInto_14 : decode cX8_readInto 14 = .ok (.putfield 22, 3) := by decide +kernel
theorem dX8_readInto_17 : decode cX8_readInto 17 = .ok (.aload_n 0, 1) := by decide +kernel
theorem dX8_readInto_18 : decode cX8_readInto 18 = .ok (.iconst 0, 1) := by decide +kernel
theorem dX8_readInto_19 : decode cX8_readInto 19 = .ok (.putfield 26, 3) := by decide +kernel
theorem dX8_readInto_22 : decode cX8_readInto 22 = .ok (.aload_n 0, 1) := by decide +kernel
theorem dX8_readInto_23 : decode cX8_readInto 23 = .ok (.iconst 0, 1) := by decide +kernel
theorem dX8_readInto_24 : decode cX8_readInto 24 = .ok (.putfield 29, 3) := by decide +kernel
theorem dX8_readInto_27 : decode cX8_readInto 27 = .ok (.aload_n 0, 1) := by decide +kernel
theorem dX8_readInto_28 : decode cX8_readInto 28 = .ok (.iconst 0, 1) := by decide +kernel
theorem dX8_readInto_29 : decode cX8_readInto 29 = .ok (.putfield 32, 3) := by decide +kernel
theorem dX8_readInto_32 : decode cX8_readInto 32 = .ok (.iconst 0, 1) := by decide +kernel
theorem dX8_readInto_33 : decode cX8_readInto 33 = .ok (.istore_n 2, 1) := by decide +kernel
theorem dX8_readInto_34 : decode cX8_readInto 34 = .ok (.iconst 0, 1) := by decide +kernel
theorem dX8_readInto_35 : decode cX8_readInto 35 = .ok (.istore_n 3, 1) := by decide +kernel
theorem dX8_readInto_36 : decode cX8_readInto 36 = .ok (.iload_n 3, 1) := by decide +kernel
theorem dX8_readInto_37 : decode cX8_readInto 37 = .ok (.sipush 200, 3) := by decide +kernel
theorem dX8_readInto_40 : decode cX8_readInto 40 = .ok (.if_icmp .gt 32, 3) := by decide +kernel
theorem dX8_readInto_43 : decode cX8_readInto 43 = .ok (.aload_n 0, 1) := by decide +kernel
theorem dX8_readInto_44 : decode cX8_readInto 44 = .ok (.invokevirtual 37, 3) := by decide +kernel
theorem dX8_readInto_47 : decode cX8_readInto 47 = .ok (.aload_n 0, 1) := by decide +kernel
theorem dX8_readInto_48 : decode cX8_readInto 48 = .ok (.getfield 40, 3) := by decide +kernel
theorem dX8_readInto_51 : decode cX8_readInto 51 = .ok (.ifCond .eq 10, 3) := by decide +kernel
theorem dX8_readInto_54 : decode cX8_readInto 54 = .ok (.aload_n 0, 1) := by decide +kernel
theorem dX8_readInto_55 : decode cX8_readInto 55 = .ok (.invokevirtual 43, 3) := by decide +kernel
theorem dX8_readInto_58 : decode cX8_readInto 58 = .ok (.ifCond .ne 5, 3) := by decide +kernel
theorem dX8_readInto_61 : decode cX8_readInto 61 = .ok (.iload_n 2, 1) := by decide +kernel
theorem dX8_readInto_62 : decode cX8_readInto 62 = .ok (.ireturn, 1) := by decide +kernel
theorem dX8_readInto_63 : decode cX8_readInto 63 = .ok (.iinc 2 1, 3) := by decide +kernel
theorem dX8_readInto_66 : decode cX8_readInto 66 = .ok (.iinc 3 1, 3) := by decide +kernel
theorem dX8_readInto_69 : decode cX8_readInto 69 = .ok (.goto (-33), 3) := by decide +kernel
theorem dX8_readInto_72 : decode cX8_readInto 72 = .ok (.iload_n 2, 1) := by decide +kernel
theorem dX8_readInto_73 : decode cX8_readInto 73 = .ok (.ireturn, 1) := by decide +kernel
theorem dX8_takeLine_0 : decode cX8_takeLine 0 = .ok (.aload_n 0, 1) := by decide +kernel
theorem dX8_takeLine_1 : decode cX8_takeLine 1 = .ok (.getfield 40, 3) := by decide +kernel
theorem dX8_takeLine_4 : decode cX8_takeLine 4 = .ok (.iconst 4, 1) := by decide +kernel
theorem dX8_takeLine_5 : decode cX8_takeLine 5 = .ok (.if_icmp .ne 9, 3) := by decide +kernel
theorem dX8_takeLine_8 : decode cX8_takeLine 8 = .ok (.aload_n 0, 1) := by decide +kernel
theorem dX8_takeLine_9 : decode cX8_takeLine 9 = .ok (.iconst 1, 1) := by decide +kernel
theorem dX8_takeLine_10 : decode cX8_takeLine 10 = .ok (.invokevirtual 47, 3) := by decide +kernel
theorem dX8_takeLine_13 : decode cX8_takeLine 13 = .ok (.ireturn, 1) := by decide +kernel
theorem dX8_takeLine_14 : decode cX8_takeLine 14 = .ok (.aload_n 0, 1) := by decide +kernel
theorem dX8_takeLine_15 : decode cX8_takeLine 15 = .ok (.ldc 51, 2) := by decide +kernel
theorem dX8_takeLine_17 : decode cX8_takeLine 17 = .ok (.invokevirtual 53, 3) := by decide +kernel
theorem dX8_takeLine_20 : decode cX8_takeLine 20 = .ok (.ifCond .ne 12, 3) := by decide +kernel
theorem dX8_takeLine_23 : decode cX8_takeLine 23 = .ok (.aload_n 0, 1) := by decide +kernel
theorem dX8_takeLine_24 : decode cX8_takeLine 24 = .ok (.ldc 57, 2) := by decide +kernel
theorem dX8_takeLine_26 : decode cX8_takeLine 26 = .ok (.invokevirtual 53, 3) := by decide +kernel
theorem dX8_takeLine_29 : decode cX8_takeLine 29 = .ok (.ifCond .eq 14, 3) := by decide +kernel
theorem dX8_takeLine_32 : decode cX8_takeLine 32 = .ok (.aload_n 0, 1) := by decide +kernel
theorem dX8_takeLine_33 : decode cX8_takeLine 33 = .ok (.aload_n 0, 1) := by decide +kernel
theorem dX8_takeLine_34 : decode cX8_takeLine 34 = .ok (.ldc 51, 2) := by decide +kernel
theorem dX8_takeLine_36 : decode cX8_takeLine 36 = .ok (.invokevirtual 53, 3) := by decide +kernel
theorem dX8_takeLine_39 : decode cX8_takeLine 39 = .ok (.invokevirtual 59, 3) := by decide +kernel
theorem dX8_takeLine_42 : decode cX8_takeLine 42 = .ok (.ireturn, 1) := by decide +kernel
theorem dX8_takeLine_43 : decode cX8_takeLine 43 = .ok (.aload_n 0, 1) := by decide +kernel
theorem dX8_takeLine_44 : decode cX8_takeLine 44 = .ok (.ldc 63, 2) := by decide +kernel
theorem dX8_takeLine_46 : decode cX8_takeLine 46 = .ok (.invokevirtual 53, 3) := by decide +kernel
theorem dX8_takeLine_49 : decode cX8_takeLine 49 = .ok (.ifCond .eq 8, 3) := by decide +kernel
theorem dX8_takeLine_52 : decode cX8_takeLine 52 = .ok (.aload_n 0, 1) := by decide +kernel
theorem dX8_takeLine_53 : decode cX8_takeLine 53 = .ok (.invokevirtual 65, 3) := by decide +kernel
theorem dX8_takeLine_56 : decode cX8_takeLine 56 = .ok (.ireturn, 1) := by decide +kernel
theorem dX8_takeLine_57 : decode cX8_takeLine 57 = .ok (.aload_n 0, 1) := by decide +kernel
theorem dX8_takeLine_58 : decode cX8_takeLine 58 = .ok (.ldc 68, 2) := by decide +kernel
theorem dX8_takeLine_60 : decode cX8_takeLine 60 = .ok (.invokevirtual 53, 3) := by decide +kernel
theorem dX8_takeLine_63 : decode cX8_takeLine 63 = .ok (.ifCond .eq 10, 3) := by decide +kernel
theorem dX8_takeLine_66 : decode cX8_takeLine 66 = .ok (.aload_n 0, 1) := by decide +kernel
theorem dX8_takeLine_67 : decode cX8_takeLine 67 = .ok (.iconst 0, 1) := by decide +kernel
theorem dX8_takeLine_68 : decode cX8_takeLine 68 = .ok (.iconst 0, 1) := by decide +kernel
theorem dX8_takeLine_69 : decode cX8_takeLine 69 = .ok (.invokevirtual 70, 3) := by decide +kernel
theorem dX8_takeLine_72 : decode cX8_takeLine 72 = .ok (.ireturn, 1) := by decide +kernel
theorem dX8_takeLine_73 : decode cX8_takeLine 73 = .ok (.aload_n 0, 1) := by decide +kernel
theorem dX8_takeLine_74 : decode cX8_takeLine 74 = .ok (.ldc 74, 2) := by decide +kernel
theorem dX8_takeLine_76 : decode cX8_takeLine 76 = .ok (.invokevirtual 53, 3) := by decide +kernel
theorem dX8_takeLine_79 : decode cX8_takeLine 79 = .ok (.ifCond .eq 10, 3) := by decide +kernel
theorem dX8_takeLine_82 : decode cX8_takeLine 82 = .ok (.aload_n 0, 1) := by decide +kernel
theorem dX8_takeLine_83 : decode cX8_takeLine 83 = .ok (.iconst 1, 1) := by decide +kernel
theorem dX8_takeLine_84 : decode cX8_takeLine 84 = .ok (.iconst 0, 1) := by decide +kernel
theorem dX8_takeLine_85 : decode cX8_takeLine 85 = .ok (.invokevirtual 70, 3) := by decide +kernel
theorem dX8_takeLine_88 : decode cX8_takeLine 88 = .ok (.ireturn, 1) := by decide +kernel
theorem dX8_takeLine_89 : decode cX8_takeLine 89 = .ok (.aload_n 0, 1) := by decide +kernel
theorem dX8_takeLine_90 : decode cX8_takeLine 90 = .ok (.ldc 76, 2) := by decide +kernel
theorem dX8_takeLine_92 : decode cX8_takeLine 92 = .ok (.invokevirtual 53, 3) := by decide +kernel
theorem dX8_takeLine_95 : decode cX8_takeLine 95 = .ok (.ifCond .eq 10, 3) := by decide +kernel
theorem dX8_takeLine_98 : decode cX8_takeLine 98 = .ok (.aload_n 0, 1) := by decide +kernel
theorem dX8_takeLine_99 : decode cX8_takeLine 99 = .ok (.iconst 2, 1) := by decide +kernel
theorem dX8_takeLine_100 : decode cX8_takeLine 100 = .ok (.iconst 0, 1) := by decide +kernel
theorem dX8_takeLine_101 : decode cX8_takeLine 101 = .ok (.invokevirtual 70, 3) := by decide +kernel
theorem dX8_takeLine_104 : decode cX8_takeLine 104 = .ok (.ireturn, 1) := by decide +kernel
theorem dX8_takeLine_105 : decode cX8_takeLine 105 = .ok (.aload_n 0, 1) := by decide +kernel
theorem dX8_takeLine_106 : decode cX8_takeLine 106 = .ok (.ldc 78, 2) := by decide +kernel
theorem dX8_takeLine_108 : decode cX8_takeLine 108 = .ok (.invokevirtual 53, 3) := by decide +kernel
theorem dX8_takeLine_111 : decode cX8_takeLine 111 = .ok (.ifCond .eq 10, 3) := by decide +kernel
theorem dX8_takeLine_114 : decode cX8_takeLine 114 = .ok (.aload_n 0, 1) := by decide +kernel
theorem dX8_takeLine_115 : decode cX8_takeLine 115 = .ok (.iconst 3, 1) := by decide +kernel
theorem dX8_takeLine_116 : decode cX8_takeLine 116 = .ok (.iconst 1, 1) := by decide +kernel
theorem dX8_takeLine_117 : decode cX8_takeLine 117 = .ok (.invokevirtual 70, 3) := by decide +kernel
theorem dX8_takeLine_120 : decode cX8_takeLine 120 = .ok (.ireturn, 1) := by decide +kernel
theorem dX8_takeLine_121 : decode cX8_takeLine 121 = .ok (.aload_n 0, 1) := by decide +kernel
theorem dX8_takeLine_122 : decode cX8_takeLine 122 = .ok (.ldc 80, 2) := by decide +kernel
theorem dX8_takeLine_124 : decode cX8_takeLine 124 = .ok (.invokevirtual 53, 3) := by decide +kernel
theorem dX8_takeLine_127 : decode cX8_takeLine 127 = .ok (.ifCond .eq 10, 3) := by decide +kernel
theorem dX8_takeLine_130 : decode cX8_takeLine 130 = .ok (.aload_n 0, 1) := by decide +kernel
theorem dX8_takeLine_131 : decode cX8_takeLine 131 = .ok (.invokevirtual 82, 3) := by decide +kernel
theorem dX8_takeLine_134 : decode cX8_takeLine 134 = .ok (.goto 8, 3) := by decide +kernel
theorem dX8_takeLine_137 : decode cX8_takeLine 137 = .ok (.aload_n 0, 1) := by decide +kernel
theorem dX8_takeLine_138 : decode cX8_takeLine 138 = .ok (.iconst 2, 1) := by decide +kernel
theorem dX8_takeLine_139 : decode cX8_takeLine 139 = .ok (.invokevirtual 47, 3) := by decide +kernel
theorem dX8_takeLine_142 : decode cX8_takeLine 142 = .ok (.ireturn, 1) := by decide +kernel
theorem dX8_takeChange_0 : decode cX8_takeChange 0 = .ok (.aload_n 0, 1) := by decide +kernel
theorem dX8_takeChange_1 : decode cX8_takeChange 1 = .ok (.getfield 13, 3) := by decide +kernel
theorem dX8_takeChange_4 : decode cX8_takeChange 4 = .ok (.getfield 85, 3) := by decide +kernel
theorem dX8_takeChange_7 : decode cX8_takeChange 7 = .ok (.bipush 12, 2) := by decide +kernel
theorem dX8_takeChange_9 : decode cX8_takeChange 9 = .ok (.if_icmp .ne 9, 3) := by decide +kernel
theorem dX8_takeChange_12 : decode cX8_takeChange 12 = .ok (.aload_n 0, 1) := by decide +kernel
theorem dX8_takeChange_13 : decode cX8_takeChange 13 = .ok (.iconst 5, 1) := by decide +kernel
theorem dX8_takeChange_14 : decode cX8_takeChange 14 = .ok (.invokevirtual 47, 3) := by decide +kernel
theorem dX8_takeChange_17 : decode cX8_takeChange 17 = .ok (.ireturn, 1) := by decide +kernel
theorem dX8_takeChange_18 : decode cX8_takeChange 18 = .ok (.aload_n 0, 1) := by decide +kernel
theorem dX8_takeChange_19 : decode cX8_takeChange 19 = .ok (.iconst 3, 1) := by decide +kernel
theorem dX8_takeChange_20 : decode cX8_takeChange 20 = .ok (.invokevirtual 88, 3) := by decide +kernel
theorem dX8_takeChange_23 : decode cX8_takeChange 23 = .ok (.ifCond .ne 5, 3) := by decide +kernel
theorem dX8_takeChange_26 : decode cX8_takeChange 26 = .ok (.iconst 0, 1) := by decide +kernel
theorem dX8_takeChange_27 : decode cX8_takeChange 27 = .ok (.ireturn, 1) := by decide +kernel
theorem dX8_takeChange_28 : decode cX8_takeChange 28 = .ok (.aload_n 0, 1) := by decide +kernel
theorem dX8_takeChange_29 : decode cX8_takeChange 29 = .ok (.getfield 13, 3) := by decide +kernel
theorem dX8_takeChange_32 : decode cX8_takeChange 32 = .ok (.aload_n 0, 1) := by decide +kernel
theorem dX8_takeChange_33 : decode cX8_takeChange 33 = .ok (.getfield 91, 3) := by decide +kernel
theorem dX8_takeChange_36 : decode cX8_takeChange 36 = .ok (.invokevirtual 94, 3) := by decide +kernel
theorem dX8_takeChange_39 : decode cX8_takeChange 39 = .ok (.ifCond .eq 9, 3) := by decide +kernel
theorem dX8_takeChange_42 : decode cX8_takeChange 42 = .ok (.aload_n 0, 1) := by decide +kernel
theorem dX8_takeChange_43 : decode cX8_takeChange 43 = .ok (.iconst 4, 1) := by decide +kernel
theorem dX8_takeChange_44 : decode cX8_takeChange 44 = .ok (.invokevirtual 47, 3) := by decide +kernel
theorem dX8_takeChange_47 : decode cX8_takeChange 47 = .ok (.ireturn, 1) := by decide +kernel
theorem dX8_takeChange_48 : decode cX8_takeChange 48 = .ok (.aload_n 0, 1) := by decide +kernel
theorem dX8_takeChange_49 : decode cX8_takeChange 49 = .ok (.getfield 91, 3) := by decide +kernel
theorem dX8_takeChange_52 : decode cX8_takeChange 52 = .ok (.istore_n 2, 1) := by decide +kernel
theorem dX8_takeChange_53 : decode cX8_takeChange 53 = .ok (.aload_n 0, 1) := by decide +kernel
theorem dX8_takeChange_54 : decode cX8_takeChange 54 = .ok (.getfield 97, 3) := by decide +kernel
theorem dX8_takeChange_57 : decode cX8_takeChange 57 = .ok (.istore_n 3, 1) := by decide +kernel
theorem dX8_takeChange_58 : decode cX8_takeChange 58 = .ok (.iload_n 1, 1) := by decide +kernel
theorem dX8_takeChange_59 : decode cX8_takeChange 59 = .ok (.ifCond .eq 13, 3) := by decide +kernel
theorem dX8_takeChange_62 : decode cX8_takeChange 62 = .ok (.aload_n 0, 1) := by decide +kernel
theorem dX8_takeChange_63 : decode cX8_takeChange 63 = .ok (.iconst 2, 1) := by decide +kernel
theorem dX8_takeChange_64 : decode cX8_takeChange 64 = .ok (.invokevirtual 88, 3) := by decide +kernel
theorem dX8_takeChange_67 : decode cX8_takeChange 67 = .ok (.ifCond .ne 5, 3) := by decide +kernel
theorem dX8_takeChange_70 : decode cX8_takeChange 70 = .ok (.iconst 0, 1) := by decide +kernel
theorem dX8_takeChange_71 : decode cX8_takeChange 71 = .ok (.ireturn, 1) := by decide +kernel
theorem dX8_takeChange_72 : decode cX8_takeChange 72 = .ok (.iload_n 1, 1) := by decide +kernel
theorem dX8_takeChange_73 : decode cX8_takeChange 73 = .ok (.ifCond .eq 10, 3) := by decide +kernel
theorem dX8_takeChange_76 : decode cX8_takeChange 76 = .ok (.aload_n 0, 1) := by decide +kernel
theorem dX8_takeChange_77 : decode cX8_takeChange 77 = .ok (.getfield 91, 3) := by decide +kernel
theorem dX8_takeChange_80 : decode cX8_takeChange 80 = .ok (.goto 4, 3) := by decide +kernel
theorem dX8_takeChange_83 : decode cX8_takeChange 83 = .ok (.iconst 0, 1) := by decide +kernel
theorem dX8_takeChange_84 : decode cX8_takeChange 84 = .ok (.istore 4, 2) := by decide +kernel
theorem dX8_takeChange_86 : decode cX8_takeChange 86 = .ok (.iload_n 1, 1) := by decide +kernel
theorem dX8_takeChange_87 : decode cX8_takeChange 87 = .ok (.ifCond .eq 10, 3) := by decide +kernel
theorem dX8_takeChange_90 : decode cX8_takeChange 90 = .ok (.aload_n 0, 1) := by decide +kernel
theorem dX8_takeChange_91 : decode cX8_takeChange 91 = .ok (.getfield 97, 3) := by decide +kernel
theorem dX8_takeChange_94 : decode cX8_takeChange 94 = .ok (.goto 4, 3) := by decide +kernel
theorem dX8_takeChange_97 : decode cX8_takeChange 97 = .ok (.iconst 0, 1) := by decide +kernel
theorem dX8_takeChange_98 : decode cX8_takeChange 98 = .ok (.istore 5, 2) := by decide +kernel
theorem dX8_takeChange_100 : decode cX8_takeChange 100 = .ok (.aload_n 0, 1) := by decide +kernel
theorem dX8_takeChange_101 : decode cX8_takeChange 101 = .ok (.iconst 3, 1) := by decide +kernel
theorem dX8_takeChange_102 : decode cX8_takeChange 102 = .ok (.invokevirtual 100, 3) := by decide +kernel
theorem dX8_takeChange_105 : decode cX8_takeChange 105 = .ok (.ifCond .ne 5, 3) := by decide +kernel
theorem dX8_takeChange_108 : decode cX8_takeChange 108 = .ok (.iconst 0, 1) := by decide +kernel
theorem dX8_takeChange_109 : decode cX8_takeChange 109 = .ok (.ireturn, 1) := by decide +kernel
theorem dX8_takeChange_110 : decode cX8_takeChange 110 = .ok (.aload_n 0, 1) := by decide +kernel
theorem dX8_takeChange_111 : decode cX8_takeChange 111 = .ok (.getfield 13, 3) := by decide +kernel
theorem dX8_takeChange_114 : decode cX8_takeChange 114 = .ok (.iload_n 2, 1) := by decide +kernel
theorem dX8_takeChange_115 : decode cX8_takeChange 115 = .ok (.iload_n 3, 1) := by decide +kernel
theorem dX8_takeChange_116 : decode cX8_takeChange 116 = .ok (.iload 4, 2) := by decide +kernel
theorem dX8_takeChange_118 : decode cX8_takeChange 118 = .ok (.iload 5, 2) := by decide +kernel
theorem dX8_takeChange_120 : decode cX8_takeChange 120 = .ok (.invokevirtual 103, 3) := by decide +kernel
theorem dX8_takeChange_123 : decode cX8_takeChange 123 = .ok (.iconst 1, 1) := by decide +kernel
theorem dX8_takeChange_124 : decode cX8_takeChange 124 = .ok (.ireturn, 1) := by decide +kernel
theorem dX8_takeLike_0 : decode cX8_takeLike 0 = .ok (.aload_n 0, 1) := by decide +kernel
theorem dX8_takeLike_1 : decode cX8_takeLike 1 = .ok (.iconst 1, 1) := by decide +kernel
theorem dX8_takeLike_2 : decode cX8_takeLike 2 = .ok (.invokevirtual 88, 3) := by decide +kernel
theorem dX8_takeLike_5 : decode cX8_takeLike 5 = .ok (.ifCond .ne 5, 3) := by decide +kernel
theorem dX8_takeLike_8 : decode cX8_takeLike 8 = .ok (.iconst 0, 1) := by decide +kernel
theorem dX8_takeLike_9 : decode cX8_takeLike 9 = .ok (.ireturn, 1) := by decide +kernel
theorem dX8_takeLike_10 : decode cX8_takeLike 10 = .ok (.aload_n 0, 1) := by decide +kernel
theorem dX8_takeLike_11 : decode cX8_takeLike 11 = .ok (.getfield 91, 3) := by decide +kernel
theorem dX8_takeLike_14 : decode cX8_takeLike 14 = .ok (.istore_n 1, 1) := by decide +kernel
theorem dX8_takeLike_15 : decode cX8_takeLike 15 = .ok (.aload_n 0, 1) := by decide +kernel
theorem dX8_takeLike_16 : decode cX8_takeLike 16 = .ok (.iconst 1, 1) := by decide +kernel
theorem dX8_takeLike_17 : decode cX8_takeLike 17 = .ok (.invokevirtual 88, 3) := by decide +kernel
theorem dX8_takeLike_20 : decode cX8_takeLike 20 = .ok (.ifCond .ne 5, 3) := by decide +kernel
theorem dX8_takeLike_23 : decode cX8_takeLike 23 = .ok (.iconst 0, 1) := by decide +kernel
theorem dX8_takeLike_24 : decode cX8_takeLike 24 = .ok (.ireturn, 1) := by decide +kernel
theorem dX8_takeLike_25 : decode cX8_takeLike 25 = .ok (.aload_n 0, 1) := by decide +kernel
theorem dX8_takeLike_26 : decode cX8_takeLike 26 = .ok (.getfield 91, 3) := by decide +kernel
theorem dX8_takeLike_29 : decode cX8_takeLike 29 = .ok (.istore_n 2, 1) := by decide +kernel
theorem dX8_takeLike_30 : decode cX8_takeLike 30 = .ok (.iload_n 1, 1) := by decide +kernel
theorem dX8_takeLike_31 : decode cX8_takeLike 31 = .ok (.iload_n 2, 1) := by decide +kernel
theorem dX8_takeLike_32 : decode cX8_takeLike 32 = .ok (.if_icmp .ne 9, 3) := by decide +kernel
theorem dX8_takeLike_35 : decode cX8_takeLike 35 = .ok (.aload_n 0, 1) := by decide +kernel
theorem dX8_takeLike_36 : decode cX8_takeLike 36 = .ok (.iconst 3, 1) := by decide +kernel
theorem dX8_takeLike_37 : decode cX8_takeLike 37 = .ok (.invokevirtual 47, 3) := by decide +kernel
theorem dX8_takeLike_40 : decode cX8_takeLike 40 = .ok (.ireturn, 1) := by decide +kernel
theorem dX8_takeLike_41 : decode cX8_takeLike 41 = .ok (.aload_n 0, 1) := by decide +kernel
theorem dX8_takeLike_42 : decode cX8_takeLike 42 = .ok (.getfield 13, 3) := by decide +kernel
theorem dX8_takeLike_45 : decode cX8_takeLike 45 = .ok (.iload_n 1, 1) := by decide +kernel
theorem dX8_takeLike_46 : decode cX8_takeLike 46 = .ok (.iload_n 2, 1) := by decide +kernel
theorem dX8_takeLike_47 : decode cX8_takeLike 47 = .ok (.invokevirtual 107, 3) := by decide +kernel
theorem dX8_takeLike_50 : decode cX8_takeLike 50 = .ok (.ifCond .eq 9, 3) := by decide +kernel
theorem dX8_takeLike_53 : decode cX8_takeLike 53 = .ok (.aload_n 0, 1) := by decide +kernel
theorem dX8_takeLike_54 : decode cX8_takeLike 54 = .ok (.iconst 4, 1) := by decide +kernel
theorem dX8_takeLike_55 : decode cX8_takeLike 55 = .ok (.invokevirtual 47, 3) := by decide +kernel
theorem dX8_takeLike_58 : decode cX8_takeLike 58 = .ok (.ireturn, 1) := by decide +kernel
theorem dX8_takeLike_59 : decode cX8_takeLike 59 = .ok (.aload_n 0, 1) := by decide +kernel
theorem dX8_takeLike_60 : decode cX8_takeLike 60 = .ok (.iconst 0, 1) := by decide +kernel
theorem dX8_takeLike_61 : decode cX8_takeLike 61 = .ok (.bipush 20, 2) := by decide +kernel
theorem dX8_takeLike_63 : decode cX8_takeLike 63 = .ok (.invokevirtual 110, 3) := by decide +kernel
theorem dX8_takeLike_66 : decode cX8_takeLike 66 = .ok (.ifCond .ne 5, 3) := by decide +kernel
theorem dX8_takeLike_69 : decode cX8_takeLike 69 = .ok (.iconst 0, 1) := by decide +kernel
theorem dX8_takeLike_70 : decode cX8_takeLike 70 = .ok (.ireturn, 1) := by decide +kernel
theorem dX8_takeLike_71 : decode cX8_takeLike 71 = .ok (.aload_n 0, 1) := by decide +kernel
theorem dX8_takeLike_72 : decode cX8_takeLike 72 = .ok (.getfield 13, 3) := by decide +kernel
theorem dX8_takeLike_75 : decode cX8_takeLike 75 = .ok (.iload_n 1, 1) := by decide +kernel
theorem dX8_takeLike_76 : decode cX8_takeLike 76 = .ok (.iload_n 2, 1) := by decide +kernel
theorem dX8_takeLike_77 : decode cX8_takeLike 77 = .ok (.aload_n 0, 1) := by decide +kernel
theorem dX8_takeLike_78 : decode cX8_takeLike 78 = .ok (.getfield 91, 3) := by decide +kernel
theorem dX8_takeLike_81 : decode cX8_takeLike 81 = .ok (.invokevirtual 113, 3) := by decide +kernel
theorem dX8_takeLike_84 : decode cX8_takeLike 84 = .ok (.aload_n 0, 1) := by decide +kernel
theorem dX8_takeLike_85 : decode cX8_takeLike 85 = .ok (.iconst 3, 1) := by decide +kernel
theorem dX8_takeLike_86 : decode cX8_takeLike 86 = .ok (.invokevirtual 100, 3) := by decide +kernel
theorem dX8_takeLike_89 : decode cX8_takeLike 89 = .ok (.ireturn, 1) := by decide +kernel
theorem dX8_takeNumber_0 : decode cX8_takeNumber 0 = .ok (.aload_n 0, 1) := by decide +kernel
theorem dX8_takeNumber_1 : decode cX8_takeNumber 1 = .ok (.iload_n 1, 1) := by decide +kernel
theorem dX8_takeNumber_2 : decode cX8_takeNumber 2 = .ok (.invokevirtual 117, 3) := by decide +kernel
theorem dX8_takeNumber_5 : decode cX8_takeNumber 5 = .ok (.ifCond .eq 13, 3) := by decide +kernel
theorem dX8_takeNumber_8 : decode cX8_takeNumber 8 = .ok (.aload_n 0, 1) := by decide +kernel
theorem dX8_takeNumber_9 : decode cX8_takeNumber 9 = .ok (.iload_n 2, 1) := by decide +kernel
theorem dX8_takeNumber_10 : decode cX8_takeNumber 10 = .ok (.bipush 20, 2) := by decide +kernel
theorem dX8_takeNumber_12 : decode cX8_takeNumber 12 = .ok (.invokevirtual 110, 3) := by decide +kernel
theorem dX8_takeNumber_15 : decode cX8_takeNumber 15 = .ok (.ifCond .ne 5, 3) := by decide +kernel
theorem dX8_takeNumber_18 : decode cX8_takeNumber 18 = .ok (.iconst 0, 1) := by decide +kernel
theorem dX8_takeNumber_19 : decode cX8_takeNumber 19 = .ok (.ireturn, 1) := by decide +kernel
theorem dX8_takeNumber_20 : decode cX8_takeNumber 20 = .ok (.aload_n 0, 1) := by decide +kernel
theorem dX8_takeNumber_21 : decode cX8_takeNumber 21 = .ok (.getfield 13, 3) := by decide +kernel
theorem dX8_takeNumber_24 : decode cX8_takeNumber 24 = .ok (.getfield 120, 3) := by decide +kernel
theorem dX8_takeNumber_27 : decode cX8_takeNumber 27 = .ok (.iload_n 1, 1) := by decide +kernel
theorem dX8_takeNumber_28 : decode cX8_takeNumber 28 = .ok (.aload_n 0, 1) := by decide +kernel
theorem dX8_takeNumber_29 : decode cX8_takeNumber 29 = .ok (.getfield 91, 3) := by decide +kernel
theorem dX8_takeNumber_32 : decode cX8_takeNumber 32 = .ok (.iastore, 1) := by decide +kernel
theorem dX8_takeNumber_33 : decode cX8_takeNumber 33 = .ok (.aload_n 0, 1) := by decide +kernel
theorem dX8_takeNumber_34 : decode cX8_takeNumber 34 = .ok (.iconst 3, 1) := by decide +kernel
theorem dX8_takeNumber_35 : decode cX8_takeNumber 35 = .ok (.invokevirtual 100, 3) := by decide +kernel
theorem dX8_takeNumber_38 : decode cX8_takeNumber 38 = .ok (.ireturn, 1) := by decide +kernel
theorem dX8_takeSons_0 : decode cX8_takeSons 0 = .ok (.aload_n 0, 1) := by decide +kernel
theorem dX8_takeSons_1 : decode cX8_takeSons 1 = .ok (.iconst 4, 1) := by decide +kernel
theorem dX8_takeSons_2 : decode cX8_takeSons 2 = .ok (.invokevirtual 117, 3) := by decide +kernel
theorem dX8_takeSons_5 : decode cX8_takeSons 5 = .ok (.ifCond .ne 5, 3) := by decide +kernel
theorem dX8_takeSons_8 : decode cX8_takeSons 8 = .ok (.iconst 0, 1) := by decide +kernel
theorem dX8_takeSons_9 : decode cX8_takeSons 9 = .ok (.ireturn, 1) := by decide +kernel
theorem dX8_takeSons_10 : decode cX8_takeSons 10 = .ok (.iconst 0, 1) := by decide +kernel
theorem dX8_takeSons_11 : decode cX8_takeSons 11 = .ok (.istore_n 1, 1) := by decide +kernel
theorem dX8_takeSons_12 : decode cX8_takeSons 12 = .ok (.iconst 0, 1) := by decide +kernel
theorem dX8_takeSons_13 : decode cX8_takeSons 13 = .ok (.istore_n 2, 1) := by decide +kernel
theorem dX8_takeSons_14 : decode cX8_takeSons 14 = .ok (.iload_n 2, 1) := by decide +kernel
theorem dX8_takeSons_15 : decode cX8_takeSons 15 = .ok (.iconst 4, 1) := by decide +kernel
theorem dX8_takeSons_16 : decode cX8_takeSons 16 = .ok (.if_icmp .ge 74, 3) := by decide +kernel
theorem dX8_takeSons_19 : decode cX8_takeSons 19 = .ok (.aload_n 0, 1) := by decide +kernel
theorem dX8_takeSons_20 : decode cX8_takeSons 20 = .ok (.iconst 0, 1) := by decide +kernel
theorem dX8_takeSons_21 : decode cX8_takeSons 21 = .ok (.bipush 9, 2) := by decide +kernel
theorem dX8_takeSons_23 : decode cX8_takeSons 23 = .ok (.invokevirtual 110, 3) := by decide +kernel
theorem dX8_takeSons_26 : decode cX8_takeSons 26 = .ok (.ifCond .ne 5, 3) := by decide +kernel
theorem dX8_takeSons_29 : decode cX8_takeSons 29 = .ok (.iconst 0, 1) := by decide +kernel
theorem dX8_takeSons_30 : decode cX8_takeSons 30 = .ok (.ireturn, 1) := by decide +kernel
theorem dX8_takeSons_31 : decode cX8_takeSons 31 = .ok (.iload_n 1, 1) := by decide +kernel
theorem dX8_takeSons_32 : decode cX8_takeSons 32 = .ok (.aload_n 0, 1) := by decide +kernel
theorem dX8_takeSons_33 : decode cX8_takeSons 33 = .ok (.getfield 91, 3) := by decide +kernel
theorem dX8_takeSons_36 : decode cX8_takeSons 36 = .ok (.iadd, 1) := by decide +kernel
theorem dX8_takeSons_37 : decode cX8_takeSons 37 = .ok (.istore_n 1, 1) := by decide +kernel
theorem dX8_takeSons_38 : decode cX8_takeSons 38 = .ok (.iload_n 2, 1) := by decide +kernel
theorem dX8_takeSons_39 : decode cX8_takeSons 39 = .ok (.iconst 3, 1) := by decide +kernel
theorem dX8_takeSons_40 : decode cX8_takeSons 40 = .ok (.if_icmp .ne 7, 3) := by decide +kernel
theorem dX8_takeSons_43 : decode cX8_takeSons 43 = .ok (.iconst 1, 1) := by decide +kernel
theorem dX8_takeSons_44 : decode cX8_takeSons 44 = .ok (.goto 4, 3) := by decide +kernel
theorem dX8_takeSons_47 : decode cX8_takeSons 47 = .ok (.iconst 0, 1) := by decide +kernel
theorem dX8_takeSons_48 : decode cX8_takeSons 48 = .ok (.istore_n 3, 1) := by decide +kernel
theorem dX8_takeSons_49 : decode cX8_takeSons 49 = .ok (.iload_n 1, 1) := by decide +kernel
theorem dX8_takeSons_50 : decode cX8_takeSons 50 = .ok (.bipush 9, 2) := by decide +kernel
theorem dX8_takeSons_52 : decode cX8_takeSons 52 = .ok (.if_icmp .gt 11, 3) := by decide +kernel
theorem dX8_takeSons_55 : decode cX8_takeSons 55 = .ok (.iload_n 3, 1) := by decide +kernel
theorem dX8_takeSons_56 : decode cX8_takeSons 56 = .ok (.ifCond .eq 13, 3) := by decide +kernel
theorem dX8_takeSons_59 : decode cX8_takeSons 59 = .ok (.iload_n 1, 1) := by decide +kernel
theorem dX8_takeSons_60 : decode cX8_takeSons 60 = .ok (.ifCond .ne 9, 3) := by decide +kernel
theorem dX8_takeSons_63 : decode cX8_takeSons 63 = .ok (.aload_n 0, 1) := by decide +kernel
theorem dX8_takeSons_64 : decode cX8_takeSons 64 = .ok (.iconst 3, 1) := by decide +kernel
theorem dX8_takeSons_65 : decode cX8_takeSons 65 = .ok (.invokevirtual 47, 3) := by decide +kernel
theorem dX8_takeSons_68 : decode cX8_takeSons 68 = .ok (.ireturn, 1) := by decide +kernel
theorem dX8_takeSons_69 : decode cX8_takeSons 69 = .ok (.aload_n 0, 1) := by decide +kernel
theorem dX8_takeSons_70 : decode cX8_takeSons 70 = .ok (.getfield 13, 3) := by decide +kernel
theorem dX8_takeSons_73 : decode cX8_takeSons 73 = .ok (.getfield 120, 3) := by decide +kernel
theorem dX8_takeSons_76 : decode cX8_takeSons 76 = .ok (.iconst 4, 1) := by decide +kernel
theorem dX8_takeSons_77 : decode cX8_takeSons 77 = .ok (.iload_n 2, 1) := by decide +kernel
theorem dX8_takeSons_78 : decode cX8_takeSons 78 = .ok (.iadd, 1) := by decide +kernel
theorem dX8_takeSons_79 : decode cX8_takeSons 79 = .ok (.aload_n 0, 1) := by decide +kernel
theorem dX8_takeSons_80 : decode cX8_takeSons 80 = .ok (.getfield 91, 3) := by decide +kernel
theorem dX8_takeSons_83 : decode cX8_takeSons 83 = .ok (.iastore, 1) := by decide +kernel
theorem dX8_takeSons_84 : decode cX8_takeSons 84 = .ok (.iinc 2 1, 3) := by decide +kernel
theorem dX8_takeSons_87 : decode cX8_takeSons 87 = .ok (.goto (-73), 3) := by decide +kernel
theorem dX8_takeSons_90 : decode cX8_takeSons 90 = .ok (.aload_n 0, 1) := by decide +kernel
theorem dX8_takeSons_91 : decode cX8_takeSons 91 = .ok (.iconst 3, 1) := by decide +kernel
theorem dX8_takeSons_92 : decode cX8_takeSons 92 = .ok (.invokevirtual 100, 3) := by decide +kernel
theorem dX8_takeSons_95 : decode cX8_takeSons 95 = .ok (.ireturn, 1) := by decide +kernel
theorem dX8_tellOnce_0 : decode cX8_tellOnce 0 = .ok (.aload_n 0, 1) := by decide +kernel
theorem dX8_tellOnce_1 : decode cX8_tellOnce 1 = .ok (.getfield 22, 3) := by decide +kernel
theorem dX8_tellOnce_4 : decode cX8_tellOnce 4 = .ok (.iload_n 1, 1) := by decide +kernel
theorem dX8_tellOnce_5 : decode cX8_tellOnce 5 = .ok (.ishr, 1) := by decide +kernel
theorem dX8_tellOnce_6 : decode cX8_tellOnce 6 = .ok (.iconst 1, 1) := by decide +kernel
theorem dX8_tellOnce_7 : decode cX8_tellOnce 7 = .ok (.iand, 1) := by decide +kernel
theorem dX8_tellOnce_8 : decode cX8_tellOnce 8 = .ok (.iconst 1, 1) := by decide +kernel
theorem dX8_tellOnce_9 : decode cX8_tellOnce 9 = .ok (.if_icmp .ne 9, 3) := by decide +kernel
theorem dX8_tellOnce_12 : decode cX8_tellOnce 12 = .ok (.aload_n 0, 1) := by decide +kernel
theorem dX8_tellOnce_13 : decode cX8_tellOnce 13 = .ok (.iconst 4, 1) := by decide +kernel
theorem dX8_tellOnce_14 : decode cX8_tellOnce 14 = .ok (.invokevirtual 47, 3) := by decide +kernel
theorem dX8_tellOnce_17 : decode cX8_tellOnce 17 = .ok (.ireturn, 1) := by decide +kernel
theorem dX8_tellOnce_18 : decode cX8_tellOnce 18 = .ok (.aload_n 0, 1) := by decide +kernel
theorem dX8_tellOnce_19 : decode cX8_tellOnce 19 = .ok (.dup, 1) := by decide +kernel
theorem dX8_tellOnce_20 : decode cX8_tellOnce 20 = .ok (.getfield 22, 3) := by decide +kernel
theorem dX8_tellOnce_23 : decode cX8_tellOnce 23 = .ok (.iconst 1, 1) := by decide +kernel
theorem dX8_tellOnce_24 : decode cX8_tellOnce 24 = .ok (.iload_n 1, 1) := by decide +kernel
theorem dX8_tellOnce_25 : decode cX8_tellOnce 25 = .ok (.ishl, 1) := by decide +kernel
theorem dX8_tellOnce_26 : decode cX8_tellOnce 26 = .ok (.ior, 1) := by decide +kernel
theorem dX8_tellOnce_27 : decode cX8_tellOnce 27 = .ok (.putfield 22, 3) := by decide +kernel
theorem dX8_tellOnce_30 : decode cX8_tellOnce 30 = .ok (.iconst 1, 1) := by decide +kernel
theorem dX8_tellOnce_31 : decode cX8_tellOnce 31 = .ok (.ireturn, 1) := by decide +kernel
theorem dX8_takeName_0 : decode cX8_takeName 0 = .ok (.aload_n 0, 1) := by decide +kernel
theorem dX8_takeName_1 : decode cX8_takeName 1 = .ok (.iconst 1, 1) := by decide +kernel
theorem dX8_takeName_2 : decode cX8_takeName 2 = .ok (.invokevirtual 100, 3) := by decide +kernel
theorem dX8_takeName_5 : decode cX8_takeName 5 = .ok (.ifCond .eq 23, 3) := by decide +kernel
theorem dX8_takeName_8 : decode cX8_takeName 8 = .ok (.aload_n 0, 1) := by decide +kernel
theorem dX8_takeName_9 : decode cX8_takeName 9 = .ok (.getfield 97, 3) := by decide +kernel
theorem dX8_takeName_12 : decode cX8_takeName 12 = .ok (.iload_n 1, 1) := by decide +kernel
theorem dX8_takeName_13 : decode cX8_takeName 13 = .ok (.if_icmp .le 11, 3) := by decide +kernel
theorem dX8_takeName_16 : decode cX8_takeName 16 = .ok (.aload_n 0, 1) := by decide +kernel
theorem dX8_takeName_17 : decode cX8_takeName 17 = .ok (.iconst 2, 1) := by decide +kernel
theorem dX8_takeName_18 : decode cX8_takeName 18 = .ok (.invokevirtual 47, 3) := by decide +kernel
theorem dX8_takeName_21 : decode cX8_takeName 21 = .ok (.ifCond .eq 7, 3) := by decide +kernel
theorem dX8_takeName_24 : decode cX8_takeName 24 = .ok (.iconst 1, 1) := by decide +kernel
theorem dX8_takeName_25 : decode cX8_takeName 25 = .ok (.goto 4, 3) := by decide +kernel
theorem dX8_takeName_28 : decode cX8_takeName 28 = .ok (.iconst 0, 1) := by decide +kernel
theorem dX8_takeName_29 : decode cX8_takeName 29 = .ok (.ireturn, 1) := by decide +kernel
theorem dX8_takeBetween_0 : decode cX8_takeBetween 0 = .ok (.aload_n 0, 1) := by decide +kernel
theorem dX8_takeBetween_1 : decode cX8_takeBetween 1 = .ok (.iconst 2, 1) := by decide +kernel
theorem dX8_takeBetween_2 : decode cX8_takeBetween 2 = .ok (.invokevirtual 100, 3) := by decide +kernel
theorem dX8_takeBetween_5 : decode cX8_takeBetween 5 = .ok (.ifCond .eq 31, 3) := by decide +kernel
theorem dX8_takeBetween_8 : decode cX8_takeBetween 8 = .ok (.aload_n 0, 1) := by decide +kernel
theorem dX8_takeBetween_9 : decode cX8_takeBetween 9 = .ok (.getfield 91, 3) := by decide +kernel
theorem dX8_takeBetween_12 : decode cX8_takeBetween 12 = .ok (.iload_n 1, 1) := by decide +kernel
theorem dX8_takeBetween_13 : decode cX8_takeBetween 13 = .ok (.if_icmp .lt 11, 3) := by decide +kernel
theorem dX8_takeBetween_16 : decode cX8_takeBetween 16 = .ok (.aload_n 0, 1) := by decide +kernel
theorem dX8_takeBetween_17 : decode cX8_takeBetween 17 = .ok (.getfield 91, 3) := by decide +kernel
theorem dX8_takeBetween_20 : decode cX8_takeBetween 20 = .ok (.iload_n 2, 1) := by decide +kernel
theorem dX8_takeBetween_21 : decode cX8_takeBetween 21 = .ok (.if_icmp .le 11, 3) := by decide +kernel
theorem dX8_takeBetween_24 : decode cX8_takeBetween 24 = .ok (.aload_n 0, 1) := by decide +kernel
theorem dX8_takeBetween_25 : decode cX8_takeBetween 25 = .ok (.iconst 3, 1) := by decide +kernel
theorem dX8_takeBetween_26 : decode cX8_takeBetween 26 = .ok (.invokevirtual 47, 3) := by decide +kernel
theorem dX8_takeBetween_29 : decode cX8_takeBetween 29 = .ok (.ifCond .eq 7, 3) := by decide +kernel
theorem dX8_takeBetween_32 : decode cX8_takeBetween 32 = .ok (.iconst 1, 1) := by decide +kernel
theorem dX8_takeBetween_33 : decode cX8_takeBetween 33 = .ok (.goto 4, 3) := by decide +kernel
theorem dX8_takeBetween_36 : decode cX8_takeBetween 36 = .ok (.iconst 0, 1) := by decide +kernel
theorem dX8_takeBetween_37 : decode cX8_takeBetween 37 = .ok (.ireturn, 1) := by decide +kernel
theorem dX8_takeToken_0 : decode cX8_takeToken 0 = .ok (.aload_n 0, 1) := by decide +kernel
theorem dX8_takeToken_1 : decode cX8_takeToken 1 = .ok (.invokevirtual 37, 3) := by decide +kernel
theorem dX8_takeToken_4 : decode cX8_takeToken 4 = .ok (.aload_n 0, 1) := by decide +kernel
theorem dX8_takeToken_5 : decode cX8_takeToken 5 = .ok (.getfield 40, 3) := by decide +kernel
theorem dX8_takeToken_8 : decode cX8_takeToken 8 = .ok (.iconst 4, 1) := by decide +kernel
theorem dX8_takeToken_9 : decode cX8_takeToken 9 = .ok (.if_icmp .ne 9, 3) := by decide +kernel
theorem dX8_takeToken_12 : decode cX8_takeToken 12 = .ok (.aload_n 0, 1) := by decide +kernel
theorem dX8_takeToken_13 : decode cX8_takeToken 13 = .ok (.iconst 1, 1) := by decide +kernel
theorem dX8_takeToken_14 : decode cX8_takeToken 14 = .ok (.invokevirtual 47, 3) := by decide +kernel
theorem dX8_takeToken_17 : decode cX8_takeToken 17 = .ok (.ireturn, 1) := by decide +kernel
theorem dX8_takeToken_18 : decode cX8_takeToken 18 = .ok (.aload_n 0, 1) := by decide +kernel
theorem dX8_takeToken_19 : decode cX8_takeToken 19 = .ok (.getfield 40, 3) := by decide +kernel
theorem dX8_takeToken_22 : decode cX8_takeToken 22 = .ok (.iload_n 1, 1) := by decide +kernel
theorem dX8_takeToken_23 : decode cX8_takeToken 23 = .ok (.if_icmp .eq 11, 3) := by decide +kernel
theorem dX8_takeToken_26 : decode cX8_takeToken 26 = .ok (.aload_n 0, 1) := by decide +kernel
theorem dX8_takeToken_27 : decode cX8_takeToken 27 = .ok (.iconst 2, 1) := by decide +kernel
theorem dX8_takeToken_28 : decode cX8_takeToken 28 = .ok (.invokevirtual 47, 3) := by decide +kernel
theorem dX8_takeToken_31 : decode cX8_takeToken 31 = .ok (.ifCond .eq 7, 3) := by decide +kernel
theorem dX8_takeToken_34 : decode cX8_takeToken 34 = .ok (.iconst 1, 1) := by decide +kernel
theorem dX8_takeToken_35 : decode cX8_takeToken 35 = .ok (.goto 4, 3) := by decide +kernel
theorem dX8_takeToken_38 : decode cX8_takeToken 38 = .ok (.iconst 0, 1) := by decide +kernel
theorem dX8_takeToken_39 : decode cX8_takeToken 39 = .ok (.ireturn, 1) := by decide +kernel
theorem dX8_refuse_0 : decode cX8_refuse 0 = .ok (.aload_n 0, 1) := by decide +kernel
theorem dX8_refuse_1 : decode cX8_refuse 1 = .ok (.iload_n 1, 1) := by decide +kernel
theorem dX8_refuse_2 : decode cX8_refuse 2 = .ok (.putfield 29, 3) := by decide +kernel
theorem dX8_refuse_5 : decode cX8_refuse 5 = .ok (.aload_n 0, 1) := by decide +kernel
theorem dX8_refuse_6 : decode cX8_refuse 6 = .ok (.aload_n 0, 1) := by decide +kernel
theorem dX8_refuse_7 : decode cX8_refuse 7 = .ok (.getfield 124, 3) := by decide +kernel
theorem dX8_refuse_10 : decode cX8_refuse 10 = .ok (.putfield 32, 3) := by decide +kernel
theorem dX8_refuse_13 : decode cX8_refuse 13 = .ok (.iconst 0, 1) := by decide +kernel
theorem dX8_refuse_14 : decode cX8_refuse 14 = .ok (.ireturn, 1) := by decide +kernel
theorem dX8_isWord_0 : decode cX8_isWord 0 = .ok (.aload_n 0, 1) := by decide +kernel
theorem dX8_isWord_1 : decode cX8_isWord 1 = .ok (.getfield 40, 3) := by decide +kernel
theorem dX8_isWord_4 : decode cX8_isWord 4 = .ok (.iconst 1, 1) := by decide +kernel
theorem dX8_isWord_5 : decode cX8_isWord 5 = .ok (.if_icmp .ne 14, 3) := by decide +kernel
theorem dX8_isWord_8 : decode cX8_isWord 8 = .ok (.aload_n 0, 1) := by decide +kernel
theorem dX8_isWord_9 : decode cX8_isWord 9 = .ok (.getfield 97, 3) := by decide +kernel
theorem dX8_isWord_12 : decode cX8_isWord 12 = .ok (.aload_n 1, 1) := by decide +kernel
theorem dX8_isWord_13 : decode cX8_isWord 13 = .ok (.invokevirtual 127, 3) := by decide +kernel
theorem dX8_isWord_16 : decode cX8_isWord 16 = .ok (.if_icmp .eq 5, 3) := by decide +kernel
theorem dX8_isWord_19 : decode cX8_isWord 19 = .ok (.iconst 0, 1) := by decide +kernel
theorem dX8_isWord_20 : decode cX8_isWord 20 = .ok (.ireturn, 1) := by decide +kernel
theorem dX8_isWord_21 : decode cX8_isWord 21 = .ok (.iconst 0, 1) := by decide +kernel
theorem dX8_isWord_22 : decode cX8_isWord 22 = .ok (.istore_n 2, 1) := by decide +kernel
theorem dX8_isWord_23 : decode cX8_isWord 23 = .ok (.iload_n 2, 1) := by decide +kernel
theorem dX8_isWord_24 : decode cX8_isWord 24 = .ok (.aload_n 0, 1) := by decide +kernel
theorem dX8_isWord_25 : decode cX8_isWord 25 = .ok (.getfield 97, 3) := by decide +kernel
theorem dX8_isWord_28 : decode cX8_isWord 28 = .ok (.if_icmp .ge 32, 3) := by decide +kernel
theorem dX8_isWord_31 : decode cX8_isWord 31 = .ok (.aload_n 0, 1) := by decide +kernel
theorem dX8_isWord_32 : decode cX8_isWord 32 = .ok (.getfield 7, 3) := by decide +kernel
theorem dX8_isWord_35 : decode cX8_isWord 35 = .ok (.aload_n 0, 1) := by decide +kernel
theorem dX8_isWord_36 : decode cX8_isWord 36 = .ok (.getfield 124, 3) := by decide +kernel
theorem dX8_isWord_39 : decode cX8_isWord 39 = .ok (.iload_n 2, 1) := by decide +kernel
theorem dX8_isWord_40 : decode cX8_isWord 40 = .ok (.iadd, 1) := by decide +kernel
theorem dX8_isWord_41 : decode cX8_isWord 41 = .ok (.invokevirtual 132, 3) := by decide +kernel
theorem dX8_isWord_44 : decode cX8_isWord 44 = .ok (.aload_n 1, 1) := by decide +kernel
theorem dX8_isWord_45 : decode cX8_isWord 45 = .ok (.iload_n 2, 1) := by decide +kernel
theorem dX8_isWord_46 : decode cX8_isWord 46 = .ok (.invokevirtual 136, 3) := by decide +kernel
theorem dX8_isWord_49 : decode cX8_isWord 49 = .ok (.if_icmp .eq 5, 3) := by decide +kernel
theorem dX8_isWord_52 : decode cX8_isWord 52 = .ok (.iconst 0, 1) := by decide +kernel
theorem dX8_isWord_53 : decode cX8_isWord 53 = .ok (.ireturn, 1) := by decide +kernel
theorem dX8_isWord_54 : decode cX8_isWord 54 = .ok (.iinc 2 1, 3) := by decide +kernel
theorem dX8_isWord_57 : decode cX8_isWord 57 = .ok (.goto (-34), 3) := by decide +kernel
theorem dX8_isWord_60 : decode cX8_isWord 60 = .ok (.iconst 1, 1) := by decide +kernel
theorem dX8_isWord_61 : decode cX8_isWord 61 = .ok (.ireturn, 1) := by decide +kernel
theorem dX8_readToken_0 : decode cX8_readToken 0 = .ok (.aload_n 0, 1) := by decide +kernel
theorem dX8_readToken_1 : decode cX8_readToken 1 = .ok (.getfield 26, 3) := by decide +kernel
theorem dX8_readToken_4 : decode cX8_readToken 4 = .ok (.aload_n 0, 1) := by decide +kernel
theorem dX8_readToken_5 : decode cX8_readToken 5 = .ok (.getfield 7, 3) := by decide +kernel
theorem dX8_readToken_8 : decode cX8_readToken 8 = .ok (.getfield 140, 3) := by decide +kernel
theorem dX8_readToken_11 : decode cX8_readToken 11 = .ok (.if_icmp .ge 32, 3) := by decide +kernel
theorem dX8_readToken_14 : decode cX8_readToken 14 = .ok (.aload_n 0, 1) := by decide +kernel
theorem dX8_readToken_15 : decode cX8_readToken 15 = .ok (.getfield 7, 3) := by decide +kernel
theorem dX8_readToken_18 : decode cX8_readToken 18 = .ok (.aload_n 0, 1) := by decide +kernel
theorem dX8_readToken_19 : decode cX8_readToken 19 = .ok (.getfield 26, 3) := by decide +kernel
theorem dX8_readToken_22 : decode cX8_readToken 22 = .ok (.invokevirtual 132, 3) := by decide +kernel
theorem dX8_readToken_25 : decode cX8_readToken 25 = .ok (.bipush 32, 2) := by decide +kernel
theorem dX8_readToken_27 : decode cX8_readToken 27 = .ok (.if_icmp .ne 16, 3) := by decide +kernel
theorem dX8_readToken_30 : decode cX8_readToken 30 = .ok (.aload_n 0, 1) := by decide +kernel
theorem dX8_readToken_31 : decode cX8_readToken 31 = .ok (.dup, 1) := by decide +kernel
theorem dX8_readToken_32 : decode cX8_readToken 32 = .ok (.getfield 26, 3) := by decide +kernel
theorem dX8_readToken_35 : decode cX8_readToken 35 = .ok (.iconst 1, 1) := by decide +kernel
theorem dX8_readToken_36 : decode cX8_readToken 36 = .ok (.iadd, 1) := by decide +kernel
theorem dX8_readToken_37 : decode cX8_readToken 37 = .ok (.putfield 26, 3) := by decide +kernel
theorem dX8_readToken_40 : decode cX8_readToken 40 = .ok (.goto (-40), 3) := by decide +kernel
theorem dX8_readToken_43 : decode cX8_readToken 43 = .ok (.aload_n 0, 1) := by decide +kernel
theorem dX8_readToken_44 : decode cX8_readToken 44 = .ok (.aload_n 0, 1) := by decide +kernel
theorem dX8_readToken_45 : decode cX8_readToken 45 = .ok (.getfield 26, 3) := by decide +kernel
theorem dX8_readToken_48 : decode cX8_readToken 48 = .ok (.putfield 124, 3) := by decide +kernel
theorem dX8_readToken_51 : decode cX8_readToken 51 = .ok (.aload_n 0, 1) := by decide +kernel
theorem dX8_readToken_52 : decode cX8_readToken 52 = .ok (.iconst 0, 1) := by decide +kernel
theorem dX8_readToken_53 : decode cX8_readToken 53 = .ok (.putfield 91, 3) := by decide +kernel
theorem dX8_readToken_56 : decode cX8_readToken 56 = .ok (.aload_n 0, 1) := by decide +kernel
theorem dX8_readToken_57 : decode cX8_readToken 57 = .ok (.aload_n 0, 1) := by decide +kernel
theorem dX8_readToken_58 : decode cX8_readToken 58 = .ok (.getfield 26, 3) := by decide +kernel
theorem dX8_readToken_61 : decode cX8_readToken 61 = .ok (.aload_n 0, 1) := by decide +kernel
theorem dX8_readToken_62 : decode cX8_readToken 62 = .ok (.getfield 7, 3) := by decide +kernel
theorem dX8_readToken_65 : decode cX8_readToken 65 = .ok (.getfield 140, 3) := by decide +kernel
theorem dX8_readToken_68 : decode cX8_readToken 68 = .ok (.if_icmp .ge 20, 3) := by decide +kernel
theorem dX8_readToken_71 : decode cX8_readToken 71 = .ok (.aload_n 0, 1) := by decide +kernel
theorem dX8_readToken_72 : decode cX8_readToken 72 = .ok (.getfield 7, 3) := by decide +kernel
theorem dX8_readToken_75 : decode cX8_readToken 75 = .ok (.aload_n 0, 1) := by decide +kernel
theorem dX8_readToken_76 : decode cX8_readToken 76 = .ok (.getfield 26, 3) := by decide +kernel
theorem dX8_readToken_79 : decode cX8_readToken 79 = .ok (.invokevirtual 132, 3) := by decide +kernel
theorem dX8_readToken_82 : decode cX8_readToken 82 = .ok (.invokestatic 141, 3) := by decide +kernel
theorem dX8_readToken_85 : decode cX8_readToken 85 = .ok (.goto 4, 3) := by decide +kernel
theorem dX8_readToken_88 : decode cX8_readToken 88 = .ok (.iconst 0, 1) := by decide +kernel
theorem dX8_readToken_89 : decode cX8_readToken 89 = .ok (.putfield 40, 3) := by decide +kernel
theorem dX8_readToken_92 : decode cX8_readToken 92 = .ok (.aload_n 0, 1) := by decide +kernel
theorem dX8_readToken_93 : decode cX8_readToken 93 = .ok (.getfield 40, 3) := by decide +kernel
theorem dX8_readToken_96 : decode cX8_readToken 96 = .ok (.iconst 3, 1) := by decide +kernel
theorem dX8_readToken_97 : decode cX8_readToken 97 = .ok (.if_icmp .eq 11, 3) := by decide +kernel
theorem dX8_readToken_100 : decode cX8_readToken 100 = .ok (.aload_n 0, 1) := by decide +kernel
theorem dX8_readToken_101 : decode cX8_readToken 101 = .ok (.getfield 40, 3) := by decide +kernel
theorem dX8_readToken_104 : decode cX8_readToken 104 = .ok (.iconst 4, 1) := by decide +kernel
theorem dX8_readToken_105 : decode cX8_readToken 105 = .ok (.if_icmp .ne 13, 3) := by decide +kernel
theorem dX8_readToken_108 : decode cX8_readToken 108 = .ok (.aload_n 0, 1) := by decide +kernel
theorem dX8_readToken_109 : decode cX8_readToken 109 = .ok (.dup, 1) := by decide +kernel
theorem dX8_readToken_110 : decode cX8_readToken 110 = .ok (.getfield 26, 3) := by decide +kernel
theorem dX8_readToken_113 : decode cX8_readToken 113 = .ok (.iconst 1, 1) := by decide +kernel
theorem dX8_readToken_114 : decode cX8_readToken 114 = .ok (.iadd, 1) := by decide +kernel
theorem dX8_readToken_115 : decode cX8_readToken 115 = .ok (.putfield 26, 3) := by decide +kernel
theorem dX8_readToken_118 : decode cX8_readToken 118 = .ok (.aload_n 0, 1) := by decide +kernel
theorem dX8_readToken_119 : decode cX8_readToken 119 = .ok (.getfield 40, 3) := by decide +kernel
theorem dX8_readToken_122 : decode cX8_readToken 122 = .ok (.iconst 1, 1) := by decide +kernel
theorem dX8_readToken_123 : decode cX8_readToken 123 = .ok (.if_icmp .eq 11, 3) := by decide +kernel
theorem dX8_readToken_126 : decode cX8_readToken 126 = .ok (.aload_n 0, 1) := by decide +kernel
theorem dX8_readToken_127 : decode cX8_readToken 127 = .ok (.getfield 40, 3) := by decide +kernel
theorem dX8_readToken_130 : decode cX8_readToken 130 = .ok (.iconst 2, 1) := by decide +kernel
theorem dX8_readToken_131 : decode cX8_readToken 131 = .ok (.if_icmp .ne 7, 3) := by decide +kernel
theorem dX8_readToken_134 : decode cX8_readToken 134 = .ok (.iconst 1, 1) := by decide +kernel
theorem dX8_readToken_135 : decode cX8_readToken 135 = .ok (.goto 4, 3) := by decide +kernel
theorem dX8_readToken_138 : decode cX8_readToken 138 = .ok (.iconst 0, 1) := by decide +kernel
theorem dX8_readToken_139 : decode cX8_readToken 139 = .ok (.istore_n 1, 1) := by decide +kernel
theorem dX8_readToken_140 : decode cX8_readToken 140 = .ok (.iload_n 1, 1) := by decide +kernel
theorem dX8_readToken_141 : decode cX8_readToken 141 = .ok (.ifCond .eq 104, 3) := by decide +kernel
theorem dX8_readToken_144 : decode cX8_readToken 144 = .ok (.aload_n 0, 1) := by decide +kernel
theorem dX8_readToken_145 : decode cX8_readToken 145 = .ok (.getfield 26, 3) := by decide +kernel
theorem dX8_readToken_148 : decode cX8_readToken 148 = .ok (.aload_n 0, 1) := by decide +kernel
theorem dX8_readToken_149 : decode cX8_readToken 149 = .ok (.getfield 7, 3) := by decide +kernel
theorem dX8_readToken_152 : decode cX8_readToken 152 = .ok (.getfield 140, 3) := by decide +kernel
theorem dX8_readToken_155 : decode cX8_readToken 155 = .ok (.if_icmp .ge 90, 3) := by decide +kernel
theorem dX8_readToken_158 : decode cX8_readToken 158 = .ok (.aload_n 0, 1) := by decide +kernel
theorem dX8_readToken_159 : decode cX8_readToken 159 = .ok (.getfield 7, 3) := by decide +kernel
theorem dX8_readToken_162 : decode cX8_readToken 162 = .ok (.aload_n 0, 1) := by decide +kernel
theorem dX8_readToken_163 : decode cX8_readToken 163 = .ok (.getfield 26, 3) := by decide +kernel
theorem dX8_readToken_166 : decode cX8_readToken 166 = .ok (.invokevirtual 132, 3) := by decide +kernel
theorem dX8_readToken_169 : decode cX8_readToken 169 = .ok (.invokestatic 141, 3) := by decide +kernel
theorem dX8_readToken_172 : decode cX8_readToken 172 = .ok (.aload_n 0, 1) := by decide +kernel
theorem dX8_readToken_173 : decode cX8_readToken 173 = .ok (.getfield 40, 3) := by decide +kernel
theorem dX8_readToken_176 : decode cX8_readToken 176 = .ok (.if_icmp .ne 69, 3) := by decide +kernel
theorem dX8_readToken_179 : decode cX8_readToken 179 = .ok (.aload_n 0, 1) := by decide +kernel
theorem dX8_readToken_180 : decode cX8_readToken 180 = .ok (.getfield 7, 3) := by decide +kernel
theorem dX8_readToken_183 : decode cX8_readToken 183 = .ok (.aload_n 0, 1) := by decide +kernel
theorem dX8_readToken_184 : decode cX8_readToken 184 = .ok (.getfield 26, 3) := by decide +kernel
theorem dX8_readToken_187 : decode cX8_readToken 187 = .ok (.invokevirtual 132, 3) := by decide +kernel
theorem dX8_readToken_190 : decode cX8_readToken 190 = .ok (.istore_n 2, 1) := by decide +kernel
theorem dX8_readToken_191 : decode cX8_readToken 191 = .ok (.aload_n 0, 1) := by decide +kernel
theorem dX8_readToken_192 : decode cX8_readToken 192 = .ok (.aload_n 0, 1) := by decide +kernel
theorem dX8_readToken_193 : decode cX8_readToken 193 = .ok (.getfield 40, 3) := by decide +kernel
theorem dX8_readToken_196 : decode cX8_readToken 196 = .ok (.iconst 1, 1) := by decide +kernel
theorem dX8_readToken_197 : decode cX8_readToken 197 = .ok (.if_icmp .ne 20, 3) := by decide +kernel
theorem dX8_readToken_200 : decode cX8_readToken 200 = .ok (.aload_n 0, 1) := by decide +kernel
theorem dX8_readToken_201 : decode cX8_readToken 201 = .ok (.getfield 91, 3) := by decide +kernel
theorem dX8_readToken_204 : decode cX8_readToken 204 = .ok (.bipush 32, 2) := by decide +kernel
theorem dX8_readToken_206 : decode cX8_readToken 206 = .ok (.imul, 1) := by decide +kernel
theorem dX8_readToken_207 : decode cX8_readToken 207 = .ok (.iload_n 2, 1) := by decide +kernel
theorem dX8_readToken_208 : decode cX8_readToken 208 = .ok (.iadd, 1) := by decide +kernel
theorem dX8_readToken_209 : decode cX8_readToken 209 = .ok (.bipush 97, 2) := by decide +kernel
theorem dX8_readToken_211 : decode cX8_readToken 211 = .ok (.isub, 1) := by decide +kernel
theorem dX8_readToken_212 : decode cX8_readToken 212 = .ok (.iconst 1, 1) := by decide +kernel
theorem dX8_readToken_213 : decode cX8_readToken 213 = .ok (.iadd, 1) := by decide +kernel
theorem dX8_readToken_214 : decode cX8_readToken 214 = .ok (.goto 15, 3) := by decide +kernel
theorem dX8_readToken_217 : decode cX8_readToken 217 = .ok (.aload_n 0, 1) := by decide +kernel
theorem dX8_readToken_218 : decode cX8_readToken 218 = .ok (.getfield 91, 3) := by decide +kernel
theorem dX8_readToken_221 : decode cX8_readToken 221 = .ok (.bipush 10, 2) := by decide +kernel
theorem dX8_readToken_223 : decode cX8_readToken 223 = .ok (.imul, 1) := by decide +kernel
theorem dX8_readToken_224 : decode cX8_readToken 224 = .ok (.iload_n 2, 1) := by decide +kernel
theorem dX8_readToken_225 : decode cX8_readToken 225 = .ok (.iadd, 1) := by decide +kernel
theorem dX8_readToken_226 : decode cX8_readToken 226 = .ok (.bipush 48, 2) := by decide +kernel
theorem dX8_readToken_228 : decode cX8_readToken 228 = .ok (.isub, 1) := by decide +kernel
theorem dX8_readToken_229 : decode cX8_readToken 229 = .ok (.putfield 91, 3) := by decide +kernel
theorem dX8_readToken_232 : decode cX8_readToken 232 = .ok (.aload_n 0, 1) := by decide +kernel
theorem dX8_readToken_233 : decode cX8_readToken 233 = .ok (.dup, 1) := by decide +kernel
theorem dX8_readToken_234 : decode cX8_readToken 234 = .ok (.getfield 26, 3) := by decide +kernel
theorem dX8_readToken_237 : decode cX8_readToken 237 = .ok (.iconst 1, 1) := by decide +kernel
theorem dX8_readToken_238 : decode cX8_readToken 238 = .ok (.iadd, 1) := by decide +kernel
theorem dX8_readToken_239 : decode cX8_readToken 239 = .ok (.putfield 26, 3) := by decide +kernel
theorem dX8_readToken_242 : decode cX8_readToken 242 = .ok (.goto (-102), 3) := by decide +kernel
theorem dX8_readToken_245 : decode cX8_readToken 245 = .ok (.aload_n 0, 1) := by decide +kernel
theorem dX8_readToken_246 : decode cX8_readToken 246 = .ok (.aload_n 0, 1) := by decide +kernel
theorem dX8_readToken_247 : decode cX8_readToken 247 = .ok (.getfield 26, 3) := by decide +kernel
theorem dX8_readToken_250 : decode cX8_readToken 250 = .ok (.aload_n 0, 1) := by decide +kernel
theorem dX8_readToken_251 : decode cX8_readToken 251 = .ok (.getfield 124, 3) := by decide +kernel
theorem dX8_readToken_254 : decode cX8_readToken 254 = .ok (.isub, 1) := by decide +kernel
theorem dX8_readToken_255 : decode cX8_readToken 255 = .ok (.putfield 97, 3) := by decide +kernel
theorem dX8_readToken_258 : decode cX8_readToken 258 = .ok (.aload_n 0, 1) := by decide +kernel
theorem dX8_readToken_259 : decode cX8_readToken 259 = .ok (.getfield 40, 3) := by decide +kernel
theorem dX8_readToken_262 : decode cX8_readToken 262 = .ok (.iconst 2, 1) := by decide +kernel
theorem dX8_readToken_263 : decode cX8_readToken 263 = .ok (.if_icmp .ne 16, 3) := by decide +kernel
theorem dX8_readToken_266 : decode cX8_readToken 266 = .ok (.aload_n 0, 1) := by decide +kernel
theorem dX8_readToken_267 : decode cX8_readToken 267 = .ok (.getfield 97, 3) := by decide +kernel
theorem dX8_readToken_270 : decode cX8_readToken 270 = .ok (.iconst 2, 1) := by decide +kernel
theorem dX8_readToken_271 : decode cX8_readToken 271 = .ok (.if_icmp .le 8, 3) := by decide +kernel
theorem dX8_readToken_274 : decode cX8_readToken 274 = .ok (.aload_n 0, 1) := by decide +kernel
theorem dX8_readToken_275 : decode cX8_readToken 275 = .ok (.iconst 4, 1) := by decide +kernel
theorem dX8_readToken_276 : decode cX8_readToken 276 = .ok (.putfield 40, 3) := by decide +kernel
theorem dX8_readToken_279 : decode cX8_readToken 279 = .ok (.return_, 1) := by decide +kernel
theorem dX8_kindOf_0 : decode cX8_kindOf 0 = .ok (.iload_n 0, 1) := by decide +kernel
theorem dX8_kindOf_1 : decode cX8_kindOf 1 = .ok (.bipush 97, 2) := by decide +kernel
theorem dX8_kindOf_3 : decode cX8_kindOf 3 = .ok (.if_icmp .lt 11, 3) := by decide +kernel
theorem dX8_kindOf_6 : decode cX8_kindOf 6 = .ok (.iload_n 0, 1) := by decide +kernel
theorem dX8_kindOf_7 : decode cX8_kindOf 7 = .ok (.bipush 122, 2) := by decide +kernel
theorem dX8_kindOf_9 : decode cX8_kindOf 9 = .ok (.if_icmp .gt 5, 3) := by decide +kernel
theorem dX8_kindOf_12 : decode cX8_kindOf 12 = .ok (.iconst 1, 1) := by decide +kernel
theorem dX8_kindOf_13 : decode cX8_kindOf 13 = .ok (.ireturn, 1) := by decide +kernel
theorem dX8_kindOf_14 : decode cX8_kindOf 14 = .ok (.iload_n 0, 1) := by decide +kernel
theorem dX8_kindOf_15 : decode cX8_kindOf 15 = .ok (.bipush 48, 2) := by decide +kernel
theorem dX8_kindOf_17 : decode cX8_kindOf 17 = .ok (.if_icmp .lt 11, 3) := by decide +kernel
theorem dX8_kindOf_20 : decode cX8_kindOf 20 = .ok (.iload_n 0, 1) := by decide +kernel
theorem dX8_kindOf_21 : decode cX8_kindOf 21 = .ok (.bipush 57, 2) := by decide +kernel
theorem dX8_kindOf_23 : decode cX8_kindOf 23 = .ok (.if_icmp .gt 5, 3) := by decide +kernel
theorem dX8_kindOf_26 : decode cX8_kindOf 26 = .ok (.iconst 2, 1) := by decide +kernel
theorem dX8_kindOf_27 : decode cX8_kindOf 27 = .ok (.ireturn, 1) := by decide +kernel
theorem dX8_kindOf_28 : decode cX8_kindOf 28 = .ok (.iload_n 0, 1) := by decide +kernel
theorem dX8_kindOf_29 : decode cX8_kindOf 29 = .ok (.bipush 59, 2) := by decide +kernel
theorem dX8_kindOf_31 : decode cX8_kindOf 31 = .ok (.if_icmp .ne 7, 3) := by decide +kernel
theorem dX8_kindOf_34 : decode cX8_kindOf 34 = .ok (.iconst 3, 1) := by decide +kernel
theorem dX8_kindOf_35 : decode cX8_kindOf 35 = .ok (.goto 4, 3) := by decide +kernel
theorem dX8_kindOf_38 : decode cX8_kindOf 38 = .ok (.iconst 4, 1) := by decide +kernel
theorem dX8_kindOf_39 : decode cX8_kindOf 39 = .ok (.ireturn, 1) := by decide +kernel
theorem dX9_init_0 : decode cX9_init 0 = .ok (.aload_n 0, 1) := by decide +kernel
theorem dX9_init_1 : decode cX9_init 1 = .ok (.invokespecial 5, 3) := by decide +kernel
theorem dX9_init_4 : decode cX9_init 4 = .ok (.aload_n 0, 1) := by decide +kernel
theorem dX9_init_5 : decode cX9_init 5 = .ok (.aload_n 1, 1) := by decide +kernel
theorem dX9_init_6 : decode cX9_init 6 = .ok (.putfield 11, 3) := by decide +kernel
theorem dX9_init_9 : decode cX9_init 9 = .ok (.aload_n 0, 1) := by decide +kernel
theorem dX9_init_10 : decode cX9_init 10 = .ok (.bipush 16, 2) := by decide +kernel
theorem dX9_init_12 : decode cX9_init 12 = .ok (.newarray .long, 2) := by decide +kernel
theorem dX9_init_14 : decode cX9_init 14 = .ok (.putfield 15, 3) := by decide +kernel
theorem dX9_init_17 : decode cX9_init 17 = .ok (.aload_n 0, 1) := by decide +kernel
theorem dX9_init_18 : decode cX9_init 18 = .ok (.sipush 320, 3) := by decide +kernel
theorem dX9_init_21 : decode cX9_init 21 = .ok (.newarray .int, 2) := by decide +kernel
theorem dX9_init_23 : decode cX9_init 23 = .ok (.putfield 19, 3) := by decide +kernel
theorem dX9_init_26 : decode cX9_init 26 = .ok (.aload_n 0, 1) := by decide +kernel
theorem dX9_init_27 : decode cX9_init 27 = .ok (.bipush 16, 2) := by decide +kernel
theorem dX9_init_29 : decode cX9_init 29 = .ok (.newarray .int, 2) := by decide +kernel
theorem dX9_init_31 : decode cX9_init 31 = .ok (.putfield 23, 3) := by decide +kernel
theorem dX9_init_34 : decode cX9_init 34 = .ok (.aload_n 0, 1) := by decide +kernel
theorem dX9_init_35 : decode cX9_init 35 = .ok (.sipush 256, 3) := by decide +kernel
theorem dX9_init_38 : decode cX9_init 38 = .ok (.newarray .int, 2) := by decide +kernel
theorem dX9_init_40 : decode cX9_init 40 = .ok (.putfield 26, 3) := by decide +kernel
theorem dX9_init_43 : decode cX9_init 43 = .ok (.aload_n 0, 1) := by decide +kernel
theorem dX9_init_44 : decode cX9_init 44 = .ok (.bipush 16, 2) := by decide +kernel
theorem dX9_init_46 : decode cX9_init 46 = .ok (.newarray .int, 2) := by decide +kernel
theorem dX9_init_48 : decode cX9_init 48 = .ok (.putfield 29, 3) := by decide +kernel
theorem dX9_init_51 : decode cX9_init 51 = .ok (.aload_n 0, 1) := by decide +kernel
theorem dX9_init_52 : decode cX9_init 52 = .ok (.bipush 16, 2) := by decide +kernel
theorem dX9_init_54 : decode cX9_init 54 = .ok (.newarray .int, 2) := by decide +kernel
theorem dX9_init_56 : decode cX9_init 56 = .ok (.putfield 32, 3) := by decide +kernel
theorem dX9_init_59 : decode cX9_init 59 = .ok (.aload_n 0, 1) := by decide +kernel
theorem dX9_init_60 : decode cX9_init 60 = .ok (.bipush 16, 2) := by decide +kernel
theorem dX9_init_62 : decode cX9_init 62 = .ok (.newarray .int, 2) := by decide +kernel
theorem dX9_init_64 : decode cX9_init 64 = .ok (.putfield 35, 3) := by decide +kernel
theorem dX9_init_67 : decode cX9_init 67 = .ok (.aload_n 0, 1) := by decide +kernel
theorem dX9_init_68 : decode cX9_init 68 = .ok (.bipush 21, 2) := by decide +kernel
theorem dX9_init_70 : decode cX9_init 70 = .ok (.newarray .int, 2) := by decide +kernel
theorem dX9_init_72 : decode cX9_init 72 = .ok (.putfield 38, 3) := by decide +kernel
theorem dX9_init_75 : decode cX9_init 75 = .ok (.return_, 1) := by decide +kernel
theorem dX9_isWord_0 : decode cX9_isWord 0 = .ok (.lload_n 0, 1) := by decide +kernel
theorem dX9_isWord_1 : decode cX9_isWord 1 = .ok (.lconst 0, 1) := by decide +kernel
theorem dX9_isWord_2 : decode cX9_isWord 2 = .ok (.lcmp, 1) := by decide +kernel
theorem dX9_isWord_3 : decode cX9_isWord 3 = .ok (.ifCond .le 11, 3) := by decide +kernel
theorem dX9_isWord_6 : decode cX9_isWord 6 = .ok (.lload_n 0, 1) := by decide +kernel
theorem dX9_isWord_7 : decode cX9_isWord 7 = .ok (.ldc2_w 41, 3) := by decide +kernel
theorem dX9_isWord_10 : decode cX9_isWord 10 = .ok (.lcmp, 1) := by decide +kernel
theorem dX9_isWord_11 : decode cX9_isWord 11 = .ok (.ifCond .lt 5, 3) := by decide +kernel
theorem dX9_isWord_14 : decode cX9_isWord 14 = .ok (.iconst 0, 1) := by decide +kernel
theorem dX9_isWord_15 : decode cX9_isWord 15 = .ok (.ireturn, 1) := by decide +kernel
theorem dX9_isWord_16 : decode cX9_isWord 16 = .ok (.lload_n 0, 1) := by decide +kernel
theorem dX9_isWord_17 : decode cX9_isWord 17 = .ok (.lstore_n 2, 1) := by decide +kernel
theorem dX9_isWord_18 : decode cX9_isWord 18 = .ok (.iconst 0, 1) := by decide +kernel
theorem dX9_isWord_19 : decode cX9_isWord 19 = .ok (.istore 4, 2) := by decide +kernel
theorem dX9_isWord_21 : decode cX9_isWord 21 = .ok (.iload 4, 2) := by decide +kernel
theorem dX9_isWord_23 : decode cX9_isWord 23 = .ok (.bipush 10, 2) := by decide +kernel
theorem dX9_isWord_25 : decode cX9_isWord 25 = .ok (.if_icmp .ge 44, 3) := by decide +kernel
theorem dX9_isWord_28 : decode cX9_isWord 28 = .ok (.lload_n 2, 1) := by decide +kernel
theorem dX9_isWord_29 : decode cX9_isWord 29 = .ok (.lconst 0, 1) := by decide +kernel
theorem dX9_isWord_30 : decode cX9_isWord 30 = .ok (.lcmp, 1) := by decide +kernel
theorem dX9_isWord_31 : decode cX9_isWord 31 = .ok (.ifCond .le 38, 3) := by decide +kernel
theorem dX9_isWord_34 : decode cX9_isWord 34 = .ok (.lload_n 2, 1) := by decide +kernel
theorem dX9_isWord_35 : decode cX9_isWord 35 = .ok (.ldc2_w 43, 3) := by decide +kernel
theorem dX9_isWord_38 : decode cX9_isWord 38 = .ok (.land, 1) := by decide +kernel
theorem dX9_isWord_39 : decode cX9_isWord 39 = .ok (.lstore 5, 2) := by decide +kernel
theorem dX9_isWord_41 : decode cX9_isWord 41 = .ok (.lload 5, 2) := by decide +kernel
theorem dX9_isWord_43 : decode cX9_isWord 43 = .ok (.lconst 1, 1) := by decide +kernel
theorem dX9_isWord_44 : decode cX9_isWord 44 = .ok (.lcmp, 1) := by decide +kernel
theorem dX9_isWord_45 : decode cX9_isWord 45 = .ok (.ifCond .lt 12, 3) := by decide +kernel
theorem dX9_isWord_48 : decode cX9_isWord 48 = .ok (.lload 5, 2) := by decide +kernel
theorem dX9_isWord_50 : decode cX9_isWord 50 = .ok (.ldc2_w 45, 3) := by decide +kernel
theorem dX9_isWord_53 : decode cX9_isWord 53 = .ok (.lcmp, 1) := by decide +kernel
theorem dX9_isWord_54 : decode cX9_isWord 54 = .ok (.ifCond .le 5, 3) := by decide +kernel
theorem dX9_isWord_57 : decode cX9_isWord 57 = .ok (.iconst 0, 1) := by decide +kernel
theorem dX9_isWord_58 : decode cX9_isWord 58 = .ok (.ireturn, 1) := by decide +kernel
theorem dX9_isWord_59 : decode cX9_isWord 59 = .ok (.lload_n 2, 1) := by decide +kernel
theorem dX9_isWord_60 : decode cX9_isWord 60 = .ok (.iconst 5, 1) := by decide +kernel
theorem dX9_isWord_61 : decode cX9_isWord 61 = .ok (.lshr, 1) := by decide +kernel
theorem dX9_isWord_62 : decode cX9_isWord 62 = .ok (.lstore_n 2, 1) := by decide +kernel
theorem dX9_isWord_63 : decode cX9_isWord 63 = .ok (.iinc 4 1, 3) := by decide +kernel
theorem dX9_isWord_66 : decode cX9_isWord 66 = .ok (.goto (-45), 3) := by decide +kernel
theorem dX9_isWord_69 : decode cX9_isWord 69 = .ok (.iconst 1, 1) := by decide +kernel
theorem dX9_isWord_70 : decode cX9_isWord 70 = .ok (.ireturn, 1) := by decide +kernel
theorem dX9_has_0 : decode cX9_has 0 = .ok (.iload_n 1, 1) := by decide +kernel
theorem dX9_has_1 : decode cX9_has 1 = .ok (.ifCond .lt 15, 3) := by decide +kernel
theorem dX9_has_4 : decode cX9_has 4 = .ok (.iload_n 1, 1) := by decide +kernel
theorem dX9_has_5 : decode cX9_has 5 = .ok (.aload_n 0, 1) := by decide +kernel
theorem dX9_has_6 : decode cX9_has 6 = .ok (.getfield 47, 3) := by decide +kernel
theorem dX9_has_9 : decode cX9_has 9 = .ok (.if_icmp .ge 7, 3) := by decide +kernel
theorem dX9_has_12 : decode cX9_has 12 = .ok (.iconst 1, 1) := by decide +kernel
theorem dX9_has_13 : decode cX9_has 13 = .ok (.goto 4, 3) := by decide +kernel
theorem dX9_has_16 : decode cX9_has 16 = .ok (.iconst 0, 1) := by decide +kernel
theorem dX9_has_17 : decode cX9_has 17 = .ok (.ireturn, 1) := by decide +kernel
theorem dX9_holds_0 : decode cX9_holds 0 = .ok (.iconst 0, 1) := by decide +kernel
theorem dX9_holds_1 : decode cX9_holds 1 = .ok (.istore_n 3, 1) := by decide +kernel
theorem dX9_holds_2 : decode cX9_holds 2 = .ok (.iload_n 3, 1) := by decide +kernel
theorem dX9_holds_3 : decode cX9_holds 3 = .ok (.aload_n 0, 1) := by decide +kernel
theorem dX9_holds_4 : decode cX9_holds 4 = .ok (.getfield 47, 3) := by decide +kernel
theorem dX9_holds_7 : decode cX9_holds 7 = .ok (.if_icmp .ge 22, 3) := by decide +kernel
theorem dX9_holds_10 : decode cX9_holds 10 = .ok (.aload_n 0, 1) := by decide +kernel
theorem dX9_holds_11 : decode cX9_holds 11 = .ok (.getfield 15, 3) := by decide +kernel
theorem dX9_holds_14 : decode cX9_holds 14 = .ok (.iload_n 3, 1) := by decide +kernel
theorem dX9_holds_15 : decode cX9_holds 15 = .ok (.laload, 1) := by decide +kernel
theorem dX9_holds_16 : decode cX9_holds 16 = .ok (.lload_n 1, 1) := by decide +kernel
theorem dX9_holds_17 : decode cX9_holds 17 = .ok (.lcmp, 1) := by decide +kernel
theorem dX9_holds_18 : decode cX9_holds 18 = .ok (.ifCond .ne 5, 3) := by decide +kernel
theorem dX9_holds_21 : decode cX9_holds 21 = .ok (.iconst 1, 1) := by decide +kernel
theorem dX9_holds_22 : decode cX9_holds 22 = .ok (.ireturn, 1) := by decide +kernel
theorem dX9_holds_23 : decode cX9_holds 23 = .ok (.iinc 3 1, 3) := by decide +kernel
theorem dX9_holds_26 : decode cX9_holds 26 = .ok (.goto (-24), 3) := by decide +kernel
theorem dX9_holds_29 : decode cX9_holds 29 = .ok (.iconst 0, 1) := by decide +kernel
theorem dX9_holds_30 : decode cX9_holds 30 = .ok (.ireturn, 1) := by decide +kernel
theorem dX9_append_0 : decode cX9_append 0 = .ok (.aload_n 0, 1) := by decide +kernel
theorem dX9_append_1 : decode cX9_append 1 = .ok (.getfield 47, 3) := by decide +kernel
theorem dX9_append_4 : decode cX9_append 4 = .ok (.bipush 16, 2) := by decide +kernel
theorem dX9_append_6 : decode cX9_append 6 = .ok (.if_icmp .lt 6, 3) := by decide +kernel
theorem dX9_append_9 : decode cX9_append 9 = .ok (.bipush (-3), 2) := by decide +kernel
theorem dX9_append_11 : decode cX9_append 11 = .ok (.ireturn, 1) := by decide +kernel
theorem dX9_append_12 : decode cX9_append 12 = .ok (.aload_n 0, 1) := by decide +kernel
theorem dX9_append_13 : decode cX9_append 13 = .ok (.getfield 15, 3) := by decide +kernel
theorem dX9_append_16 : decode cX9_append 16 = .ok (.aload_n 0, 1) := by decide +kernel
theorem dX9_append_17 : decode cX9_append 17 = .ok (.getfield 47, 3) := by decide +kernel
theorem dX9_append_20 : decode cX9_append 20 = .ok (.lload_n 1, 1) := by decide +kernel
theorem dX9_append_21 : decode cX9_append 21 = .ok (.lastore, 1) := by decide +kernel
theorem dX9_append_22 : decode cX9_append 22 = .ok (.aload_n 0, 1) := by decide +kernel
theorem dX9_append_23 : decode cX9_append 23 = .ok (.dup, 1) := by decide +kernel
theorem dX9_append_24 : decode cX9_append 24 = .ok (.getfield 47, 3) := by decide +kernel
theorem dX9_append_27 : decode cX9_append 27 = .ok (.iconst 1, 1) := by decide +kernel
theorem dX9_append_28 : decode cX9_append 28 = .ok (.iadd, 1) := by decide +kernel
theorem dX9_append_29 : decode cX9_append 29 = .ok (.putfield 47, 3) := by decide +kernel
theorem dX9_append_32 : decode cX9_append 32 = .ok (.aload_n 0, 1) := by decide +kernel
theorem dX9_append_33 : decode cX9_append 33 = .ok (.aload_n 0, 1) := by decide +kernel
theorem dX9_append_34 : decode cX9_append 34 = .ok (.getfield 47, 3) := by decide +kernel
theorem dX9_append_37 : decode cX9_append 37 = .ok (.iconst 1, 1) := by decide +kernel
theorem dX9_append_38 : decode cX9_append 38 = .ok (.isub, 1) := by decide +kernel
theorem dX9_append_39 : decode cX9_append 39 = .ok (.invokevirtual 51, 3) := by decide +kernel
theorem dX9_append_42 : decode cX9_append 42 = .ok (.aload_n 0, 1) := by decide +kernel
theorem dX9_append_43 : decode cX9_append 43 = .ok (.invokevirtual 55, 3) := by decide +kernel
theorem dX9_append_46 : decode cX9_append 46 = .ok (.aload_n 0, 1) := by decide +kernel
theorem dX9_append_47 : decode cX9_append 47 = .ok (.getfield 47, 3) := by decide +kernel
theorem dX9_append_50 : decode cX9_append 50 = .ok (.iconst 1, 1) := by decide +kernel
theorem dX9_append_51 : decode cX9_append 51 = .ok (.isub, 1) := by decide +kernel
theorem dX9_append_52 : decode cX9_append 52 = .ok (.ireturn, 1) := by decide +kernel
theorem dX9_follow_0 : decode cX9_follow 0 = .ok (.aload_n 0, 1) := by decide +kernel
theorem dX9_follow_1 : decode cX9_follow 1 = .ok (.aload_n 1, 1) := by decide +kernel
theorem dX9_follow_2 : decode cX9_follow 2 = .ok (.putfield 11, 3) := by decide +kernel
theorem dX9_follow_5 : decode cX9_follow 5 = .ok (.iconst 0, 1) := by decide +kernel
theorem dX9_follow_6 : decode cX9_follow 6 = .ok (.istore_n 2, 1) := by decide +kernel
theorem dX9_follow_7 : decode cX9_follow 7 = .ok (.iload_n 2, 1) := by decide +kernel
theorem dX9_follow_8 : decode cX9_follow 8 = .ok (.aload_n 0, 1) := by decide +kernel
theorem dX9_follow_9 : decode cX9_follow 9 = .ok (.getfield 47, 3) := by decide +kernel
theorem dX9_follow_12 : decode cX9_follow 12 = .ok (.if_icmp .ge 14, 3) := by decide +kernel
theorem dX9_follow_15 : decode cX9_follow 15 = .ok (.aload_n 0, 1) := by decide +kernel
theorem dX9_follow_16 : decode cX9_follow 16 = .ok (.iload_n 2, 1) := by decide +kernel
theorem dX9_follow_17 : decode cX9_follow 17 = .ok (.invokevirtual 51, 3) := by decide +kernel
theorem dX9_follow_20 : decode cX9_follow 20 = .ok (.iinc 2 1, 3) := by decide +kernel
theorem dX9_follow_23 : decode cX9_follow 23 = .ok (.goto (-16), 3) := by decide +kernel
theorem dX9_follow_26 : decode cX9_follow 26 = .ok (.aload_n 0, 1) := by decide +kernel
theorem dX9_follow_27 : decode cX9_follow 27 = .ok (.invokevirtual 55, 3) := by decide +kernel
theorem dX9_follow_30 : decode cX9_follow 30 = .ok (.return_, 1) := by decide +kernel
theorem dX9_settle_0 : decode cX9_settle 0 = .ok (.aload_n 0, 1) := by decide +kernel
theorem dX9_settle_1 : decode cX9_settle 1 = .ok (.iload_n 1, 1) := by decide +kernel
theorem dX9_settle_2 : decode cX9_settle 2 = .ok (.invokevirtual 58, 3) := by decide +kernel
theorem dX9_settle_5 : decode cX9_settle 5 = .ok (.aload_n 0, 1) := by decide +kernel
theorem dX9_settle_6 : decode cX9_settle 6 = .ok (.getfield 29, 3) := by decide +kernel
theorem dX9_settle_9 : decode cX9_settle 9 = .ok (.iload_n 1, 1) := by decide +kernel
theorem dX9_settle_10 : decode cX9_settle 10 = .ok (.iconst 1, 1) := by decide +kernel
theorem dX9_settle_11 : decode cX9_settle 11 = .ok (.iload_n 1, 1) := by decide +kernel
theorem dX9_settle_12 : decode cX9_settle 12 = .ok (.ishl, 1) := by decide +kernel
theorem dX9_settle_13 : decode cX9_settle 13 = .ok (.iastore, 1) := by decide +kernel
theorem dX9_settle_14 : decode cX9_settle 14 = .ok (.iconst 0, 1) := by decide +kernel
theorem dX9_settle_15 : decode cX9_settle 15 = .ok (.istore_n 2, 1) := by decide +kernel
theorem dX9_settle_16 : decode cX9_settle 16 = .ok (.iload_n 2, 1) := by decide +kernel
theorem dX9_settle_17 : decode cX9_settle 17 = .ok (.iload_n 1, 1) := by decide +kernel
theorem dX9_settle_18 : decode cX9_settle 18 = .ok (.if_icmp .ge 77, 3) := by decide +kernel
theorem dX9_settle_21 : decode cX9_settle 21 = .ok (.aload_n 0, 1) := by decide +kernel
theorem dX9_settle_22 : decode cX9_settle 22 = .ok (.iload_n 1, 1) := by decide +kernel
theorem dX9_settle_23 : decode cX9_settle 23 = .ok (.iload_n 2, 1) := by decide +kernel
theorem dX9_settle_24 : decode cX9_settle 24 = .ok (.invokevirtual 61, 3) := by decide +kernel
theorem dX9_settle_27 : decode cX9_settle 27 = .ok (.istore_n 3, 1) := by decide +kernel
theorem dX9_settle_28 : decode cX9_settle 28 = .ok (.aload_n 0, 1) := by decide +kernel
theorem dX9_settle_29 : decode cX9_settle 29 = .ok (.getfield 26, 3) := by decide +kernel
theorem dX9_settle_32 : decode cX9_settle 32 = .ok (.iload_n 1, 1) := by decide +kernel
theorem dX9_settle_33 : decode cX9_settle 33 = .ok (.bipush 16, 2) := by decide +kernel
theorem dX9_settle_35 : decode cX9_settle 35 = .ok (.imul, 1) := by decide +kernel
theorem dX9_settle_36 : decode cX9_settle 36 = .ok (.iload_n 2, 1) := by decide +kernel
theorem dX9_settle_37 : decode cX9_settle 37 = .ok (.iadd, 1) := by decide +kernel
theorem dX9_settle_38 : decode cX9_settle 38 = .ok (.iload_n 3, 1) := by decide +kernel
theorem dX9_settle_39 : decode cX9_settle 39 = .ok (.iastore, 1) := by decide +kernel
theorem dX9_settle_40 : decode cX9_settle 40 = .ok (.aload_n 0, 1) := by decide +kernel
theorem dX9_settle_41 : decode cX9_settle 41 = .ok (.getfield 26, 3) := by decide +kernel
theorem dX9_settle_44 : decode cX9_settle 44 = .ok (.iload_n 2, 1) := by decide +kernel
theorem dX9_settle_45 : decode cX9_settle 45 = .ok (.bipush 16, 2) := by decide +kernel
theorem dX9_settle_47 : decode cX9_settle 47 = .ok (.imul, 1) := by decide +kernel
theorem dX9_settle_48 : decode cX9_settle 48 = .ok (.iload_n 1, 1) := by decide +kernel
theorem dX9_settle_49 : decode cX9_settle 49 = .ok (.iadd, 1) := by decide +kernel
theorem dX9_settle_50 : decode cX9_settle 50 = .ok (.iload_n 3, 1) := by decide +kernel
theorem dX9_settle_51 : decode cX9_settle 51 = .ok (.iastore, 1) := by decide +kernel
theorem dX9_settle_52 : decode cX9_settle 52 = .ok (.iload_n 3, 1) := by decide +kernel
theorem dX9_settle_53 : decode cX9_settle 53 = .ok (.aload_n 0, 1) := by decide +kernel
theorem dX9_settle_54 : decode cX9_settle 54 = .ok (.getfield 11, 3) := by decide +kernel
theorem dX9_settle_57 : decode cX9_settle 57 = .ok (.getfield 65, 3) := by decide +kernel
theorem dX9_settle_60 : decode cX9_settle 60 = .ok (.iconst 2, 1) := by decide +kernel
theorem dX9_settle_61 : decode cX9_settle 61 = .ok (.iaload, 1) := by decide +kernel
theorem dX9_settle_62 : decode cX9_settle 62 = .ok (.if_icmp .gt 27, 3) := by decide +kernel
theorem dX9_settle_65 : decode cX9_settle 65 = .ok (.aload_n 0, 1) := by decide +kernel
theorem dX9_settle_66 : decode cX9_settle 66 = .ok (.getfield 29, 3) := by decide +kernel
theorem dX9_settle_69 : decode cX9_settle 69 = .ok (.iload_n 1, 1) := by decide +kernel
theorem dX9_settle_70 : decode cX9_settle 70 = .ok (.dup2, 1) := by decide +kernel
theorem dX9_settle_71 : decode cX9_settle 71 = .ok (.iaload, 1) := by decide +kernel
theorem dX9_settle_72 : decode cX9_settle 72 = .ok (.iconst 1, 1) := by decide +kernel
theorem dX9_settle_73 : decode cX9_settle 73 = .ok (.iload_n 2, 1) := by decide +kernel
theorem dX9_settle_74 : decode cX9_settle 74 = .ok (.ishl, 1) := by decide +kernel
theorem dX9_settle_75 : decode cX9_settle 75 = .ok (.ior, 1) := by decide +kernel
theorem dX9_settle_76 : decode cX9_settle 76 = .ok (.iastore, 1) := by decide +kernel
theorem dX9_settle_77 : decode cX9_settle 77 = .ok (.aload_n 0, 1) := by decide +kernel
theorem dX9_settle_78 : decode cX9_settle 78 = .ok (.getfield 29, 3) := by decide +kernel
theorem dX9_settle_81 : decode cX9_settle 81 = .ok (.iload_n 2, 1) := by decide +kernel
theorem dX9_settle_82 : decode cX9_settle 82 = .ok (.dup2, 1) := by decide +kernel
theorem dX9_settle_83 : decode cX9_settle 83 = .ok (.iaload, 1) := by decide +kernel
theorem dX9_settle_84 : decode cX9_settle 84 = .ok (.iconst 1, 1) := by decide +kernel
theorem dX9_settle_85 : decode cX9_settle 85 = .ok (.iload_n 1, 1) := by decide +kernel
theorem dX9_settle_86 : decode cX9_settle 86 = .ok (.ishl, 1) := by decide +kernel
theorem dX9_settle_87 : decode cX9_settle 87 = .ok (.ior, 1) := by decide +kernel
theorem dX9_settle_88 : decode cX9_settle 88 = .ok (.iastore, 1) := by decide +kernel
theorem dX9_settle_89 : decode cX9_settle 89 = .ok (.iinc 2 1, 3) := by decide +kernel
theorem dX9_settle_92 : decode cX9_settle 92 = .ok (.goto (-76), 3) := by decide +kernel
theorem dX9_settle_95 : decode cX9_settle 95 = .ok (.return_, 1) := by decide +kernel
theorem dX9_soundOf_0 : decode cX9_soundOf 0 = .ok (.lconst 0, 1) := by decide +kernel
theorem dX9_soundOf_1 : decode cX9_soundOf 1 = .ok (.lstore_n 2, 1) := by decide +kernel
theorem dX9_soundOf_2 : decode cX9_soundOf 2 = .ok (.iconst 0, 1) := by decide +kernel
theorem dX9_soundOf_3 : decode cX9_soundOf 3 = .ok (.istore 4, 2) := by decide +kernel
theorem dX9_soundOf_5 : decode cX9_soundOf 5 = .ok (.iload 4, 2) := by decide +kernel
theorem dX9_soundOf_7 : decode cX9_soundOf 7 = .ok (.aload_n 0, 1) := by decide +kernel
theorem dX9_soundOf_8 : decode cX9_soundOf 8 = .ok (.getfield 23, 3) := by decide +kernel
theorem dX9_soundOf_11 : decode cX9_soundOf 11 = .ok (.iload_n 1, 1) := by decide +kernel
theorem dX9_soundOf_12 : decode cX9_soundOf 12 = .ok (.iaload, 1) := by decide +kernel
theorem dX9_soundOf_13 : decode cX9_soundOf 13 = .ok (.if_icmp .ge 31, 3) := by decide +kernel
theorem dX9_soundOf_16 : decode cX9_soundOf 16 = .ok (.lload_n 2, 1) := by decide +kernel
theorem dX9_soundOf_17 : decode cX9_soundOf 17 = .ok (.iconst 5, 1) := by decide +kernel
theorem dX9_soundOf_18 : decode cX9_soundOf 18 = .ok (.lshl, 1) := by decide +kernel
theorem dX9_soundOf_19 : decode cX9_soundOf 19 = .ok (.aload_n 0, 1) := by decide +kernel
theorem dX9_soundOf_20 : decode cX9_soundOf 20 = .ok (.getfield 19, 3) := by decide +kernel
theorem dX9_soundOf_23 : decode cX9_soundOf 23 = .ok (.iload_n 1, 1) := by decide +kernel
theorem dX9_soundOf_24 : decode cX9_soundOf 24 = .ok (.bipush 20, 2) := by decide +kernel
theorem dX9_soundOf_26 : decode cX9_soundOf 26 = .ok (.imul, 1) := by decide +kernel
theorem dX9_soundOf_27 : decode cX9_soundOf 27 = .ok (.iload 4, 2) := by decide +kernel
theorem dX9_soundOf_29 : decode cX9_soundOf 29 = .ok (.iadd, 1) := by decide +kernel
theorem dX9_soundOf_30 : decode cX9_soundOf 30 = .ok (.iaload, 1) := by decide +kernel
theorem dX9_soundOf_31 : decode cX9_soundOf 31 = .ok (.i2l, 1) := by decide +kernel
theorem dX9_soundOf_32 : decode cX9_soundOf 32 = .ok (.lor, 1) := by decide +kernel
theorem dX9_soundOf_33 : decode cX9_soundOf 33 = .ok (.ldc2_w 70, 3) := by decide +kernel
theorem dX9_soundOf_36 : decode cX9_soundOf 36 = .ok (.land, 1) := by decide +kernel
theorem dX9_soundOf_37 : decode cX9_soundOf 37 = .ok (.lstore_n 2, 1) := by decide +kernel
theorem dX9_soundOf_38 : decode cX9_soundOf 38 = .ok (.iinc 4 1, 3) := by decide +kernel
theorem dX9_soundOf_41 : decode cX9_soundOf 41 = .ok (.goto (-36), 3) := by decide +kernel
theorem dX9_soundOf_44 : decode cX9_soundOf 44 = .ok (.lload_n 2, 1) := by decide +kernel
theorem dX9_soundOf_45 : decode cX9_soundOf 45 = .ok (.lreturn, 1) := by decide +kernel
theorem dX9_apartOf_0 : decode cX9_apartOf 0 = .ok (.aload_n 0, 1) := by decide +kernel
theorem dX9_apartOf_1 : decode cX9_apartOf 1 = .ok (.getfield 26, 3) := by decide +kernel
theorem dX9_apartOf_4 : decode cX9_apartOf 4 = .ok (.iload_n 1, 1) := by decide +kernel
theorem dX9_apartOf_5 : decode cX9_apartOf 5 = .ok (.bipush 16, 2) := by decide +kernel
theorem dX9_apartOf_7 : decode cX9_apartOf 7 = .ok (.imul, 1) := by decide +kernel
theorem dX9_apartOf_8 : decode cX9_apartOf 8 = .ok (.iload_n 2, 1) := by decide +kernel
theorem dX9_apartOf_9 : decode cX9_apartOf 9 = .ok (.iadd, 1) := by decide +kernel
