theorem dX10_starts_63 : decode cX10_starts 63 = .ok (.iaload, 1) := by decide +kernel
theorem dX10_starts_64 : decode cX10_starts 64 = .ok (.invokevirtual 298, 3) := by decide +kernel
theorem dX10_starts_67 : decode cX10_starts 67 = .ok (.aload_n 0, 1) := by decide +kernel
theorem dX10_starts_68 : decode cX10_starts 68 = .ok (.getfield 65, 3) := by decide +kernel
theorem dX10_starts_71 : decode cX10_starts 71 = .ok (.invokevirtual 301, 3) := by decide +kernel
theorem dX10_starts_74 : decode cX10_starts 74 = .ok (.iload_n 2, 1) := by decide +kernel
theorem dX10_starts_75 : decode cX10_starts 75 = .ok (.iconst 3, 1) := by decide +kernel
theorem dX10_starts_76 : decode cX10_starts 76 = .ok (.if_icmp .ne 11, 3) := by decide +kernel
theorem dX10_starts_79 : decode cX10_starts 79 = .ok (.aload_n 0, 1) := by decide +kernel
theorem dX10_starts_80 : decode cX10_starts 80 = .ok (.getfield 65, 3) := by decide +kernel
theorem dX10_starts_83 : decode cX10_starts 83 = .ok (.getfield 304, 3) := by decide +kernel
theorem dX10_starts_86 : decode cX10_starts 86 = .ok (.ireturn, 1) := by decide +kernel
theorem dX10_starts_87 : decode cX10_starts 87 = .ok (.iload_n 2, 1) := by decide +kernel
theorem dX10_starts_88 : decode cX10_starts 88 = .ok (.ifCond .ne 16, 3) := by decide +kernel
theorem dX10_starts_91 : decode cX10_starts 91 = .ok (.aload_n 0, 1) := by decide +kernel
theorem dX10_starts_92 : decode cX10_starts 92 = .ok (.getfield 65, 3) := by decide +kernel
theorem dX10_starts_95 : decode cX10_starts 95 = .ok (.getfield 307, 3) := by decide +kernel
theorem dX10_starts_98 : decode cX10_starts 98 = .ok (.invokestatic 180, 3) := by decide +kernel
theorem dX10_starts_101 : decode cX10_starts 101 = .ok (.goto 10, 3) := by decide +kernel
theorem dX10_starts_104 : decode cX10_starts 104 = .ok (.aload_n 0, 1) := by decide +kernel
theorem dX10_starts_105 : decode cX10_starts 105 = .ok (.getfield 65, 3) := by decide +kernel
theorem dX10_starts_108 : decode cX10_starts 108 = .ok (.getfield 307, 3) := by decide +kernel
theorem dX10_starts_111 : decode cX10_starts 111 = .ok (.ireturn, 1) := by decide +kernel
theorem dX10_judge_0 : decode cX10_judge 0 = .ok (.aload_n 0, 1) := by decide +kernel
theorem dX10_judge_1 : decode cX10_judge 1 = .ok (.getfield 40, 3) := by decide +kernel
theorem dX10_judge_4 : decode cX10_judge 4 = .ok (.iload_n 1, 1) := by decide +kernel
theorem dX10_judge_5 : decode cX10_judge 5 = .ok (.invokevirtual 94, 3) := by decide +kernel
theorem dX10_judge_8 : decode cX10_judge 8 = .ok (.ifCond .eq 20, 3) := by decide +kernel
theorem dX10_judge_11 : decode cX10_judge 11 = .ok (.iload_n 2, 1) := by decide +kernel
theorem dX10_judge_12 : decode cX10_judge 12 = .ok (.ifCond .lt 16, 3) := by decide +kernel
theorem dX10_judge_15 : decode cX10_judge 15 = .ok (.iload_n 2, 1) := by decide +kernel
theorem dX10_judge_16 : decode cX10_judge 16 = .ok (.iconst 1, 1) := by decide +kernel
theorem dX10_judge_17 : decode cX10_judge 17 = .ok (.aload_n 0, 1) := by decide +kernel
theorem dX10_judge_18 : decode cX10_judge 18 = .ok (.getfield 47, 3) := by decide +kernel
theorem dX10_judge_21 : decode cX10_judge 21 = .ok (.getfield 309, 3) := by decide +kernel
theorem dX10_judge_24 : decode cX10_judge 24 = .ok (.ishl, 1) := by decide +kernel
theorem dX10_judge_25 : decode cX10_judge 25 = .ok (.if_icmp .lt 5, 3) := by decide +kernel
theorem dX10_judge_28 : decode cX10_judge 28 = .ok (.iconst (-1), 1) := by decide +kernel
theorem dX10_judge_29 : decode cX10_judge 29 = .ok (.ireturn, 1) := by decide +kernel
theorem dX10_judge_30 : decode cX10_judge 30 = .ok (.aload_n 0, 1) := by decide +kernel
theorem dX10_judge_31 : decode cX10_judge 31 = .ok (.getfield 65, 3) := by decide +kernel
theorem dX10_judge_34 : decode cX10_judge 34 = .ok (.aload_n 0, 1) := by decide +kernel
theorem dX10_judge_35 : decode cX10_judge 35 = .ok (.getfield 40, 3) := by decide +kernel
theorem dX10_judge_38 : decode cX10_judge 38 = .ok (.getfield 147, 3) := by decide +kernel
theorem dX10_judge_41 : decode cX10_judge 41 = .ok (.iload_n 1, 1) := by decide +kernel
theorem dX10_judge_42 : decode cX10_judge 42 = .ok (.iaload, 1) := by decide +kernel
theorem dX10_judge_43 : decode cX10_judge 43 = .ok (.invokevirtual 292, 3) := by decide +kernel
theorem dX10_judge_46 : decode cX10_judge 46 = .ok (.iload_n 2, 1) := by decide +kernel
theorem dX10_judge_47 : decode cX10_judge 47 = .ok (.aload_n 0, 1) := by decide +kernel
theorem dX10_judge_48 : decode cX10_judge 48 = .ok (.getfield 65, 3) := by decide +kernel
theorem dX10_judge_51 : decode cX10_judge 51 = .ok (.getfield 295, 3) := by decide +kernel
theorem dX10_judge_54 : decode cX10_judge 54 = .ok (.iconst (-1), 1) := by decide +kernel
theorem dX10_judge_55 : decode cX10_judge 55 = .ok (.ixor, 1) := by decide +kernel
theorem dX10_judge_56 : decode cX10_judge 56 = .ok (.iand, 1) := by decide +kernel
theorem dX10_judge_57 : decode cX10_judge 57 = .ok (.ifCond .eq 6, 3) := by decide +kernel
theorem dX10_judge_60 : decode cX10_judge 60 = .ok (.bipush (-2), 2) := by decide +kernel
theorem dX10_judge_62 : decode cX10_judge 62 = .ok (.ireturn, 1) := by decide +kernel
theorem dX10_judge_63 : decode cX10_judge 63 = .ok (.aload_n 0, 1) := by decide +kernel
theorem dX10_judge_64 : decode cX10_judge 64 = .ok (.getfield 65, 3) := by decide +kernel
theorem dX10_judge_67 : decode cX10_judge 67 = .ok (.aload_n 0, 1) := by decide +kernel
theorem dX10_judge_68 : decode cX10_judge 68 = .ok (.getfield 28, 3) := by decide +kernel
theorem dX10_judge_71 : decode cX10_judge 71 = .ok (.getfield 126, 3) := by decide +kernel
theorem dX10_judge_74 : decode cX10_judge 74 = .ok (.iconst 3, 1) := by decide +kernel
theorem dX10_judge_75 : decode cX10_judge 75 = .ok (.iaload, 1) := by decide +kernel
theorem dX10_judge_76 : decode cX10_judge 76 = .ok (.invokevirtual 298, 3) := by decide +kernel
theorem dX10_judge_79 : decode cX10_judge 79 = .ok (.aload_n 0, 1) := by decide +kernel
theorem dX10_judge_80 : decode cX10_judge 80 = .ok (.getfield 65, 3) := by decide +kernel
theorem dX10_judge_83 : decode cX10_judge 83 = .ok (.iload_n 2, 1) := by decide +kernel
theorem dX10_judge_84 : decode cX10_judge 84 = .ok (.invokevirtual 312, 3) := by decide +kernel
theorem dX10_judge_87 : decode cX10_judge 87 = .ok (.ifCond .eq 7, 3) := by decide +kernel
theorem dX10_judge_90 : decode cX10_judge 90 = .ok (.iconst 1, 1) := by decide +kernel
theorem dX10_judge_91 : decode cX10_judge 91 = .ok (.goto 4, 3) := by decide +kernel
theorem dX10_judge_94 : decode cX10_judge 94 = .ok (.iconst 0, 1) := by decide +kernel
theorem dX10_judge_95 : decode cX10_judge 95 = .ok (.ireturn, 1) := by decide +kernel
theorem dX10_pace_0 : decode cX10_pace 0 = .ok (.aload_n 0, 1) := by decide +kernel
theorem dX10_pace_1 : decode cX10_pace 1 = .ok (.getfield 40, 3) := by decide +kernel
theorem dX10_pace_4 : decode cX10_pace 4 = .ok (.iload_n 1, 1) := by decide +kernel
theorem dX10_pace_5 : decode cX10_pace 5 = .ok (.invokevirtual 94, 3) := by decide +kernel
theorem dX10_pace_8 : decode cX10_pace 8 = .ok (.ifCond .ne 5, 3) := by decide +kernel
theorem dX10_pace_11 : decode cX10_pace 11 = .ok (.iconst (-1), 1) := by decide +kernel
theorem dX10_pace_12 : decode cX10_pace 12 = .ok (.ireturn, 1) := by decide +kernel
theorem dX10_pace_13 : decode cX10_pace 13 = .ok (.aload_n 0, 1) := by decide +kernel
theorem dX10_pace_14 : decode cX10_pace 14 = .ok (.getfield 65, 3) := by decide +kernel
theorem dX10_pace_17 : decode cX10_pace 17 = .ok (.aload_n 0, 1) := by decide +kernel
theorem dX10_pace_18 : decode cX10_pace 18 = .ok (.getfield 40, 3) := by decide +kernel
theorem dX10_pace_21 : decode cX10_pace 21 = .ok (.getfield 147, 3) := by decide +kernel
theorem dX10_pace_24 : decode cX10_pace 24 = .ok (.iload_n 1, 1) := by decide +kernel
theorem dX10_pace_25 : decode cX10_pace 25 = .ok (.iaload, 1) := by decide +kernel
theorem dX10_pace_26 : decode cX10_pace 26 = .ok (.invokevirtual 292, 3) := by decide +kernel
theorem dX10_pace_29 : decode cX10_pace 29 = .ok (.iconst 1, 1) := by decide +kernel
theorem dX10_pace_30 : decode cX10_pace 30 = .ok (.istore_n 2, 1) := by decide +kernel
theorem dX10_pace_31 : decode cX10_pace 31 = .ok (.iload_n 2, 1) := by decide +kernel
theorem dX10_pace_32 : decode cX10_pace 32 = .ok (.bipush 20, 2) := by decide +kernel
theorem dX10_pace_34 : decode cX10_pace 34 = .ok (.if_icmp .gt 29, 3) := by decide +kernel
theorem dX10_pace_37 : decode cX10_pace 37 = .ok (.aload_n 0, 1) := by decide +kernel
theorem dX10_pace_38 : decode cX10_pace 38 = .ok (.getfield 65, 3) := by decide +kernel
theorem dX10_pace_41 : decode cX10_pace 41 = .ok (.iload_n 2, 1) := by decide +kernel
theorem dX10_pace_42 : decode cX10_pace 42 = .ok (.invokevirtual 298, 3) := by decide +kernel
theorem dX10_pace_45 : decode cX10_pace 45 = .ok (.aload_n 0, 1) := by decide +kernel
theorem dX10_pace_46 : decode cX10_pace 46 = .ok (.getfield 65, 3) := by decide +kernel
theorem dX10_pace_49 : decode cX10_pace 49 = .ok (.invokevirtual 315, 3) := by decide +kernel
theorem dX10_pace_52 : decode cX10_pace 52 = .ok (.ifCond .eq 5, 3) := by decide +kernel
theorem dX10_pace_55 : decode cX10_pace 55 = .ok (.iload_n 2, 1) := by decide +kernel
theorem dX10_pace_56 : decode cX10_pace 56 = .ok (.ireturn, 1) := by decide +kernel
theorem dX10_pace_57 : decode cX10_pace 57 = .ok (.iinc 2 1, 3) := by decide +kernel
theorem dX10_pace_60 : decode cX10_pace 60 = .ok (.goto (-29), 3) := by decide +kernel
theorem dX10_pace_63 : decode cX10_pace 63 = .ok (.bipush (-4), 2) := by decide +kernel
theorem dX10_pace_65 : decode cX10_pace 65 = .ok (.ireturn, 1) := by decide +kernel
theorem dX10_dies_0 : decode cX10_dies 0 = .ok (.iload_n 1, 1) := by decide +kernel
theorem dX10_dies_1 : decode cX10_dies 1 = .ok (.iconst 1, 1) := by decide +kernel
theorem dX10_dies_2 : decode cX10_dies 2 = .ok (.if_icmp .lt 17, 3) := by decide +kernel
theorem dX10_dies_5 : decode cX10_dies 5 = .ok (.iload_n 1, 1) := by decide +kernel
theorem dX10_dies_6 : decode cX10_dies 6 = .ok (.iconst 3, 1) := by decide +kernel
theorem dX10_dies_7 : decode cX10_dies 7 = .ok (.if_icmp .gt 12, 3) := by decide +kernel
theorem dX10_dies_10 : decode cX10_dies 10 = .ok (.iload_n 2, 1) := by decide +kernel
theorem dX10_dies_11 : decode cX10_dies 11 = .ok (.ifCond .lt 8, 3) := by decide +kernel
theorem dX10_dies_14 : decode cX10_dies 14 = .ok (.iload_n 2, 1) := by decide +kernel
theorem dX10_dies_15 : decode cX10_dies 15 = .ok (.iconst 1, 1) := by decide +kernel
theorem dX10_dies_16 : decode cX10_dies 16 = .ok (.if_icmp .le 7, 3) := by decide +kernel
theorem dX10_dies_19 : decode cX10_dies 19 = .ok (.ldc2_w 102, 3) := by decide +kernel
theorem dX10_dies_22 : decode cX10_dies 22 = .ok (.lreturn, 1) := by decide +kernel
theorem dX10_dies_23 : decode cX10_dies 23 = .ok (.aload_n 0, 1) := by decide +kernel
theorem dX10_dies_24 : decode cX10_dies 24 = .ok (.getfield 72, 3) := by decide +kernel
theorem dX10_dies_27 : decode cX10_dies 27 = .ok (.aload_n 0, 1) := by decide +kernel
theorem dX10_dies_28 : decode cX10_dies 28 = .ok (.getfield 28, 3) := by decide +kernel
theorem dX10_dies_31 : decode cX10_dies 31 = .ok (.iload_n 1, 1) := by decide +kernel
theorem dX10_dies_32 : decode cX10_dies 32 = .ok (.invokevirtual 319, 3) := by decide +kernel
theorem dX10_dies_35 : decode cX10_dies 35 = .ok (.iload_n 2, 1) := by decide +kernel
theorem dX10_dies_36 : decode cX10_dies 36 = .ok (.ifCond .ne 13, 3) := by decide +kernel
theorem dX10_dies_39 : decode cX10_dies 39 = .ok (.aload_n 0, 1) := by decide +kernel
theorem dX10_dies_40 : decode cX10_dies 40 = .ok (.getfield 72, 3) := by decide +kernel
theorem dX10_dies_43 : decode cX10_dies 43 = .ok (.getfield 322, 3) := by decide +kernel
theorem dX10_dies_46 : decode cX10_dies 46 = .ok (.goto 10, 3) := by decide +kernel
theorem dX10_dies_49 : decode cX10_dies 49 = .ok (.aload_n 0, 1) := by decide +kernel
theorem dX10_dies_50 : decode cX10_dies 50 = .ok (.getfield 72, 3) := by decide +kernel
theorem dX10_dies_53 : decode cX10_dies 53 = .ok (.getfield 326, 3) := by decide +kernel
theorem dX10_dies_56 : decode cX10_dies 56 = .ok (.lreturn, 1) := by decide +kernel
theorem dX10_father_0 : decode cX10_father 0 = .ok (.aload_n 0, 1) := by decide +kernel
theorem dX10_father_1 : decode cX10_father 1 = .ok (.getfield 56, 3) := by decide +kernel
theorem dX10_father_4 : decode cX10_father 4 = .ok (.iload_n 1, 1) := by decide +kernel
theorem dX10_father_5 : decode cX10_father 5 = .ok (.invokevirtual 243, 3) := by decide +kernel
theorem dX10_father_8 : decode cX10_father 8 = .ok (.ifCond .eq 20, 3) := by decide +kernel
theorem dX10_father_11 : decode cX10_father 11 = .ok (.iload_n 2, 1) := by decide +kernel
theorem dX10_father_12 : decode cX10_father 12 = .ok (.bipush (-4), 2) := by decide +kernel
theorem dX10_father_14 : decode cX10_father 14 = .ok (.if_icmp .eq 17, 3) := by decide +kernel
theorem dX10_father_17 : decode cX10_father 17 = .ok (.aload_n 0, 1) := by decide +kernel
theorem dX10_father_18 : decode cX10_father 18 = .ok (.getfield 56, 3) := by decide +kernel
theorem dX10_father_21 : decode cX10_father 21 = .ok (.iload_n 2, 1) := by decide +kernel
theorem dX10_father_22 : decode cX10_father 22 = .ok (.invokevirtual 243, 3) := by decide +kernel
theorem dX10_father_25 : decode cX10_father 25 = .ok (.ifCond .ne 6, 3) := by decide +kernel
theorem dX10_father_28 : decode cX10_father 28 = .ok (.bipush (-5), 2) := by decide +kernel
theorem dX10_father_30 : decode cX10_father 30 = .ok (.ireturn, 1) := by decide +kernel
theorem dX10_father_31 : decode cX10_father 31 = .ok (.iload_n 2, 1) := by decide +kernel
theorem dX10_father_32 : decode cX10_father 32 = .ok (.bipush (-4), 2) := by decide +kernel
theorem dX10_father_34 : decode cX10_father 34 = .ok (.if_icmp .eq 18, 3) := by decide +kernel
theorem dX10_father_37 : decode cX10_father 37 = .ok (.aload_n 0, 1) := by decide +kernel
theorem dX10_father_38 : decode cX10_father 38 = .ok (.getfield 56, 3) := by decide +kernel
theorem dX10_father_41 : decode cX10_father 41 = .ok (.iload_n 1, 1) := by decide +kernel
theorem dX10_father_42 : decode cX10_father 42 = .ok (.iload_n 2, 1) := by decide +kernel
theorem dX10_father_43 : decode cX10_father 43 = .ok (.invokevirtual 329, 3) := by decide +kernel
theorem dX10_father_46 : decode cX10_father 46 = .ok (.ifCond .ne 6, 3) := by decide +kernel
theorem dX10_father_49 : decode cX10_father 49 = .ok (.bipush (-6), 2) := by decide +kernel
theorem dX10_father_51 : decode cX10_father 51 = .ok (.ireturn, 1) := by decide +kernel
theorem dX10_father_52 : decode cX10_father 52 = .ok (.aload_n 0, 1) := by decide +kernel
theorem dX10_father_53 : decode cX10_father 53 = .ok (.getfield 56, 3) := by decide +kernel
theorem dX10_father_56 : decode cX10_father 56 = .ok (.getfield 262, 3) := by decide +kernel
theorem dX10_father_59 : decode cX10_father 59 = .ok (.iload_n 1, 1) := by decide +kernel
theorem dX10_father_60 : decode cX10_father 60 = .ok (.iaload, 1) := by decide +kernel
theorem dX10_father_61 : decode cX10_father 61 = .ok (.istore_n 3, 1) := by decide +kernel
theorem dX10_father_62 : decode cX10_father 62 = .ok (.aload_n 0, 1) := by decide +kernel
theorem dX10_father_63 : decode cX10_father 63 = .ok (.getfield 56, 3) := by decide +kernel
theorem dX10_father_66 : decode cX10_father 66 = .ok (.getfield 262, 3) := by decide +kernel
theorem dX10_father_69 : decode cX10_father 69 = .ok (.iload_n 1, 1) := by decide +kernel
theorem dX10_father_70 : decode cX10_father 70 = .ok (.iload_n 2, 1) := by decide +kernel
theorem dX10_father_71 : decode cX10_father 71 = .ok (.iastore, 1) := by decide +kernel
theorem dX10_father_72 : decode cX10_father 72 = .ok (.iload_n 3, 1) := by decide +kernel
theorem dX10_father_73 : decode cX10_father 73 = .ok (.ireturn, 1) := by decide +kernel
theorem dX10_kin_0 : decode cX10_kin 0 = .ok (.aload_n 0, 1) := by decide +kernel
theorem dX10_kin_1 : decode cX10_kin 1 = .ok (.getfield 56, 3) := by decide +kernel
theorem dX10_kin_4 : decode cX10_kin 4 = .ok (.iload_n 1, 1) := by decide +kernel
theorem dX10_kin_5 : decode cX10_kin 5 = .ok (.invokevirtual 243, 3) := by decide +kernel
theorem dX10_kin_8 : decode cX10_kin 8 = .ok (.ifCond .eq 26, 3) := by decide +kernel
theorem dX10_kin_11 : decode cX10_kin 11 = .ok (.aload_n 0, 1) := by decide +kernel
theorem dX10_kin_12 : decode cX10_kin 12 = .ok (.getfield 56, 3) := by decide +kernel
theorem dX10_kin_15 : decode cX10_kin 15 = .ok (.iload_n 2, 1) := by decide +kernel
theorem dX10_kin_16 : decode cX10_kin 16 = .ok (.invokevirtual 243, 3) := by decide +kernel
theorem dX10_kin_19 : decode cX10_kin 19 = .ok (.ifCond .eq 15, 3) := by decide +kernel
theorem dX10_kin_22 : decode cX10_kin 22 = .ok (.aload_n 0, 1) := by decide +kernel
theorem dX10_kin_23 : decode cX10_kin 23 = .ok (.getfield 56, 3) := by decide +kernel
theorem dX10_kin_26 : decode cX10_kin 26 = .ok (.iload_n 1, 1) := by decide +kernel
theorem dX10_kin_27 : decode cX10_kin 27 = .ok (.iload_n 2, 1) := by decide +kernel
theorem dX10_kin_28 : decode cX10_kin 28 = .ok (.invokevirtual 332, 3) := by decide +kernel
theorem dX10_kin_31 : decode cX10_kin 31 = .ok (.goto 4, 3) := by decide +kernel
theorem dX10_kin_34 : decode cX10_kin 34 = .ok (.iconst (-1), 1) := by decide +kernel
theorem dX10_kin_35 : decode cX10_kin 35 = .ok (.ireturn, 1) := by decide +kernel
theorem dX10_related_0 : decode cX10_related 0 = .ok (.aload_n 0, 1) := by decide +kernel
theorem dX10_related_1 : decode cX10_related 1 = .ok (.getfield 56, 3) := by decide +kernel
theorem dX10_related_4 : decode cX10_related 4 = .ok (.iload_n 1, 1) := by decide +kernel
theorem dX10_related_5 : decode cX10_related 5 = .ok (.invokevirtual 243, 3) := by decide +kernel
theorem dX10_related_8 : decode cX10_related 8 = .ok (.ifCond .eq 14, 3) := by decide +kernel
theorem dX10_related_11 : decode cX10_related 11 = .ok (.aload_n 0, 1) := by decide +kernel
theorem dX10_related_12 : decode cX10_related 12 = .ok (.getfield 56, 3) := by decide +kernel
theorem dX10_related_15 : decode cX10_related 15 = .ok (.iload_n 2, 1) := by decide +kernel
theorem dX10_related_16 : decode cX10_related 16 = .ok (.invokevirtual 243, 3) := by decide +kernel
theorem dX10_related_19 : decode cX10_related 19 = .ok (.ifCond .ne 5, 3) := by decide +kernel
theorem dX10_related_22 : decode cX10_related 22 = .ok (.iconst (-1), 1) := by decide +kernel
theorem dX10_related_23 : decode cX10_related 23 = .ok (.ireturn, 1) := by decide +kernel
theorem dX10_related_24 : decode cX10_related 24 = .ok (.aload_n 0, 1) := by decide +kernel
theorem dX10_related_25 : decode cX10_related 25 = .ok (.getfield 56, 3) := by decide +kernel
theorem dX10_related_28 : decode cX10_related 28 = .ok (.iload_n 1, 1) := by decide +kernel
theorem dX10_related_29 : decode cX10_related 29 = .ok (.invokevirtual 259, 3) := by decide +kernel
theorem dX10_related_32 : decode cX10_related 32 = .ok (.aload_n 0, 1) := by decide +kernel
theorem dX10_related_33 : decode cX10_related 33 = .ok (.getfield 56, 3) := by decide +kernel
theorem dX10_related_36 : decode cX10_related 36 = .ok (.iload_n 2, 1) := by decide +kernel
theorem dX10_related_37 : decode cX10_related 37 = .ok (.invokevirtual 259, 3) := by decide +kernel
theorem dX10_related_40 : decode cX10_related 40 = .ok (.if_icmp .ne 7, 3) := by decide +kernel
theorem dX10_related_43 : decode cX10_related 43 = .ok (.iconst 1, 1) := by decide +kernel
theorem dX10_related_44 : decode cX10_related 44 = .ok (.goto 4, 3) := by decide +kernel
theorem dX10_related_47 : decode cX10_related 47 = .ok (.iconst 0, 1) := by decide +kernel
theorem dX10_related_48 : decode cX10_related 48 = .ok (.istore_n 3, 1) := by decide +kernel
theorem dX10_related_49 : decode cX10_related 49 = .ok (.aload_n 0, 1) := by decide +kernel
theorem dX10_related_50 : decode cX10_related 50 = .ok (.getfield 56, 3) := by decide +kernel
theorem dX10_related_53 : decode cX10_related 53 = .ok (.iload_n 1, 1) := by decide +kernel
theorem dX10_related_54 : decode cX10_related 54 = .ok (.iload_n 2, 1) := by decide +kernel
theorem dX10_related_55 : decode cX10_related 55 = .ok (.invokevirtual 332, 3) := by decide +kernel
theorem dX10_related_58 : decode cX10_related 58 = .ok (.bipush (-4), 2) := by decide +kernel
theorem dX10_related_60 : decode cX10_related 60 = .ok (.if_icmp .eq 7, 3) := by decide +kernel
theorem dX10_related_63 : decode cX10_related 63 = .ok (.iconst 2, 1) := by decide +kernel
theorem dX10_related_64 : decode cX10_related 64 = .ok (.goto 4, 3) := by decide +kernel
theorem dX10_related_67 : decode cX10_related 67 = .ok (.iconst 0, 1) := by decide +kernel
theorem dX10_related_68 : decode cX10_related 68 = .ok (.istore 4, 2) := by decide +kernel
theorem dX10_related_70 : decode cX10_related 70 = .ok (.iload_n 3, 1) := by decide +kernel
theorem dX10_related_71 : decode cX10_related 71 = .ok (.iload 4, 2) := by decide +kernel
theorem dX10_related_73 : decode cX10_related 73 = .ok (.iadd, 1) := by decide +kernel
theorem dX10_related_74 : decode cX10_related 74 = .ok (.ireturn, 1) := by decide +kernel
theorem dX10_issue_0 : decode cX10_issue 0 = .ok (.aload_n 0, 1) := by decide +kernel
theorem dX10_issue_1 : decode cX10_issue 1 = .ok (.getfield 56, 3) := by decide +kernel
theorem dX10_issue_4 : decode cX10_issue 4 = .ok (.iload_n 1, 1) := by decide +kernel
theorem dX10_issue_5 : decode cX10_issue 5 = .ok (.invokevirtual 243, 3) := by decide +kernel
theorem dX10_issue_8 : decode cX10_issue 8 = .ok (.ifCond .ne 5, 3) := by decide +kernel
theorem dX10_issue_11 : decode cX10_issue 11 = .ok (.iconst (-1), 1) := by decide +kernel
theorem dX10_issue_12 : decode cX10_issue 12 = .ok (.ireturn, 1) := by decide +kernel
theorem dX10_issue_13 : decode cX10_issue 13 = .ok (.iload_n 2, 1) := by decide +kernel
theorem dX10_issue_14 : decode cX10_issue 14 = .ok (.tableswitch 53 0 2 #[26, 35, 44], 26) := by decide +kernel
theorem dX10_issue_40 : decode cX10_issue 40 = .ok (.aload_n 0, 1) := by decide +kernel
theorem dX10_issue_41 : decode cX10_issue 41 = .ok (.getfield 56, 3) := by decide +kernel
theorem dX10_issue_44 : decode cX10_issue 44 = .ok (.iload_n 1, 1) := by decide +kernel
theorem dX10_issue_45 : decode cX10_issue 45 = .ok (.invokevirtual 335, 3) := by decide +kernel
theorem dX10_issue_48 : decode cX10_issue 48 = .ok (.ireturn, 1) := by decide +kernel
theorem dX10_issue_49 : decode cX10_issue 49 = .ok (.aload_n 0, 1) := by decide +kernel
theorem dX10_issue_50 : decode cX10_issue 50 = .ok (.getfield 56, 3) := by decide +kernel
theorem dX10_issue_53 : decode cX10_issue 53 = .ok (.iload_n 1, 1) := by decide +kernel
theorem dX10_issue_54 : decode cX10_issue 54 = .ok (.invokevirtual 338, 3) := by decide +kernel
theorem dX10_issue_57 : decode cX10_issue 57 = .ok (.ireturn, 1) := by decide +kernel
theorem dX10_issue_58 : decode cX10_issue 58 = .ok (.aload_n 0, 1) := by decide +kernel
theorem dX10_issue_59 : decode cX10_issue 59 = .ok (.getfield 56, 3) := by decide +kernel
theorem dX10_issue_62 : decode cX10_issue 62 = .ok (.iload_n 1, 1) := by decide +kernel
theorem dX10_issue_63 : decode cX10_issue 63 = .ok (.invokevirtual 341, 3) := by decide +kernel
theorem dX10_issue_66 : decode cX10_issue 66 = .ok (.ireturn, 1) := by decide +kernel
theorem dX10_issue_67 : decode cX10_issue 67 = .ok (.iconst (-1), 1) := by decide +kernel
theorem dX10_issue_68 : decode cX10_issue 68 = .ok (.ireturn, 1) := by decide +kernel
theorem dX10_sheet_0 : decode cX10_sheet 0 = .ok (.iload_n 1, 1) := by decide +kernel
theorem dX10_sheet_1 : decode cX10_sheet 1 = .ok (.invokestatic 344, 3) := by decide +kernel
theorem dX10_sheet_4 : decode cX10_sheet 4 = .ok (.ifCond .eq 16, 3) := by decide +kernel
theorem dX10_sheet_7 : decode cX10_sheet 7 = .ok (.iload_n 2, 1) := by decide +kernel
theorem dX10_sheet_8 : decode cX10_sheet 8 = .ok (.invokestatic 347, 3) := by decide +kernel
theorem dX10_sheet_11 : decode cX10_sheet 11 = .ok (.ifCond .eq 9, 3) := by decide +kernel
theorem dX10_sheet_14 : decode cX10_sheet 14 = .ok (.iload_n 3, 1) := by decide +kernel
theorem dX10_sheet_15 : decode cX10_sheet 15 = .ok (.bipush 64, 2) := by decide +kernel
theorem dX10_sheet_17 : decode cX10_sheet 17 = .ok (.if_icmp .le 5, 3) := by decide +kernel
theorem dX10_sheet_20 : decode cX10_sheet 20 = .ok (.iconst (-1), 1) := by decide +kernel
theorem dX10_sheet_21 : decode cX10_sheet 21 = .ok (.ireturn, 1) := by decide +kernel
theorem dX10_sheet_22 : decode cX10_sheet 22 = .ok (.iload_n 3, 1) := by decide +kernel
theorem dX10_sheet_23 : decode cX10_sheet 23 = .ok (.ifCond .ge 6, 3) := by decide +kernel
theorem dX10_sheet_26 : decode cX10_sheet 26 = .ok (.bipush (-14), 2) := by decide +kernel
theorem dX10_sheet_28 : decode cX10_sheet 28 = .ok (.ireturn, 1) := by decide +kernel
theorem dX10_sheet_29 : decode cX10_sheet 29 = .ok (.aload_n 0, 1) := by decide +kernel
theorem dX10_sheet_30 : decode cX10_sheet 30 = .ok (.getfield 78, 3) := by decide +kernel
theorem dX10_sheet_33 : decode cX10_sheet 33 = .ok (.iload_n 1, 1) := by decide +kernel
theorem dX10_sheet_34 : decode cX10_sheet 34 = .ok (.aaload, 1) := by decide +kernel
theorem dX10_sheet_35 : decode cX10_sheet 35 = .ok (.iload_n 2, 1) := by decide +kernel
theorem dX10_sheet_36 : decode cX10_sheet 36 = .ok (.iload_n 3, 1) := by decide +kernel
theorem dX10_sheet_37 : decode cX10_sheet 37 = .ok (.invokevirtual 350, 3) := by decide +kernel
theorem dX10_sheet_40 : decode cX10_sheet 40 = .ok (.iconst 1, 1) := by decide +kernel
theorem dX10_sheet_41 : decode cX10_sheet 41 = .ok (.ireturn, 1) := by decide +kernel
theorem dX10_lay_0 : decode cX10_lay 0 = .ok (.iload_n 1, 1) := by decide +kernel
theorem dX10_lay_1 : decode cX10_lay 1 = .ok (.invokestatic 344, 3) := by decide +kernel
theorem dX10_lay_4 : decode cX10_lay 4 = .ok (.ifCond .ne 5, 3) := by decide +kernel
theorem dX10_lay_7 : decode cX10_lay 7 = .ok (.iconst (-1), 1) := by decide +kernel
theorem dX10_lay_8 : decode cX10_lay 8 = .ok (.ireturn, 1) := by decide +kernel
theorem dX10_lay_9 : decode cX10_lay 9 = .ok (.aload_n 0, 1) := by decide +kernel
theorem dX10_lay_10 : decode cX10_lay 10 = .ok (.getfield 78, 3) := by decide +kernel
theorem dX10_lay_13 : decode cX10_lay 13 = .ok (.iload_n 1, 1) := by decide +kernel
theorem dX10_lay_14 : decode cX10_lay 14 = .ok (.aaload, 1) := by decide +kernel
theorem dX10_lay_15 : decode cX10_lay 15 = .ok (.aload_n 0, 1) := by decide +kernel
theorem dX10_lay_16 : decode cX10_lay 16 = .ok (.getfield 78, 3) := by decide +kernel
theorem dX10_lay_19 : decode cX10_lay 19 = .ok (.iload_n 1, 1) := by decide +kernel
theorem dX10_lay_20 : decode cX10_lay 20 = .ok (.aaload, 1) := by decide +kernel
theorem dX10_lay_21 : decode cX10_lay 21 = .ok (.getfield 354, 3) := by decide +kernel
theorem dX10_lay_24 : decode cX10_lay 24 = .ok (.iload_n 2, 1) := by decide +kernel
theorem dX10_lay_25 : decode cX10_lay 25 = .ok (.invokevirtual 357, 3) := by decide +kernel
theorem dX10_lay_28 : decode cX10_lay 28 = .ok (.istore 4, 2) := by decide +kernel
theorem dX10_lay_30 : decode cX10_lay 30 = .ok (.iload 4, 2) := by decide +kernel
theorem dX10_lay_32 : decode cX10_lay 32 = .ok (.ifCond .eq 9, 3) := by decide +kernel
theorem dX10_lay_35 : decode cX10_lay 35 = .ok (.bipush (-10), 2) := by decide +kernel
theorem dX10_lay_37 : decode cX10_lay 37 = .ok (.iload 4, 2) := by decide +kernel
theorem dX10_lay_39 : decode cX10_lay 39 = .ok (.isub, 1) := by decide +kernel
theorem dX10_lay_40 : decode cX10_lay 40 = .ok (.ireturn, 1) := by decide +kernel
theorem dX10_lay_41 : decode cX10_lay 41 = .ok (.aload_n 0, 1) := by decide +kernel
theorem dX10_lay_42 : decode cX10_lay 42 = .ok (.getfield 78, 3) := by decide +kernel
theorem dX10_lay_45 : decode cX10_lay 45 = .ok (.iload_n 1, 1) := by decide +kernel
theorem dX10_lay_46 : decode cX10_lay 46 = .ok (.aaload, 1) := by decide +kernel
theorem dX10_lay_47 : decode cX10_lay 47 = .ok (.iload_n 2, 1) := by decide +kernel
theorem dX10_lay_48 : decode cX10_lay 48 = .ok (.iload_n 3, 1) := by decide +kernel
theorem dX10_lay_49 : decode cX10_lay 49 = .ok (.invokevirtual 360, 3) := by decide +kernel
theorem dX10_lay_52 : decode cX10_lay 52 = .ok (.iconst 1, 1) := by decide +kernel
theorem dX10_lay_53 : decode cX10_lay 53 = .ok (.ireturn, 1) := by decide +kernel
theorem dX10_read_0 : decode cX10_read 0 = .ok (.aload_n 0, 1) := by decide +kernel
theorem dX10_read_1 : decode cX10_read 1 = .ok (.getfield 47, 3) := by decide +kernel
theorem dX10_read_4 : decode cX10_read 4 = .ok (.iload_n 1, 1) := by decide +kernel
theorem dX10_read_5 : decode cX10_read 5 = .ok (.invokevirtual 198, 3) := by decide +kernel
theorem dX10_read_8 : decode cX10_read 8 = .ok (.ifCond .eq 17, 3) := by decide +kernel
theorem dX10_read_11 : decode cX10_read 11 = .ok (.iload_n 2, 1) := by decide +kernel
theorem dX10_read_12 : decode cX10_read 12 = .ok (.invokestatic 344, 3) := by decide +kernel
theorem dX10_read_15 : decode cX10_read 15 = .ok (.ifCond .eq 10, 3) := by decide +kernel
theorem dX10_read_18 : decode cX10_read 18 = .ok (.iload_n 3, 1) := by decide +kernel
theorem dX10_read_19 : decode cX10_read 19 = .ok (.invokestatic 347, 3) := by decide +kernel
theorem dX10_read_22 : decode cX10_read 22 = .ok (.ifCond .ne 5, 3) := by decide +kernel
theorem dX10_read_25 : decode cX10_read 25 = .ok (.iconst (-1), 1) := by decide +kernel
theorem dX10_read_26 : decode cX10_read 26 = .ok (.ireturn, 1) := by decide +kernel
theorem dX10_read_27 : decode cX10_read 27 = .ok (.aload_n 0, 1) := by decide +kernel
theorem dX10_read_28 : decode cX10_read 28 = .ok (.iload_n 1, 1) := by decide +kernel
theorem dX10_read_29 : decode cX10_read 29 = .ok (.aload_n 0, 1) := by decide +kernel
theorem dX10_read_30 : decode cX10_read 30 = .ok (.getfield 78, 3) := by decide +kernel
theorem dX10_read_33 : decode cX10_read 33 = .ok (.iload_n 2, 1) := by decide +kernel
theorem dX10_read_34 : decode cX10_read 34 = .ok (.aaload, 1) := by decide +kernel
theorem dX10_read_35 : decode cX10_read 35 = .ok (.iload_n 3, 1) := by decide +kernel
theorem dX10_read_36 : decode cX10_read 36 = .ok (.invokevirtual 363, 3) := by decide +kernel
theorem dX10_read_39 : decode cX10_read 39 = .ok (.istore 4, 2) := by decide +kernel
theorem dX10_read_41 : decode cX10_read 41 = .ok (.aload_n 0, 1) := by decide +kernel
theorem dX10_read_42 : decode cX10_read 42 = .ok (.iload_n 1, 1) := by decide +kernel
theorem dX10_read_43 : decode cX10_read 43 = .ok (.aload_n 0, 1) := by decide +kernel
theorem dX10_read_44 : decode cX10_read 44 = .ok (.getfield 78, 3) := by decide +kernel
theorem dX10_read_47 : decode cX10_read 47 = .ok (.iload_n 2, 1) := by decide +kernel
theorem dX10_read_48 : decode cX10_read 48 = .ok (.aaload, 1) := by decide +kernel
theorem dX10_read_49 : decode cX10_read 49 = .ok (.iload 4, 2) := by decide +kernel
theorem dX10_read_51 : decode cX10_read 51 = .ok (.invokevirtual 367, 3) := by decide +kernel
theorem dX10_read_54 : decode cX10_read 54 = .ok (.istore 5, 2) := by decide +kernel
theorem dX10_read_56 : decode cX10_read 56 = .ok (.iload 5, 2) := by decide +kernel
theorem dX10_read_58 : decode cX10_read 58 = .ok (.bipush (-4), 2) := by decide +kernel
theorem dX10_read_60 : decode cX10_read 60 = .ok (.if_icmp .eq 9, 3) := by decide +kernel
theorem dX10_read_63 : decode cX10_read 63 = .ok (.bipush (-20), 2) := by decide +kernel
theorem dX10_read_65 : decode cX10_read 65 = .ok (.iload 5, 2) := by decide +kernel
theorem dX10_read_67 : decode cX10_read 67 = .ok (.isub, 1) := by decide +kernel
theorem dX10_read_68 : decode cX10_read 68 = .ok (.ireturn, 1) := by decide +kernel
theorem dX10_read_69 : decode cX10_read 69 = .ok (.aload_n 0, 1) := by decide +kernel
theorem dX10_read_70 : decode cX10_read 70 = .ok (.iload_n 1, 1) := by decide +kernel
theorem dX10_read_71 : decode cX10_read 71 = .ok (.aload_n 0, 1) := by decide +kernel
theorem dX10_read_72 : decode cX10_read 72 = .ok (.getfield 78, 3) := by decide +kernel
theorem dX10_read_75 : decode cX10_read 75 = .ok (.iload_n 2, 1) := by decide +kernel
theorem dX10_read_76 : decode cX10_read 76 = .ok (.aaload, 1) := by decide +kernel
theorem dX10_read_77 : decode cX10_read 77 = .ok (.iload 4, 2) := by decide +kernel
theorem dX10_read_79 : decode cX10_read 79 = .ok (.invokevirtual 370, 3) := by decide +kernel
theorem dX10_read_82 : decode cX10_read 82 = .ok (.istore 6, 2) := by decide +kernel
theorem dX10_read_84 : decode cX10_read 84 = .ok (.aload_n 0, 1) := by decide +kernel
theorem dX10_read_85 : decode cX10_read 85 = .ok (.getfield 56, 3) := by decide +kernel
theorem dX10_read_88 : decode cX10_read 88 = .ok (.getfield 373, 3) := by decide +kernel
theorem dX10_read_91 : decode cX10_read 91 = .ok (.iload 6, 2) := by decide +kernel
theorem dX10_read_93 : decode cX10_read 93 = .ok (.iadd, 1) := by decide +kernel
theorem dX10_read_94 : decode cX10_read 94 = .ok (.bipush 40, 2) := by decide +kernel
theorem dX10_read_96 : decode cX10_read 96 = .ok (.if_icmp .le 6, 3) := by decide +kernel
theorem dX10_read_99 : decode cX10_read 99 = .ok (.bipush (-3), 2) := by decide +kernel
theorem dX10_read_101 : decode cX10_read 101 = .ok (.ireturn, 1) := by decide +kernel
theorem dX10_read_102 : decode cX10_read 102 = .ok (.aload_n 0, 1) := by decide +kernel
theorem dX10_read_103 : decode cX10_read 103 = .ok (.iload_n 1, 1) := by decide +kernel
theorem dX10_read_104 : decode cX10_read 104 = .ok (.aload_n 0, 1) := by decide +kernel
theorem dX10_read_105 : decode cX10_read 105 = .ok (.getfield 78, 3) := by decide +kernel
theorem dX10_read_108 : decode cX10_read 108 = .ok (.iload_n 2, 1) := by decide +kernel
theorem dX10_read_109 : decode cX10_read 109 = .ok (.aaload, 1) := by decide +kernel
theorem dX10_read_110 : decode cX10_read 110 = .ok (.iload 4, 2) := by decide +kernel
theorem dX10_read_112 : decode cX10_read 112 = .ok (.invokevirtual 374, 3) := by decide +kernel
theorem dX10_read_115 : decode cX10_read 115 = .ok (.iload 4, 2) := by decide +kernel
theorem dX10_read_117 : decode cX10_read 117 = .ok (.aload_n 0, 1) := by decide +kernel
theorem dX10_read_118 : decode cX10_read 118 = .ok (.getfield 47, 3) := by decide +kernel
theorem dX10_read_121 : decode cX10_read 121 = .ok (.iload_n 1, 1) := by decide +kernel
theorem dX10_read_122 : decode cX10_read 122 = .ok (.invokevirtual 378, 3) := by decide +kernel
theorem dX10_read_125 : decode cX10_read 125 = .ok (.if_icmp .ge 7, 3) := by decide +kernel
theorem dX10_read_128 : decode cX10_read 128 = .ok (.iconst 1, 1) := by decide +kernel
theorem dX10_read_129 : decode cX10_read 129 = .ok (.goto 4, 3) := by decide +kernel
theorem dX10_read_132 : decode cX10_read 132 = .ok (.iconst 0, 1) := by decide +kernel
theorem dX10_read_133 : decode cX10_read 133 = .ok (.istore 7, 2) := by decide +kernel
theorem dX10_read_135 : decode cX10_read 135 = .ok (.aload_n 0, 1) := by decide +kernel
theorem dX10_read_136 : decode cX10_read 136 = .ok (.iload 7, 2) := by decide +kernel
theorem dX10_read_138 : decode cX10_read 138 = .ok (.ifCond .eq 18, 3) := by decide +kernel
theorem dX10_read_141 : decode cX10_read 141 = .ok (.aload_n 0, 1) := by decide +kernel
theorem dX10_read_142 : decode cX10_read 142 = .ok (.getfield 78, 3) := by decide +kernel
theorem dX10_read_145 : decode cX10_read 145 = .ok (.iload_n 2, 1) := by decide +kernel
theorem dX10_read_146 : decode cX10_read 146 = .ok (.aaload, 1) := by decide +kernel
theorem dX10_read_147 : decode cX10_read 147 = .ok (.iload_n 3, 1) := by decide +kernel
theorem dX10_read_148 : decode cX10_read 148 = .ok (.iload 4, 2) := by decide +kernel
theorem dX10_read_150 : decode cX10_read 150 = .ok (.invokevirtual 357, 3) := by decide +kernel
theorem dX10_read_153 : decode cX10_read 153 = .ok (.goto 4, 3) := by decide +kernel
theorem dX10_read_156 : decode cX10_read 156 = .ok (.iconst 0, 1) := by decide +kernel
theorem dX10_read_157 : decode cX10_read 157 = .ok (.putfield 381, 3) := by decide +kernel
theorem dX10_read_160 : decode cX10_read 160 = .ok (.aload_n 0, 1) := by decide +kernel
theorem dX10_read_161 : decode cX10_read 161 = .ok (.iload_n 1, 1) := by decide +kernel
theorem dX10_read_162 : decode cX10_read 162 = .ok (.iload 4, 2) := by decide +kernel
theorem dX10_read_164 : decode cX10_read 164 = .ok (.invokevirtual 384, 3) := by decide +kernel
theorem dX10_read_167 : decode cX10_read 167 = .ok (.iload 6, 2) := by decide +kernel
theorem dX10_read_169 : decode cX10_read 169 = .ok (.ireturn, 1) := by decide +kernel
theorem dX10_torn_0 : decode cX10_torn 0 = .ok (.aload_n 0, 1) := by decide +kernel
theorem dX10_torn_1 : decode cX10_torn 1 = .ok (.getfield 381, 3) := by decide +kernel
theorem dX10_torn_4 : decode cX10_torn 4 = .ok (.ireturn, 1) := by decide +kernel
theorem dX10_count_0 : decode cX10_count 0 = .ok (.iload_n 1, 1) := by decide +kernel
theorem dX10_count_1 : decode cX10_count 1 = .ok (.tableswitch 122 0 8 #[51, 59, 67, 75, 83, 91, 96, 104, 112], 51) := by decide +kernel
theorem dX10_count_52 : decode cX10_count 52 = .ok (.aload_n 0, 1) := by decide +kernel
theorem dX10_count_53 : decode cX10_count 53 = .ok (.getfield 40, 3) := by decide +kernel
theorem dX10_count_56 : decode cX10_count 56 = .ok (.getfield 171, 3) := by decide +kernel
theorem dX10_count_59 : decode cX10_count 59 = .ok (.ireturn, 1) := by decide +kernel
theorem dX10_count_60 : decode cX10_count 60 = .ok (.aload_n 0, 1) := by decide +kernel
theorem dX10_count_61 : decode cX10_count 61 = .ok (.getfield 47, 3) := by decide +kernel
theorem dX10_count_64 : decode cX10_count 64 = .ok (.getfield 309, 3) := by decide +kernel
theorem dX10_count_67 : decode cX10_count 67 = .ok (.ireturn, 1) := by decide +kernel
theorem dX10_count_68 : decode cX10_count 68 = .ok (.aload_n 0, 1) := by decide +kernel
theorem dX10_count_69 : decode cX10_count 69 = .ok (.getfield 47, 3) := by decide +kernel
theorem dX10_count_72 : decode cX10_count 72 = .ok (.getfield 387, 3) := by decide +kernel
theorem dX10_count_75 : decode cX10_count 75 = .ok (.ireturn, 1) := by decide +kernel
theorem dX10_count_76 : decode cX10_count 76 = .ok (.aload_n 0, 1) := by decide +kernel
theorem dX10_count_77 : decode cX10_count 77 = .ok (.getfield 56, 3) := by decide +kernel
theorem dX10_count_80 : decode cX10_count 80 = .ok (.getfield 373, 3) := by decide +kernel
theorem dX10_count_83 : decode cX10_count 83 = .ok (.ireturn, 1) := by decide +kernel
theorem dX10_count_84 : decode cX10_count 84 = .ok (.aload_n 0, 1) := by decide +kernel
theorem dX10_count_85 : decode cX10_count 85 = .ok (.getfield 56, 3) := by decide +kernel
theorem dX10_count_88 : decode cX10_count 88 = .ok (.getfield 388, 3) := by decide +kernel
theorem dX10_count_91 : decode cX10_count 91 = .ok (.ireturn, 1) := by decide +kernel
theorem dX10_count_92 : decode cX10_count 92 = .ok (.aload_n 0, 1) := by decide +kernel
theorem dX10_count_93 : decode cX10_count 93 = .ok (.getfield 237, 3) := by decide +kernel
theorem dX10_count_96 : decode cX10_count 96 = .ok (.ireturn, 1) := by decide +kernel
theorem dX10_count_97 : decode cX10_count 97 = .ok (.aload_n 0, 1) := by decide +kernel
theorem dX10_count_98 : decode cX10_count 98 = .ok (.getfield 56, 3) := by decide +kernel
theorem dX10_count_101 : decode cX10_count 101 = .ok (.invokevirtual 391, 3) := by decide +kernel
theorem dX10_count_104 : decode cX10_count 104 = .ok (.ireturn, 1) := by decide +kernel
theorem dX10_count_105 : decode cX10_count 105 = .ok (.aload_n 0, 1) := by decide +kernel
theorem dX10_count_106 : decode cX10_count 106 = .ok (.getfield 10, 3) := by decide +kernel
theorem dX10_count_109 : decode cX10_count 109 = .ok (.getfield 106, 3) := by decide +kernel
theorem dX10_count_112 : decode cX10_count 112 = .ok (.ireturn, 1) := by decide +kernel
theorem dX10_count_113 : decode cX10_count 113 = .ok (.aload_n 0, 1) := by decide +kernel
theorem dX10_count_114 : decode cX10_count 114 = .ok (.getfield 78, 3) := by decide +kernel
theorem dX10_count_117 : decode cX10_count 117 = .ok (.iconst 0, 1) := by decide +kernel
theorem dX10_count_118 : decode cX10_count 118 = .ok (.aaload, 1) := by decide +kernel
theorem dX10_count_119 : decode cX10_count 119 = .ok (.getfield 392, 3) := by decide +kernel
theorem dX10_count_122 : decode cX10_count 122 = .ok (.ireturn, 1) := by decide +kernel
theorem dX10_count_123 : decode cX10_count 123 = .ok (.iconst (-1), 1) := by decide +kernel
theorem dX10_count_124 : decode cX10_count 124 = .ok (.ireturn, 1) := by decide +kernel
theorem dX10_isSheet_0 : decode cX10_isSheet 0 = .ok (.iload_n 0, 1) := by decide +kernel
theorem dX10_isSheet_1 : decode cX10_isSheet 1 = .ok (.ifCond .lt 12, 3) := by decide +kernel
theorem dX10_isSheet_4 : decode cX10_isSheet 4 = .ok (.iload_n 0, 1) := by decide +kernel
theorem dX10_isSheet_5 : decode cX10_isSheet 5 = .ok (.iconst 4, 1) := by decide +kernel
theorem dX10_isSheet_6 : decode cX10_isSheet 6 = .ok (.if_icmp .ge 7, 3) := by decide +kernel
theorem dX10_isSheet_9 : decode cX10_isSheet 9 = .ok (.iconst 1, 1) := by decide +kernel
theorem dX10_isSheet_10 : decode cX10_isSheet 10 = .ok (.goto 4, 3) := by decide +kernel
theorem dX10_isSheet_13 : decode cX10_isSheet 13 = .ok (.iconst 0, 1) := by decide +kernel
theorem dX10_isSheet_14 : decode cX10_isSheet 14 = .ok (.ireturn, 1) := by decide +kernel
theorem dX10_wholeYears_0 : decode cX10_wholeYears 0 = .ok (.aload_n 0, 1) := by decide +kernel
theorem dX10_wholeYears_1 : decode cX10_wholeYears 1 = .ok (.getfield 47, 3) := by decide +kernel
theorem dX10_wholeYears_4 : decode cX10_wholeYears 4 = .ok (.iload_n 1, 1) := by decide +kernel
theorem dX10_wholeYears_5 : decode cX10_wholeYears 5 = .ok (.invokevirtual 378, 3) := by decide +kernel
theorem dX10_wholeYears_8 : decode cX10_wholeYears 8 = .ok (.istore 4, 2) := by decide +kernel
theorem dX10_wholeYears_10 : decode cX10_wholeYears 10 = .ok (.iconst 0, 1) := by decide +kernel
theorem dX10_wholeYears_11 : decode cX10_wholeYears 11 = .ok (.istore 5, 2) := by decide +kernel
theorem dX10_wholeYears_13 : decode cX10_wholeYears 13 = .ok (.iload 5, 2) := by decide +kernel
theorem dX10_wholeYears_15 : decode cX10_wholeYears 15 = .ok (.iload 4, 2) := by decide +kernel
theorem dX10_wholeYears_17 : decode cX10_wholeYears 17 = .ok (.if_icmp .ge 45, 3) := by decide +kernel
theorem dX10_wholeYears_20 : decode cX10_wholeYears 20 = .ok (.aload_n 0, 1) := by decide +kernel
theorem dX10_wholeYears_21 : decode cX10_wholeYears 21 = .ok (.getfield 47, 3) := by decide +kernel
theorem dX10_wholeYears_24 : decode cX10_wholeYears 24 = .ok (.iload_n 1, 1) := by decide +kernel
theorem dX10_wholeYears_25 : decode cX10_wholeYears 25 = .ok (.aload_n 0, 1) := by decide +kernel
theorem dX10_wholeYears_26 : decode cX10_wholeYears 26 = .ok (.getfield 47, 3) := by decide +kernel
theorem dX10_wholeYears_29 : decode cX10_wholeYears 29 = .ok (.getfield 215, 3) := by decide +kernel
theorem dX10_wholeYears_32 : decode cX10_wholeYears 32 = .ok (.iload_n 1, 1) := by decide +kernel
theorem dX10_wholeYears_33 : decode cX10_wholeYears 33 = .ok (.iaload, 1) := by decide +kernel
theorem dX10_wholeYears_34 : decode cX10_wholeYears 34 = .ok (.iload 5, 2) := by decide +kernel
theorem dX10_wholeYears_36 : decode cX10_wholeYears 36 = .ok (.iadd, 1) := by decide +kernel
theorem dX10_wholeYears_37 : decode cX10_wholeYears 37 = .ok (.invokevirtual 205, 3) := by decide +kernel
theorem dX10_wholeYears_40 : decode cX10_wholeYears 40 = .ok (.ifCond .ne 16, 3) := by decide +kernel
theorem dX10_wholeYears_43 : decode cX10_wholeYears 43 = .ok (.aload_n 2, 1) := by decide +kernel
theorem dX10_wholeYears_44 : decode cX10_wholeYears 44 = .ok (.iload_n 3, 1) := by decide +kernel
theorem dX10_wholeYears_45 : decode cX10_wholeYears 45 = .ok (.iload 5, 2) := by decide +kernel
theorem dX10_wholeYears_47 : decode cX10_wholeYears 47 = .ok (.invokevirtual 357, 3) := by decide +kernel
theorem dX10_wholeYears_50 : decode cX10_wholeYears 50 = .ok (.ifCond .eq 6, 3) := by decide +kernel
theorem dX10_wholeYears_53 : decode cX10_wholeYears 53 = .ok (.iload 5, 2) := by decide +kernel
theorem dX10_wholeYears_55 : decode cX10_wholeYears 55 = .ok (.ireturn, 1) := by decide +kernel
theorem dX10_wholeYears_56 : decode cX10_wholeYears 56 = .ok (.iinc 5 1, 3) := by decide +kernel
theorem dX10_wholeYears_59 : decode cX10_wholeYears 59 = .ok (.goto (-46), 3) := by decide +kernel
theorem dX10_wholeYears_62 : decode cX10_wholeYears 62 = .ok (.iload 4, 2) := by decide +kernel
theorem dX10_wholeYears_64 : decode cX10_wholeYears 64 = .ok (.ireturn, 1) := by decide +kernel
theorem dX10_wrongCell_0 : decode cX10_wrongCell 0 = .ok (.iconst 0, 1) := by decide +kernel
theorem dX10_wrongCell_1 : decode cX10_wrongCell 1 = .ok (.istore 4, 2) := by decide +kernel
theorem dX10_wrongCell_3 : decode cX10_wrongCell 3 = .ok (.iload 4, 2) := by decide +kernel
theorem dX10_wrongCell_5 : decode cX10_wrongCell 5 = .ok (.iload_n 3, 1) := by decide +kernel
theorem dX10_wrongCell_6 : decode cX10_wrongCell 6 = .ok (.if_icmp .ge 73, 3) := by decide +kernel
theorem dX10_wrongCell_9 : decode cX10_wrongCell 9 = .ok (.aload_n 0, 1) := by decide +kernel
theorem dX10_wrongCell_10 : decode cX10_wrongCell 10 = .ok (.getfield 47, 3) := by decide +kernel
theorem dX10_wrongCell_13 : decode cX10_wrongCell 13 = .ok (.iload_n 1, 1) := by decide +kernel
theorem dX10_wrongCell_14 : decode cX10_wrongCell 14 = .ok (.aload_n 0, 1) := by decide +kernel
theorem dX10_wrongCell_15 : decode cX10_wrongCell 15 = .ok (.getfield 47, 3) := by decide +kernel
theorem dX10_wrongCell_18 : decode cX10_wrongCell 18 = .ok (.getfield 215, 3) := by decide +kernel
theorem dX10_wrongCell_21 : decode cX10_wrongCell 21 = .ok (.iload_n 1, 1) := by decide +kernel
theorem dX10_wrongCell_22 : decode cX10_wrongCell 22 = .ok (.iaload, 1) := by decide +kernel
theorem dX10_wrongCell_23 : decode cX10_wrongCell 23 = .ok (.iload 4, 2) := by decide +kernel
theorem dX10_wrongCell_25 : decode cX10_wrongCell 25 = .ok (.iadd, 1) := by decide +kernel
theorem dX10_wrongCell_26 : decode cX10_wrongCell 26 = .ok (.invokevirtual 205, 3) := by decide +kernel
theorem dX10_wrongCell_29 : decode cX10_wrongCell 29 = .ok (.ifCond .ne 7, 3) := by decide +kernel
theorem dX10_wrongCell_32 : decode cX10_wrongCell 32 = .ok (.iconst 1, 1) := by decide +kernel
theorem dX10_wrongCell_33 : decode cX10_wrongCell 33 = .ok (.goto 4, 3) := by decide +kernel
theorem dX10_wrongCell_36 : decode cX10_wrongCell 36 = .ok (.iconst 0, 1) := by decide +kernel
theorem dX10_wrongCell_37 : decode cX10_wrongCell 37 = .ok (.istore 5, 2) := by decide +kernel
theorem dX10_wrongCell_39 : decode cX10_wrongCell 39 = .ok (.iload 5, 2) := by decide +kernel
theorem dX10_wrongCell_41 : decode cX10_wrongCell 41 = .ok (.ifCond .eq 32, 3) := by decide +kernel
theorem dX10_wrongCell_44 : decode cX10_wrongCell 44 = .ok (.aload_n 2, 1) := by decide +kernel
theorem dX10_wrongCell_45 : decode cX10_wrongCell 45 = .ok (.iload 4, 2) := by decide +kernel
theorem dX10_wrongCell_47 : decode cX10_wrongCell 47 = .ok (.invokevirtual 395, 3) := by decide +kernel
theorem dX10_wrongCell_50 : decode cX10_wrongCell 50 = .ok (.iconst (-1), 1) := by decide +kernel
theorem dX10_wrongCell_51 : decode cX10_wrongCell 51 = .ok (.if_icmp .eq 22, 3) := by decide +kernel
theorem dX10_wrongCell_54 : decode cX10_wrongCell 54 = .ok (.aload_n 0, 1) := by decide +kernel
theorem dX10_wrongCell_55 : decode cX10_wrongCell 55 = .ok (.getfield 40, 3) := by decide +kernel
theorem dX10_wrongCell_58 : decode cX10_wrongCell 58 = .ok (.aload_n 2, 1) := by decide +kernel
theorem dX10_wrongCell_59 : decode cX10_wrongCell 59 = .ok (.iload 4, 2) := by decide +kernel
theorem dX10_wrongCell_61 : decode cX10_wrongCell 61 = .ok (.invokevirtual 395, 3) := by decide +kernel
theorem dX10_wrongCell_64 : decode cX10_wrongCell 64 = .ok (.invokevirtual 94, 3) := by decide +kernel
theorem dX10_wrongCell_67 : decode cX10_wrongCell 67 = .ok (.ifCond .ne 6, 3) := by decide +kernel
theorem dX10_wrongCell_70 : decode cX10_wrongCell 70 = .ok (.iload 4, 2) := by decide +kernel
theorem dX10_wrongCell_72 : decode cX10_wrongCell 72 = .ok (.ireturn, 1) := by decide +kernel
theorem dX10_wrongCell_73 : decode cX10_wrongCell 73 = .ok (.iinc 4 1, 3) := by decide +kernel
theorem dX10_wrongCell_76 : decode cX10_wrongCell 76 = .ok (.goto (-73), 3) := by decide +kernel
theorem dX10_wrongCell_79 : decode cX10_wrongCell 79 = .ok (.bipush (-4), 2) := by decide +kernel
theorem dX10_wrongCell_81 : decode cX10_wrongCell 81 = .ok (.ireturn, 1) := by decide +kernel
theorem dX10_isFilled_0 : decode cX10_isFilled 0 = .ok (.aload_n 0, 1) := by decide +kernel
theorem dX10_isFilled_1 : decode cX10_isFilled 1 = .ok (.getfield 47, 3) := by decide +kernel
theorem dX10_isFilled_4 : decode cX10_isFilled 4 = .ok (.iload_n 1, 1) := by decide +kernel
theorem dX10_isFilled_5 : decode cX10_isFilled 5 = .ok (.aload_n 0, 1) := by decide +kernel
theorem dX10_isFilled_6 : decode cX10_isFilled 6 = .ok (.getfield 47, 3) := by decide +kernel
theorem dX10_isFilled_9 : decode cX10_isFilled 9 = .ok (.getfield 215, 3) := by decide +kernel
theorem dX10_isFilled_12 : decode cX10_isFilled 12 = .ok (.iload_n 1, 1) := by decide +kernel
theorem dX10_isFilled_13 : decode cX10_isFilled 13 = .ok (.iaload, 1) := by decide +kernel
theorem dX10_isFilled_14 : decode cX10_isFilled 14 = .ok (.iload_n 3, 1) := by decide +kernel
theorem dX10_isFilled_15 : decode cX10_isFilled 15 = .ok (.iadd, 1) := by decide +kernel
theorem dX10_isFilled_16 : decode cX10_isFilled 16 = .ok (.invokevirtual 205, 3) := by decide +kernel
theorem dX10_isFilled_19 : decode cX10_isFilled 19 = .ok (.ifCond .ne 22, 3) := by decide +kernel
theorem dX10_isFilled_22 : decode cX10_isFilled 22 = .ok (.aload_n 0, 1) := by decide +kernel
theorem dX10_isFilled_23 : decode cX10_isFilled 23 = .ok (.getfield 40, 3) := by decide +kernel
theorem dX10_isFilled_26 : decode cX10_isFilled 26 = .ok (.aload_n 2, 1) := by decide +kernel
theorem dX10_isFilled_27 : decode cX10_isFilled 27 = .ok (.iload_n 3, 1) := by decide +kernel
theorem dX10_isFilled_28 : decode cX10_isFilled 28 = .ok (.invokevirtual 395, 3) := by decide +kernel
theorem dX10_isFilled_31 : decode cX10_isFilled 31 = .ok (.invokevirtual 94, 3) := by decide +kernel
theorem dX10_isFilled_34 : decode cX10_isFilled 34 = .ok (.ifCond .eq 7, 3) := by decide +kernel
theorem dX10_isFilled_37 : decode cX10_isFilled 37 = .ok (.iconst 1, 1) := by decide +kernel
theorem dX10_isFilled_38 : decode cX10_isFilled 38 = .ok (.goto 4, 3) := by decide +kernel
theorem dX10_isFilled_41 : decode cX10_isFilled 41 = .ok (.iconst 0, 1) := by decide +kernel
theorem dX10_isFilled_42 : decode cX10_isFilled 42 = .ok (.ireturn, 1) := by decide +kernel
theorem dX10_filledYears_0 : decode cX10_filledYears 0 = .ok (.iconst 0, 1) := by decide +kernel
theorem dX10_filledYears_1 : decode cX10_filledYears 1 = .ok (.istore 4, 2) := by decide +kernel
theorem dX10_filledYears_3 : decode cX10_filledYears 3 = .ok (.iconst 0, 1) := by decide +kernel
theorem dX10_filledYears_4 : decode cX10_filledYears 4 = .ok (.istore 5, 2) := by decide +kernel
theorem dX10_filledYears_6 : decode cX10_filledYears 6 = .ok (.iload 5, 2) := by decide +kernel
theorem dX10_filledYears_8 : decode cX10_filledYears 8 = .ok (.iload_n 3, 1) := by decide +kernel
theorem dX10_filledYears_9 : decode cX10_filledYears 9 = .ok (.if_icmp .ge 23, 3) := by decide +kernel
theorem dX10_filledYears_12 : decode cX10_filledYears 12 = .ok (.aload_n 0, 1) := by decide +kernel
theorem dX10_filledYears_13 : decode cX10_filledYears 13 = .ok (.iload_n 1, 1) := by decide +kernel
theorem dX10_filledYears_14 : decode cX10_filledYears 14 = .ok (.aload_n 2, 1) := by decide +kernel
theorem dX10_filledYears_15 : decode cX10_filledYears 15 = .ok (.iload 5, 2) := by decide +kernel
theorem dX10_filledYears_17 : decode cX10_filledYears 17 = .ok (.invokevirtual 398, 3) := by decide +kernel
theorem dX10_filledYears_20 : decode cX10_filledYears 20 = .ok (.ifCond .eq 6, 3) := by decide +kernel
theorem dX10_filledYears_23 : decode cX10_filledYears 23 = .ok (.iinc 4 1, 3) := by decide +kernel
theorem dX10_filledYears_26 : decode cX10_filledYears 26 = .ok (.iinc 5 1, 3) := by decide +kernel
theorem dX10_filledYears_29 : decode cX10_filledYears 29 = .ok (.goto (-23), 3) := by decide +kernel
theorem dX10_filledYears_32 : decode cX10_filledYears 32 = .ok (.iload 4, 2) := by decide +kernel
theorem dX10_filledYears_34 : decode cX10_filledYears 34 = .ok (.ireturn, 1) := by decide +kernel
theorem dX10_copyYears_0 : decode cX10_copyYears 0 = .ok (.iconst 0, 1) := by decide +kernel
theorem dX10_copyYears_1 : decode cX10_copyYears 1 = .ok (.istore 4, 2) := by decide +kernel
theorem dX10_copyYears_3 : decode cX10_copyYears 3 = .ok (.iload 4, 2) := by decide +kernel
theorem dX10_copyYears_5 : decode cX10_copyYears 5 = .ok (.iload_n 3, 1) := by decide +kernel
theorem dX10_copyYears_6 : decode cX10_copyYears 6 = .ok (.if_icmp .ge 52, 3) := by decide +kernel
theorem dX10_copyYears_9 : decode cX10_copyYears 9 = .ok (.aload_n 0, 1) := by decide +kernel
theorem dX10_copyYears_10 : decode cX10_copyYears 10 = .ok (.iload_n 1, 1) := by decide +kernel
theorem dX10_copyYears_11 : decode cX10_copyYears 11 = .ok (.aload_n 2, 1) := by decide +kernel
theorem dX10_copyYears_12 : decode cX10_copyYears 12 = .ok (.iload 4, 2) := by decide +kernel
theorem dX10_copyYears_14 : decode cX10_copyYears 14 = .ok (.invokevirtual 398, 3) := by decide +kernel
theorem dX10_copyYears_17 : decode cX10_copyYears 17 = .ok (.ifCond .eq 35, 3) := by decide +kernel
theorem dX10_copyYears_20 : decode cX10_copyYears 20 = .ok (.aload_n 0, 1) := by decide +kernel
theorem dX10_copyYears_21 : decode cX10_copyYears 21 = .ok (.getfield 56, 3) := by decide +kernel
theorem dX10_copyYears_24 : decode cX10_copyYears 24 = .ok (.iload_n 1, 1) := by decide +kernel
theorem dX10_copyYears_25 : decode cX10_copyYears 25 = .ok (.aload_n 0, 1) := by decide +kernel
theorem dX10_copyYears_26 : decode cX10_copyYears 26 = .ok (.getfield 47, 3) := by decide +kernel
theorem dX10_copyYears_29 : decode cX10_copyYears 29 = .ok (.getfield 215, 3) := by decide +kernel
theorem dX10_copyYears_32 : decode cX10_copyYears 32 = .ok (.iload_n 1, 1) := by decide +kernel
theorem dX10_copyYears_33 : decode cX10_copyYears 33 = .ok (.iaload, 1) := by decide +kernel
theorem dX10_copyYears_34 : decode cX10_copyYears 34 = .ok (.iload 4, 2) := by decide +kernel
theorem dX10_copyYears_36 : decode cX10_copyYears 36 = .ok (.iadd, 1) := by decide +kernel
theorem dX10_copyYears_37 : decode cX10_copyYears 37 = .ok (.aload_n 2, 1) := by decide +kernel
theorem dX10_copyYears_38 : decode cX10_copyYears 38 = .ok (.iload 4, 2) := by decide +kernel
theorem dX10_copyYears_40 : decode cX10_copyYears 40 = .ok (.invokevirtual 395, 3) := by decide +kernel
theorem dX10_copyYears_43 : decode cX10_copyYears 43 = .ok (.iconst 0, 1) := by decide +kernel
theorem dX10_copyYears_44 : decode cX10_copyYears 44 = .ok (.aload_n 0, 1) := by decide +kernel
theorem dX10_copyYears_45 : decode cX10_copyYears 45 = .ok (.getfield 237, 3) := by decide +kernel
theorem dX10_copyYears_48 : decode cX10_copyYears 48 = .ok (.invokevirtual 240, 3) := by decide +kernel
theorem dX10_copyYears_51 : decode cX10_copyYears 51 = .ok (.pop, 1) := by decide +kernel
theorem dX10_copyYears_52 : decode cX10_copyYears 52 = .ok (.iinc 4 1, 3) := by decide +kernel
theorem dX10_copyYears_55 : decode cX10_copyYears 55 = .ok (.goto (-52), 3) := by decide +kernel
theorem dX10_copyYears_58 : decode cX10_copyYears 58 = .ok (.return_, 1) := by decide +kernel
theorem dX10_loseYears_0 : decode cX10_loseYears 0 = .ok (.aload_n 0, 1) := by decide +kernel
theorem dX10_loseYears_1 : decode cX10_loseYears 1 = .ok (.getfield 47, 3) := by decide +kernel
theorem dX10_loseYears_4 : decode cX10_loseYears 4 = .ok (.getfield 215, 3) := by decide +kernel
theorem dX10_loseYears_7 : decode cX10_loseYears 7 = .ok (.iload_n 1, 1) := by decide +kernel
theorem dX10_loseYears_8 : decode cX10_loseYears 8 = .ok (.iaload, 1) := by decide +kernel
theorem dX10_loseYears_9 : decode cX10_loseYears 9 = .ok (.iload_n 2, 1) := by decide +kernel
theorem dX10_loseYears_10 : decode cX10_loseYears 10 = .ok (.iadd, 1) := by decide +kernel
theorem dX10_loseYears_11 : decode cX10_loseYears 11 = .ok (.istore_n 3, 1) := by decide +kernel
theorem dX10_loseYears_12 : decode cX10_loseYears 12 = .ok (.iload_n 3, 1) := by decide +kernel
theorem dX10_loseYears_13 : decode cX10_loseYears 13 = .ok (.aload_n 0, 1) := by decide +kernel
theorem dX10_loseYears_14 : decode cX10_loseYears 14 = .ok (.getfield 47, 3) := by decide +kernel
theorem dX10_loseYears_17 : decode cX10_loseYears 17 = .ok (.getfield 218, 3) := by decide +kernel
theorem dX10_loseYears_20 : decode cX10_loseYears 20 = .ok (.iload_n 1, 1) := by decide +kernel
theorem dX10_loseYears_21 : decode cX10_loseYears 21 = .ok (.iaload, 1) := by decide +kernel
theorem dX10_loseYears_22 : decode cX10_loseYears 22 = .ok (.if_icmp .gt 31, 3) := by decide +kernel
theorem dX10_loseYears_25 : decode cX10_loseYears 25 = .ok (.aload_n 0, 1) := by decide +kernel
theorem dX10_loseYears_26 : decode cX10_loseYears 26 = .ok (.getfield 56, 3) := by decide +kernel
theorem dX10_loseYears_29 : decode cX10_loseYears 29 = .ok (.iload_n 1, 1) := by decide +kernel
theorem dX10_loseYears_30 : decode cX10_loseYears 30 = .ok (.iload_n 3, 1) := by decide +kernel
theorem dX10_loseYears_31 : decode cX10_loseYears 31 = .ok (.invokevirtual 202, 3) := by decide +kernel
theorem dX10_loseYears_34 : decode cX10_loseYears 34 = .ok (.ifCond .ne 13, 3) := by decide +kernel
theorem dX10_loseYears_37 : decode cX10_loseYears 37 = .ok (.aload_n 0, 1) := by decide +kernel
theorem dX10_loseYears_38 : decode cX10_loseYears 38 = .ok (.getfield 47, 3) := by decide +kernel
theorem dX10_loseYears_41 : decode cX10_loseYears 41 = .ok (.iload_n 1, 1) := by decide +kernel
theorem dX10_loseYears_42 : decode cX10_loseYears 42 = .ok (.iload_n 3, 1) := by decide +kernel
theorem dX10_loseYears_43 : decode cX10_loseYears 43 = .ok (.iconst 1, 1) := by decide +kernel
theorem dX10_loseYears_44 : decode cX10_loseYears 44 = .ok (.invokevirtual 208, 3) := by decide +kernel
theorem dX10_loseYears_47 : decode cX10_loseYears 47 = .ok (.iinc 3 1, 3) := by decide +kernel
theorem dX10_loseYears_50 : decode cX10_loseYears 50 = .ok (.goto (-38), 3) := by decide +kernel
theorem dX10_loseYears_53 : decode cX10_loseYears 53 = .ok (.return_, 1) := by decide +kernel
theorem dX10_divideUp_0 : decode cX10_divideUp 0 = .ok (.iload_n 1, 1) := by decide +kernel
theorem dX10_divideUp_1 : decode cX10_divideUp 1 = .ok (.ifCond .gt 7, 3) := by decide +kernel
theorem dX10_divideUp_4 : decode cX10_divideUp 4 = .ok (.iconst 0, 1) := by decide +kernel
theorem dX10_divideUp_5 : decode cX10_divideUp 5 = .ok (.goto 10, 3) := by decide +kernel
theorem dX10_divideUp_8 : decode cX10_divideUp 8 = .ok (.iload_n 0, 1) := by decide +kernel
theorem dX10_divideUp_9 : decode cX10_divideUp 9 = .ok (.iload_n 1, 1) := by decide +kernel
theorem dX10_divideUp_10 : decode cX10_divideUp 10 = .ok (.iadd, 1) := by decide +kernel
theorem dX10_divideUp_11 : decode cX10_divideUp 11 = .ok (.iconst 1, 1) := by decide +kernel
theorem dX10_divideUp_12 : decode cX10_divideUp 12 = .ok (.isub, 1) := by decide +kernel
theorem dX10_divideUp_13 : decode cX10_divideUp 13 = .ok (.iload_n 1, 1) := by decide +kernel
theorem dX10_divideUp_14 : decode cX10_divideUp 14 = .ok (.idiv, 1) := by decide +kernel
theorem dX10_divideUp_15 : decode cX10_divideUp 15 = .ok (.ireturn, 1) := by decide +kernel
theorem dX11_init_0 : decode cX11_init 0 = .ok (.aload_n 0, 1) := by decide +kernel
theorem dX11_init_1 : decode cX11_init 1 = .ok (.invokespecial 1, 3) := by decide +kernel
theorem dX11_init_4 : decode cX11_init 4 = .ok (.aload_n 0, 1) := by decide +kernel
theorem dX11_init_5 : decode cX11_init 5 = .ok (.bipush 16, 2) := by decide +kernel
theorem dX11_init_7 : decode cX11_init 7 = .ok (.newarray .int, 2) := by decide +kernel
theorem dX11_init_9 : decode cX11_init 9 = .ok (.putfield 7, 3) := by decide +kernel
theorem dX11_init_12 : decode cX11_init 12 = .ok (.aload_n 0, 1) := by decide +kernel
theorem dX11_init_13 : decode cX11_init 13 = .ok (.sipush 160, 3) := by decide +kernel
theorem dX11_init_16 : decode cX11_init 16 = .ok (.newarray .int, 2) := by decide +kernel
theorem dX11_init_18 : decode cX11_init 18 = .ok (.putfield 13, 3) := by decide +kernel
theorem dX11_init_21 : decode cX11_init 21 = .ok (.aload_n 0, 1) := by decide +kernel
theorem dX11_init_22 : decode cX11_init 22 = .ok (.bipush 10, 2) := by decide +kernel
theorem dX11_init_24 : decode cX11_init 24 = .ok (.newarray .int, 2) := by decide +kernel
theorem dX11_init_26 : decode cX11_init 26 = .ok (.putfield 16, 3) := by decide +kernel
theorem dX11_init_29 : decode cX11_init 29 = .ok (.aload_n 0, 1) := by decide +kernel
theorem dX11_init_30 : decode cX11_init 30 = .ok (.sipush 200, 3) := by decide +kernel
theorem dX11_init_33 : decode cX11_init 33 = .ok (.newarray .int, 2) := by decide +kernel
theorem dX11_init_35 : decode cX11_init 35 = .ok (.putfield 19, 3) := by decide +kernel
theorem dX11_init_38 : decode cX11_init 38 = .ok (.aload_n 0, 1) := by decide +kernel
theorem dX11_init_39 : decode cX11_init 39 = .ok (.bipush 9, 2) := by decide +kernel
theorem dX11_init_41 : decode cX11_init 41 = .ok (.newarray .int, 2) := by decide +kernel
theorem dX11_init_43 : decode cX11_init 43 = .ok (.dup, 1) := by decide +kernel
theorem dX11_init_44 : decode cX11_init 44 = .ok (.iconst 0, 1) := by decide +kernel
theorem dX11_init_45 : decode cX11_init 45 = .ok (.iconst 0, 1) := by decide +kernel
theorem dX11_init_46 : decode cX11_init 46 = .ok (.iastore, 1) := by decide +kernel
theorem dX11_init_47 : decode cX11_init 47 = .ok (.dup, 1) := by decide +kernel
theorem dX11_init_48 : decode cX11_init 48 = .ok (.iconst 1, 1) := by decide +kernel
theorem dX11_init_49 : decode cX11_init 49 = .ok (.iconst 3, 1) := by decide +kernel
theorem dX11_init_50 : decode cX11_init 50 = .ok (.iastore, 1) := by decide +kernel
theorem dX11_init_51 : decode cX11_init 51 = .ok (.dup, 1) := by decide +kernel
theorem dX11_init_52 : decode cX11_init 52 = .ok (.iconst 2, 1) := by decide +kernel
theorem dX11_init_53 : decode cX11_init 53 = .ok (.bipush 7, 2) := by decide +kernel
theorem dX11_init_55 : decode cX11_init 55 = .ok (.iastore, 1) := by decide +kernel
theorem dX11_init_56 : decode cX11_init 56 = .ok (.dup, 1) := by decide +kernel
theorem dX11_init_57 : decode cX11_init 57 = .ok (.iconst 3, 1) := by decide +kernel
theorem dX11_init_58 : decode cX11_init 58 = .ok (.bipush 11, 2) := by decide +kernel
theorem dX11_init_60 : decode cX11_init 60 = .ok (.iastore, 1) := by decide +kernel
theorem dX11_init_61 : decode cX11_init 61 = .ok (.dup, 1) := by decide +kernel
theorem dX11_init_62 : decode cX11_init 62 = .ok (.iconst 4, 1) := by decide +kernel
theorem dX11_init_63 : decode cX11_init 63 = .ok (.bipush 15, 2) := by decide +kernel
theorem dX11_init_65 : decode cX11_init 65 = .ok (.iastore, 1) := by decide +kernel
theorem dX11_init_66 : decode cX11_init 66 = .ok (.dup, 1) := by decide +kernel
theorem dX11_init_67 : decode cX11_init 67 = .ok (.iconst 5, 1) := by decide +kernel
theorem dX11_init_68 : decode cX11_init 68 = .ok (.bipush 20, 2) := by decide +kernel
theorem dX11_init_70 : decode cX11_init 70 = .ok (.iastore, 1) := by decide +kernel
theorem dX11_init_71 : decode cX11_init 71 = .ok (.dup, 1) := by decide +kernel
theorem dX11_init_72 : decode cX11_init 72 = .ok (.bipush 6, 2) := by decide +kernel
theorem dX11_init_74 : decode cX11_init 74 = .ok (.bipush 24, 2) := by decide +kernel
theorem dX11_init_76 : decode cX11_init 76 = .ok (.iastore, 1) := by decide +kernel
theorem dX11_init_77 : decode cX11_init 77 = .ok (.dup, 1) := by decide +kernel
theorem dX11_init_78 : decode cX11_init 78 = .ok (.bipush 7, 2) := by decide +kernel
theorem dX11_init_80 : decode cX11_init 80 = .ok (.bipush 29, 2) := by decide +kernel
theorem dX11_init_82 : decode cX11_init 82 = .ok (.iastore, 1) := by decide +kernel
theorem dX11_init_83 : decode cX11_init 83 = .ok (.dup, 1) := by decide +kernel
theorem dX11_init_84 : decode cX11_init 84 = .ok (.bipush 8, 2) := by decide +kernel
theorem dX11_init_86 : decode cX11_init 86 = .ok (.bipush 33, 2) := by decide +kernel
theorem dX11_init_88 : decode cX11_init 88 = .ok (.iastore, 1) := by decide +kernel
theorem dX11_init_89 : decode cX11_init 89 = .ok (.putfield 22, 3) := by decide +kernel
theorem dX11_init_92 : decode cX11_init 92 = .ok (.aload_n 0, 1) := by decide +kernel
theorem dX11_init_93 : decode cX11_init 93 = .ok (.bipush 33, 2) := by decide +kernel
theorem dX11_init_95 : decode cX11_init 95 = .ok (.newarray .int, 2) := by decide +kernel
theorem dX11_init_97 : decode cX11_init 97 = .ok (.dup, 1) := by decide +kernel
theorem dX11_init_98 : decode cX11_init 98 = .ok (.iconst 0, 1) := by decide +kernel
theorem dX11_init_99 : decode cX11_init 99 = .ok (.bipush 115, 2) := by decide +kernel
theorem dX11_init_101 : decode cX11_init 101 = .ok (.iastore, 1) := by decide +kernel
theorem dX11_init_102 : decode cX11_init 102 = .ok (.dup, 1) := by decide +kernel
theorem dX11_init_103 : decode cX11_init 103 = .ok (.iconst 1, 1) := by decide +kernel
theorem dX11_init_104 : decode cX11_init 104 = .ok (.bipush 97, 2) := by decide +kernel
theorem dX11_init_106 : decode cX11_init 106 = .ok (.iastore, 1) := by decide +kernel
theorem dX11_init_107 : decode cX11_init 107 = .ok (.dup, 1) := by decide +kernel
theorem dX11_init_108 : decode cX11_init 108 = .ok (.iconst 2, 1) := by decide +kernel
theorem dX11_init_109 : decode cX11_init 109 = .ok (.bipush 121, 2) := by decide +kernel
theorem dX11_init_111 : decode cX11_init 111 = .ok (.iastore, 1) := by decide +kernel
theorem dX11_init_112 : decode cX11_init 112 = .ok (.dup, 1) := by decide +kernel
theorem dX11_init_113 : decode cX11_init 113 = .ok (.iconst 3, 1) := by decide +kernel
theorem dX11_init_114 : decode cX11_init 114 = .ok (.bipush 109, 2) := by decide +kernel
theorem dX11_init_116 : decode cX11_init 116 = .ok (.iastore, 1) := by decide +kernel
theorem dX11_init_117 : decode cX11_init 117 = .ok (.dup, 1) := by decide +kernel
theorem dX11_init_118 : decode cX11_init 118 = .ok (.iconst 4, 1) := by decide +kernel
theorem dX11_init_119 : decode cX11_init 119 = .ok (.bipush 117, 2) := by decide +kernel
theorem dX11_init_121 : decode cX11_init 121 = .ok (.iastore, 1) := by decide +kernel
theorem dX11_init_122 : decode cX11_init 122 = .ok (.dup, 1) := by decide +kernel
theorem dX11_init_123 : decode cX11_init 123 = .ok (.iconst 5, 1) := by decide +kernel
theorem dX11_init_124 : decode cX11_init 124 = .ok (.bipush 116, 2) := by decide +kernel
theorem dX11_init_126 : decode cX11_init 126 = .ok (.iastore, 1) := by decide +kernel
theorem dX11_init_127 : decode cX11_init 127 = .ok (.dup, 1) := by decide +kernel
theorem dX11_init_128 : decode cX11_init 128 = .ok (.bipush 6, 2) := by decide +kernel
theorem dX11_init_130 : decode cX11_init 130 = .ok (.bipush 101, 2) := by decide +kernel
theorem dX11_init_132 : decode cX11_init 132 = .ok (.iastore, 1) := by decide +kernel
theorem dX11_init_133 : decode cX11_init 133 = .ok (.dup, 1) := by decide +kernel
theorem dX11_init_134 : decode cX11_init 134 = .ok (.bipush 7, 2) := by decide +kernel
theorem dX11_init_136 : decode cX11_init 136 = .ok (.bipush 108, 2) := by decide +kernel
theorem dX11_init_138 : decode cX11_init 138 = .ok (.iastore, 1) := by decide +kernel
theorem dX11_init_139 : decode cX11_init 139 = .ok (.dup, 1) := by decide +kernel
theorem dX11_init_140 : decode cX11_init 140 = .ok (.bipush 8, 2) := by decide +kernel
theorem dX11_init_142 : decode cX11_init 142 = .ok (.bipush 105, 2) := by decide +kernel
theorem dX11_init_144 : decode cX11_init 144 = .ok (.iastore, 1) := by decide +kernel
theorem dX11_init_145 : decode cX11_init 145 = .ok (.dup, 1) := by decide +kernel
theorem dX11_init_146 : decode cX11_init 146 = .ok (.bipush 9, 2) := by decide +kernel
theorem dX11_init_148 : decode cX11_init 148 = .ok (.bipush 107, 2) := by decide +kernel
theorem dX11_init_150 : decode cX11_init 150 = .ok (.iastore, 1) := by decide +kernel
theorem dX11_init_151 : decode cX11_init 151 = .ok (.dup, 1) := by decide +kernel
theorem dX11_init_152 : decode cX11_init 152 = .ok (.bipush 10, 2) := by decide +kernel
theorem dX11_init_154 : decode cX11_init 154 = .ok (.bipush 101, 2) := by decide +kernel
theorem dX11_init_156 : decode cX11_init 156 = .ok (.iastore, 1) := by decide +kernel
theorem dX11_init_157 : decode cX11_init 157 = .ok (.dup, 1) := by decide +kernel
theorem dX11_init_158 : decode cX11_init 158 = .ok (.bipush 11, 2) := by decide +kernel
theorem dX11_init_160 : decode cX11_init 160 = .ok (.bipush 100, 2) := by decide +kernel
theorem dX11_init_162 : decode cX11_init 162 = .ok (.iastore, 1) := by decide +kernel
theorem dX11_init_163 : decode cX11_init 163 = .ok (.dup, 1) := by decide +kernel
theorem dX11_init_164 : decode cX11_init 164 = .ok (.bipush 12, 2) := by decide +kernel
theorem dX11_init_166 : decode cX11_init 166 = .ok (.bipush 114, 2) := by decide +kernel
theorem dX11_init_168 : decode cX11_init 168 = .ok (.iastore, 1) := by decide +kernel
theorem dX11_init_169 : decode cX11_init 169 = .ok (.dup, 1) := by decide +kernel
theorem dX11_init_170 : decode cX11_init 170 = .ok (.bipush 13, 2) := by decide +kernel
theorem dX11_init_172 : decode cX11_init 172 = .ok (.bipush 111, 2) := by decide +kernel
theorem dX11_init_174 : decode cX11_init 174 = .ok (.iastore, 1) := by decide +kernel
theorem dX11_init_175 : decode cX11_init 175 = .ok (.dup, 1) := by decide +kernel
theorem dX11_init_176 : decode cX11_init 176 = .ok (.bipush 14, 2) := by decide +kernel
theorem dX11_init_178 : decode cX11_init 178 = .ok (.bipush 112, 2) := by decide +kernel
theorem dX11_init_180 : decode cX11_init 180 = .ok (.iastore, 1) := by decide +kernel
theorem dX11_init_181 : decode cX11_init 181 = .ok (.dup, 1) := by decide +kernel
theorem dX11_init_182 : decode cX11_init 182 = .ok (.bipush 15, 2) := by decide +kernel
theorem dX11_init_184 : decode cX11_init 184 = .ok (.bipush 111, 2) := by decide +kernel
theorem dX11_init_186 : decode cX11_init 186 = .ok (.iastore, 1) := by decide +kernel
theorem dX11_init_187 : decode cX11_init 187 = .ok (.dup, 1) := by decide +kernel
theorem dX11_init_188 : decode cX11_init 188 = .ok (.bipush 16, 2) := by decide +kernel
theorem dX11_init_190 : decode cX11_init 190 = .ok (.bipush 116, 2) := by decide +kernel
theorem dX11_init_192 : decode cX11_init 192 = .ok (.iastore, 1) := by decide +kernel
theorem dX11_init_193 : decode cX11_init 193 = .ok (.dup, 1) := by decide +kernel
theorem dX11_init_194 : decode cX11_init 194 = .ok (.bipush 17, 2) := by decide +kernel
theorem dX11_init_196 : decode cX11_init 196 = .ok (.bipush 104, 2) := by decide +kernel
theorem dX11_init_198 : decode cX11_init 198 = .ok (.iastore, 1) := by decide +kernel
theorem dX11_init_199 : decode cX11_init 199 = .ok (.dup, 1) := by decide +kernel
theorem dX11_init_200 : decode cX11_init 200 = .ok (.bipush 18, 2) := by decide +kernel
theorem dX11_init_202 : decode cX11_init 202 = .ok (.bipush 101, 2) := by decide +kernel
theorem dX11_init_204 : decode cX11_init 204 = .ok (.iastore, 1) := by decide +kernel
theorem dX11_init_205 : decode cX11_init 205 = .ok (.dup, 1) := by decide +kernel
theorem dX11_init_206 : decode cX11_init 206 = .ok (.bipush 19, 2) := by decide +kernel
theorem dX11_init_208 : decode cX11_init 208 = .ok (.bipush 114, 2) := by decide +kernel
theorem dX11_init_210 : decode cX11_init 210 = .ok (.iastore, 1) := by decide +kernel
theorem dX11_init_211 : decode cX11_init 211 = .ok (.dup, 1) := by decide +kernel
theorem dX11_init_212 : decode cX11_init 212 = .ok (.bipush 20, 2) := by decide +kernel
theorem dX11_init_214 : decode cX11_init 214 = .ok (.bipush 106, 2) := by decide +kernel
theorem dX11_init_216 : decode cX11_init 216 = .ok (.iastore, 1) := by decide +kernel
theorem dX11_init_217 : decode cX11_init 217 = .ok (.dup, 1) := by decide +kernel
theorem dX11_init_218 : decode cX11_init 218 = .ok (.bipush 21, 2) := by decide +kernel
theorem dX11_init_220 : decode cX11_init 220 = .ok (.bipush 111, 2) := by decide +kernel
theorem dX11_init_222 : decode cX11_init 222 = .ok (.iastore, 1) := by decide +kernel
theorem dX11_init_223 : decode cX11_init 223 = .ok (.dup, 1) := by decide +kernel
theorem dX11_init_224 : decode cX11_init 224 = .ok (.bipush 22, 2) := by decide +kernel
theorem dX11_init_226 : decode cX11_init 226 = .ok (.bipush 105, 2) := by decide +kernel
theorem dX11_init_228 : decode cX11_init 228 = .ok (.iastore, 1) := by decide +kernel
theorem dX11_init_229 : decode cX11_init 229 = .ok (.dup, 1) := by decide +kernel
theorem dX11_init_230 : decode cX11_init 230 = .ok (.bipush 23, 2) := by decide +kernel
theorem dX11_init_232 : decode cX11_init 232 = .ok (.bipush 110, 2) := by decide +kernel
theorem dX11_init_234 : decode cX11_init 234 = .ok (.iastore, 1) := by decide +kernel
theorem dX11_init_235 : decode cX11_init 235 = .ok (.dup, 1) := by decide +kernel
theorem dX11_init_236 : decode cX11_init 236 = .ok (.bipush 24, 2) := by decide +kernel
theorem dX11_init_238 : decode cX11_init 238 = .ok (.bipush 109, 2) := by decide +kernel
theorem dX11_init_240 : decode cX11_init 240 = .ok (.iastore, 1) := by decide +kernel
theorem dX11_init_241 : decode cX11_init 241 = .ok (.dup, 1) := by decide +kernel
theorem dX11_init_242 : decode cX11_init 242 = .ok (.bipush 25, 2) := by decide +kernel
theorem dX11_init_244 : decode cX11_init 244 = .ok (.bipush 105, 2) := by decide +kernel
theorem dX11_init_246 : decode cX11_init 246 = .ok (.iastore, 1) := by decide +kernel
theorem dX11_init_247 : decode cX11_init 247 = .ok (.dup, 1) := by decide +kernel
theorem dX11_init_248 : decode cX11_init 248 = .ok (.bipush 26, 2) := by decide +kernel
theorem dX11_init_250 : decode cX11_init 250 = .ok (.bipush 108, 2) := by decide +kernel
theorem dX11_init_252 : decode cX11_init 252 = .ok (.iastore, 1) := by decide +kernel
theorem dX11_init_253 : decode cX11_init 253 = .ok (.dup, 1) := by decide +kernel
theorem dX11_init_254 : decode cX11_init 254 = .ok (.bipush 27, 2) := by decide +kernel
theorem dX11_init_256 : decode cX11_init 256 = .ok (.bipush 101, 2) := by decide +kernel
theorem dX11_init_258 : decode cX11_init 258 = .ok (.iastore, 1) := by decide +kernel
theorem dX11_init_259 : decode cX11_init 259 = .ok (.dup, 1) := by decide +kernel
theorem dX11_init_260 : decode cX11_init 260 = .ok (.bipush 28, 2) := by decide +kernel
theorem dX11_init_262 : decode cX11_init 262 = .ok (.bipush 115, 2) := by decide +kernel
theorem dX11_init_264 : decode cX11_init 264 = .ok (.iastore, 1) := by decide +kernel
theorem dX11_init_265 : decode cX11_init 265 = .ok (.dup, 1) := by decide +kernel
theorem dX11_init_266 : decode cX11_init 266 = .ok (.bipush 29, 2) := by decide +kernel
theorem dX11_init_268 : decode cX11_init 268 = .ok (.bipush 115, 2) := by decide +kernel
theorem dX11_init_270 : decode cX11_init 270 = .ok (.iastore, 1) := by decide +kernel
theorem dX11_init_271 : decode cX11_init 271 = .ok (.dup, 1) := by decide +kernel
theorem dX11_init_272 : decode cX11_init 272 = .ok (.bipush 30, 2) := by decide +kernel
theorem dX11_init_274 : decode cX11_init 274 = .ok (.bipush 111, 2) := by decide +kernel
theorem dX11_init_276 : decode cX11_init 276 = .ok (.iastore, 1) := by decide +kernel
theorem dX11_init_277 : decode cX11_init 277 = .ok (.dup, 1) := by decide +kernel
theorem dX11_init_278 : decode cX11_init 278 = .ok (.bipush 31, 2) := by decide +kernel
theorem dX11_init_280 : decode cX11_init 280 = .ok (.bipush 110, 2) := by decide +kernel
theorem dX11_init_282 : decode cX11_init 282 = .ok (.iastore, 1) := by decide +kernel
theorem dX11_init_283 : decode cX11_init 283 = .ok (.dup, 1) := by decide +kernel
theorem dX11_init_284 : decode cX11_init 284 = .ok (.bipush 32, 2) := by decide +kernel
theorem dX11_init_286 : decode cX11_init 286 = .ok (.bipush 115, 2) := by decide +kernel
theorem dX11_init_288 : decode cX11_init 288 = .ok (.iastore, 1) := by decide +kernel
theorem dX11_init_289 : decode cX11_init 289 = .ok (.putfield 25, 3) := by decide +kernel
theorem dX11_init_292 : decode cX11_init 292 = .ok (.aload_n 0, 1) := by decide +kernel
theorem dX11_init_293 : decode cX11_init 293 = .ok (.bipush 8, 2) := by decide +kernel
theorem dX11_init_295 : decode cX11_init 295 = .ok (.newarray .int, 2) := by decide +kernel
theorem dX11_init_297 : decode cX11_init 297 = .ok (.dup, 1) := by decide +kernel
theorem dX11_init_298 : decode cX11_init 298 = .ok (.iconst 0, 1) := by decide +kernel
theorem dX11_init_299 : decode cX11_init 299 = .ok (.iconst 3, 1) := by decide +kernel
theorem dX11_init_300 : decode cX11_init 300 = .ok (.iastore, 1) := by decide +kernel
theorem dX11_init_301 : decode cX11_init 301 = .ok (.dup, 1) := by decide +kernel
theorem dX11_init_302 : decode cX11_init 302 = .ok (.iconst 1, 1) := by decide +kernel
theorem dX11_init_303 : decode cX11_init 303 = .ok (.iconst 4, 1) := by decide +kernel
theorem dX11_init_304 : decode cX11_init 304 = .ok (.iastore, 1) := by decide +kernel
theorem dX11_init_305 : decode cX11_init 305 = .ok (.dup, 1) := by decide +kernel
theorem dX11_init_306 : decode cX11_init 306 = .ok (.iconst 2, 1) := by decide +kernel
theorem dX11_init_307 : decode cX11_init 307 = .ok (.iconst 4, 1) := by decide +kernel
theorem dX11_init_308 : decode cX11_init 308 = .ok (.iastore, 1) := by decide +kernel
theorem dX11_init_309 : decode cX11_init 309 = .ok (.dup, 1) := by decide +kernel
theorem dX11_init_310 : decode cX11_init 310 = .ok (.iconst 3, 1) := by decide +kernel
theorem dX11_init_311 : decode cX11_init 311 = .ok (.iconst 5, 1) := by decide +kernel
theorem dX11_init_312 : decode cX11_init 312 = .ok (.iastore, 1) := by decide +kernel
theorem dX11_init_313 : decode cX11_init 313 = .ok (.dup, 1) := by decide +kernel
theorem dX11_init_314 : decode cX11_init 314 = .ok (.iconst 4, 1) := by decide +kernel
theorem dX11_init_315 : decode cX11_init 315 = .ok (.iconst 1, 1) := by decide +kernel
theorem dX11_init_316 : decode cX11_init 316 = .ok (.iastore, 1) := by decide +kernel
theorem dX11_init_317 : decode cX11_init 317 = .ok (.dup, 1) := by decide +kernel
theorem dX11_init_318 : decode cX11_init 318 = .ok (.iconst 5, 1) := by decide +kernel
theorem dX11_init_319 : decode cX11_init 319 = .ok (.iconst 1, 1) := by decide +kernel
theorem dX11_init_320 : decode cX11_init 320 = .ok (.iastore, 1) := by decide +kernel
theorem dX11_init_321 : decode cX11_init 321 = .ok (.dup, 1) := by decide +kernel
theorem dX11_init_322 : decode cX11_init 322 = .ok (.bipush 6, 2) := by decide +kernel
theorem dX11_init_324 : decode cX11_init 324 = .ok (.iconst 1, 1) := by decide +kernel
theorem dX11_init_325 : decode cX11_init 325 = .ok (.iastore, 1) := by decide +kernel
theorem dX11_init_326 : decode cX11_init 326 = .ok (.dup, 1) := by decide +kernel
theorem dX11_init_327 : decode cX11_init 327 = .ok (.bipush 7, 2) := by decide +kernel
theorem dX11_init_329 : decode cX11_init 329 = .ok (.iconst 1, 1) := by decide +kernel
theorem dX11_init_330 : decode cX11_init 330 = .ok (.iastore, 1) := by decide +kernel
theorem dX11_init_331 : decode cX11_init 331 = .ok (.putfield 28, 3) := by decide +kernel
theorem dX11_init_334 : decode cX11_init 334 = .ok (.aload_n 0, 1) := by decide +kernel
theorem dX11_init_335 : decode cX11_init 335 = .ok (.bipush 36, 2) := by decide +kernel
theorem dX11_init_337 : decode cX11_init 337 = .ok (.newarray .int, 2) := by decide +kernel
theorem dX11_init_339 : decode cX11_init 339 = .ok (.putfield 31, 3) := by decide +kernel
theorem dX11_init_342 : decode cX11_init 342 = .ok (.aload_n 0, 1) := by decide +kernel
theorem dX11_init_343 : decode cX11_init 343 = .ok (.bipush 24, 2) := by decide +kernel
theorem dX11_init_345 : decode cX11_init 345 = .ok (.newarray .int, 2) := by decide +kernel
theorem dX11_init_347 : decode cX11_init 347 = .ok (.putfield 34, 3) := by decide +kernel
theorem dX11_init_350 : decode cX11_init 350 = .ok (.aload_n 0, 1) := by decide +kernel
theorem dX11_init_351 : decode cX11_init 351 = .ok (.bipush 40, 2) := by decide +kernel
theorem dX11_init_353 : decode cX11_init 353 = .ok (.newarray .int, 2) := by decide +kernel
theorem dX11_init_355 : decode cX11_init 355 = .ok (.putfield 37, 3) := by decide +kernel
theorem dX11_init_358 : decode cX11_init 358 = .ok (.aload_n 0, 1) := by decide +kernel
theorem dX11_init_359 : decode cX11_init 359 = .ok (.bipush 40, 2) := by decide +kernel
theorem dX11_init_361 : decode cX11_init 361 = .ok (.newarray .int, 2) := by decide +kernel
theorem dX11_init_363 : decode cX11_init 363 = .ok (.putfield 40, 3) := by decide +kernel
theorem dX11_init_366 : decode cX11_init 366 = .ok (.aload_n 0, 1) := by decide +kernel
theorem dX11_init_367 : decode cX11_init 367 = .ok (.bipush 40, 2) := by decide +kernel
theorem dX11_init_369 : decode cX11_init 369 = .ok (.newarray .int, 2) := by decide +kernel
theorem dX11_init_371 : decode cX11_init 371 = .ok (.putfield 43, 3) := by decide +kernel
theorem dX11_init_374 : decode cX11_init 374 = .ok (.aload_n 0, 1) := by decide +kernel
theorem dX11_init_375 : decode cX11_init 375 = .ok (.bipush 8, 2) := by decide +kernel
theorem dX11_init_377 : decode cX11_init 377 = .ok (.newarray .int, 2) := by decide +kernel
theorem dX11_init_379 : decode cX11_init 379 = .ok (.putfield 46, 3) := by decide +kernel
theorem dX11_init_382 : decode cX11_init 382 = .ok (.aload_n 0, 1) := by decide +kernel
theorem dX11_init_383 : decode cX11_init 383 = .ok (.bipush 36, 2) := by decide +kernel
theorem dX11_init_385 : decode cX11_init 385 = .ok (.newarray .int, 2) := by decide +kernel
theorem dX11_init_387 : decode cX11_init 387 = .ok (.putfield 49, 3) := by decide +kernel
theorem dX11_init_390 : decode cX11_init 390 = .ok (.aload_n 0, 1) := by decide +kernel
theorem dX11_init_391 : decode cX11_init 391 = .ok (.bipush 24, 2) := by decide +kernel
theorem dX11_init_393 : decode cX11_init 393 = .ok (.newarray .int, 2) := by decide +kernel
theorem dX11_init_395 : decode cX11_init 395 = .ok (.putfield 52, 3) := by decide +kernel
theorem dX11_init_398 : decode cX11_init 398 = .ok (.aload_n 0, 1) := by decide +kernel
theorem dX11_init_399 : decode cX11_init 399 = .ok (.bipush 40, 2) := by decide +kernel
theorem dX11_init_401 : decode cX11_init 401 = .ok (.newarray .int, 2) := by decide +kernel
theorem dX11_init_403 : decode cX11_init 403 = .ok (.putfield 55, 3) := by decide +kernel
theorem dX11_init_406 : decode cX11_init 406 = .ok (.aload_n 0, 1) := by decide +kernel
theorem dX11_init_407 : decode cX11_init 407 = .ok (.bipush 40, 2) := by decide +kernel
theorem dX11_init_409 : decode cX11_init 409 = .ok (.newarray .int, 2) := by decide +kernel
theorem dX11_init_411 : decode cX11_init 411 = .ok (.putfield 58, 3) := by decide +kernel
theorem dX11_init_414 : decode cX11_init 414 = .ok (.aload_n 0, 1) := by decide +kernel
theorem dX11_init_415 : decode cX11_init 415 = .ok (.bipush 40, 2) := by decide +kernel
theorem dX11_init_417 : decode cX11_init 417 = .ok (.newarray .int, 2) := by decide +kernel
theorem dX11_init_419 : decode cX11_init 419 = .ok (.putfield 61, 3) := by decide +kernel
theorem dX11_init_422 : decode cX11_init 422 = .ok (.aload_n 0, 1) := by decide +kernel
theorem dX11_init_423 : decode cX11_init 423 = .ok (.bipush 16, 2) := by decide +kernel
theorem dX11_init_425 : decode cX11_init 425 = .ok (.newarray .int, 2) := by decide +kernel
theorem dX11_init_427 : decode cX11_init 427 = .ok (.putfield 64, 3) := by decide +kernel
theorem dX11_init_430 : decode cX11_init 430 = .ok (.aload_n 0, 1) := by decide +kernel
theorem dX11_init_431 : decode cX11_init 431 = .ok (.sipush 320, 3) := by decide +kernel
theorem dX11_init_434 : decode cX11_init 434 = .ok (.newarray .int, 2) := by decide +kernel
theorem dX11_init_436 : decode cX11_init 436 = .ok (.putfield 67, 3) := by decide +kernel
theorem dX11_init_439 : decode cX11_init 439 = .ok (.aload_n 0, 1) := by decide +kernel
theorem dX11_init_440 : decode cX11_init 440 = .ok (.sipush 256, 3) := by decide +kernel
theorem dX11_init_443 : decode cX11_init 443 = .ok (.newarray .int, 2) := by decide +kernel
theorem dX11_init_445 : decode cX11_init 445 = .ok (.putfield 70, 3) := by decide +kernel
theorem dX11_init_448 : decode cX11_init 448 = .ok (.aload_n 0, 1) := by decide +kernel
theorem dX11_init_449 : decode cX11_init 449 = .ok (.bipush 16, 2) := by decide +kernel
theorem dX11_init_451 : decode cX11_init 451 = .ok (.newarray .int, 2) := by decide +kernel
theorem dX11_init_453 : decode cX11_init 453 = .ok (.putfield 73, 3) := by decide +kernel
theorem dX11_init_456 : decode cX11_init 456 = .ok (.aload_n 0, 1) := by decide +kernel
theorem dX11_init_457 : decode cX11_init 457 = .ok (.sipush 441, 3) := by decide +kernel
theorem dX11_init_460 : decode cX11_init 460 = .ok (.newarray .int, 2) := by decide +kernel
theorem dX11_init_462 : decode cX11_init 462 = .ok (.putfield 76, 3) := by decide +kernel
theorem dX11_init_465 : decode cX11_init 465 = .ok (.aload_n 0, 1) := by decide +kernel
theorem dX11_init_466 : decode cX11_init 466 = .ok (.bipush 16, 2) := by decide +kernel
theorem dX11_init_468 : decode cX11_init 468 = .ok (.newarray .int, 2) := by decide +kernel
theorem dX11_init_470 : decode cX11_init 470 = .ok (.putfield 79, 3) := by decide +kernel
theorem dX11_init_473 : decode cX11_init 473 = .ok (.aload_n 0, 1) := by decide +kernel
theorem dX11_init_474 : decode cX11_init 474 = .ok (.bipush 16, 2) := by decide +kernel
theorem dX11_init_476 : decode cX11_init 476 = .ok (.newarray .int, 2) := by decide +kernel
theorem dX11_init_478 : decode cX11_init 478 = .ok (.putfield 82, 3) := by decide +kernel
theorem dX11_init_481 : decode cX11_init 481 = .ok (.aload_n 0, 1) := by decide +kernel
theorem dX11_init_482 : decode cX11_init 482 = .ok (.bipush 16, 2) := by decide +kernel
theorem dX11_init_484 : decode cX11_init 484 = .ok (.newarray .int, 2) := by decide +kernel
theorem dX11_init_486 : decode cX11_init 486 = .ok (.putfield 85, 3) := by decide +kernel
theorem dX11_init_489 : decode cX11_init 489 = .ok (.aload_n 0, 1) := by decide +kernel
theorem dX11_init_490 : decode cX11_init 490 = .ok (.bipush 8, 2) := by decide +kernel
theorem dX11_init_492 : decode cX11_init 492 = .ok (.newarray .int, 2) := by decide +kernel
theorem dX11_init_494 : decode cX11_init 494 = .ok (.putfield 88, 3) := by decide +kernel
theorem dX11_init_497 : decode cX11_init 497 = .ok (.aload_n 0, 1) := by decide +kernel
theorem dX11_init_498 : decode cX11_init 498 = .ok (.bipush 8, 2) := by decide +kernel
theorem dX11_init_500 : decode cX11_init 500 = .ok (.newarray .int, 2) := by decide +kernel
theorem dX11_init_502 : decode cX11_init 502 = .ok (.putfield 91, 3) := by decide +kernel
theorem dX11_init_505 : decode cX11_init 505 = .ok (.aload_n 0, 1) := by decide +kernel
theorem dX11_init_506 : decode cX11_init 506 = .ok (.bipush 8, 2) := by decide +kernel
theorem dX11_init_508 : decode cX11_init 508 = .ok (.newarray .int, 2) := by decide +kernel
theorem dX11_init_510 : decode cX11_init 510 = .ok (.putfield 94, 3) := by decide +kernel
theorem dX11_init_513 : decode cX11_init 513 = .ok (.aload_n 0, 1) := by decide +kernel
theorem dX11_init_514 : decode cX11_init 514 = .ok (.bipush 8, 2) := by decide +kernel
theorem dX11_init_516 : decode cX11_init 516 = .ok (.newarray .int, 2) := by decide +kernel
theorem dX11_init_518 : decode cX11_init 518 = .ok (.putfield 97, 3) := by decide +kernel
theorem dX11_init_521 : decode cX11_init 521 = .ok (.aload_n 0, 1) := by decide +kernel
theorem dX11_init_522 : decode cX11_init 522 = .ok (.bipush 8, 2) := by decide +kernel
theorem dX11_init_524 : decode cX11_init 524 = .ok (.newarray .int, 2) := by decide +kernel
theorem dX11_init_526 : decode cX11_init 526 = .ok (.putfield 100, 3) := by decide +kernel
theorem dX11_init_529 : decode cX11_init 529 = .ok (.aload_n 0, 1) := by decide +kernel
theorem dX11_init_530 : decode cX11_init 530 = .ok (.bipush 8, 2) := by decide +kernel
theorem dX11_init_532 : decode cX11_init 532 = .ok (.newarray .long, 2) := by decide +kernel
theorem dX11_init_534 : decode cX11_init 534 = .ok (.putfield 103, 3) := by decide +kernel
theorem dX11_init_537 : decode cX11_init 537 = .ok (.aload_n 0, 1) := by decide +kernel
theorem dX11_init_538 : decode cX11_init 538 = .ok (.bipush 40, 2) := by decide +kernel
theorem dX11_init_540 : decode cX11_init 540 = .ok (.newarray .int, 2) := by decide +kernel
theorem dX11_init_542 : decode cX11_init 542 = .ok (.putfield 107, 3) := by decide +kernel
theorem dX11_init_545 : decode cX11_init 545 = .ok (.aload_n 0, 1) := by decide +kernel
theorem dX11_init_546 : decode cX11_init 546 = .ok (.bipush 40, 2) := by decide +kernel
theorem dX11_init_548 : decode cX11_init 548 = .ok (.newarray .int, 2) := by decide +kernel
theorem dX11_init_550 : decode cX11_init 550 = .ok (.putfield 110, 3) := by decide +kernel
theorem dX11_init_553 : decode cX11_init 553 = .ok (.aload_n 0, 1) := by decide +kernel
theorem dX11_init_554 : decode cX11_init 554 = .ok (.bipush 40, 2) := by decide +kernel
theorem dX11_init_556 : decode cX11_init 556 = .ok (.newarray .int, 2) := by decide +kernel
theorem dX11_init_558 : decode cX11_init 558 = .ok (.putfield 113, 3) := by decide +kernel
theorem dX11_init_561 : decode cX11_init 561 = .ok (.aload_n 0, 1) := by decide +kernel
theorem dX11_init_562 : decode cX11_init 562 = .ok (.bipush 40, 2) := by decide +kernel
theorem dX11_init_564 : decode cX11_init 564 = .ok (.newarray .int, 2) := by decide +kernel
theorem dX11_init_566 : decode cX11_init 566 = .ok (.putfield 116, 3) := by decide +kernel
theorem dX11_init_569 : decode cX11_init 569 = .ok (.aload_n 0, 1) := by decide +kernel
theorem dX11_init_570 : decode cX11_init 570 = .ok (.bipush 40, 2) := by decide +kernel
theorem dX11_init_572 : decode cX11_init 572 = .ok (.newarray .int, 2) := by decide +kernel
theorem dX11_init_574 : decode cX11_init 574 = .ok (.putfield 119, 3) := by decide +kernel
theorem dX11_init_577 : decode cX11_init 577 = .ok (.aload_n 0, 1) := by decide +kernel
theorem dX11_init_578 : decode cX11_init 578 = .ok (.bipush 40, 2) := by decide +kernel
theorem dX11_init_580 : decode cX11_init 580 = .ok (.newarray .int, 2) := by decide +kernel
theorem dX11_init_582 : decode cX11_init 582 = .ok (.putfield 122, 3) := by decide +kernel
theorem dX11_init_585 : decode cX11_init 585 = .ok (.aload_n 0, 1) := by decide +kernel
theorem dX11_init_586 : decode cX11_init 586 = .ok (.bipush 40, 2) := by decide +kernel
theorem dX11_init_588 : decode cX11_init 588 = .ok (.newarray .int, 2) := by decide +kernel
theorem dX11_init_590 : decode cX11_init 590 = .ok (.putfield 125, 3) := by decide +kernel
theorem dX11_init_593 : decode cX11_init 593 = .ok (.aload_n 0, 1) := by decide +kernel
theorem dX11_init_594 : decode cX11_init 594 = .ok (.bipush 40, 2) := by decide +kernel
theorem dX11_init_596 : decode cX11_init 596 = .ok (.newarray .int, 2) := by decide +kernel
theorem dX11_init_598 : decode cX11_init 598 = .ok (.putfield 128, 3) := by decide +kernel
theorem dX11_init_601 : decode cX11_init 601 = .ok (.aload_n 0, 1) := by decide +kernel
theorem dX11_init_602 : decode cX11_init 602 = .ok (.bipush 60, 2) := by decide +kernel
theorem dX11_init_604 : decode cX11_init 604 = .ok (.newarray .int, 2) := by decide +kernel
theorem dX11_init_606 : decode cX11_init 606 = .ok (.putfield 131, 3) := by decide +kernel
theorem dX11_init_609 : decode cX11_init 609 = .ok (.aload_n 0, 1) := by decide +kernel
theorem dX11_init_610 : decode cX11_init 610 = .ok (.bipush 60, 2) := by decide +kernel
theorem dX11_init_612 : decode cX11_init 612 = .ok (.newarray .int, 2) := by decide +kernel
theorem dX11_init_614 : decode cX11_init 614 = .ok (.putfield 134, 3) := by decide +kernel
theorem dX11_init_617 : decode cX11_init 617 = .ok (.aload_n 0, 1) := by decide +kernel
theorem dX11_init_618 : decode cX11_init 618 = .ok (.bipush 60, 2) := by decide +kernel
theorem dX11_init_620 : decode cX11_init 620 = .ok (.newarray .int, 2) := by decide +kernel
theorem dX11_init_622 : decode cX11_init 622 = .ok (.putfield 137, 3) := by decide +kernel
theorem dX11_init_625 : decode cX11_init 625 = .ok (.aload_n 0, 1) := by decide +kernel
theorem dX11_init_626 : decode cX11_init 626 = .ok (.bipush 8, 2) := by decide +kernel
theorem dX11_init_628 : decode cX11_init 628 = .ok (.newarray .int, 2) := by decide +kernel
theorem dX11_init_630 : decode cX11_init 630 = .ok (.putfield 140, 3) := by decide +kernel
theorem dX11_init_633 : decode cX11_init 633 = .ok (.aload_n 0, 1) := by decide +kernel
theorem dX11_init_634 : decode cX11_init 634 = .ok (.iconst 4, 1) := by decide +kernel
theorem dX11_init_635 : decode cX11_init 635 = .ok (.newarray .int, 2) := by decide +kernel
theorem dX11_init_637 : decode cX11_init 637 = .ok (.dup, 1) := by decide +kernel
theorem dX11_init_638 : decode cX11_init 638 = .ok (.iconst 0, 1) := by decide +kernel
theorem dX11_init_639 : decode cX11_init 639 = .ok (.bipush (-4), 2) := by decide +kernel
theorem dX11_init_641 : decode cX11_init 641 = .ok (.iastore, 1) := by decide +kernel
theorem dX11_init_642 : decode cX11_init 642 = .ok (.dup, 1) := by decide +kernel
theorem dX11_init_643 : decode cX11_init 643 = .ok (.iconst 1, 1) := by decide +kernel
theorem dX11_init_644 : decode cX11_init 644 = .ok (.bipush (-4), 2) := by decide +kernel
theorem dX11_init_646 : decode cX11_init 646 = .ok (.iastore, 1) := by decide +kernel
theorem dX11_init_647 : decode cX11_init 647 = .ok (.dup, 1) := by decide +kernel
theorem dX11_init_648 : decode cX11_init 648 = .ok (.iconst 2, 1) := by decide +kernel
theorem dX11_init_649 : decode cX11_init 649 = .ok (.bipush (-4), 2) := by decide +kernel
theorem dX11_init_651 : decode cX11_init 651 = .ok (.iastore, 1) := by decide +kernel
theorem dX11_init_652 : decode cX11_init 652 = .ok (.dup, 1) := by decide +kernel
theorem dX11_init_653 : decode cX11_init 653 = .ok (.iconst 3, 1) := by decide +kernel
theorem dX11_init_654 : decode cX11_init 654 = .ok (.bipush (-4), 2) := by decide +kernel
theorem dX11_init_656 : decode cX11_init 656 = .ok (.iastore, 1) := by decide +kernel
theorem dX11_init_657 : decode cX11_init 657 = .ok (.putfield 143, 3) := by decide +kernel
theorem dX11_init_660 : decode cX11_init 660 = .ok (.aload_n 0, 1) := by decide +kernel
theorem dX11_init_661 : decode cX11_init 661 = .ok (.iconst 4, 1) := by decide +kernel
theorem dX11_init_662 : decode cX11_init 662 = .ok (.newarray .int, 2) := by decide +kernel
theorem dX11_init_664 : decode cX11_init 664 = .ok (.putfield 146, 3) := by decide +kernel
theorem dX11_init_667 : decode cX11_init 667 = .ok (.aload_n 0, 1) := by decide +kernel
theorem dX11_init_668 : decode cX11_init 668 = .ok (.sipush 256, 3) := by decide +kernel
theorem dX11_init_671 : decode cX11_init 671 = .ok (.newarray .int, 2) := by decide +kernel
theorem dX11_init_673 : decode cX11_init 673 = .ok (.putfield 149, 3) := by decide +kernel
theorem dX11_init_676 : decode cX11_init 676 = .ok (.return_, 1) := by decide +kernel
theorem dX11_in_0 : decode cX11_in 0 = .ok (.lload_n 0, 1) := by decide +kernel
theorem dX11_in_1 : decode cX11_in 1 = .ok (.lload_n 2, 1) := by decide +kernel
theorem dX11_in_2 : decode cX11_in 2 = .ok (.lcmp, 1) := by decide +kernel
theorem dX11_in_3 : decode cX11_in 3 = .ok (.ifCond .lt 14, 3) := by decide +kernel
theorem dX11_in_6 : decode cX11_in 6 = .ok (.lload_n 0, 1) := by decide +kernel
theorem dX11_in_7 : decode cX11_in 7 = .ok (.lload 4, 2) := by decide +kernel
theorem dX11_in_9 : decode cX11_in 9 = .ok (.lcmp, 1) := by decide +kernel
theorem dX11_in_10 : decode cX11_in 10 = .ok (.ifCond .gt 7, 3) := by decide +kernel
theorem dX11_in_13 : decode cX11_in 13 = .ok (.iconst 1, 1) := by decide +kernel
theorem dX11_in_14 : decode cX11_in 14 = .ok (.goto 4, 3) := by decide +kernel
theorem dX11_in_17 : decode cX11_in 17 = .ok (.iconst 0, 1) := by decide +kernel
theorem dX11_in_18 : decode cX11_in 18 = .ok (.ireturn, 1) := by decide +kernel
theorem dX11_isSpelling_0 : decode cX11_isSpelling 0 = .ok (.iload_n 1, 1) := by decide +kernel
theorem dX11_isSpelling_1 : decode cX11_isSpelling 1 = .ok (.i2l, 1) := by decide +kernel
theorem dX11_isSpelling_2 : decode cX11_isSpelling 2 = .ok (.lconst 0, 1) := by decide +kernel
theorem dX11_isSpelling_3 : decode cX11_isSpelling 3 = .ok (.aload_n 0, 1) := by decide +kernel
theorem dX11_isSpelling_4 : decode cX11_isSpelling 4 = .ok (.getfield 152, 3) := by decide +kernel
theorem dX11_isSpelling_7 : decode cX11_isSpelling 7 = .ok (.iconst 1, 1) := by decide +kernel
theorem dX11_isSpelling_8 : decode cX11_isSpelling 8 = .ok (.isub, 1) := by decide +kernel
theorem dX11_isSpelling_9 : decode cX11_isSpelling 9 = .ok (.i2l, 1) := by decide +kernel
theorem dX11_isSpelling_10 : decode cX11_isSpelling 10 = .ok (.invokestatic 156, 3) := by decide +kernel
theorem dX11_isSpelling_13 : decode cX11_isSpelling 13 = .ok (.ireturn, 1) := by decide +kernel
theorem dX11_spelling_0 : decode cX11_spelling 0 = .ok (.iconst 0, 1) := by decide +kernel
theorem dX11_spelling_1 : decode cX11_spelling 1 = .ok (.istore_n 3, 1) := by decide +kernel
theorem dX11_spelling_2 : decode cX11_spelling 2 = .ok (.lload_n 1, 1) := by decide +kernel
theorem dX11_spelling_3 : decode cX11_spelling 3 = .ok (.lstore 4, 2) := by decide +kernel
theorem dX11_spelling_5 : decode cX11_spelling 5 = .ok (.lload_n 1, 1) := by decide +kernel
theorem dX11_spelling_6 : decode cX11_spelling 6 = .ok (.lconst 0, 1) := by decide +kernel
theorem dX11_spelling_7 : decode cX11_spelling 7 = .ok (.lcmp, 1) := by decide +kernel
theorem dX11_spelling_8 : decode cX11_spelling 8 = .ok (.ifCond .le 15, 3) := by decide +kernel
theorem dX11_spelling_11 : decode cX11_spelling 11 = .ok (.lload_n 1, 1) := by decide +kernel
theorem dX11_spelling_12 : decode cX11_spelling 12 = .ok (.ldc2_w 160, 3) := by decide +kernel
theorem dX11_spelling_15 : decode cX11_spelling 15 = .ok (.lcmp, 1) := by decide +kernel
theorem dX11_spelling_16 : decode cX11_spelling 16 = .ok (.ifCond .ge 7, 3) := by decide +kernel
theorem dX11_spelling_19 : decode cX11_spelling 19 = .ok (.iconst 1, 1) := by decide +kernel
theorem dX11_spelling_20 : decode cX11_spelling 20 = .ok (.goto 4, 3) := by decide +kernel
theorem dX11_spelling_23 : decode cX11_spelling 23 = .ok (.iconst 0, 1) := by decide +kernel
theorem dX11_spelling_24 : decode cX11_spelling 24 = .ok (.istore 6, 2) := by decide +kernel
theorem dX11_spelling_26 : decode cX11_spelling 26 = .ok (.iload 6, 2) := by decide +kernel
theorem dX11_spelling_28 : decode cX11_spelling 28 = .ok (.ifCond .eq 51, 3) := by decide +kernel
theorem dX11_spelling_31 : decode cX11_spelling 31 = .ok (.lload 4, 2) := by decide +kernel
theorem dX11_spelling_33 : decode cX11_spelling 33 = .ok (.lconst 0, 1) := by decide +kernel
theorem dX11_spelling_34 : decode cX11_spelling 34 = .ok (.lcmp, 1) := by decide +kernel
theorem dX11_spelling_35 : decode cX11_spelling 35 = .ok (.ifCond .le 44, 3) := by decide +kernel
theorem dX11_spelling_38 : decode cX11_spelling 38 = .ok (.aload_n 0, 1) := by decide +kernel
theorem dX11_spelling_39 : decode cX11_spelling 39 = .ok (.getfield 16, 3) := by decide +kernel
theorem dX11_spelling_42 : decode cX11_spelling 42 = .ok (.iload_n 3, 1) := by decide +kernel
theorem dX11_spelling_43 : decode cX11_spelling 43 = .ok (.lload 4, 2) := by decide +kernel
theorem dX11_spelling_45 : decode cX11_spelling 45 = .ok (.ldc2_w 162, 3) := by decide +kernel
theorem dX11_spelling_48 : decode cX11_spelling 48 = .ok (.land, 1) := by decide +kernel
theorem dX11_spelling_49 : decode cX11_spelling 49 = .ok (.l2i, 1) := by decide +kernel
theorem dX11_spelling_50 : decode cX11_spelling 50 = .ok (.iastore, 1) := by decide +kernel
theorem dX11_spelling_51 : decode cX11_spelling 51 = .ok (.aload_n 0, 1) := by decide +kernel
theorem dX11_spelling_52 : decode cX11_spelling 52 = .ok (.getfield 16, 3) := by decide +kernel
theorem dX11_spelling_55 : decode cX11_spelling 55 = .ok (.iload_n 3, 1) := by decide +kernel
theorem dX11_spelling_56 : decode cX11_spelling 56 = .ok (.iaload, 1) := by decide +kernel
theorem dX11_spelling_57 : decode cX11_spelling 57 = .ok (.i2l, 1) := by decide +kernel
theorem dX11_spelling_58 : decode cX11_spelling 58 = .ok (.lconst 1, 1) := by decide +kernel
theorem dX11_spelling_59 : decode cX11_spelling 59 = .ok (.ldc2_w 164, 3) := by decide +kernel
theorem dX11_spelling_62 : decode cX11_spelling 62 = .ok (.invokestatic 156, 3) := by decide +kernel
theorem dX11_spelling_65 : decode cX11_spelling 65 = .ok (.istore 6, 2) := by decide +kernel
theorem dX11_spelling_67 : decode cX11_spelling 67 = .ok (.lload 4, 2) := by decide +kernel
theorem dX11_spelling_69 : decode cX11_spelling 69 = .ok (.iconst 5, 1) := by decide +kernel
theorem dX11_spelling_70 : decode cX11_spelling 70 = .ok (.lshr, 1) := by decide +kernel
theorem dX11_spelling_71 : decode cX11_spelling 71 = .ok (.lstore 4, 2) := by decide +kernel
theorem dX11_spelling_73 : decode cX11_spelling 73 = .ok (.iinc 3 1, 3) := by decide +kernel
theorem dX11_spelling_76 : decode cX11_spelling 76 = .ok (.goto (-50), 3) := by decide +kernel
theorem dX11_spelling_79 : decode cX11_spelling 79 = .ok (.iconst 0, 1) := by decide +kernel
theorem dX11_spelling_80 : decode cX11_spelling 80 = .ok (.istore 7, 2) := by decide +kernel
theorem dX11_spelling_82 : decode cX11_spelling 82 = .ok (.iload 7, 2) := by decide +kernel
theorem dX11_spelling_84 : decode cX11_spelling 84 = .ok (.aload_n 0, 1) := by decide +kernel
theorem dX11_spelling_85 : decode cX11_spelling 85 = .ok (.getfield 152, 3) := by decide +kernel
theorem dX11_spelling_88 : decode cX11_spelling 88 = .ok (.if_icmp .ge 98, 3) := by decide +kernel
theorem dX11_spelling_91 : decode cX11_spelling 91 = .ok (.iload 6, 2) := by decide +kernel
theorem dX11_spelling_93 : decode cX11_spelling 93 = .ok (.ifCond .eq 93, 3) := by decide +kernel
theorem dX11_spelling_96 : decode cX11_spelling 96 = .ok (.aload_n 0, 1) := by decide +kernel
theorem dX11_spelling_97 : decode cX11_spelling 97 = .ok (.getfield 7, 3) := by decide +kernel
theorem dX11_spelling_100 : decode cX11_spelling 100 = .ok (.iload 7, 2) := by decide +kernel
theorem dX11_spelling_102 : decode cX11_spelling 102 = .ok (.iaload, 1) := by decide +kernel
theorem dX11_spelling_103 : decode cX11_spelling 103 = .ok (.iload_n 3, 1) := by decide +kernel
theorem dX11_spelling_104 : decode cX11_spelling 104 = .ok (.if_icmp .ne 7, 3) := by decide +kernel
theorem dX11_spelling_107 : decode cX11_spelling 107 = .ok (.iconst 1, 1) := by decide +kernel
theorem dX11_spelling_108 : decode cX11_spelling 108 = .ok (.goto 4, 3) := by decide +kernel
theorem dX11_spelling_111 : decode cX11_spelling 111 = .ok (.iconst 0, 1) := by decide +kernel
theorem dX11_spelling_112 : decode cX11_spelling 112 = .ok (.istore 8, 2) := by decide +kernel
theorem dX11_spelling_114 : decode cX11_spelling 114 = .ok (.iconst 0, 1) := by decide +kernel
theorem dX11_spelling_115 : decode cX11_spelling 115 = .ok (.istore 9, 2) := by decide +kernel
theorem dX11_spelling_117 : decode cX11_spelling 117 = .ok (.iload 9, 2) := by decide +kernel
theorem dX11_spelling_119 : decode cX11_spelling 119 = .ok (.iload_n 3, 1) := by decide +kernel
theorem dX11_spelling_120 : decode cX11_spelling 120 = .ok (.if_icmp .ge 48, 3) := by decide +kernel
theorem dX11_spelling_123 : decode cX11_spelling 123 = .ok (.iload 8, 2) := by decide +kernel
theorem dX11_spelling_125 : decode cX11_spelling 125 = .ok (.ifCond .eq 43, 3) := by decide +kernel
theorem dX11_spelling_128 : decode cX11_spelling 128 = .ok (.aload_n 0, 1) := by decide +kernel
theorem dX11_spelling_129 : decode cX11_spelling 129 = .ok (.getfield 13, 3) := by decide +kernel
theorem dX11_spelling_132 : decode cX11_spelling 132 = .ok (.bipush 10, 2) := by decide +kernel
theorem dX11_spelling_134 : decode cX11_spelling 134 = .ok (.iload 7, 2) := by decide +kernel
theorem dX11_spelling_136 : decode cX11_spelling 136 = .ok (.imul, 1) := by decide +kernel
theorem dX11_spelling_137 : decode cX11_spelling 137 = .ok (.iload 9, 2) := by decide +kernel
theorem dX11_spelling_139 : decode cX11_spelling 139 = .ok (.iadd, 1) := by decide +kernel
theorem dX11_spelling_140 : decode cX11_spelling 140 = .ok (.iaload, 1) := by decide +kernel
theorem dX11_spelling_141 : decode cX11_spelling 141 = .ok (.aload_n 0, 1) := by decide +kernel
theorem dX11_spelling_142 : decode cX11_spelling 142 = .ok (.getfield 16, 3) := by decide +kernel
theorem dX11_spelling_145 : decode cX11_spelling 145 = .ok (.iload_n 3, 1) := by decide +kernel
theorem dX11_spelling_146 : decode cX11_spelling 146 = .ok (.iconst 1, 1) := by decide +kernel
theorem dX11_spelling_147 : decode cX11_spelling 147 = .ok (.isub, 1) := by decide +kernel
theorem dX11_spelling_148 : decode cX11_spelling 148 = .ok (.iload 9, 2) := by decide +kernel
theorem dX11_spelling_150 : decode cX11_spelling 150 = .ok (.isub, 1) := by decide +kernel
theorem dX11_spelling_151 : decode cX11_spelling 151 = .ok (.iaload, 1) := by decide +kernel
theorem dX11_spelling_152 : decode cX11_spelling 152 = .ok (.if_icmp .ne 7, 3) := by decide +kernel
theorem dX11_spelling_155 : decode cX11_spelling 155 = .ok (.iconst 1, 1) := by decide +kernel
theorem dX11_spelling_156 : decode cX11_spelling 156 = .ok (.goto 4, 3) := by decide +kernel
theorem dX11_spelling_159 : decode cX11_spelling 159 = .ok (.iconst 0, 1) := by decide +kernel
theorem dX11_spelling_160 : decode cX11_spelling 160 = .ok (.istore 8, 2) := by decide +kernel
theorem dX11_spelling_162 : decode cX11_spelling 162 = .ok (.iinc 9 1, 3) := by decide +kernel
theorem dX11_spelling_165 : decode cX11_spelling 165 = .ok (.goto (-48), 3) := by decide +kernel
theorem dX11_spelling_168 : decode cX11_spelling 168 = .ok (.iload 8, 2) := by decide +kernel
theorem dX11_spelling_170 : decode cX11_spelling 170 = .ok (.ifCond .ne 7, 3) := by decide +kernel
theorem dX11_spelling_173 : decode cX11_spelling 173 = .ok (.iconst 1, 1) := by decide +kernel
theorem dX11_spelling_174 : decode cX11_spelling 174 = .ok (.goto 4, 3) := by decide +kernel
theorem dX11_spelling_177 : decode cX11_spelling 177 = .ok (.iconst 0, 1) := by decide +kernel
theorem dX11_spelling_178 : decode cX11_spelling 178 = .ok (.istore 6, 2) := by decide +kernel
theorem dX11_spelling_180 : decode cX11_spelling 180 = .ok (.iinc 7 1, 3) := by decide +kernel
theorem dX11_spelling_183 : decode cX11_spelling 183 = .ok (.goto (-101), 3) := by decide +kernel
theorem dX11_spelling_186 : decode cX11_spelling 186 = .ok (.iload 6, 2) := by decide +kernel
theorem dX11_spelling_188 : decode cX11_spelling 188 = .ok (.ifCond .ne 5, 3) := by decide +kernel
theorem dX11_spelling_191 : decode cX11_spelling 191 = .ok (.iconst (-1), 1) := by decide +kernel
theorem dX11_spelling_192 : decode cX11_spelling 192 = .ok (.ireturn, 1) := by decide +kernel
theorem dX11_spelling_193 : decode cX11_spelling 193 = .ok (.aload_n 0, 1) := by decide +kernel
theorem dX11_spelling_194 : decode cX11_spelling 194 = .ok (.getfield 152, 3) := by decide +kernel
theorem dX11_spelling_197 : decode cX11_spelling 197 = .ok (.bipush 16, 2) := by decide +kernel
theorem dX11_spelling_199 : decode cX11_spelling 199 = .ok (.if_icmp .ne 6, 3) := by decide +kernel
theorem dX11_spelling_202 : decode cX11_spelling 202 = .ok (.bipush (-3), 2) := by decide +kernel
theorem dX11_spelling_204 : decode cX11_spelling 204 = .ok (.ireturn, 1) := by decide +kernel
theorem dX11_spelling_205 : decode cX11_spelling 205 = .ok (.aload_n 0, 1) := by decide +kernel
theorem dX11_spelling_206 : decode cX11_spelling 206 = .ok (.getfield 7, 3) := by decide +kernel
theorem dX11_spelling_209 : decode cX11_spelling 209 = .ok (.aload_n 0, 1) := by decide +kernel
theorem dX11_spelling_210 : decode cX11_spelling 210 = .ok (.getfield 152, 3) := by decide +kernel
theorem dX11_spelling_213 : decode cX11_spelling 213 = .ok (.iload_n 3, 1) := by decide +kernel
theorem dX11_spelling_214 : decode cX11_spelling 214 = .ok (.iastore, 1) := by decide +kernel
theorem dX11_spelling_215 : decode cX11_spelling 215 = .ok (.iconst 0, 1) := by decide +kernel
theorem dX11_spelling_216 : decode cX11_spelling 216 = .ok (.istore 7, 2) := by decide +kernel
theorem dX11_spelling_218 : decode cX11_spelling 218 = .ok (.iload 7, 2) := by decide +kernel
theorem dX11_spelling_220 : decode cX11_spelling 220 = .ok (.iload_n 3, 1) := by decide +kernel
theorem dX11_spelling_221 : decode cX11_spelling 221 = .ok (.if_icmp .ge 35, 3) := by decide +kernel
theorem dX11_spelling_224 : decode cX11_spelling 224 = .ok (.aload_n 0, 1) := by decide +kernel
theorem dX11_spelling_225 : decode cX11_spelling 225 = .ok (.getfield 13, 3) := by decide +kernel
theorem dX11_spelling_228 : decode cX11_spelling 228 = .ok (.bipush 10, 2) := by decide +kernel
theorem dX11_spelling_230 : decode cX11_spelling 230 = .ok (.aload_n 0, 1) := by decide +kernel
theorem dX11_spelling_231 : decode cX11_spelling 231 = .ok (.getfield 152, 3) := by decide +kernel
theorem dX11_spelling_234 : decode cX11_spelling 234 = .ok (.imul, 1) := by decide +kernel
theorem dX11_spelling_235 : decode cX11_spelling 235 = .ok (.iload 7, 2) := by decide +kernel
theorem dX11_spelling_237 : decode cX11_spelling 237 = .ok (.iadd, 1) := by decide +kernel
theorem dX11_spelling_238 : decode cX11_spelling 238 = .ok (.aload_n 0, 1) := by decide +kernel
theorem dX11_spelling_239 : decode cX11_spelling 239 = .ok (.getfield 16, 3) := by decide +kernel
theorem dX11_spelling_242 : decode cX11_spelling 242 = .ok (.iload_n 3, 1) := by decide +kernel
theorem dX11_spelling_243 : decode cX11_spelling 243 = .ok (.iconst 1, 1) := by decide +kernel
theorem dX11_spelling_244 : decode cX11_spelling 244 = .ok (.isub, 1) := by decide +kernel
theorem dX11_spelling_245 : decode cX11_spelling 245 = .ok (.iload 7, 2) := by decide +kernel
theorem dX11_spelling_247 : decode cX11_spelling 247 = .ok (.isub, 1) := by decide +kernel
theorem dX11_spelling_248 : decode cX11_spelling 248 = .ok (.iaload, 1) := by decide +kernel
theorem dX11_spelling_249 : decode cX11_spelling 249 = .ok (.iastore, 1) := by decide +kernel
theorem dX11_spelling_250 : decode cX11_spelling 250 = .ok (.iinc 7 1, 3) := by decide +kernel
theorem dX11_spelling_253 : decode cX11_spelling 253 = .ok (.goto (-35), 3) := by decide +kernel
theorem dX11_spelling_256 : decode cX11_spelling 256 = .ok (.aload_n 0, 1) := by decide +kernel
theorem dX11_spelling_257 : decode cX11_spelling 257 = .ok (.dup, 1) := by decide +kernel
theorem dX11_spelling_258 : decode cX11_spelling 258 = .ok (.getfield 152, 3) := by decide +kernel
theorem dX11_spelling_261 : decode cX11_spelling 261 = .ok (.iconst 1, 1) := by decide +kernel
theorem dX11_spelling_262 : decode cX11_spelling 262 = .ok (.iadd, 1) := by decide +kernel
theorem dX11_spelling_263 : decode cX11_spelling 263 = .ok (.putfield 152, 3) := by decide +kernel
theorem dX11_spelling_266 : decode cX11_spelling 266 = .ok (.aload_n 0, 1) := by decide +kernel
theorem dX11_spelling_267 : decode cX11_spelling 267 = .ok (.getfield 152, 3) := by decide +kernel
theorem dX11_spelling_270 : decode cX11_spelling 270 = .ok (.iconst 1, 1) := by decide +kernel
theorem dX11_spelling_271 : decode cX11_spelling 271 = .ok (.isub, 1) := by decide +kernel
theorem dX11_spelling_272 : decode cX11_spelling 272 = .ok (.ireturn, 1) := by decide +kernel
theorem dX11_letters_0 : decode cX11_letters 0 = .ok (.aload_n 0, 1) := by decide +kernel
theorem dX11_letters_1 : decode cX11_letters 1 = .ok (.iload_n 1, 1) := by decide +kernel
theorem dX11_letters_2 : decode cX11_letters 2 = .ok (.invokevirtual 166, 3) := by decide +kernel
theorem dX11_letters_5 : decode cX11_letters 5 = .ok (.ifCond .ne 7, 3) := by decide +kernel
theorem dX11_letters_8 : decode cX11_letters 8 = .ok (.ldc2_w 170, 3) := by decide +kernel
theorem dX11_letters_11 : decode cX11_letters 11 = .ok (.lreturn, 1) := by decide +kernel
theorem dX11_letters_12 : decode cX11_letters 12 = .ok (.lconst 0, 1) := by decide +kernel
theorem dX11_letters_13 : decode cX11_letters 13 = .ok (.lstore_n 2, 1) := by decide +kernel
theorem dX11_letters_14 : decode cX11_letters 14 = .ok (.iconst 0, 1) := by decide +kernel
theorem dX11_letters_15 : decode cX11_letters 15 = .ok (.istore 4, 2) := by decide +kernel
theorem dX11_letters_17 : decode cX11_letters 17 = .ok (.iload 4, 2) := by decide +kernel
theorem dX11_letters_19 : decode cX11_letters 19 = .ok (.aload_n 0, 1) := by decide +kernel
theorem dX11_letters_20 : decode cX11_letters 20 = .ok (.getfield 7, 3) := by decide +kernel
theorem dX11_letters_23 : decode cX11_letters 23 = .ok (.iload_n 1, 1) := by decide +kernel
theorem dX11_letters_24 : decode cX11_letters 24 = .ok (.iaload, 1) := by decide +kernel
theorem dX11_letters_25 : decode cX11_letters 25 = .ok (.if_icmp .ge 27, 3) := by decide +kernel
theorem dX11_letters_28 : decode cX11_letters 28 = .ok (.lload_n 2, 1) := by decide +kernel
theorem dX11_letters_29 : decode cX11_letters 29 = .ok (.iconst 5, 1) := by decide +kernel
theorem dX11_letters_30 : decode cX11_letters 30 = .ok (.lshl, 1) := by decide +kernel
theorem dX11_letters_31 : decode cX11_letters 31 = .ok (.aload_n 0, 1) := by decide +kernel
theorem dX11_letters_32 : decode cX11_letters 32 = .ok (.getfield 13, 3) := by decide +kernel
theorem dX11_letters_35 : decode cX11_letters 35 = .ok (.bipush 10, 2) := by decide +kernel
theorem dX11_letters_37 : decode cX11_letters 37 = .ok (.iload_n 1, 1) := by decide +kernel
theorem dX11_letters_38 : decode cX11_letters 38 = .ok (.imul, 1) := by decide +kernel
theorem dX11_letters_39 : decode cX11_letters 39 = .ok (.iload 4, 2) := by decide +kernel
theorem dX11_letters_41 : decode cX11_letters 41 = .ok (.iadd, 1) := by decide +kernel
theorem dX11_letters_42 : decode cX11_letters 42 = .ok (.iaload, 1) := by decide +kernel
theorem dX11_letters_43 : decode cX11_letters 43 = .ok (.i2l, 1) := by decide +kernel
theorem dX11_letters_44 : decode cX11_letters 44 = .ok (.lor, 1) := by decide +kernel
theorem dX11_letters_45 : decode cX11_letters 45 = .ok (.lstore_n 2, 1) := by decide +kernel
theorem dX11_letters_46 : decode cX11_letters 46 = .ok (.iinc 4 1, 3) := by decide +kernel
theorem dX11_letters_49 : decode cX11_letters 49 = .ok (.goto (-32), 3) := by decide +kernel
theorem dX11_letters_52 : decode cX11_letters 52 = .ok (.lload_n 2, 1) := by decide +kernel
theorem dX11_letters_53 : decode cX11_letters 53 = .ok (.lreturn, 1) := by decide +kernel
theorem dX11_feed_0 : decode cX11_feed 0 = .ok (.aload_n 0, 1) := by decide +kernel
theorem dX11_feed_1 : decode cX11_feed 1 = .ok (.getfield 172, 3) := by decide +kernel
theorem dX11_feed_4 : decode cX11_feed 4 = .ok (.bipush 8, 2) := by decide +kernel
theorem dX11_feed_6 : decode cX11_feed 6 = .ok (.iadd, 1) := by decide +kernel
theorem dX11_feed_7 : decode cX11_feed 7 = .ok (.sipush 200, 3) := by decide +kernel
theorem dX11_feed_10 : decode cX11_feed 10 = .ok (.if_icmp .le 6, 3) := by decide +kernel
theorem dX11_feed_13 : decode cX11_feed 13 = .ok (.bipush (-3), 2) := by decide +kernel
theorem dX11_feed_15 : decode cX11_feed 15 = .ok (.ireturn, 1) := by decide +kernel
theorem dX11_feed_16 : decode cX11_feed 16 = .ok (.bipush 56, 2) := by decide +kernel
theorem dX11_feed_18 : decode cX11_feed 18 = .ok (.istore_n 3, 1) := by decide +kernel
theorem dX11_feed_19 : decode cX11_feed 19 = .ok (.iload_n 3, 1) := by decide +kernel
theorem dX11_feed_20 : decode cX11_feed 20 = .ok (.ifCond .lt 36, 3) := by decide +kernel
theorem dX11_feed_23 : decode cX11_feed 23 = .ok (.aload_n 0, 1) := by decide +kernel
theorem dX11_feed_24 : decode cX11_feed 24 = .ok (.getfield 19, 3) := by decide +kernel
theorem dX11_feed_27 : decode cX11_feed 27 = .ok (.aload_n 0, 1) := by decide +kernel
theorem dX11_feed_28 : decode cX11_feed 28 = .ok (.getfield 172, 3) := by decide +kernel
theorem dX11_feed_31 : decode cX11_feed 31 = .ok (.lload_n 1, 1) := by decide +kernel
theorem dX11_feed_32 : decode cX11_feed 32 = .ok (.iload_n 3, 1) := by decide +kernel
theorem dX11_feed_33 : decode cX11_feed 33 = .ok (.lshr, 1) := by decide +kernel
theorem dX11_feed_34 : decode cX11_feed 34 = .ok (.l2i, 1) := by decide +kernel
theorem dX11_feed_35 : decode cX11_feed 35 = .ok (.sipush 255, 3) := by decide +kernel
theorem dX11_feed_38 : decode cX11_feed 38 = .ok (.iand, 1) := by decide +kernel
theorem dX11_feed_39 : decode cX11_feed 39 = .ok (.iastore, 1) := by decide +kernel
theorem dX11_feed_40 : decode cX11_feed 40 = .ok (.aload_n 0, 1) := by decide +kernel
theorem dX11_feed_41 : decode cX11_feed 41 = .ok (.dup, 1) := by decide +kernel
theorem dX11_feed_42 : decode cX11_feed 42 = .ok (.getfield 172, 3) := by decide +kernel
theorem dX11_feed_45 : decode cX11_feed 45 = .ok (.iconst 1, 1) := by decide +kernel
theorem dX11_feed_46 : decode cX11_feed 46 = .ok (.iadd, 1) := by decide +kernel
theorem dX11_feed_47 : decode cX11_feed 47 = .ok (.putfield 172, 3) := by decide +kernel
theorem dX11_feed_50 : decode cX11_feed 50 = .ok (.iinc 3 (-8), 3) := by decide +kernel
theorem dX11_feed_53 : decode cX11_feed 53 = .ok (.goto (-34), 3) := by decide +kernel
theorem dX11_feed_56 : decode cX11_feed 56 = .ok (.aload_n 0, 1) := by decide +kernel
theorem dX11_feed_57 : decode cX11_feed 57 = .ok (.getfield 172, 3) := by decide +kernel
