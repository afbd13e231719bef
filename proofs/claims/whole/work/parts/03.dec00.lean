theorem dX0_init_0 : decode cX0_init 0 = .ok (.aload_n 0, 1) := by decide +kernel
theorem dX0_init_1 : decode cX0_init 1 = .ok (.invokespecial 3, 3) := by decide +kernel
theorem dX0_init_4 : decode cX0_init 4 = .ok (.aload_n 0, 1) := by decide +kernel
theorem dX0_init_5 : decode cX0_init 5 = .ok (.bipush 8, 2) := by decide +kernel
theorem dX0_init_7 : decode cX0_init 7 = .ok (.newarray .int, 2) := by decide +kernel
theorem dX0_init_9 : decode cX0_init 9 = .ok (.putfield 11, 3) := by decide +kernel
theorem dX0_init_12 : decode cX0_init 12 = .ok (.aload_n 0, 1) := by decide +kernel
theorem dX0_init_13 : decode cX0_init 13 = .ok (.bipush 8, 2) := by decide +kernel
theorem dX0_init_15 : decode cX0_init 15 = .ok (.newarray .int, 2) := by decide +kernel
theorem dX0_init_17 : decode cX0_init 17 = .ok (.putfield 15, 3) := by decide +kernel
theorem dX0_init_20 : decode cX0_init 20 = .ok (.aload_n 0, 1) := by decide +kernel
theorem dX0_init_21 : decode cX0_init 21 = .ok (.bipush 8, 2) := by decide +kernel
theorem dX0_init_23 : decode cX0_init 23 = .ok (.newarray .int, 2) := by decide +kernel
theorem dX0_init_25 : decode cX0_init 25 = .ok (.putfield 18, 3) := by decide +kernel
theorem dX0_init_28 : decode cX0_init 28 = .ok (.aload_n 0, 1) := by decide +kernel
theorem dX0_init_29 : decode cX0_init 29 = .ok (.bipush 8, 2) := by decide +kernel
theorem dX0_init_31 : decode cX0_init 31 = .ok (.newarray .int, 2) := by decide +kernel
theorem dX0_init_33 : decode cX0_init 33 = .ok (.putfield 21, 3) := by decide +kernel
theorem dX0_init_36 : decode cX0_init 36 = .ok (.aload_n 0, 1) := by decide +kernel
theorem dX0_init_37 : decode cX0_init 37 = .ok (.bipush 8, 2) := by decide +kernel
theorem dX0_init_39 : decode cX0_init 39 = .ok (.newarray .int, 2) := by decide +kernel
theorem dX0_init_41 : decode cX0_init 41 = .ok (.putfield 24, 3) := by decide +kernel
theorem dX0_init_44 : decode cX0_init 44 = .ok (.aload_n 0, 1) := by decide +kernel
theorem dX0_init_45 : decode cX0_init 45 = .ok (.bipush 8, 2) := by decide +kernel
theorem dX0_init_47 : decode cX0_init 47 = .ok (.newarray .long, 2) := by decide +kernel
theorem dX0_init_49 : decode cX0_init 49 = .ok (.putfield 27, 3) := by decide +kernel
theorem dX0_init_52 : decode cX0_init 52 = .ok (.return_, 1) := by decide +kernel
theorem dX0_areYears_0 : decode cX0_areYears 0 = .ok (.iload_n 0, 1) := by decide +kernel
theorem dX0_areYears_1 : decode cX0_areYears 1 = .ok (.sipush 1500, 3) := by decide +kernel
theorem dX0_areYears_4 : decode cX0_areYears 4 = .ok (.if_icmp .lt 19, 3) := by decide +kernel
theorem dX0_areYears_7 : decode cX0_areYears 7 = .ok (.iload_n 0, 1) := by decide +kernel
theorem dX0_areYears_8 : decode cX0_areYears 8 = .ok (.iload_n 1, 1) := by decide +kernel
theorem dX0_areYears_9 : decode cX0_areYears 9 = .ok (.if_icmp .gt 14, 3) := by decide +kernel
theorem dX0_areYears_12 : decode cX0_areYears 12 = .ok (.iload_n 1, 1) := by decide +kernel
theorem dX0_areYears_13 : decode cX0_areYears 13 = .ok (.sipush 1899, 3) := by decide +kernel
theorem dX0_areYears_16 : decode cX0_areYears 16 = .ok (.if_icmp .gt 7, 3) := by decide +kernel
theorem dX0_areYears_19 : decode cX0_areYears 19 = .ok (.iconst 1, 1) := by decide +kernel
theorem dX0_areYears_20 : decode cX0_areYears 20 = .ok (.goto 4, 3) := by decide +kernel
theorem dX0_areYears_23 : decode cX0_areYears 23 = .ok (.iconst 0, 1) := by decide +kernel
theorem dX0_areYears_24 : decode cX0_areYears 24 = .ok (.ireturn, 1) := by decide +kernel
theorem dX0_hasPlace_0 : decode cX0_hasPlace 0 = .ok (.iload_n 1, 1) := by decide +kernel
theorem dX0_hasPlace_1 : decode cX0_hasPlace 1 = .ok (.ifCond .lt 15, 3) := by decide +kernel
theorem dX0_hasPlace_4 : decode cX0_hasPlace 4 = .ok (.iload_n 1, 1) := by decide +kernel
theorem dX0_hasPlace_5 : decode cX0_hasPlace 5 = .ok (.aload_n 0, 1) := by decide +kernel
theorem dX0_hasPlace_6 : decode cX0_hasPlace 6 = .ok (.getfield 31, 3) := by decide +kernel
theorem dX0_hasPlace_9 : decode cX0_hasPlace 9 = .ok (.if_icmp .ge 7, 3) := by decide +kernel
theorem dX0_hasPlace_12 : decode cX0_hasPlace 12 = .ok (.iconst 1, 1) := by decide +kernel
theorem dX0_hasPlace_13 : decode cX0_hasPlace 13 = .ok (.goto 4, 3) := by decide +kernel
theorem dX0_hasPlace_16 : decode cX0_hasPlace 16 = .ok (.iconst 0, 1) := by decide +kernel
theorem dX0_hasPlace_17 : decode cX0_hasPlace 17 = .ok (.ireturn, 1) := by decide +kernel
theorem dX0_has_0 : decode cX0_has 0 = .ok (.iload_n 1, 1) := by decide +kernel
theorem dX0_has_1 : decode cX0_has 1 = .ok (.ifCond .lt 15, 3) := by decide +kernel
theorem dX0_has_4 : decode cX0_has 4 = .ok (.iload_n 1, 1) := by decide +kernel
theorem dX0_has_5 : decode cX0_has 5 = .ok (.aload_n 0, 1) := by decide +kernel
theorem dX0_has_6 : decode cX0_has 6 = .ok (.getfield 35, 3) := by decide +kernel
theorem dX0_has_9 : decode cX0_has 9 = .ok (.if_icmp .ge 7, 3) := by decide +kernel
theorem dX0_has_12 : decode cX0_has 12 = .ok (.iconst 1, 1) := by decide +kernel
theorem dX0_has_13 : decode cX0_has 13 = .ok (.goto 4, 3) := by decide +kernel
theorem dX0_has_16 : decode cX0_has 16 = .ok (.iconst 0, 1) := by decide +kernel
theorem dX0_has_17 : decode cX0_has 17 = .ok (.ireturn, 1) := by decide +kernel
theorem dX0_appendPlace_0 : decode cX0_appendPlace 0 = .ok (.aload_n 0, 1) := by decide +kernel
theorem dX0_appendPlace_1 : decode cX0_appendPlace 1 = .ok (.getfield 31, 3) := by decide +kernel
theorem dX0_appendPlace_4 : decode cX0_appendPlace 4 = .ok (.bipush 8, 2) := by decide +kernel
theorem dX0_appendPlace_6 : decode cX0_appendPlace 6 = .ok (.if_icmp .lt 6, 3) := by decide +kernel
theorem dX0_appendPlace_9 : decode cX0_appendPlace 9 = .ok (.bipush (-3), 2) := by decide +kernel
theorem dX0_appendPlace_11 : decode cX0_appendPlace 11 = .ok (.ireturn, 1) := by decide +kernel
theorem dX0_appendPlace_12 : decode cX0_appendPlace 12 = .ok (.aload_n 0, 1) := by decide +kernel
theorem dX0_appendPlace_13 : decode cX0_appendPlace 13 = .ok (.getfield 11, 3) := by decide +kernel
theorem dX0_appendPlace_16 : decode cX0_appendPlace 16 = .ok (.aload_n 0, 1) := by decide +kernel
theorem dX0_appendPlace_17 : decode cX0_appendPlace 17 = .ok (.getfield 31, 3) := by decide +kernel
theorem dX0_appendPlace_20 : decode cX0_appendPlace 20 = .ok (.iload_n 1, 1) := by decide +kernel
theorem dX0_appendPlace_21 : decode cX0_appendPlace 21 = .ok (.iastore, 1) := by decide +kernel
theorem dX0_appendPlace_22 : decode cX0_appendPlace 22 = .ok (.aload_n 0, 1) := by decide +kernel
theorem dX0_appendPlace_23 : decode cX0_appendPlace 23 = .ok (.getfield 15, 3) := by decide +kernel
theorem dX0_appendPlace_26 : decode cX0_appendPlace 26 = .ok (.aload_n 0, 1) := by decide +kernel
theorem dX0_appendPlace_27 : decode cX0_appendPlace 27 = .ok (.getfield 31, 3) := by decide +kernel
theorem dX0_appendPlace_30 : decode cX0_appendPlace 30 = .ok (.iload_n 2, 1) := by decide +kernel
theorem dX0_appendPlace_31 : decode cX0_appendPlace 31 = .ok (.iastore, 1) := by decide +kernel
theorem dX0_appendPlace_32 : decode cX0_appendPlace 32 = .ok (.aload_n 0, 1) := by decide +kernel
theorem dX0_appendPlace_33 : decode cX0_appendPlace 33 = .ok (.dup, 1) := by decide +kernel
theorem dX0_appendPlace_34 : decode cX0_appendPlace 34 = .ok (.getfield 31, 3) := by decide +kernel
theorem dX0_appendPlace_37 : decode cX0_appendPlace 37 = .ok (.iconst 1, 1) := by decide +kernel
theorem dX0_appendPlace_38 : decode cX0_appendPlace 38 = .ok (.iadd, 1) := by decide +kernel
theorem dX0_appendPlace_39 : decode cX0_appendPlace 39 = .ok (.putfield 31, 3) := by decide +kernel
theorem dX0_appendPlace_42 : decode cX0_appendPlace 42 = .ok (.aload_n 0, 1) := by decide +kernel
theorem dX0_appendPlace_43 : decode cX0_appendPlace 43 = .ok (.getfield 31, 3) := by decide +kernel
theorem dX0_appendPlace_46 : decode cX0_appendPlace 46 = .ok (.iconst 1, 1) := by decide +kernel
theorem dX0_appendPlace_47 : decode cX0_appendPlace 47 = .ok (.isub, 1) := by decide +kernel
theorem dX0_appendPlace_48 : decode cX0_appendPlace 48 = .ok (.ireturn, 1) := by decide +kernel
theorem dX0_append_0 : decode cX0_append 0 = .ok (.aload_n 0, 1) := by decide +kernel
theorem dX0_append_1 : decode cX0_append 1 = .ok (.getfield 35, 3) := by decide +kernel
theorem dX0_append_4 : decode cX0_append 4 = .ok (.bipush 8, 2) := by decide +kernel
theorem dX0_append_6 : decode cX0_append 6 = .ok (.if_icmp .lt 6, 3) := by decide +kernel
theorem dX0_append_9 : decode cX0_append 9 = .ok (.bipush (-3), 2) := by decide +kernel
theorem dX0_append_11 : decode cX0_append 11 = .ok (.ireturn, 1) := by decide +kernel
theorem dX0_append_12 : decode cX0_append 12 = .ok (.aload_n 0, 1) := by decide +kernel
theorem dX0_append_13 : decode cX0_append 13 = .ok (.getfield 18, 3) := by decide +kernel
theorem dX0_append_16 : decode cX0_append 16 = .ok (.aload_n 0, 1) := by decide +kernel
theorem dX0_append_17 : decode cX0_append 17 = .ok (.getfield 35, 3) := by decide +kernel
theorem dX0_append_20 : decode cX0_append 20 = .ok (.iload_n 1, 1) := by decide +kernel
theorem dX0_append_21 : decode cX0_append 21 = .ok (.iastore, 1) := by decide +kernel
theorem dX0_append_22 : decode cX0_append 22 = .ok (.aload_n 0, 1) := by decide +kernel
theorem dX0_append_23 : decode cX0_append 23 = .ok (.getfield 21, 3) := by decide +kernel
theorem dX0_append_26 : decode cX0_append 26 = .ok (.aload_n 0, 1) := by decide +kernel
theorem dX0_append_27 : decode cX0_append 27 = .ok (.getfield 35, 3) := by decide +kernel
theorem dX0_append_30 : decode cX0_append 30 = .ok (.iload_n 2, 1) := by decide +kernel
theorem dX0_append_31 : decode cX0_append 31 = .ok (.iastore, 1) := by decide +kernel
theorem dX0_append_32 : decode cX0_append 32 = .ok (.aload_n 0, 1) := by decide +kernel
theorem dX0_append_33 : decode cX0_append 33 = .ok (.getfield 24, 3) := by decide +kernel
theorem dX0_append_36 : decode cX0_append 36 = .ok (.aload_n 0, 1) := by decide +kernel
theorem dX0_append_37 : decode cX0_append 37 = .ok (.getfield 35, 3) := by decide +kernel
theorem dX0_append_40 : decode cX0_append 40 = .ok (.iload_n 3, 1) := by decide +kernel
theorem dX0_append_41 : decode cX0_append 41 = .ok (.iastore, 1) := by decide +kernel
theorem dX0_append_42 : decode cX0_append 42 = .ok (.aload_n 0, 1) := by decide +kernel
theorem dX0_append_43 : decode cX0_append 43 = .ok (.dup, 1) := by decide +kernel
theorem dX0_append_44 : decode cX0_append 44 = .ok (.getfield 35, 3) := by decide +kernel
theorem dX0_append_47 : decode cX0_append 47 = .ok (.iconst 1, 1) := by decide +kernel
theorem dX0_append_48 : decode cX0_append 48 = .ok (.iadd, 1) := by decide +kernel
theorem dX0_append_49 : decode cX0_append 49 = .ok (.putfield 35, 3) := by decide +kernel
theorem dX0_append_52 : decode cX0_append 52 = .ok (.aload_n 0, 1) := by decide +kernel
theorem dX0_append_53 : decode cX0_append 53 = .ok (.getfield 35, 3) := by decide +kernel
theorem dX0_append_56 : decode cX0_append 56 = .ok (.iconst 1, 1) := by decide +kernel
theorem dX0_append_57 : decode cX0_append 57 = .ok (.isub, 1) := by decide +kernel
theorem dX0_append_58 : decode cX0_append 58 = .ok (.ireturn, 1) := by decide +kernel
theorem dX0_howFar_0 : decode cX0_howFar 0 = .ok (.aload_n 0, 1) := by decide +kernel
theorem dX0_howFar_1 : decode cX0_howFar 1 = .ok (.getfield 11, 3) := by decide +kernel
theorem dX0_howFar_4 : decode cX0_howFar 4 = .ok (.iload_n 1, 1) := by decide +kernel
theorem dX0_howFar_5 : decode cX0_howFar 5 = .ok (.iaload, 1) := by decide +kernel
theorem dX0_howFar_6 : decode cX0_howFar 6 = .ok (.aload_n 0, 1) := by decide +kernel
theorem dX0_howFar_7 : decode cX0_howFar 7 = .ok (.getfield 11, 3) := by decide +kernel
theorem dX0_howFar_10 : decode cX0_howFar 10 = .ok (.iload_n 2, 1) := by decide +kernel
theorem dX0_howFar_11 : decode cX0_howFar 11 = .ok (.iaload, 1) := by decide +kernel
theorem dX0_howFar_12 : decode cX0_howFar 12 = .ok (.isub, 1) := by decide +kernel
theorem dX0_howFar_13 : decode cX0_howFar 13 = .ok (.invokestatic 38, 3) := by decide +kernel
theorem dX0_howFar_16 : decode cX0_howFar 16 = .ok (.aload_n 0, 1) := by decide +kernel
theorem dX0_howFar_17 : decode cX0_howFar 17 = .ok (.getfield 15, 3) := by decide +kernel
theorem dX0_howFar_20 : decode cX0_howFar 20 = .ok (.iload_n 1, 1) := by decide +kernel
theorem dX0_howFar_21 : decode cX0_howFar 21 = .ok (.iaload, 1) := by decide +kernel
theorem dX0_howFar_22 : decode cX0_howFar 22 = .ok (.aload_n 0, 1) := by decide +kernel
theorem dX0_howFar_23 : decode cX0_howFar 23 = .ok (.getfield 15, 3) := by decide +kernel
theorem dX0_howFar_26 : decode cX0_howFar 26 = .ok (.iload_n 2, 1) := by decide +kernel
theorem dX0_howFar_27 : decode cX0_howFar 27 = .ok (.iaload, 1) := by decide +kernel
theorem dX0_howFar_28 : decode cX0_howFar 28 = .ok (.isub, 1) := by decide +kernel
theorem dX0_howFar_29 : decode cX0_howFar 29 = .ok (.invokestatic 38, 3) := by decide +kernel
theorem dX0_howFar_32 : decode cX0_howFar 32 = .ok (.iadd, 1) := by decide +kernel
theorem dX0_howFar_33 : decode cX0_howFar 33 = .ok (.ireturn, 1) := by decide +kernel
theorem dX0_yearsOf_0 : decode cX0_yearsOf 0 = .ok (.aload_n 0, 1) := by decide +kernel
theorem dX0_yearsOf_1 : decode cX0_yearsOf 1 = .ok (.getfield 24, 3) := by decide +kernel
theorem dX0_yearsOf_4 : decode cX0_yearsOf 4 = .ok (.iload_n 1, 1) := by decide +kernel
theorem dX0_yearsOf_5 : decode cX0_yearsOf 5 = .ok (.iaload, 1) := by decide +kernel
theorem dX0_yearsOf_6 : decode cX0_yearsOf 6 = .ok (.aload_n 0, 1) := by decide +kernel
theorem dX0_yearsOf_7 : decode cX0_yearsOf 7 = .ok (.getfield 21, 3) := by decide +kernel
theorem dX0_yearsOf_10 : decode cX0_yearsOf 10 = .ok (.iload_n 1, 1) := by decide +kernel
theorem dX0_yearsOf_11 : decode cX0_yearsOf 11 = .ok (.iaload, 1) := by decide +kernel
theorem dX0_yearsOf_12 : decode cX0_yearsOf 12 = .ok (.isub, 1) := by decide +kernel
theorem dX0_yearsOf_13 : decode cX0_yearsOf 13 = .ok (.iconst 1, 1) := by decide +kernel
theorem dX0_yearsOf_14 : decode cX0_yearsOf 14 = .ok (.iadd, 1) := by decide +kernel
theorem dX0_yearsOf_15 : decode cX0_yearsOf 15 = .ok (.ireturn, 1) := by decide +kernel
theorem dX0_hasYear_0 : decode cX0_hasYear 0 = .ok (.iload_n 2, 1) := by decide +kernel
theorem dX0_hasYear_1 : decode cX0_hasYear 1 = .ok (.aload_n 0, 1) := by decide +kernel
theorem dX0_hasYear_2 : decode cX0_hasYear 2 = .ok (.getfield 21, 3) := by decide +kernel
theorem dX0_hasYear_5 : decode cX0_hasYear 5 = .ok (.iload_n 1, 1) := by decide +kernel
theorem dX0_hasYear_6 : decode cX0_hasYear 6 = .ok (.iaload, 1) := by decide +kernel
theorem dX0_hasYear_7 : decode cX0_hasYear 7 = .ok (.if_icmp .lt 17, 3) := by decide +kernel
theorem dX0_hasYear_10 : decode cX0_hasYear 10 = .ok (.iload_n 2, 1) := by decide +kernel
theorem dX0_hasYear_11 : decode cX0_hasYear 11 = .ok (.aload_n 0, 1) := by decide +kernel
theorem dX0_hasYear_12 : decode cX0_hasYear 12 = .ok (.getfield 24, 3) := by decide +kernel
theorem dX0_hasYear_15 : decode cX0_hasYear 15 = .ok (.iload_n 1, 1) := by decide +kernel
theorem dX0_hasYear_16 : decode cX0_hasYear 16 = .ok (.iaload, 1) := by decide +kernel
theorem dX0_hasYear_17 : decode cX0_hasYear 17 = .ok (.if_icmp .gt 7, 3) := by decide +kernel
theorem dX0_hasYear_20 : decode cX0_hasYear 20 = .ok (.iconst 1, 1) := by decide +kernel
theorem dX0_hasYear_21 : decode cX0_hasYear 21 = .ok (.goto 4, 3) := by decide +kernel
theorem dX0_hasYear_24 : decode cX0_hasYear 24 = .ok (.iconst 0, 1) := by decide +kernel
theorem dX0_hasYear_25 : decode cX0_hasYear 25 = .ok (.ireturn, 1) := by decide +kernel
theorem dX0_isHole_0 : decode cX0_isHole 0 = .ok (.aload_n 0, 1) := by decide +kernel
theorem dX0_isHole_1 : decode cX0_isHole 1 = .ok (.getfield 27, 3) := by decide +kernel
theorem dX0_isHole_4 : decode cX0_isHole 4 = .ok (.iload_n 1, 1) := by decide +kernel
theorem dX0_isHole_5 : decode cX0_isHole 5 = .ok (.laload, 1) := by decide +kernel
theorem dX0_isHole_6 : decode cX0_isHole 6 = .ok (.iload_n 2, 1) := by decide +kernel
theorem dX0_isHole_7 : decode cX0_isHole 7 = .ok (.aload_n 0, 1) := by decide +kernel
theorem dX0_isHole_8 : decode cX0_isHole 8 = .ok (.getfield 21, 3) := by decide +kernel
theorem dX0_isHole_11 : decode cX0_isHole 11 = .ok (.iload_n 1, 1) := by decide +kernel
theorem dX0_isHole_12 : decode cX0_isHole 12 = .ok (.iaload, 1) := by decide +kernel
theorem dX0_isHole_13 : decode cX0_isHole 13 = .ok (.isub, 1) := by decide +kernel
theorem dX0_isHole_14 : decode cX0_isHole 14 = .ok (.lshr, 1) := by decide +kernel
theorem dX0_isHole_15 : decode cX0_isHole 15 = .ok (.lconst 1, 1) := by decide +kernel
theorem dX0_isHole_16 : decode cX0_isHole 16 = .ok (.land, 1) := by decide +kernel
theorem dX0_isHole_17 : decode cX0_isHole 17 = .ok (.lconst 1, 1) := by decide +kernel
theorem dX0_isHole_18 : decode cX0_isHole 18 = .ok (.lcmp, 1) := by decide +kernel
theorem dX0_isHole_19 : decode cX0_isHole 19 = .ok (.ifCond .ne 7, 3) := by decide +kernel
theorem dX0_isHole_22 : decode cX0_isHole 22 = .ok (.iconst 1, 1) := by decide +kernel
theorem dX0_isHole_23 : decode cX0_isHole 23 = .ok (.goto 4, 3) := by decide +kernel
theorem dX0_isHole_26 : decode cX0_isHole 26 = .ok (.iconst 0, 1) := by decide +kernel
theorem dX0_isHole_27 : decode cX0_isHole 27 = .ok (.ireturn, 1) := by decide +kernel
theorem dX0_setHole_0 : decode cX0_setHole 0 = .ok (.lconst 1, 1) := by decide +kernel
theorem dX0_setHole_1 : decode cX0_setHole 1 = .ok (.iload_n 2, 1) := by decide +kernel
theorem dX0_setHole_2 : decode cX0_setHole 2 = .ok (.aload_n 0, 1) := by decide +kernel
theorem dX0_setHole_3 : decode cX0_setHole 3 = .ok (.getfield 21, 3) := by decide +kernel
theorem dX0_setHole_6 : decode cX0_setHole 6 = .ok (.iload_n 1, 1) := by decide +kernel
theorem dX0_setHole_7 : decode cX0_setHole 7 = .ok (.iaload, 1) := by decide +kernel
theorem dX0_setHole_8 : decode cX0_setHole 8 = .ok (.isub, 1) := by decide +kernel
theorem dX0_setHole_9 : decode cX0_setHole 9 = .ok (.lshl, 1) := by decide +kernel
theorem dX0_setHole_10 : decode cX0_setHole 10 = .ok (.lstore 4, 2) := by decide +kernel
theorem dX0_setHole_12 : decode cX0_setHole 12 = .ok (.aload_n 0, 1) := by decide +kernel
theorem dX0_setHole_13 : decode cX0_setHole 13 = .ok (.getfield 27, 3) := by decide +kernel
theorem dX0_setHole_16 : decode cX0_setHole 16 = .ok (.iload_n 1, 1) := by decide +kernel
theorem dX0_setHole_17 : decode cX0_setHole 17 = .ok (.iload_n 3, 1) := by decide +kernel
theorem dX0_setHole_18 : decode cX0_setHole 18 = .ok (.ifCond .eq 15, 3) := by decide +kernel
theorem dX0_setHole_21 : decode cX0_setHole 21 = .ok (.aload_n 0, 1) := by decide +kernel
theorem dX0_setHole_22 : decode cX0_setHole 22 = .ok (.getfield 27, 3) := by decide +kernel
theorem dX0_setHole_25 : decode cX0_setHole 25 = .ok (.iload_n 1, 1) := by decide +kernel
theorem dX0_setHole_26 : decode cX0_setHole 26 = .ok (.laload, 1) := by decide +kernel
theorem dX0_setHole_27 : decode cX0_setHole 27 = .ok (.lload 4, 2) := by decide +kernel
theorem dX0_setHole_29 : decode cX0_setHole 29 = .ok (.lor, 1) := by decide +kernel
theorem dX0_setHole_30 : decode cX0_setHole 30 = .ok (.goto 16, 3) := by decide +kernel
theorem dX0_setHole_33 : decode cX0_setHole 33 = .ok (.aload_n 0, 1) := by decide +kernel
theorem dX0_setHole_34 : decode cX0_setHole 34 = .ok (.getfield 27, 3) := by decide +kernel
theorem dX0_setHole_37 : decode cX0_setHole 37 = .ok (.iload_n 1, 1) := by decide +kernel
theorem dX0_setHole_38 : decode cX0_setHole 38 = .ok (.laload, 1) := by decide +kernel
theorem dX0_setHole_39 : decode cX0_setHole 39 = .ok (.lload 4, 2) := by decide +kernel
theorem dX0_setHole_41 : decode cX0_setHole 41 = .ok (.ldc2_w 44, 3) := by decide +kernel
theorem dX0_setHole_44 : decode cX0_setHole 44 = .ok (.lxor, 1) := by decide +kernel
theorem dX0_setHole_45 : decode cX0_setHole 45 = .ok (.land, 1) := by decide +kernel
theorem dX0_setHole_46 : decode cX0_setHole 46 = .ok (.lastore, 1) := by decide +kernel
theorem dX0_setHole_47 : decode cX0_setHole 47 = .ok (.return_, 1) := by decide +kernel
theorem dX0_latestReadable_0 : decode cX0_latestReadable 0 = .ok (.aload_n 0, 1) := by decide +kernel
theorem dX0_latestReadable_1 : decode cX0_latestReadable 1 = .ok (.getfield 24, 3) := by decide +kernel
theorem dX0_latestReadable_4 : decode cX0_latestReadable 4 = .ok (.iload_n 1, 1) := by decide +kernel
theorem dX0_latestReadable_5 : decode cX0_latestReadable 5 = .ok (.iaload, 1) := by decide +kernel
theorem dX0_latestReadable_6 : decode cX0_latestReadable 6 = .ok (.istore_n 2, 1) := by decide +kernel
theorem dX0_latestReadable_7 : decode cX0_latestReadable 7 = .ok (.iload_n 2, 1) := by decide +kernel
theorem dX0_latestReadable_8 : decode cX0_latestReadable 8 = .ok (.aload_n 0, 1) := by decide +kernel
theorem dX0_latestReadable_9 : decode cX0_latestReadable 9 = .ok (.getfield 21, 3) := by decide +kernel
theorem dX0_latestReadable_12 : decode cX0_latestReadable 12 = .ok (.iload_n 1, 1) := by decide +kernel
theorem dX0_latestReadable_13 : decode cX0_latestReadable 13 = .ok (.iaload, 1) := by decide +kernel
theorem dX0_latestReadable_14 : decode cX0_latestReadable 14 = .ok (.if_icmp .lt 20, 3) := by decide +kernel
theorem dX0_latestReadable_17 : decode cX0_latestReadable 17 = .ok (.aload_n 0, 1) := by decide +kernel
theorem dX0_latestReadable_18 : decode cX0_latestReadable 18 = .ok (.iload_n 1, 1) := by decide +kernel
theorem dX0_latestReadable_19 : decode cX0_latestReadable 19 = .ok (.iload_n 2, 1) := by decide +kernel
theorem dX0_latestReadable_20 : decode cX0_latestReadable 20 = .ok (.invokevirtual 46, 3) := by decide +kernel
theorem dX0_latestReadable_23 : decode cX0_latestReadable 23 = .ok (.ifCond .ne 5, 3) := by decide +kernel
theorem dX0_latestReadable_26 : decode cX0_latestReadable 26 = .ok (.iload_n 2, 1) := by decide +kernel
theorem dX0_latestReadable_27 : decode cX0_latestReadable 27 = .ok (.ireturn, 1) := by decide +kernel
theorem dX0_latestReadable_28 : decode cX0_latestReadable 28 = .ok (.iinc 2 (-1), 3) := by decide +kernel
theorem dX0_latestReadable_31 : decode cX0_latestReadable 31 = .ok (.goto (-24), 3) := by decide +kernel
theorem dX0_latestReadable_34 : decode cX0_latestReadable 34 = .ok (.bipush (-4), 2) := by decide +kernel
theorem dX0_latestReadable_36 : decode cX0_latestReadable 36 = .ok (.ireturn, 1) := by decide +kernel
theorem dX0_readableYears_0 : decode cX0_readableYears 0 = .ok (.iconst 0, 1) := by decide +kernel
theorem dX0_readableYears_1 : decode cX0_readableYears 1 = .ok (.istore 4, 2) := by decide +kernel
theorem dX0_readableYears_3 : decode cX0_readableYears 3 = .ok (.iconst 0, 1) := by decide +kernel
theorem dX0_readableYears_4 : decode cX0_readableYears 4 = .ok (.istore 5, 2) := by decide +kernel
theorem dX0_readableYears_6 : decode cX0_readableYears 6 = .ok (.iload 5, 2) := by decide +kernel
theorem dX0_readableYears_8 : decode cX0_readableYears 8 = .ok (.aload_n 0, 1) := by decide +kernel
theorem dX0_readableYears_9 : decode cX0_readableYears 9 = .ok (.getfield 35, 3) := by decide +kernel
theorem dX0_readableYears_12 : decode cX0_readableYears 12 = .ok (.if_icmp .ge 33, 3) := by decide +kernel
theorem dX0_readableYears_15 : decode cX0_readableYears 15 = .ok (.aload_n 0, 1) := by decide +kernel
theorem dX0_readableYears_16 : decode cX0_readableYears 16 = .ok (.getfield 18, 3) := by decide +kernel
theorem dX0_readableYears_19 : decode cX0_readableYears 19 = .ok (.iload 5, 2) := by decide +kernel
theorem dX0_readableYears_21 : decode cX0_readableYears 21 = .ok (.iaload, 1) := by decide +kernel
theorem dX0_readableYears_22 : decode cX0_readableYears 22 = .ok (.iload_n 1, 1) := by decide +kernel
theorem dX0_readableYears_23 : decode cX0_readableYears 23 = .ok (.if_icmp .ne 16, 3) := by decide +kernel
theorem dX0_readableYears_26 : decode cX0_readableYears 26 = .ok (.iload 4, 2) := by decide +kernel
theorem dX0_readableYears_28 : decode cX0_readableYears 28 = .ok (.aload_n 0, 1) := by decide +kernel
theorem dX0_readableYears_29 : decode cX0_readableYears 29 = .ok (.iload 5, 2) := by decide +kernel
theorem dX0_readableYears_31 : decode cX0_readableYears 31 = .ok (.iload_n 2, 1) := by decide +kernel
theorem dX0_readableYears_32 : decode cX0_readableYears 32 = .ok (.iload_n 3, 1) := by decide +kernel
theorem dX0_readableYears_33 : decode cX0_readableYears 33 = .ok (.invokevirtual 50, 3) := by decide +kernel
theorem dX0_readableYears_36 : decode cX0_readableYears 36 = .ok (.iadd, 1) := by decide +kernel
theorem dX0_readableYears_37 : decode cX0_readableYears 37 = .ok (.istore 4, 2) := by decide +kernel
theorem dX0_readableYears_39 : decode cX0_readableYears 39 = .ok (.iinc 5 1, 3) := by decide +kernel
theorem dX0_readableYears_42 : decode cX0_readableYears 42 = .ok (.goto (-36), 3) := by decide +kernel
theorem dX0_readableYears_45 : decode cX0_readableYears 45 = .ok (.iload 4, 2) := by decide +kernel
theorem dX0_readableYears_47 : decode cX0_readableYears 47 = .ok (.ireturn, 1) := by decide +kernel
theorem dX0_readableYearsOf_0 : decode cX0_readableYearsOf 0 = .ok (.iconst 0, 1) := by decide +kernel
theorem dX0_readableYearsOf_1 : decode cX0_readableYearsOf 1 = .ok (.istore 4, 2) := by decide +kernel
theorem dX0_readableYearsOf_3 : decode cX0_readableYearsOf 3 = .ok (.iload_n 3, 1) := by decide +kernel
theorem dX0_readableYearsOf_4 : decode cX0_readableYearsOf 4 = .ok (.aload_n 0, 1) := by decide +kernel
theorem dX0_readableYearsOf_5 : decode cX0_readableYearsOf 5 = .ok (.getfield 24, 3) := by decide +kernel
theorem dX0_readableYearsOf_8 : decode cX0_readableYearsOf 8 = .ok (.iload_n 1, 1) := by decide +kernel
theorem dX0_readableYearsOf_9 : decode cX0_readableYearsOf 9 = .ok (.iaload, 1) := by decide +kernel
theorem dX0_readableYearsOf_10 : decode cX0_readableYearsOf 10 = .ok (.invokestatic 54, 3) := by decide +kernel
theorem dX0_readableYearsOf_13 : decode cX0_readableYearsOf 13 = .ok (.istore 5, 2) := by decide +kernel
theorem dX0_readableYearsOf_15 : decode cX0_readableYearsOf 15 = .ok (.iload_n 2, 1) := by decide +kernel
theorem dX0_readableYearsOf_16 : decode cX0_readableYearsOf 16 = .ok (.aload_n 0, 1) := by decide +kernel
theorem dX0_readableYearsOf_17 : decode cX0_readableYearsOf 17 = .ok (.getfield 21, 3) := by decide +kernel
theorem dX0_readableYearsOf_20 : decode cX0_readableYearsOf 20 = .ok (.iload_n 1, 1) := by decide +kernel
theorem dX0_readableYearsOf_21 : decode cX0_readableYearsOf 21 = .ok (.iaload, 1) := by decide +kernel
theorem dX0_readableYearsOf_22 : decode cX0_readableYearsOf 22 = .ok (.invokestatic 58, 3) := by decide +kernel
theorem dX0_readableYearsOf_25 : decode cX0_readableYearsOf 25 = .ok (.istore 6, 2) := by decide +kernel
theorem dX0_readableYearsOf_27 : decode cX0_readableYearsOf 27 = .ok (.iload 6, 2) := by decide +kernel
theorem dX0_readableYearsOf_29 : decode cX0_readableYearsOf 29 = .ok (.iload 5, 2) := by decide +kernel
theorem dX0_readableYearsOf_31 : decode cX0_readableYearsOf 31 = .ok (.if_icmp .gt 22, 3) := by decide +kernel
theorem dX0_readableYearsOf_34 : decode cX0_readableYearsOf 34 = .ok (.aload_n 0, 1) := by decide +kernel
theorem dX0_readableYearsOf_35 : decode cX0_readableYearsOf 35 = .ok (.iload_n 1, 1) := by decide +kernel
theorem dX0_readableYearsOf_36 : decode cX0_readableYearsOf 36 = .ok (.iload 6, 2) := by decide +kernel
theorem dX0_readableYearsOf_38 : decode cX0_readableYearsOf 38 = .ok (.invokevirtual 46, 3) := by decide +kernel
theorem dX0_readableYearsOf_41 : decode cX0_readableYearsOf 41 = .ok (.ifCond .ne 6, 3) := by decide +kernel
theorem dX0_readableYearsOf_44 : decode cX0_readableYearsOf 44 = .ok (.iinc 4 1, 3) := by decide +kernel
theorem dX0_readableYearsOf_47 : decode cX0_readableYearsOf 47 = .ok (.iinc 6 1, 3) := by decide +kernel
theorem dX0_readableYearsOf_50 : decode cX0_readableYearsOf 50 = .ok (.goto (-23), 3) := by decide +kernel
theorem dX0_readableYearsOf_53 : decode cX0_readableYearsOf 53 = .ok (.iload 4, 2) := by decide +kernel
theorem dX0_readableYearsOf_55 : decode cX0_readableYearsOf 55 = .ok (.ireturn, 1) := by decide +kernel
theorem dX1_fewest_0 : decode cX1_fewest 0 = .ok (.iload_n 1, 1) := by decide +kernel
theorem dX1_fewest_1 : decode cX1_fewest 1 = .ok (.ifCond .le 9, 3) := by decide +kernel
theorem dX1_fewest_4 : decode cX1_fewest 4 = .ok (.iload_n 1, 1) := by decide +kernel
theorem dX1_fewest_5 : decode cX1_fewest 5 = .ok (.aload_n 0, 1) := by decide +kernel
theorem dX1_fewest_6 : decode cX1_fewest 6 = .ok (.arraylength, 1) := by decide +kernel
theorem dX1_fewest_7 : decode cX1_fewest 7 = .ok (.if_icmp .le 5, 3) := by decide +kernel
theorem dX1_fewest_10 : decode cX1_fewest 10 = .ok (.iconst 0, 1) := by decide +kernel
theorem dX1_fewest_11 : decode cX1_fewest 11 = .ok (.ireturn, 1) := by decide +kernel
theorem dX1_fewest_12 : decode cX1_fewest 12 = .ok (.iconst 1, 1) := by decide +kernel
theorem dX1_fewest_13 : decode cX1_fewest 13 = .ok (.iload_n 1, 1) := by decide +kernel
theorem dX1_fewest_14 : decode cX1_fewest 14 = .ok (.ishl, 1) := by decide +kernel
theorem dX1_fewest_15 : decode cX1_fewest 15 = .ok (.iconst 1, 1) := by decide +kernel
theorem dX1_fewest_16 : decode cX1_fewest 16 = .ok (.isub, 1) := by decide +kernel
theorem dX1_fewest_17 : decode cX1_fewest 17 = .ok (.istore_n 2, 1) := by decide +kernel
theorem dX1_fewest_18 : decode cX1_fewest 18 = .ok (.iconst 1, 1) := by decide +kernel
theorem dX1_fewest_19 : decode cX1_fewest 19 = .ok (.istore_n 3, 1) := by decide +kernel
theorem dX1_fewest_20 : decode cX1_fewest 20 = .ok (.iload_n 3, 1) := by decide +kernel
theorem dX1_fewest_21 : decode cX1_fewest 21 = .ok (.iload_n 1, 1) := by decide +kernel
theorem dX1_fewest_22 : decode cX1_fewest 22 = .ok (.if_icmp .ge 19, 3) := by decide +kernel
theorem dX1_fewest_25 : decode cX1_fewest 25 = .ok (.aload_n 0, 1) := by decide +kernel
theorem dX1_fewest_26 : decode cX1_fewest 26 = .ok (.iload_n 2, 1) := by decide +kernel
theorem dX1_fewest_27 : decode cX1_fewest 27 = .ok (.iload_n 2, 1) := by decide +kernel
theorem dX1_fewest_28 : decode cX1_fewest 28 = .ok (.iload_n 3, 1) := by decide +kernel
theorem dX1_fewest_29 : decode cX1_fewest 29 = .ok (.invokestatic 7, 3) := by decide +kernel
theorem dX1_fewest_32 : decode cX1_fewest 32 = .ok (.ifCond .ne 9, 3) := by decide +kernel
theorem dX1_fewest_35 : decode cX1_fewest 35 = .ok (.iinc 3 1, 3) := by decide +kernel
theorem dX1_fewest_38 : decode cX1_fewest 38 = .ok (.goto (-18), 3) := by decide +kernel
theorem dX1_fewest_41 : decode cX1_fewest 41 = .ok (.iload_n 2, 1) := by decide +kernel
theorem dX1_fewest_42 : decode cX1_fewest 42 = .ok (.istore 4, 2) := by decide +kernel
theorem dX1_fewest_44 : decode cX1_fewest 44 = .ok (.iload_n 1, 1) := by decide +kernel
theorem dX1_fewest_45 : decode cX1_fewest 45 = .ok (.iconst 1, 1) := by decide +kernel
theorem dX1_fewest_46 : decode cX1_fewest 46 = .ok (.isub, 1) := by decide +kernel
theorem dX1_fewest_47 : decode cX1_fewest 47 = .ok (.istore 5, 2) := by decide +kernel
theorem dX1_fewest_49 : decode cX1_fewest 49 = .ok (.iload 5, 2) := by decide +kernel
theorem dX1_fewest_51 : decode cX1_fewest 51 = .ok (.ifCond .lt 38, 3) := by decide +kernel
theorem dX1_fewest_54 : decode cX1_fewest 54 = .ok (.aload_n 0, 1) := by decide +kernel
theorem dX1_fewest_55 : decode cX1_fewest 55 = .ok (.iload 4, 2) := by decide +kernel
theorem dX1_fewest_57 : decode cX1_fewest 57 = .ok (.iconst 1, 1) := by decide +kernel
theorem dX1_fewest_58 : decode cX1_fewest 58 = .ok (.iload 5, 2) := by decide +kernel
theorem dX1_fewest_60 : decode cX1_fewest 60 = .ok (.ishl, 1) := by decide +kernel
theorem dX1_fewest_61 : decode cX1_fewest 61 = .ok (.iconst (-1), 1) := by decide +kernel
theorem dX1_fewest_62 : decode cX1_fewest 62 = .ok (.ixor, 1) := by decide +kernel
theorem dX1_fewest_63 : decode cX1_fewest 63 = .ok (.iand, 1) := by decide +kernel
theorem dX1_fewest_64 : decode cX1_fewest 64 = .ok (.iload_n 2, 1) := by decide +kernel
theorem dX1_fewest_65 : decode cX1_fewest 65 = .ok (.iload_n 3, 1) := by decide +kernel
theorem dX1_fewest_66 : decode cX1_fewest 66 = .ok (.invokestatic 7, 3) := by decide +kernel
theorem dX1_fewest_69 : decode cX1_fewest 69 = .ok (.ifCond .eq 14, 3) := by decide +kernel
theorem dX1_fewest_72 : decode cX1_fewest 72 = .ok (.iload 4, 2) := by decide +kernel
theorem dX1_fewest_74 : decode cX1_fewest 74 = .ok (.iconst 1, 1) := by decide +kernel
theorem dX1_fewest_75 : decode cX1_fewest 75 = .ok (.iload 5, 2) := by decide +kernel
theorem dX1_fewest_77 : decode cX1_fewest 77 = .ok (.ishl, 1) := by decide +kernel
theorem dX1_fewest_78 : decode cX1_fewest 78 = .ok (.iconst (-1), 1) := by decide +kernel
theorem dX1_fewest_79 : decode cX1_fewest 79 = .ok (.ixor, 1) := by decide +kernel
theorem dX1_fewest_80 : decode cX1_fewest 80 = .ok (.iand, 1) := by decide +kernel
theorem dX1_fewest_81 : decode cX1_fewest 81 = .ok (.istore 4, 2) := by decide +kernel
theorem dX1_fewest_83 : decode cX1_fewest 83 = .ok (.iinc 5 (-1), 3) := by decide +kernel
theorem dX1_fewest_86 : decode cX1_fewest 86 = .ok (.goto (-37), 3) := by decide +kernel
theorem dX1_fewest_89 : decode cX1_fewest 89 = .ok (.iload 4, 2) := by decide +kernel
theorem dX1_fewest_91 : decode cX1_fewest 91 = .ok (.ireturn, 1) := by decide +kernel
theorem dX1_suffices_0 : decode cX1_suffices 0 = .ok (.iload_n 2, 1) := by decide +kernel
theorem dX1_suffices_1 : decode cX1_suffices 1 = .ok (.ifCond .eq 7, 3) := by decide +kernel
theorem dX1_suffices_4 : decode cX1_suffices 4 = .ok (.iload_n 3, 1) := by decide +kernel
theorem dX1_suffices_5 : decode cX1_suffices 5 = .ok (.ifCond .gt 13, 3) := by decide +kernel
theorem dX1_suffices_8 : decode cX1_suffices 8 = .ok (.iload_n 2, 1) := by decide +kernel
theorem dX1_suffices_9 : decode cX1_suffices 9 = .ok (.ifCond .ne 7, 3) := by decide +kernel
theorem dX1_suffices_12 : decode cX1_suffices 12 = .ok (.iconst 1, 1) := by decide +kernel
theorem dX1_suffices_13 : decode cX1_suffices 13 = .ok (.goto 4, 3) := by decide +kernel
theorem dX1_suffices_16 : decode cX1_suffices 16 = .ok (.iconst 0, 1) := by decide +kernel
theorem dX1_suffices_17 : decode cX1_suffices 17 = .ok (.ireturn, 1) := by decide +kernel
theorem dX1_suffices_18 : decode cX1_suffices 18 = .ok (.aload_n 0, 1) := by decide +kernel
theorem dX1_suffices_19 : decode cX1_suffices 19 = .ok (.iload_n 2, 1) := by decide +kernel
theorem dX1_suffices_20 : decode cX1_suffices 20 = .ok (.invokestatic 13, 3) := by decide +kernel
theorem dX1_suffices_23 : decode cX1_suffices 23 = .ok (.iaload, 1) := by decide +kernel
theorem dX1_suffices_24 : decode cX1_suffices 24 = .ok (.iload_n 1, 1) := by decide +kernel
theorem dX1_suffices_25 : decode cX1_suffices 25 = .ok (.iand, 1) := by decide +kernel
theorem dX1_suffices_26 : decode cX1_suffices 26 = .ok (.istore 4, 2) := by decide +kernel
theorem dX1_suffices_28 : decode cX1_suffices 28 = .ok (.iconst 0, 1) := by decide +kernel
theorem dX1_suffices_29 : decode cX1_suffices 29 = .ok (.istore 5, 2) := by decide +kernel
theorem dX1_suffices_31 : decode cX1_suffices 31 = .ok (.iload 5, 2) := by decide +kernel
theorem dX1_suffices_33 : decode cX1_suffices 33 = .ok (.aload_n 0, 1) := by decide +kernel
theorem dX1_suffices_34 : decode cX1_suffices 34 = .ok (.arraylength, 1) := by decide +kernel
theorem dX1_suffices_35 : decode cX1_suffices 35 = .ok (.if_icmp .ge 53, 3) := by decide +kernel
theorem dX1_suffices_38 : decode cX1_suffices 38 = .ok (.iload 4, 2) := by decide +kernel
theorem dX1_suffices_40 : decode cX1_suffices 40 = .ok (.iload 5, 2) := by decide +kernel
theorem dX1_suffices_42 : decode cX1_suffices 42 = .ok (.ishr, 1) := by decide +kernel
theorem dX1_suffices_43 : decode cX1_suffices 43 = .ok (.iconst 1, 1) := by decide +kernel
theorem dX1_suffices_44 : decode cX1_suffices 44 = .ok (.iand, 1) := by decide +kernel
theorem dX1_suffices_45 : decode cX1_suffices 45 = .ok (.iconst 1, 1) := by decide +kernel
theorem dX1_suffices_46 : decode cX1_suffices 46 = .ok (.if_icmp .ne 7, 3) := by decide +kernel
theorem dX1_suffices_49 : decode cX1_suffices 49 = .ok (.iconst 1, 1) := by decide +kernel
theorem dX1_suffices_50 : decode cX1_suffices 50 = .ok (.goto 4, 3) := by decide +kernel
theorem dX1_suffices_53 : decode cX1_suffices 53 = .ok (.iconst 0, 1) := by decide +kernel
theorem dX1_suffices_54 : decode cX1_suffices 54 = .ok (.istore 6, 2) := by decide +kernel
theorem dX1_suffices_56 : decode cX1_suffices 56 = .ok (.iload 6, 2) := by decide +kernel
theorem dX1_suffices_58 : decode cX1_suffices 58 = .ok (.ifCond .eq 24, 3) := by decide +kernel
theorem dX1_suffices_61 : decode cX1_suffices 61 = .ok (.aload_n 0, 1) := by decide +kernel
theorem dX1_suffices_62 : decode cX1_suffices 62 = .ok (.iload_n 1, 1) := by decide +kernel
theorem dX1_suffices_63 : decode cX1_suffices 63 = .ok (.iload_n 2, 1) := by decide +kernel
theorem dX1_suffices_64 : decode cX1_suffices 64 = .ok (.aload_n 0, 1) := by decide +kernel
theorem dX1_suffices_65 : decode cX1_suffices 65 = .ok (.iload 5, 2) := by decide +kernel
theorem dX1_suffices_67 : decode cX1_suffices 67 = .ok (.iaload, 1) := by decide +kernel
theorem dX1_suffices_68 : decode cX1_suffices 68 = .ok (.iconst (-1), 1) := by decide +kernel
theorem dX1_suffices_69 : decode cX1_suffices 69 = .ok (.ixor, 1) := by decide +kernel
theorem dX1_suffices_70 : decode cX1_suffices 70 = .ok (.iand, 1) := by decide +kernel
theorem dX1_suffices_71 : decode cX1_suffices 71 = .ok (.iload_n 3, 1) := by decide +kernel
theorem dX1_suffices_72 : decode cX1_suffices 72 = .ok (.iconst 1, 1) := by decide +kernel
theorem dX1_suffices_73 : decode cX1_suffices 73 = .ok (.isub, 1) := by decide +kernel
theorem dX1_suffices_74 : decode cX1_suffices 74 = .ok (.invokestatic 7, 3) := by decide +kernel
theorem dX1_suffices_77 : decode cX1_suffices 77 = .ok (.ifCond .eq 5, 3) := by decide +kernel
theorem dX1_suffices_80 : decode cX1_suffices 80 = .ok (.iconst 1, 1) := by decide +kernel
theorem dX1_suffices_81 : decode cX1_suffices 81 = .ok (.ireturn, 1) := by decide +kernel
theorem dX1_suffices_82 : decode cX1_suffices 82 = .ok (.iinc 5 1, 3) := by decide +kernel
theorem dX1_suffices_85 : decode cX1_suffices 85 = .ok (.goto (-54), 3) := by decide +kernel
theorem dX1_suffices_88 : decode cX1_suffices 88 = .ok (.iconst 0, 1) := by decide +kernel
theorem dX1_suffices_89 : decode cX1_suffices 89 = .ok (.ireturn, 1) := by decide +kernel
theorem dX2_init_0 : decode cX2_init 0 = .ok (.aload_n 0, 1) := by decide +kernel
theorem dX2_init_1 : decode cX2_init 1 = .ok (.invokespecial 1, 3) := by decide +kernel
theorem dX2_init_4 : decode cX2_init 4 = .ok (.return_, 1) := by decide +kernel
theorem dX2_follow_0 : decode cX2_follow 0 = .ok (.aload_n 0, 1) := by decide +kernel
theorem dX2_follow_1 : decode cX2_follow 1 = .ok (.lconst 0, 1) := by decide +kernel
theorem dX2_follow_2 : decode cX2_follow 2 = .ok (.putfield 7, 3) := by decide +kernel
theorem dX2_follow_5 : decode cX2_follow 5 = .ok (.aload_n 0, 1) := by decide +kernel
theorem dX2_follow_6 : decode cX2_follow 6 = .ok (.lconst 1, 1) := by decide +kernel
theorem dX2_follow_7 : decode cX2_follow 7 = .ok (.putfield 13, 3) := by decide +kernel
theorem dX2_follow_10 : decode cX2_follow 10 = .ok (.iconst 0, 1) := by decide +kernel
theorem dX2_follow_11 : decode cX2_follow 11 = .ok (.istore_n 3, 1) := by decide +kernel
theorem dX2_follow_12 : decode cX2_follow 12 = .ok (.iload_n 3, 1) := by decide +kernel
theorem dX2_follow_13 : decode cX2_follow 13 = .ok (.iload_n 2, 1) := by decide +kernel
theorem dX2_follow_14 : decode cX2_follow 14 = .ok (.if_icmp .ge 14, 3) := by decide +kernel
theorem dX2_follow_17 : decode cX2_follow 17 = .ok (.aload_n 0, 1) := by decide +kernel
theorem dX2_follow_18 : decode cX2_follow 18 = .ok (.aload_n 1, 1) := by decide +kernel
theorem dX2_follow_19 : decode cX2_follow 19 = .ok (.invokevirtual 16, 3) := by decide +kernel
theorem dX2_follow_22 : decode cX2_follow 22 = .ok (.iinc 3 1, 3) := by decide +kernel
theorem dX2_follow_25 : decode cX2_follow 25 = .ok (.goto (-13), 3) := by decide +kernel
theorem dX2_follow_28 : decode cX2_follow 28 = .ok (.return_, 1) := by decide +kernel
theorem dX2_addGeneration_0 : decode cX2_addGeneration 0 = .ok (.lconst 0, 1) := by decide +kernel
theorem dX2_addGeneration_1 : decode cX2_addGeneration 1 = .ok (.lstore_n 2, 1) := by decide +kernel
theorem dX2_addGeneration_2 : decode cX2_addGeneration 2 = .ok (.lconst 0, 1) := by decide +kernel
theorem dX2_addGeneration_3 : decode cX2_addGeneration 3 = .ok (.lstore 4, 2) := by decide +kernel
theorem dX2_addGeneration_5 : decode cX2_addGeneration 5 = .ok (.iconst 0, 1) := by decide +kernel
theorem dX2_addGeneration_6 : decode cX2_addGeneration 6 = .ok (.istore 6, 2) := by decide +kernel
theorem dX2_addGeneration_8 : decode cX2_addGeneration 8 = .ok (.iload 6, 2) := by decide +kernel
theorem dX2_addGeneration_10 : decode cX2_addGeneration 10 = .ok (.iconst 4, 1) := by decide +kernel
theorem dX2_addGeneration_11 : decode cX2_addGeneration 11 = .ok (.if_icmp .ge 56, 3) := by decide +kernel
theorem dX2_addGeneration_14 : decode cX2_addGeneration 14 = .ok (.aload_n 1, 1) := by decide +kernel
theorem dX2_addGeneration_15 : decode cX2_addGeneration 15 = .ok (.getfield 22, 3) := by decide +kernel
theorem dX2_addGeneration_18 : decode cX2_addGeneration 18 = .ok (.iconst 4, 1) := by decide +kernel
theorem dX2_addGeneration_19 : decode cX2_addGeneration 19 = .ok (.iload 6, 2) := by decide +kernel
theorem dX2_addGeneration_21 : decode cX2_addGeneration 21 = .ok (.iadd, 1) := by decide +kernel
theorem dX2_addGeneration_22 : decode cX2_addGeneration 22 = .ok (.iaload, 1) := by decide +kernel
theorem dX2_addGeneration_23 : decode cX2_addGeneration 23 = .ok (.istore 7, 2) := by decide +kernel
theorem dX2_addGeneration_25 : decode cX2_addGeneration 25 = .ok (.lload_n 2, 1) := by decide +kernel
theorem dX2_addGeneration_26 : decode cX2_addGeneration 26 = .ok (.iload 7, 2) := by decide +kernel
theorem dX2_addGeneration_28 : decode cX2_addGeneration 28 = .ok (.i2l, 1) := by decide +kernel
theorem dX2_addGeneration_29 : decode cX2_addGeneration 29 = .ok (.ladd, 1) := by decide +kernel
theorem dX2_addGeneration_30 : decode cX2_addGeneration 30 = .ok (.lstore_n 2, 1) := by decide +kernel
theorem dX2_addGeneration_31 : decode cX2_addGeneration 31 = .ok (.lload 4, 2) := by decide +kernel
theorem dX2_addGeneration_33 : decode cX2_addGeneration 33 = .ok (.iload 7, 2) := by decide +kernel
theorem dX2_addGeneration_35 : decode cX2_addGeneration 35 = .ok (.i2l, 1) := by decide +kernel
theorem dX2_addGeneration_36 : decode cX2_addGeneration 36 = .ok (.aload_n 0, 1) := by decide +kernel
theorem dX2_addGeneration_37 : decode cX2_addGeneration 37 = .ok (.getfield 7, 3) := by decide +kernel
theorem dX2_addGeneration_40 : decode cX2_addGeneration 40 = .ok (.iload 6, 2) := by decide +kernel
theorem dX2_addGeneration_42 : decode cX2_addGeneration 42 = .ok (.invokestatic 26, 3) := by decide +kernel
theorem dX2_addGeneration_45 : decode cX2_addGeneration 45 = .ok (.lmul, 1) := by decide +kernel
theorem dX2_addGeneration_46 : decode cX2_addGeneration 46 = .ok (.aload_n 0, 1) := by decide +kernel
theorem dX2_addGeneration_47 : decode cX2_addGeneration 47 = .ok (.getfield 13, 3) := by decide +kernel
theorem dX2_addGeneration_50 : decode cX2_addGeneration 50 = .ok (.iconst 3, 1) := by decide +kernel
theorem dX2_addGeneration_51 : decode cX2_addGeneration 51 = .ok (.iload 6, 2) := by decide +kernel
theorem dX2_addGeneration_53 : decode cX2_addGeneration 53 = .ok (.isub, 1) := by decide +kernel
theorem dX2_addGeneration_54 : decode cX2_addGeneration 54 = .ok (.invokestatic 26, 3) := by decide +kernel
theorem dX2_addGeneration_57 : decode cX2_addGeneration 57 = .ok (.lmul, 1) := by decide +kernel
theorem dX2_addGeneration_58 : decode cX2_addGeneration 58 = .ok (.ladd, 1) := by decide +kernel
theorem dX2_addGeneration_59 : decode cX2_addGeneration 59 = .ok (.lstore 4, 2) := by decide +kernel
theorem dX2_addGeneration_61 : decode cX2_addGeneration 61 = .ok (.iinc 6 1, 3) := by decide +kernel
theorem dX2_addGeneration_64 : decode cX2_addGeneration 64 = .ok (.goto (-56), 3) := by decide +kernel
theorem dX2_addGeneration_67 : decode cX2_addGeneration 67 = .ok (.lload_n 2, 1) := by decide +kernel
theorem dX2_addGeneration_68 : decode cX2_addGeneration 68 = .ok (.aload_n 0, 1) := by decide +kernel
theorem dX2_addGeneration_69 : decode cX2_addGeneration 69 = .ok (.getfield 13, 3) := by decide +kernel
theorem dX2_addGeneration_72 : decode cX2_addGeneration 72 = .ok (.iconst 3, 1) := by decide +kernel
theorem dX2_addGeneration_73 : decode cX2_addGeneration 73 = .ok (.invokestatic 26, 3) := by decide +kernel
theorem dX2_addGeneration_76 : decode cX2_addGeneration 76 = .ok (.lmul, 1) := by decide +kernel
theorem dX2_addGeneration_77 : decode cX2_addGeneration 77 = .ok (.lstore 6, 2) := by decide +kernel
theorem dX2_addGeneration_79 : decode cX2_addGeneration 79 = .ok (.lload 4, 2) := by decide +kernel
theorem dX2_addGeneration_81 : decode cX2_addGeneration 81 = .ok (.lload 6, 2) := by decide +kernel
theorem dX2_addGeneration_83 : decode cX2_addGeneration 83 = .ok (.invokestatic 30, 3) := by decide +kernel
theorem dX2_addGeneration_86 : decode cX2_addGeneration 86 = .ok (.lstore 8, 2) := by decide +kernel
theorem dX2_addGeneration_88 : decode cX2_addGeneration 88 = .ok (.aload_n 0, 1) := by decide +kernel
theorem dX2_addGeneration_89 : decode cX2_addGeneration 89 = .ok (.lload 8, 2) := by decide +kernel
theorem dX2_addGeneration_91 : decode cX2_addGeneration 91 = .ok (.lconst 0, 1) := by decide +kernel
theorem dX2_addGeneration_92 : decode cX2_addGeneration 92 = .ok (.lcmp, 1) := by decide +kernel
theorem dX2_addGeneration_93 : decode cX2_addGeneration 93 = .ok (.ifCond .le 11, 3) := by decide +kernel
theorem dX2_addGeneration_96 : decode cX2_addGeneration 96 = .ok (.lload 4, 2) := by decide +kernel
theorem dX2_addGeneration_98 : decode cX2_addGeneration 98 = .ok (.lload 8, 2) := by decide +kernel
theorem dX2_addGeneration_100 : decode cX2_addGeneration 100 = .ok (.ldiv, 1) := by decide +kernel
theorem dX2_addGeneration_101 : decode cX2_addGeneration 101 = .ok (.goto 4, 3) := by decide +kernel
theorem dX2_addGeneration_104 : decode cX2_addGeneration 104 = .ok (.lconst 0, 1) := by decide +kernel
theorem dX2_addGeneration_105 : decode cX2_addGeneration 105 = .ok (.putfield 7, 3) := by decide +kernel
theorem dX2_addGeneration_108 : decode cX2_addGeneration 108 = .ok (.aload_n 0, 1) := by decide +kernel
theorem dX2_addGeneration_109 : decode cX2_addGeneration 109 = .ok (.lload 8, 2) := by decide +kernel
theorem dX2_addGeneration_111 : decode cX2_addGeneration 111 = .ok (.lconst 0, 1) := by decide +kernel
theorem dX2_addGeneration_112 : decode cX2_addGeneration 112 = .ok (.lcmp, 1) := by decide +kernel
theorem dX2_addGeneration_113 : decode cX2_addGeneration 113 = .ok (.ifCond .le 11, 3) := by decide +kernel
theorem dX2_addGeneration_116 : decode cX2_addGeneration 116 = .ok (.lload 6, 2) := by decide +kernel
theorem dX2_addGeneration_118 : decode cX2_addGeneration 118 = .ok (.lload 8, 2) := by decide +kernel
theorem dX2_addGeneration_120 : decode cX2_addGeneration 120 = .ok (.ldiv, 1) := by decide +kernel
theorem dX2_addGeneration_121 : decode cX2_addGeneration 121 = .ok (.goto 4, 3) := by decide +kernel
theorem dX2_addGeneration_124 : decode cX2_addGeneration 124 = .ok (.lconst 1, 1) := by decide +kernel
theorem dX2_addGeneration_125 : decode cX2_addGeneration 125 = .ok (.putfield 13, 3) := by decide +kernel
theorem dX2_addGeneration_128 : decode cX2_addGeneration 128 = .ok (.return_, 1) := by decide +kernel
theorem dX2_power_0 : decode cX2_power 0 = .ok (.lconst 1, 1) := by decide +kernel
theorem dX2_power_1 : decode cX2_power 1 = .ok (.lstore_n 3, 1) := by decide +kernel
theorem dX2_power_2 : decode cX2_power 2 = .ok (.iconst 0, 1) := by decide +kernel
theorem dX2_power_3 : decode cX2_power 3 = .ok (.istore 5, 2) := by decide +kernel
theorem dX2_power_5 : decode cX2_power 5 = .ok (.iload 5, 2) := by decide +kernel
theorem dX2_power_7 : decode cX2_power 7 = .ok (.iload_n 2, 1) := by decide +kernel
theorem dX2_power_8 : decode cX2_power 8 = .ok (.if_icmp .ge 13, 3) := by decide +kernel
theorem dX2_power_11 : decode cX2_power 11 = .ok (.lload_n 3, 1) := by decide +kernel
theorem dX2_power_12 : decode cX2_power 12 = .ok (.lload_n 0, 1) := by decide +kernel
theorem dX2_power_13 : decode cX2_power 13 = .ok (.lmul, 1) := by decide +kernel
theorem dX2_power_14 : decode cX2_power 14 = .ok (.lstore_n 3, 1) := by decide +kernel
theorem dX2_power_15 : decode cX2_power 15 = .ok (.iinc 5 1, 3) := by decide +kernel
theorem dX2_power_18 : decode cX2_power 18 = .ok (.goto (-13), 3) := by decide +kernel
theorem dX2_power_21 : decode cX2_power 21 = .ok (.lload_n 3, 1) := by decide +kernel
theorem dX2_power_22 : decode cX2_power 22 = .ok (.lreturn, 1) := by decide +kernel
theorem dX2_greatestDivisor_0 : decode cX2_greatestDivisor 0 = .ok (.lload_n 0, 1) := by decide +kernel
theorem dX2_greatestDivisor_1 : decode cX2_greatestDivisor 1 = .ok (.lstore 4, 2) := by decide +kernel
theorem dX2_greatestDivisor_3 : decode cX2_greatestDivisor 3 = .ok (.lload_n 2, 1) := by decide +kernel
theorem dX2_greatestDivisor_4 : decode cX2_greatestDivisor 4 = .ok (.lstore 6, 2) := by decide +kernel
theorem dX2_greatestDivisor_6 : decode cX2_greatestDivisor 6 = .ok (.iconst 0, 1) := by decide +kernel
theorem dX2_greatestDivisor_7 : decode cX2_greatestDivisor 7 = .ok (.istore 8, 2) := by decide +kernel
theorem dX2_greatestDivisor_9 : decode cX2_greatestDivisor 9 = .ok (.iload 8, 2) := by decide +kernel
theorem dX2_greatestDivisor_11 : decode cX2_greatestDivisor 11 = .ok (.bipush 100, 2) := by decide +kernel
theorem dX2_greatestDivisor_13 : decode cX2_greatestDivisor 13 = .ok (.if_icmp .ge 31, 3) := by decide +kernel
theorem dX2_greatestDivisor_16 : decode cX2_greatestDivisor 16 = .ok (.lload 6, 2) := by decide +kernel
theorem dX2_greatestDivisor_18 : decode cX2_greatestDivisor 18 = .ok (.lconst 0, 1) := by decide +kernel
theorem dX2_greatestDivisor_19 : decode cX2_greatestDivisor 19 = .ok (.lcmp, 1) := by decide +kernel
theorem dX2_greatestDivisor_20 : decode cX2_greatestDivisor 20 = .ok (.ifCond .eq 24, 3) := by decide +kernel
theorem dX2_greatestDivisor_23 : decode cX2_greatestDivisor 23 = .ok (.lload 4, 2) := by decide +kernel
theorem dX2_greatestDivisor_25 : decode cX2_greatestDivisor 25 = .ok (.lload 6, 2) := by decide +kernel
theorem dX2_greatestDivisor_27 : decode cX2_greatestDivisor 27 = .ok (.lrem, 1) := by decide +kernel
theorem dX2_greatestDivisor_28 : decode cX2_greatestDivisor 28 = .ok (.lstore 9, 2) := by decide +kernel
theorem dX2_greatestDivisor_30 : decode cX2_greatestDivisor 30 = .ok (.lload 6, 2) := by decide +kernel
theorem dX2_greatestDivisor_32 : decode cX2_greatestDivisor 32 = .ok (.lstore 4, 2) := by decide +kernel
theorem dX2_greatestDivisor_34 : decode cX2_greatestDivisor 34 = .ok (.lload 9, 2) := by decide +kernel
theorem dX2_greatestDivisor_36 : decode cX2_greatestDivisor 36 = .ok (.lstore 6, 2) := by decide +kernel
theorem dX2_greatestDivisor_38 : decode cX2_greatestDivisor 38 = .ok (.iinc 8 1, 3) := by decide +kernel
theorem dX2_greatestDivisor_41 : decode cX2_greatestDivisor 41 = .ok (.goto (-32), 3) := by decide +kernel
theorem dX2_greatestDivisor_44 : decode cX2_greatestDivisor 44 = .ok (.lload 4, 2) := by decide +kernel
theorem dX2_greatestDivisor_46 : decode cX2_greatestDivisor 46 = .ok (.lreturn, 1) := by decide +kernel
theorem dX3_init_0 : decode cX3_init 0 = .ok (.aload_n 0, 1) := by decide +kernel
theorem dX3_init_1 : decode cX3_init 1 = .ok (.invokespecial 3, 3) := by decide +kernel
theorem dX3_init_4 : decode cX3_init 4 = .ok (.aload_n 0, 1) := by decide +kernel
theorem dX3_init_5 : decode cX3_init 5 = .ok (.aload_n 1, 1) := by decide +kernel
theorem dX3_init_6 : decode cX3_init 6 = .ok (.putfield 9, 3) := by decide +kernel
theorem dX3_init_9 : decode cX3_init 9 = .ok (.aload_n 0, 1) := by decide +kernel
theorem dX3_init_10 : decode cX3_init 10 = .ok (.aload_n 2, 1) := by decide +kernel
theorem dX3_init_11 : decode cX3_init 11 = .ok (.putfield 15, 3) := by decide +kernel
theorem dX3_init_14 : decode cX3_init 14 = .ok (.aload_n 0, 1) := by decide +kernel
theorem dX3_init_15 : decode cX3_init 15 = .ok (.bipush 40, 2) := by decide +kernel
theorem dX3_init_17 : decode cX3_init 17 = .ok (.newarray .int, 2) := by decide +kernel
theorem dX3_init_19 : decode cX3_init 19 = .ok (.putfield 19, 3) := by decide +kernel
theorem dX3_init_22 : decode cX3_init 22 = .ok (.aload_n 0, 1) := by decide +kernel
theorem dX3_init_23 : decode cX3_init 23 = .ok (.bipush 40, 2) := by decide +kernel
theorem dX3_init_25 : decode cX3_init 25 = .ok (.newarray .int, 2) := by decide +kernel
theorem dX3_init_27 : decode cX3_init 27 = .ok (.putfield 23, 3) := by decide +kernel
theorem dX3_init_30 : decode cX3_init 30 = .ok (.aload_n 0, 1) := by decide +kernel
theorem dX3_init_31 : decode cX3_init 31 = .ok (.bipush 40, 2) := by decide +kernel
theorem dX3_init_33 : decode cX3_init 33 = .ok (.newarray .int, 2) := by decide +kernel
theorem dX3_init_35 : decode cX3_init 35 = .ok (.putfield 26, 3) := by decide +kernel
theorem dX3_init_38 : decode cX3_init 38 = .ok (.aload_n 0, 1) := by decide +kernel
theorem dX3_init_39 : decode cX3_init 39 = .ok (.bipush 40, 2) := by decide +kernel
theorem dX3_init_41 : decode cX3_init 41 = .ok (.newarray .int, 2) := by decide +kernel
theorem dX3_init_43 : decode cX3_init 43 = .ok (.putfield 29, 3) := by decide +kernel
theorem dX3_init_46 : decode cX3_init 46 = .ok (.aload_n 0, 1) := by decide +kernel
theorem dX3_init_47 : decode cX3_init 47 = .ok (.bipush 40, 2) := by decide +kernel
theorem dX3_init_49 : decode cX3_init 49 = .ok (.newarray .int, 2) := by decide +kernel
theorem dX3_init_51 : decode cX3_init 51 = .ok (.putfield 32, 3) := by decide +kernel
theorem dX3_init_54 : decode cX3_init 54 = .ok (.aload_n 0, 1) := by decide +kernel
theorem dX3_init_55 : decode cX3_init 55 = .ok (.bipush 40, 2) := by decide +kernel
theorem dX3_init_57 : decode cX3_init 57 = .ok (.newarray .int, 2) := by decide +kernel
theorem dX3_init_59 : decode cX3_init 59 = .ok (.putfield 35, 3) := by decide +kernel
theorem dX3_init_62 : decode cX3_init 62 = .ok (.aload_n 0, 1) := by decide +kernel
theorem dX3_init_63 : decode cX3_init 63 = .ok (.bipush 40, 2) := by decide +kernel
theorem dX3_init_65 : decode cX3_init 65 = .ok (.newarray .int, 2) := by decide +kernel
theorem dX3_init_67 : decode cX3_init 67 = .ok (.putfield 38, 3) := by decide +kernel
theorem dX3_init_70 : decode cX3_init 70 = .ok (.aload_n 0, 1) := by decide +kernel
theorem dX3_init_71 : decode cX3_init 71 = .ok (.bipush 40, 2) := by decide +kernel
theorem dX3_init_73 : decode cX3_init 73 = .ok (.newarray .int, 2) := by decide +kernel
theorem dX3_init_75 : decode cX3_init 75 = .ok (.putfield 41, 3) := by decide +kernel
theorem dX3_init_78 : decode cX3_init 78 = .ok (.aload_n 0, 1) := by decide +kernel
theorem dX3_init_79 : decode cX3_init 79 = .ok (.bipush 60, 2) := by decide +kernel
theorem dX3_init_81 : decode cX3_init 81 = .ok (.newarray .int, 2) := by decide +kernel
theorem dX3_init_83 : decode cX3_init 83 = .ok (.putfield 44, 3) := by decide +kernel
theorem dX3_init_86 : decode cX3_init 86 = .ok (.aload_n 0, 1) := by decide +kernel
theorem dX3_init_87 : decode cX3_init 87 = .ok (.bipush 60, 2) := by decide +kernel
theorem dX3_init_89 : decode cX3_init 89 = .ok (.newarray .int, 2) := by decide +kernel
theorem dX3_init_91 : decode cX3_init 91 = .ok (.putfield 47, 3) := by decide +kernel
theorem dX3_init_94 : decode cX3_init 94 = .ok (.aload_n 0, 1) := by decide +kernel
theorem dX3_init_95 : decode cX3_init 95 = .ok (.bipush 60, 2) := by decide +kernel
theorem dX3_init_97 : decode cX3_init 97 = .ok (.newarray .int, 2) := by decide +kernel
theorem dX3_init_99 : decode cX3_init 99 = .ok (.putfield 50, 3) := by decide +kernel
theorem dX3_init_102 : decode cX3_init 102 = .ok (.return_, 1) := by decide +kernel
theorem dX3_isKind_0 : decode cX3_isKind 0 = .ok (.iload_n 0, 1) := by decide +kernel
theorem dX3_isKind_1 : decode cX3_isKind 1 = .ok (.ifCond .lt 12, 3) := by decide +kernel
theorem dX3_isKind_4 : decode cX3_isKind 4 = .ok (.iload_n 0, 1) := by decide +kernel
theorem dX3_isKind_5 : decode cX3_isKind 5 = .ok (.iconst 4, 1) := by decide +kernel
theorem dX3_isKind_6 : decode cX3_isKind 6 = .ok (.if_icmp .gt 7, 3) := by decide +kernel
theorem dX3_isKind_9 : decode cX3_isKind 9 = .ok (.iconst 1, 1) := by decide +kernel
theorem dX3_isKind_10 : decode cX3_isKind 10 = .ok (.goto 4, 3) := by decide +kernel
theorem dX3_isKind_13 : decode cX3_isKind 13 = .ok (.iconst 0, 1) := by decide +kernel
theorem dX3_isKind_14 : decode cX3_isKind 14 = .ok (.ireturn, 1) := by decide +kernel
theorem dX3_has_0 : decode cX3_has 0 = .ok (.iload_n 1, 1) := by decide +kernel
theorem dX3_has_1 : decode cX3_has 1 = .ok (.ifCond .lt 15, 3) := by decide +kernel
theorem dX3_has_4 : decode cX3_has 4 = .ok (.iload_n 1, 1) := by decide +kernel
theorem dX3_has_5 : decode cX3_has 5 = .ok (.aload_n 0, 1) := by decide +kernel
theorem dX3_has_6 : decode cX3_has 6 = .ok (.getfield 53, 3) := by decide +kernel
theorem dX3_has_9 : decode cX3_has 9 = .ok (.if_icmp .ge 7, 3) := by decide +kernel
theorem dX3_has_12 : decode cX3_has 12 = .ok (.iconst 1, 1) := by decide +kernel
theorem dX3_has_13 : decode cX3_has 13 = .ok (.goto 4, 3) := by decide +kernel
theorem dX3_has_16 : decode cX3_has 16 = .ok (.iconst 0, 1) := by decide +kernel
theorem dX3_has_17 : decode cX3_has 17 = .ok (.ireturn, 1) := by decide +kernel
theorem dX3_append_0 : decode cX3_append 0 = .ok (.aload_n 0, 1) := by decide +kernel
theorem dX3_append_1 : decode cX3_append 1 = .ok (.getfield 53, 3) := by decide +kernel
theorem dX3_append_4 : decode cX3_append 4 = .ok (.bipush 40, 2) := by decide +kernel
theorem dX3_append_6 : decode cX3_append 6 = .ok (.if_icmp .lt 6, 3) := by decide +kernel
theorem dX3_append_9 : decode cX3_append 9 = .ok (.bipush (-3), 2) := by decide +kernel
theorem dX3_append_11 : decode cX3_append 11 = .ok (.ireturn, 1) := by decide +kernel
theorem dX3_append_12 : decode cX3_append 12 = .ok (.aload_n 0, 1) := by decide +kernel
theorem dX3_append_13 : decode cX3_append 13 = .ok (.getfield 19, 3) := by decide +kernel
theorem dX3_append_16 : decode cX3_append 16 = .ok (.aload_n 0, 1) := by decide +kernel
theorem dX3_append_17 : decode cX3_append 17 = .ok (.getfield 53, 3) := by decide +kernel
theorem dX3_append_20 : decode cX3_append 20 = .ok (.iload_n 1, 1) := by decide +kernel
theorem dX3_append_21 : decode cX3_append 21 = .ok (.iastore, 1) := by decide +kernel
theorem dX3_append_22 : decode cX3_append 22 = .ok (.aload_n 0, 1) := by decide +kernel
theorem dX3_append_23 : decode cX3_append 23 = .ok (.getfield 23, 3) := by decide +kernel
theorem dX3_append_26 : decode cX3_append 26 = .ok (.aload_n 0, 1) := by decide +kernel
theorem dX3_append_27 : decode cX3_append 27 = .ok (.getfield 53, 3) := by decide +kernel
theorem dX3_append_30 : decode cX3_append 30 = .ok (.iload_n 2, 1) := by decide +kernel
theorem dX3_append_31 : decode cX3_append 31 = .ok (.iastore, 1) := by decide +kernel
theorem dX3_append_32 : decode cX3_append 32 = .ok (.aload_n 0, 1) := by decide +kernel
theorem dX3_append_33 : decode cX3_append 33 = .ok (.getfield 26, 3) := by decide +kernel
theorem dX3_append_36 : decode cX3_append 36 = .ok (.aload_n 0, 1) := by decide +kernel
theorem dX3_append_37 : decode cX3_append 37 = .ok (.getfield 53, 3) := by decide +kernel
theorem dX3_append_40 : decode cX3_append 40 = .ok (.iload 4, 2) := by decide +kernel
theorem dX3_append_42 : decode cX3_append 42 = .ok (.iastore, 1) := by decide +kernel
theorem dX3_append_43 : decode cX3_append 43 = .ok (.aload_n 0, 1) := by decide +kernel
theorem dX3_append_44 : decode cX3_append 44 = .ok (.getfield 29, 3) := by decide +kernel
theorem dX3_append_47 : decode cX3_append 47 = .ok (.aload_n 0, 1) := by decide +kernel
theorem dX3_append_48 : decode cX3_append 48 = .ok (.getfield 53, 3) := by decide +kernel
theorem dX3_append_51 : decode cX3_append 51 = .ok (.iload 5, 2) := by decide +kernel
theorem dX3_append_53 : decode cX3_append 53 = .ok (.iastore, 1) := by decide +kernel
theorem dX3_append_54 : decode cX3_append 54 = .ok (.aload_n 0, 1) := by decide +kernel
theorem dX3_append_55 : decode cX3_append 55 = .ok (.getfield 41, 3) := by decide +kernel
theorem dX3_append_58 : decode cX3_append 58 = .ok (.aload_n 0, 1) := by decide +kernel
theorem dX3_append_59 : decode cX3_append 59 = .ok (.getfield 53, 3) := by decide +kernel
theorem dX3_append_62 : decode cX3_append 62 = .ok (.iload_n 3, 1) := by decide +kernel
theorem dX3_append_63 : decode cX3_append 63 = .ok (.iastore, 1) := by decide +kernel
theorem dX3_append_64 : decode cX3_append 64 = .ok (.aload_n 0, 1) := by decide +kernel
theorem dX3_append_65 : decode cX3_append 65 = .ok (.getfield 32, 3) := by decide +kernel
theorem dX3_append_68 : decode cX3_append 68 = .ok (.aload_n 0, 1) := by decide +kernel
theorem dX3_append_69 : decode cX3_append 69 = .ok (.getfield 53, 3) := by decide +kernel
theorem dX3_append_72 : decode cX3_append 72 = .ok (.iload_n 3, 1) := by decide +kernel
theorem dX3_append_73 : decode cX3_append 73 = .ok (.iastore, 1) := by decide +kernel
theorem dX3_append_74 : decode cX3_append 74 = .ok (.aload_n 0, 1) := by decide +kernel
theorem dX3_append_75 : decode cX3_append 75 = .ok (.getfield 35, 3) := by decide +kernel
theorem dX3_append_78 : decode cX3_append 78 = .ok (.aload_n 0, 1) := by decide +kernel
theorem dX3_append_79 : decode cX3_append 79 = .ok (.getfield 53, 3) := by decide +kernel
theorem dX3_append_82 : decode cX3_append 82 = .ok (.iconst 1, 1) := by decide +kernel
theorem dX3_append_83 : decode cX3_append 83 = .ok (.iastore, 1) := by decide +kernel
theorem dX3_append_84 : decode cX3_append 84 = .ok (.aload_n 0, 1) := by decide +kernel
theorem dX3_append_85 : decode cX3_append 85 = .ok (.getfield 38, 3) := by decide +kernel
theorem dX3_append_88 : decode cX3_append 88 = .ok (.aload_n 0, 1) := by decide +kernel
theorem dX3_append_89 : decode cX3_append 89 = .ok (.getfield 53, 3) := by decide +kernel
theorem dX3_append_92 : decode cX3_append 92 = .ok (.bipush (-4), 2) := by decide +kernel
theorem dX3_append_94 : decode cX3_append 94 = .ok (.iastore, 1) := by decide +kernel
theorem dX3_append_95 : decode cX3_append 95 = .ok (.aload_n 0, 1) := by decide +kernel
theorem dX3_append_96 : decode cX3_append 96 = .ok (.dup, 1) := by decide +kernel
theorem dX3_append_97 : decode cX3_append 97 = .ok (.getfield 53, 3) := by decide +kernel
theorem dX3_append_100 : decode cX3_append 100 = .ok (.iconst 1, 1) := by decide +kernel
theorem dX3_append_101 : decode cX3_append 101 = .ok (.iadd, 1) := by decide +kernel
theorem dX3_append_102 : decode cX3_append 102 = .ok (.putfield 53, 3) := by decide +kernel
theorem dX3_append_105 : decode cX3_append 105 = .ok (.aload_n 0, 1) := by decide +kernel
theorem dX3_append_106 : decode cX3_append 106 = .ok (.getfield 53, 3) := by decide +kernel
theorem dX3_append_109 : decode cX3_append 109 = .ok (.iconst 1, 1) := by decide +kernel
theorem dX3_append_110 : decode cX3_append 110 = .ok (.isub, 1) := by decide +kernel
theorem dX3_append_111 : decode cX3_append 111 = .ok (.ireturn, 1) := by decide +kernel
theorem dX3_reread_0 : decode cX3_reread 0 = .ok (.aload_n 0, 1) := by decide +kernel
theorem dX3_reread_1 : decode cX3_reread 1 = .ok (.getfield 57, 3) := by decide +kernel
theorem dX3_reread_4 : decode cX3_reread 4 = .ok (.bipush 60, 2) := by decide +kernel
theorem dX3_reread_6 : decode cX3_reread 6 = .ok (.if_icmp .lt 6, 3) := by decide +kernel
theorem dX3_reread_9 : decode cX3_reread 9 = .ok (.bipush (-3), 2) := by decide +kernel
theorem dX3_reread_11 : decode cX3_reread 11 = .ok (.ireturn, 1) := by decide +kernel
theorem dX3_reread_12 : decode cX3_reread 12 = .ok (.aload_n 0, 1) := by decide +kernel
theorem dX3_reread_13 : decode cX3_reread 13 = .ok (.getfield 44, 3) := by decide +kernel
theorem dX3_reread_16 : decode cX3_reread 16 = .ok (.aload_n 0, 1) := by decide +kernel
theorem dX3_reread_17 : decode cX3_reread 17 = .ok (.getfield 57, 3) := by decide +kernel
theorem dX3_reread_20 : decode cX3_reread 20 = .ok (.iload_n 1, 1) := by decide +kernel
theorem dX3_reread_21 : decode cX3_reread 21 = .ok (.iastore, 1) := by decide +kernel
theorem dX3_reread_22 : decode cX3_reread 22 = .ok (.aload_n 0, 1) := by decide +kernel
theorem dX3_reread_23 : decode cX3_reread 23 = .ok (.getfield 47, 3) := by decide +kernel
theorem dX3_reread_26 : decode cX3_reread 26 = .ok (.aload_n 0, 1) := by decide +kernel
theorem dX3_reread_27 : decode cX3_reread 27 = .ok (.getfield 57, 3) := by decide +kernel
theorem dX3_reread_30 : decode cX3_reread 30 = .ok (.iload_n 3, 1) := by decide +kernel
theorem dX3_reread_31 : decode cX3_reread 31 = .ok (.iastore, 1) := by decide +kernel
theorem dX3_reread_32 : decode cX3_reread 32 = .ok (.aload_n 0, 1) := by decide +kernel
theorem dX3_reread_33 : decode cX3_reread 33 = .ok (.getfield 50, 3) := by decide +kernel
theorem dX3_reread_36 : decode cX3_reread 36 = .ok (.aload_n 0, 1) := by decide +kernel
theorem dX3_reread_37 : decode cX3_reread 37 = .ok (.getfield 57, 3) := by decide +kernel
theorem dX3_reread_40 : decode cX3_reread 40 = .ok (.iload_n 2, 1) := by decide +kernel
theorem dX3_reread_41 : decode cX3_reread 41 = .ok (.iastore, 1) := by decide +kernel
theorem dX3_reread_42 : decode cX3_reread 42 = .ok (.aload_n 0, 1) := by decide +kernel
theorem dX3_reread_43 : decode cX3_reread 43 = .ok (.dup, 1) := by decide +kernel
theorem dX3_reread_44 : decode cX3_reread 44 = .ok (.getfield 57, 3) := by decide +kernel
theorem dX3_reread_47 : decode cX3_reread 47 = .ok (.iconst 1, 1) := by decide +kernel
theorem dX3_reread_48 : decode cX3_reread 48 = .ok (.iadd, 1) := by decide +kernel
theorem dX3_reread_49 : decode cX3_reread 49 = .ok (.putfield 57, 3) := by decide +kernel
theorem dX3_reread_52 : decode cX3_reread 52 = .ok (.aload_n 0, 1) := by decide +kernel
theorem dX3_reread_53 : decode cX3_reread 53 = .ok (.getfield 32, 3) := by decide +kernel
theorem dX3_reread_56 : decode cX3_reread 56 = .ok (.iload_n 1, 1) := by decide +kernel
theorem dX3_reread_57 : decode cX3_reread 57 = .ok (.iload_n 2, 1) := by decide +kernel
theorem dX3_reread_58 : decode cX3_reread 58 = .ok (.iastore, 1) := by decide +kernel
theorem dX3_reread_59 : decode cX3_reread 59 = .ok (.aload_n 0, 1) := by decide +kernel
theorem dX3_reread_60 : decode cX3_reread 60 = .ok (.getfield 35, 3) := by decide +kernel
theorem dX3_reread_63 : decode cX3_reread 63 = .ok (.iload_n 1, 1) := by decide +kernel
theorem dX3_reread_64 : decode cX3_reread 64 = .ok (.dup2, 1) := by decide +kernel
theorem dX3_reread_65 : decode cX3_reread 65 = .ok (.iaload, 1) := by decide +kernel
theorem dX3_reread_66 : decode cX3_reread 66 = .ok (.iconst 1, 1) := by decide +kernel
theorem dX3_reread_67 : decode cX3_reread 67 = .ok (.iadd, 1) := by decide +kernel
theorem dX3_reread_68 : decode cX3_reread 68 = .ok (.iastore, 1) := by decide +kernel
theorem dX3_reread_69 : decode cX3_reread 69 = .ok (.aload_n 0, 1) := by decide +kernel
theorem dX3_reread_70 : decode cX3_reread 70 = .ok (.getfield 35, 3) := by decide +kernel
theorem dX3_reread_73 : decode cX3_reread 73 = .ok (.iload_n 1, 1) := by decide +kernel
theorem dX3_reread_74 : decode cX3_reread 74 = .ok (.iaload, 1) := by decide +kernel
theorem dX3_reread_75 : decode cX3_reread 75 = .ok (.ireturn, 1) := by decide +kernel
theorem dX3_knownOn_0 : decode cX3_knownOn 0 = .ok (.aload_n 0, 1) := by decide +kernel
theorem dX3_knownOn_1 : decode cX3_knownOn 1 = .ok (.getfield 29, 3) := by decide +kernel
theorem dX3_knownOn_4 : decode cX3_knownOn 4 = .ok (.iload_n 1, 1) := by decide +kernel
theorem dX3_knownOn_5 : decode cX3_knownOn 5 = .ok (.iaload, 1) := by decide +kernel
theorem dX3_knownOn_6 : decode cX3_knownOn 6 = .ok (.iload_n 2, 1) := by decide +kernel
theorem dX3_knownOn_7 : decode cX3_knownOn 7 = .ok (.if_icmp .le 6, 3) := by decide +kernel
theorem dX3_knownOn_10 : decode cX3_knownOn 10 = .ok (.bipush (-4), 2) := by decide +kernel
theorem dX3_knownOn_12 : decode cX3_knownOn 12 = .ok (.ireturn, 1) := by decide +kernel
theorem dX3_knownOn_13 : decode cX3_knownOn 13 = .ok (.aload_n 0, 1) := by decide +kernel
theorem dX3_knownOn_14 : decode cX3_knownOn 14 = .ok (.getfield 41, 3) := by decide +kernel
theorem dX3_knownOn_17 : decode cX3_knownOn 17 = .ok (.iload_n 1, 1) := by decide +kernel
theorem dX3_knownOn_18 : decode cX3_knownOn 18 = .ok (.iaload, 1) := by decide +kernel
theorem dX3_knownOn_19 : decode cX3_knownOn 19 = .ok (.istore_n 3, 1) := by decide +kernel
theorem dX3_knownOn_20 : decode cX3_knownOn 20 = .ok (.iconst 0, 1) := by decide +kernel
theorem dX3_knownOn_21 : decode cX3_knownOn 21 = .ok (.istore 4, 2) := by decide +kernel
theorem dX3_knownOn_23 : decode cX3_knownOn 23 = .ok (.iload 4, 2) := by decide +kernel
theorem dX3_knownOn_25 : decode cX3_knownOn 25 = .ok (.aload_n 0, 1) := by decide +kernel
theorem dX3_knownOn_26 : decode cX3_knownOn 26 = .ok (.getfield 57, 3) := by decide +kernel
theorem dX3_knownOn_29 : decode cX3_knownOn 29 = .ok (.if_icmp .ge 39, 3) := by decide +kernel
theorem dX3_knownOn_32 : decode cX3_knownOn 32 = .ok (.aload_n 0, 1) := by decide +kernel
theorem dX3_knownOn_33 : decode cX3_knownOn 33 = .ok (.getfield 44, 3) := by decide +kernel
theorem dX3_knownOn_36 : decode cX3_knownOn 36 = .ok (.iload 4, 2) := by decide +kernel
theorem dX3_knownOn_38 : decode cX3_knownOn 38 = .ok (.iaload, 1) := by decide +kernel
theorem dX3_knownOn_39 : decode cX3_knownOn 39 = .ok (.iload_n 1, 1) := by decide +kernel
theorem dX3_knownOn_40 : decode cX3_knownOn 40 = .ok (.if_icmp .ne 22, 3) := by decide +kernel
theorem dX3_knownOn_43 : decode cX3_knownOn 43 = .ok (.aload_n 0, 1) := by decide +kernel
theorem dX3_knownOn_44 : decode cX3_knownOn 44 = .ok (.getfield 47, 3) := by decide +kernel
theorem dX3_knownOn_47 : decode cX3_knownOn 47 = .ok (.iload 4, 2) := by decide +kernel
theorem dX3_knownOn_49 : decode cX3_knownOn 49 = .ok (.iaload, 1) := by decide +kernel
theorem dX3_knownOn_50 : decode cX3_knownOn 50 = .ok (.iload_n 2, 1) := by decide +kernel
theorem dX3_knownOn_51 : decode cX3_knownOn 51 = .ok (.if_icmp .gt 11, 3) := by decide +kernel
theorem dX3_knownOn_54 : decode cX3_knownOn 54 = .ok (.aload_n 0, 1) := by decide +kernel
theorem dX3_knownOn_55 : decode cX3_knownOn 55 = .ok (.getfield 50, 3) := by decide +kernel
theorem dX3_knownOn_58 : decode cX3_knownOn 58 = .ok (.iload 4, 2) := by decide +kernel
theorem dX3_knownOn_60 : decode cX3_knownOn 60 = .ok (.iaload, 1) := by decide +kernel
theorem dX3_knownOn_61 : decode cX3_knownOn 61 = .ok (.istore_n 3, 1) := by decide +kernel
theorem dX3_knownOn_62 : decode cX3_knownOn 62 = .ok (.iinc 4 1, 3) := by decide +kernel
theorem dX3_knownOn_65 : decode cX3_knownOn 65 = .ok (.goto (-42), 3) := by decide +kernel
theorem dX3_knownOn_68 : decode cX3_knownOn 68 = .ok (.iload_n 3, 1) := by decide +kernel
theorem dX3_knownOn_69 : decode cX3_knownOn 69 = .ok (.ireturn, 1) := by decide +kernel
theorem dX3_areIn_0 : decode cX3_areIn 0 = .ok (.iconst 0, 1) := by decide +kernel
theorem dX3_areIn_1 : decode cX3_areIn 1 = .ok (.istore_n 3, 1) := by decide +kernel
theorem dX3_areIn_2 : decode cX3_areIn 2 = .ok (.iload_n 3, 1) := by decide +kernel
theorem dX3_areIn_3 : decode cX3_areIn 3 = .ok (.aload_n 0, 1) := by decide +kernel
theorem dX3_areIn_4 : decode cX3_areIn 4 = .ok (.getfield 53, 3) := by decide +kernel
theorem dX3_areIn_7 : decode cX3_areIn 7 = .ok (.if_icmp .ge 31, 3) := by decide +kernel
theorem dX3_areIn_10 : decode cX3_areIn 10 = .ok (.aload_n 0, 1) := by decide +kernel
theorem dX3_areIn_11 : decode cX3_areIn 11 = .ok (.getfield 19, 3) := by decide +kernel
theorem dX3_areIn_14 : decode cX3_areIn 14 = .ok (.iload_n 3, 1) := by decide +kernel
theorem dX3_areIn_15 : decode cX3_areIn 15 = .ok (.iaload, 1) := by decide +kernel
theorem dX3_areIn_16 : decode cX3_areIn 16 = .ok (.iload_n 1, 1) := by decide +kernel
theorem dX3_areIn_17 : decode cX3_areIn 17 = .ok (.if_icmp .ne 15, 3) := by decide +kernel
theorem dX3_areIn_20 : decode cX3_areIn 20 = .ok (.aload_n 0, 1) := by decide +kernel
theorem dX3_areIn_21 : decode cX3_areIn 21 = .ok (.getfield 23, 3) := by decide +kernel
theorem dX3_areIn_24 : decode cX3_areIn 24 = .ok (.iload_n 3, 1) := by decide +kernel
theorem dX3_areIn_25 : decode cX3_areIn 25 = .ok (.iaload, 1) := by decide +kernel
theorem dX3_areIn_26 : decode cX3_areIn 26 = .ok (.iload_n 2, 1) := by decide +kernel
theorem dX3_areIn_27 : decode cX3_areIn 27 = .ok (.if_icmp .ne 5, 3) := by decide +kernel
theorem dX3_areIn_30 : decode cX3_areIn 30 = .ok (.iconst 1, 1) := by decide +kernel
theorem dX3_areIn_31 : decode cX3_areIn 31 = .ok (.ireturn, 1) := by decide +kernel
theorem dX3_areIn_32 : decode cX3_areIn 32 = .ok (.iinc 3 1, 3) := by decide +kernel
theorem dX3_areIn_35 : decode cX3_areIn 35 = .ok (.goto (-33), 3) := by decide +kernel
theorem dX3_areIn_38 : decode cX3_areIn 38 = .ok (.iconst 0, 1) := by decide +kernel
theorem dX3_areIn_39 : decode cX3_areIn 39 = .ok (.ireturn, 1) := by decide +kernel
theorem dX3_howManyIn_0 : decode cX3_howManyIn 0 = .ok (.iconst 0, 1) := by decide +kernel
theorem dX3_howManyIn_1 : decode cX3_howManyIn 1 = .ok (.istore_n 2, 1) := by decide +kernel
theorem dX3_howManyIn_2 : decode cX3_howManyIn 2 = .ok (.iconst 0, 1) := by decide +kernel
theorem dX3_howManyIn_3 : decode cX3_howManyIn 3 = .ok (.istore_n 3, 1) := by decide +kernel
theorem dX3_howManyIn_4 : decode cX3_howManyIn 4 = .ok (.iload_n 3, 1) := by decide +kernel
theorem dX3_howManyIn_5 : decode cX3_howManyIn 5 = .ok (.aload_n 0, 1) := by decide +kernel
theorem dX3_howManyIn_6 : decode cX3_howManyIn 6 = .ok (.getfield 53, 3) := by decide +kernel
theorem dX3_howManyIn_9 : decode cX3_howManyIn 9 = .ok (.if_icmp .ge 22, 3) := by decide +kernel
theorem dX3_howManyIn_12 : decode cX3_howManyIn 12 = .ok (.aload_n 0, 1) := by decide +kernel
theorem dX3_howManyIn_13 : decode cX3_howManyIn 13 = .ok (.getfield 19, 3) := by decide +kernel
theorem dX3_howManyIn_16 : decode cX3_howManyIn 16 = .ok (.iload_n 3, 1) := by decide +kernel
theorem dX3_howManyIn_17 : decode cX3_howManyIn 17 = .ok (.iaload, 1) := by decide +kernel
theorem dX3_howManyIn_18 : decode cX3_howManyIn 18 = .ok (.iload_n 1, 1) := by decide +kernel
theorem dX3_howManyIn_19 : decode cX3_howManyIn 19 = .ok (.if_icmp .ne 6, 3) := by decide +kernel
theorem dX3_howManyIn_22 : decode cX3_howManyIn 22 = .ok (.iinc 2 1, 3) := by decide +kernel
theorem dX3_howManyIn_25 : decode cX3_howManyIn 25 = .ok (.iinc 3 1, 3) := by decide +kernel
theorem dX3_howManyIn_28 : decode cX3_howManyIn 28 = .ok (.goto (-24), 3) := by decide +kernel
theorem dX3_howManyIn_31 : decode cX3_howManyIn 31 = .ok (.iload_n 2, 1) := by decide +kernel
theorem dX3_howManyIn_32 : decode cX3_howManyIn 32 = .ok (.ireturn, 1) := by decide +kernel
theorem dX3_nameOfLine_0 : decode cX3_nameOfLine 0 = .ok (.aload_n 0, 1) := by decide +kernel
theorem dX3_nameOfLine_1 : decode cX3_nameOfLine 1 = .ok (.getfield 9, 3) := by decide +kernel
theorem dX3_nameOfLine_4 : decode cX3_nameOfLine 4 = .ok (.getfield 60, 3) := by decide +kernel
theorem dX3_nameOfLine_7 : decode cX3_nameOfLine 7 = .ok (.aload_n 0, 1) := by decide +kernel
theorem dX3_nameOfLine_8 : decode cX3_nameOfLine 8 = .ok (.getfield 32, 3) := by decide +kernel
theorem dX3_nameOfLine_11 : decode cX3_nameOfLine 11 = .ok (.iload_n 1, 1) := by decide +kernel
theorem dX3_nameOfLine_12 : decode cX3_nameOfLine 12 = .ok (.iaload, 1) := by decide +kernel
theorem dX3_nameOfLine_13 : decode cX3_nameOfLine 13 = .ok (.iaload, 1) := by decide +kernel
theorem dX3_nameOfLine_14 : decode cX3_nameOfLine 14 = .ok (.ireturn, 1) := by decide +kernel
theorem dX3_howManyNames_0 : decode cX3_howManyNames 0 = .ok (.iconst 0, 1) := by decide +kernel
theorem dX3_howManyNames_1 : decode cX3_howManyNames 1 = .ok (.istore_n 1, 1) := by decide +kernel
theorem dX3_howManyNames_2 : decode cX3_howManyNames 2 = .ok (.iconst 0, 1) := by decide +kernel
theorem dX3_howManyNames_3 : decode cX3_howManyNames 3 = .ok (.istore_n 2, 1) := by decide +kernel
theorem dX3_howManyNames_4 : decode cX3_howManyNames 4 = .ok (.iload_n 2, 1) := by decide +kernel
theorem dX3_howManyNames_5 : decode cX3_howManyNames 5 = .ok (.aload_n 0, 1) := by decide +kernel
theorem dX3_howManyNames_6 : decode cX3_howManyNames 6 = .ok (.getfield 53, 3) := by decide +kernel
theorem dX3_howManyNames_9 : decode cX3_howManyNames 9 = .ok (.if_icmp .ge 19, 3) := by decide +kernel
theorem dX3_howManyNames_12 : decode cX3_howManyNames 12 = .ok (.iload_n 1, 1) := by decide +kernel
theorem dX3_howManyNames_13 : decode cX3_howManyNames 13 = .ok (.iconst 1, 1) := by decide +kernel
theorem dX3_howManyNames_14 : decode cX3_howManyNames 14 = .ok (.aload_n 0, 1) := by decide +kernel
theorem dX3_howManyNames_15 : decode cX3_howManyNames 15 = .ok (.iload_n 2, 1) := by decide +kernel
theorem dX3_howManyNames_16 : decode cX3_howManyNames 16 = .ok (.invokevirtual 65, 3) := by decide +kernel
theorem dX3_howManyNames_19 : decode cX3_howManyNames 19 = .ok (.ishl, 1) := by decide +kernel
theorem dX3_howManyNames_20 : decode cX3_howManyNames 20 = .ok (.ior, 1) := by decide +kernel
theorem dX3_howManyNames_21 : decode cX3_howManyNames 21 = .ok (.istore_n 1, 1) := by decide +kernel
theorem dX3_howManyNames_22 : decode cX3_howManyNames 22 = .ok (.iinc 2 1, 3) := by decide +kernel
theorem dX3_howManyNames_25 : decode cX3_howManyNames 25 = .ok (.goto (-21), 3) := by decide +kernel
theorem dX3_howManyNames_28 : decode cX3_howManyNames 28 = .ok (.iload_n 1, 1) := by decide +kernel
theorem dX3_howManyNames_29 : decode cX3_howManyNames 29 = .ok (.invokestatic 69, 3) := by decide +kernel
theorem dX3_howManyNames_32 : decode cX3_howManyNames 32 = .ok (.ireturn, 1) := by decide +kernel
theorem dX3_isAt_0 : decode cX3_isAt 0 = .ok (.aload_n 0, 1) := by decide +kernel
theorem dX3_isAt_1 : decode cX3_isAt 1 = .ok (.getfield 15, 3) := by decide +kernel
theorem dX3_isAt_4 : decode cX3_isAt 4 = .ok (.getfield 74, 3) := by decide +kernel
theorem dX3_isAt_7 : decode cX3_isAt 7 = .ok (.aload_n 0, 1) := by decide +kernel
theorem dX3_isAt_8 : decode cX3_isAt 8 = .ok (.getfield 19, 3) := by decide +kernel
theorem dX3_isAt_11 : decode cX3_isAt 11 = .ok (.iload_n 1, 1) := by decide +kernel
theorem dX3_isAt_12 : decode cX3_isAt 12 = .ok (.iaload, 1) := by decide +kernel
theorem dX3_isAt_13 : decode cX3_isAt 13 = .ok (.iaload, 1) := by decide +kernel
theorem dX3_isAt_14 : decode cX3_isAt 14 = .ok (.iload_n 3, 1) := by decide +kernel
theorem dX3_isAt_15 : decode cX3_isAt 15 = .ok (.if_icmp .ne 16, 3) := by decide +kernel
theorem dX3_isAt_18 : decode cX3_isAt 18 = .ok (.aload_n 0, 1) := by decide +kernel
theorem dX3_isAt_19 : decode cX3_isAt 19 = .ok (.iload_n 1, 1) := by decide +kernel
theorem dX3_isAt_20 : decode cX3_isAt 20 = .ok (.invokevirtual 65, 3) := by decide +kernel
theorem dX3_isAt_23 : decode cX3_isAt 23 = .ok (.iload_n 2, 1) := by decide +kernel
theorem dX3_isAt_24 : decode cX3_isAt 24 = .ok (.if_icmp .ne 7, 3) := by decide +kernel
theorem dX3_isAt_27 : decode cX3_isAt 27 = .ok (.iconst 1, 1) := by decide +kernel
theorem dX3_isAt_28 : decode cX3_isAt 28 = .ok (.goto 4, 3) := by decide +kernel
theorem dX3_isAt_31 : decode cX3_isAt 31 = .ok (.iconst 0, 1) := by decide +kernel
theorem dX3_isAt_32 : decode cX3_isAt 32 = .ok (.ireturn, 1) := by decide +kernel
theorem dX3_worth_0 : decode cX3_worth 0 = .ok (.iconst 0, 1) := by decide +kernel
theorem dX3_worth_1 : decode cX3_worth 1 = .ok (.istore 5, 2) := by decide +kernel
theorem dX3_worth_3 : decode cX3_worth 3 = .ok (.iconst 0, 1) := by decide +kernel
theorem dX3_worth_4 : decode cX3_worth 4 = .ok (.istore 6, 2) := by decide +kernel
theorem dX3_worth_6 : decode cX3_worth 6 = .ok (.iload 6, 2) := by decide +kernel
theorem dX3_worth_8 : decode cX3_worth 8 = .ok (.aload_n 0, 1) := by decide +kernel
theorem dX3_worth_9 : decode cX3_worth 9 = .ok (.getfield 53, 3) := by decide +kernel
theorem dX3_worth_12 : decode cX3_worth 12 = .ok (.if_icmp .ge 59, 3) := by decide +kernel
theorem dX3_worth_15 : decode cX3_worth 15 = .ok (.aload_n 0, 1) := by decide +kernel
theorem dX3_worth_16 : decode cX3_worth 16 = .ok (.getfield 23, 3) := by decide +kernel
theorem dX3_worth_19 : decode cX3_worth 19 = .ok (.iload 6, 2) := by decide +kernel
theorem dX3_worth_21 : decode cX3_worth 21 = .ok (.iaload, 1) := by decide +kernel
theorem dX3_worth_22 : decode cX3_worth 22 = .ok (.iload_n 3, 1) := by decide +kernel
theorem dX3_worth_23 : decode cX3_worth 23 = .ok (.if_icmp .lt 42, 3) := by decide +kernel
theorem dX3_worth_26 : decode cX3_worth 26 = .ok (.aload_n 0, 1) := by decide +kernel
theorem dX3_worth_27 : decode cX3_worth 27 = .ok (.getfield 23, 3) := by decide +kernel
theorem dX3_worth_30 : decode cX3_worth 30 = .ok (.iload 6, 2) := by decide +kernel
theorem dX3_worth_32 : decode cX3_worth 32 = .ok (.iaload, 1) := by decide +kernel
theorem dX3_worth_33 : decode cX3_worth 33 = .ok (.iload 4, 2) := by decide +kernel
theorem dX3_worth_35 : decode cX3_worth 35 = .ok (.if_icmp .gt 30, 3) := by decide +kernel
theorem dX3_worth_38 : decode cX3_worth 38 = .ok (.aload_n 0, 1) := by decide +kernel
theorem dX3_worth_39 : decode cX3_worth 39 = .ok (.iload 6, 2) := by decide +kernel
theorem dX3_worth_41 : decode cX3_worth 41 = .ok (.iload_n 1, 1) := by decide +kernel
theorem dX3_worth_42 : decode cX3_worth 42 = .ok (.iload_n 2, 1) := by decide +kernel
theorem dX3_worth_43 : decode cX3_worth 43 = .ok (.invokevirtual 79, 3) := by decide +kernel
theorem dX3_worth_46 : decode cX3_worth 46 = .ok (.ifCond .eq 19, 3) := by decide +kernel
theorem dX3_worth_49 : decode cX3_worth 49 = .ok (.iload 5, 2) := by decide +kernel
theorem dX3_worth_51 : decode cX3_worth 51 = .ok (.getstatic 83, 3) := by decide +kernel
theorem dX3_worth_54 : decode cX3_worth 54 = .ok (.aload_n 0, 1) := by decide +kernel
theorem dX3_worth_55 : decode cX3_worth 55 = .ok (.getfield 26, 3) := by decide +kernel
theorem dX3_worth_58 : decode cX3_worth 58 = .ok (.iload 6, 2) := by decide +kernel
theorem dX3_worth_60 : decode cX3_worth 60 = .ok (.iaload, 1) := by decide +kernel
theorem dX3_worth_61 : decode cX3_worth 61 = .ok (.iaload, 1) := by decide +kernel
theorem dX3_worth_62 : decode cX3_worth 62 = .ok (.iadd, 1) := by decide +kernel
theorem dX3_worth_63 : decode cX3_worth 63 = .ok (.istore 5, 2) := by decide +kernel
theorem dX3_worth_65 : decode cX3_worth 65 = .ok (.iinc 6 1, 3) := by decide +kernel
theorem dX3_worth_68 : decode cX3_worth 68 = .ok (.goto (-62), 3) := by decide +kernel
theorem dX3_worth_71 : decode cX3_worth 71 = .ok (.iload 5, 2) := by decide +kernel
theorem dX3_worth_73 : decode cX3_worth 73 = .ok (.ireturn, 1) := by decide +kernel
theorem dX3_firstYear_0 : decode cX3_firstYear 0 = .ok (.bipush (-4), 2) := by decide +kernel
theorem dX3_firstYear_2 : decode cX3_firstYear 2 = .ok (.istore_n 3, 1) := by decide +kernel
theorem dX3_firstYear_3 : decode cX3_firstYear 3 = .ok (.iconst 0, 1) := by decide +kernel
theorem dX3_firstYear_4 : decode cX3_firstYear 4 = .ok (.istore 4, 2) := by decide +kernel
theorem dX3_firstYear_6 : decode cX3_firstYear 6 = .ok (.iload 4, 2) := by decide +kernel
theorem dX3_firstYear_8 : decode cX3_firstYear 8 = .ok (.aload_n 0, 1) := by decide +kernel
theorem dX3_firstYear_9 : decode cX3_firstYear 9 = .ok (.getfield 53, 3) := by decide +kernel
theorem dX3_firstYear_12 : decode cX3_firstYear 12 = .ok (.if_icmp .ge 68, 3) := by decide +kernel
theorem dX3_firstYear_15 : decode cX3_firstYear 15 = .ok (.iload_n 3, 1) := by decide +kernel
theorem dX3_firstYear_16 : decode cX3_firstYear 16 = .ok (.bipush (-4), 2) := by decide +kernel
theorem dX3_firstYear_18 : decode cX3_firstYear 18 = .ok (.if_icmp .eq 14, 3) := by decide +kernel
theorem dX3_firstYear_21 : decode cX3_firstYear 21 = .ok (.aload_n 0, 1) := by decide +kernel
theorem dX3_firstYear_22 : decode cX3_firstYear 22 = .ok (.getfield 23, 3) := by decide +kernel
theorem dX3_firstYear_25 : decode cX3_firstYear 25 = .ok (.iload 4, 2) := by decide +kernel
theorem dX3_firstYear_27 : decode cX3_firstYear 27 = .ok (.iaload, 1) := by decide +kernel
theorem dX3_firstYear_28 : decode cX3_firstYear 28 = .ok (.iload_n 3, 1) := by decide +kernel
theorem dX3_firstYear_29 : decode cX3_firstYear 29 = .ok (.if_icmp .ge 7, 3) := by decide +kernel
theorem dX3_firstYear_32 : decode cX3_firstYear 32 = .ok (.iconst 1, 1) := by decide +kernel
theorem dX3_firstYear_33 : decode cX3_firstYear 33 = .ok (.goto 4, 3) := by decide +kernel
theorem dX3_firstYear_36 : decode cX3_firstYear 36 = .ok (.iconst 0, 1) := by decide +kernel
theorem dX3_firstYear_37 : decode cX3_firstYear 37 = .ok (.istore 5, 2) := by decide +kernel
theorem dX3_firstYear_39 : decode cX3_firstYear 39 = .ok (.iload 5, 2) := by decide +kernel
theorem dX3_firstYear_41 : decode cX3_firstYear 41 = .ok (.ifCond .eq 33, 3) := by decide +kernel
theorem dX3_firstYear_44 : decode cX3_firstYear 44 = .ok (.aload_n 0, 1) := by decide +kernel
theorem dX3_firstYear_45 : decode cX3_firstYear 45 = .ok (.getfield 26, 3) := by decide +kernel
theorem dX3_firstYear_48 : decode cX3_firstYear 48 = .ok (.iload 4, 2) := by decide +kernel
theorem dX3_firstYear_50 : decode cX3_firstYear 50 = .ok (.iaload, 1) := by decide +kernel
theorem dX3_firstYear_51 : decode cX3_firstYear 51 = .ok (.iconst 3, 1) := by decide +kernel
theorem dX3_firstYear_52 : decode cX3_firstYear 52 = .ok (.if_icmp .eq 22, 3) := by decide +kernel
theorem dX3_firstYear_55 : decode cX3_firstYear 55 = .ok (.aload_n 0, 1) := by decide +kernel
theorem dX3_firstYear_56 : decode cX3_firstYear 56 = .ok (.iload 4, 2) := by decide +kernel
theorem dX3_firstYear_58 : decode cX3_firstYear 58 = .ok (.iload_n 1, 1) := by decide +kernel
theorem dX3_firstYear_59 : decode cX3_firstYear 59 = .ok (.iload_n 2, 1) := by decide +kernel
theorem dX3_firstYear_60 : decode cX3_firstYear 60 = .ok (.invokevirtual 79, 3) := by decide +kernel
theorem dX3_firstYear_63 : decode cX3_firstYear 63 = .ok (.ifCond .eq 11, 3) := by decide +kernel
theorem dX3_firstYear_66 : decode cX3_firstYear 66 = .ok (.aload_n 0, 1) := by decide +kernel
theorem dX3_firstYear_67 : decode cX3_firstYear 67 = .ok (.getfield 23, 3) := by decide +kernel
theorem dX3_firstYear_70 : decode cX3_firstYear 70 = .ok (.iload 4, 2) := by decide +kernel
theorem dX3_firstYear_72 : decode cX3_firstYear 72 = .ok (.iaload, 1) := by decide +kernel
theorem dX3_firstYear_73 : decode cX3_firstYear 73 = .ok (.istore_n 3, 1) := by decide +kernel
theorem dX3_firstYear_74 : decode cX3_firstYear 74 = .ok (.iinc 4 1, 3) := by decide +kernel
theorem dX3_firstYear_77 : decode cX3_firstYear 77 = .ok (.goto (-71), 3) := by decide +kernel
theorem dX3_firstYear_80 : decode cX3_firstYear 80 = .ok (.iload_n 3, 1) := by decide +kernel
theorem dX3_firstYear_81 : decode cX3_firstYear 81 = .ok (.ireturn, 1) := by decide +kernel
theorem dX3_mayBeFather_0 : decode cX3_mayBeFather 0 = .ok (.aload_n 0, 1) := by decide +kernel
theorem dX3_mayBeFather_1 : decode cX3_mayBeFather 1 = .ok (.getfield 23, 3) := by decide +kernel
theorem dX3_mayBeFather_4 : decode cX3_mayBeFather 4 = .ok (.iload_n 2, 1) := by decide +kernel
theorem dX3_mayBeFather_5 : decode cX3_mayBeFather 5 = .ok (.iaload, 1) := by decide +kernel
theorem dX3_mayBeFather_6 : decode cX3_mayBeFather 6 = .ok (.aload_n 0, 1) := by decide +kernel
theorem dX3_mayBeFather_7 : decode cX3_mayBeFather 7 = .ok (.getfield 23, 3) := by decide +kernel
theorem dX3_mayBeFather_10 : decode cX3_mayBeFather 10 = .ok (.iload_n 1, 1) := by decide +kernel
theorem dX3_mayBeFather_11 : decode cX3_mayBeFather 11 = .ok (.iaload, 1) := by decide +kernel
theorem dX3_mayBeFather_12 : decode cX3_mayBeFather 12 = .ok (.bipush 15, 2) := by decide +kernel
theorem dX3_mayBeFather_14 : decode cX3_mayBeFather 14 = .ok (.isub, 1) := by decide +kernel
theorem dX3_mayBeFather_15 : decode cX3_mayBeFather 15 = .ok (.if_icmp .gt 7, 3) := by decide +kernel
theorem dX3_mayBeFather_18 : decode cX3_mayBeFather 18 = .ok (.iconst 1, 1) := by decide +kernel
theorem dX3_mayBeFather_19 : decode cX3_mayBeFather 19 = .ok (.goto 4, 3) := by decide +kernel
theorem dX3_mayBeFather_22 : decode cX3_mayBeFather 22 = .ok (.iconst 0, 1) := by decide +kernel
theorem dX3_mayBeFather_23 : decode cX3_mayBeFather 23 = .ok (.ireturn, 1) := by decide +kernel
theorem dX3_stepsUp_0 : decode cX3_stepsUp 0 = .ok (.iload_n 1, 1) := by decide +kernel
theorem dX3_stepsUp_1 : decode cX3_stepsUp 1 = .ok (.istore_n 3, 1) := by decide +kernel
theorem dX3_stepsUp_2 : decode cX3_stepsUp 2 = .ok (.iconst 0, 1) := by decide +kernel
theorem dX3_stepsUp_3 : decode cX3_stepsUp 3 = .ok (.istore 4, 2) := by decide +kernel
theorem dX3_stepsUp_5 : decode cX3_stepsUp 5 = .ok (.iload 4, 2) := by decide +kernel
theorem dX3_stepsUp_7 : decode cX3_stepsUp 7 = .ok (.bipush 40, 2) := by decide +kernel
theorem dX3_stepsUp_9 : decode cX3_stepsUp 9 = .ok (.if_icmp .ge 30, 3) := by decide +kernel
theorem dX3_stepsUp_12 : decode cX3_stepsUp 12 = .ok (.iload_n 3, 1) := by decide +kernel
theorem dX3_stepsUp_13 : decode cX3_stepsUp 13 = .ok (.bipush (-4), 2) := by decide +kernel
theorem dX3_stepsUp_15 : decode cX3_stepsUp 15 = .ok (.if_icmp .eq 24, 3) := by decide +kernel
theorem dX3_stepsUp_18 : decode cX3_stepsUp 18 = .ok (.iload_n 3, 1) := by decide +kernel
theorem dX3_stepsUp_19 : decode cX3_stepsUp 19 = .ok (.iload_n 2, 1) := by decide +kernel
theorem dX3_stepsUp_20 : decode cX3_stepsUp 20 = .ok (.if_icmp .ne 6, 3) := by decide +kernel
theorem dX3_stepsUp_23 : decode cX3_stepsUp 23 = .ok (.iload 4, 2) := by decide +kernel
theorem dX3_stepsUp_25 : decode cX3_stepsUp 25 = .ok (.ireturn, 1) := by decide +kernel
theorem dX3_stepsUp_26 : decode cX3_stepsUp 26 = .ok (.aload_n 0, 1) := by decide +kernel
theorem dX3_stepsUp_27 : decode cX3_stepsUp 27 = .ok (.getfield 38, 3) := by decide +kernel
theorem dX3_stepsUp_30 : decode cX3_stepsUp 30 = .ok (.iload_n 3, 1) := by decide +kernel
theorem dX3_stepsUp_31 : decode cX3_stepsUp 31 = .ok (.iaload, 1) := by decide +kernel
theorem dX3_stepsUp_32 : decode cX3_stepsUp 32 = .ok (.istore_n 3, 1) := by decide +kernel
theorem dX3_stepsUp_33 : decode cX3_stepsUp 33 = .ok (.iinc 4 1, 3) := by decide +kernel
theorem dX3_stepsUp_36 : decode cX3_stepsUp 36 = .ok (.goto (-31), 3) := by decide +kernel
theorem dX3_stepsUp_39 : decode cX3_stepsUp 39 = .ok (.bipush (-4), 2) := by decide +kernel
theorem dX3_stepsUp_41 : decode cX3_stepsUp 41 = .ok (.ireturn, 1) := by decide +kernel
theorem dX3_stepsBetween_0 : decode cX3_stepsBetween 0 = .ok (.iload_n 1, 1) := by decide +kernel
theorem dX3_stepsBetween_1 : decode cX3_stepsBetween 1 = .ok (.istore_n 3, 1) := by decide +kernel
theorem dX3_stepsBetween_2 : decode cX3_stepsBetween 2 = .ok (.iconst 0, 1) := by decide +kernel
theorem dX3_stepsBetween_3 : decode cX3_stepsBetween 3 = .ok (.istore 4, 2) := by decide +kernel
theorem dX3_stepsBetween_5 : decode cX3_stepsBetween 5 = .ok (.iload 4, 2) := by decide +kernel
theorem dX3_stepsBetween_7 : decode cX3_stepsBetween 7 = .ok (.bipush 40, 2) := by decide +kernel
theorem dX3_stepsBetween_9 : decode cX3_stepsBetween 9 = .ok (.if_icmp .ge 43, 3) := by decide +kernel
theorem dX3_stepsBetween_12 : decode cX3_stepsBetween 12 = .ok (.iload_n 3, 1) := by decide +kernel
theorem dX3_stepsBetween_13 : decode cX3_stepsBetween 13 = .ok (.bipush (-4), 2) := by decide +kernel
theorem dX3_stepsBetween_15 : decode cX3_stepsBetween 15 = .ok (.if_icmp .eq 37, 3) := by decide +kernel
theorem dX3_stepsBetween_18 : decode cX3_stepsBetween 18 = .ok (.aload_n 0, 1) := by decide +kernel
theorem dX3_stepsBetween_19 : decode cX3_stepsBetween 19 = .ok (.iload_n 2, 1) := by decide +kernel
theorem dX3_stepsBetween_20 : decode cX3_stepsBetween 20 = .ok (.iload_n 3, 1) := by decide +kernel
theorem dX3_stepsBetween_21 : decode cX3_stepsBetween 21 = .ok (.invokevirtual 86, 3) := by decide +kernel
theorem dX3_stepsBetween_24 : decode cX3_stepsBetween 24 = .ok (.istore 5, 2) := by decide +kernel
theorem dX3_stepsBetween_26 : decode cX3_stepsBetween 26 = .ok (.iload 5, 2) := by decide +kernel
theorem dX3_stepsBetween_28 : decode cX3_stepsBetween 28 = .ok (.bipush (-4), 2) := by decide +kernel
theorem dX3_stepsBetween_30 : decode cX3_stepsBetween 30 = .ok (.if_icmp .eq 9, 3) := by decide +kernel
theorem dX3_stepsBetween_33 : decode cX3_stepsBetween 33 = .ok (.iload 4, 2) := by decide +kernel
theorem dX3_stepsBetween_35 : decode cX3_stepsBetween 35 = .ok (.iload 5, 2) := by decide +kernel
theorem dX3_stepsBetween_37 : decode cX3_stepsBetween 37 = .ok (.iadd, 1) := by decide +kernel
theorem dX3_stepsBetween_38 : decode cX3_stepsBetween 38 = .ok (.ireturn, 1) := by decide +kernel
theorem dX3_stepsBetween_39 : decode cX3_stepsBetween 39 = .ok (.aload_n 0, 1) := by decide +kernel
theorem dX3_stepsBetween_40 : decode cX3_stepsBetween 40 = .ok (.getfield 38, 3) := by decide +kernel
theorem dX3_stepsBetween_43 : decode cX3_stepsBetween 43 = .ok (.iload_n 3, 1) := by decide +kernel
theorem dX3_stepsBetween_44 : decode cX3_stepsBetween 44 = .ok (.iaload, 1) := by decide +kernel
theorem dX3_stepsBetween_45 : decode cX3_stepsBetween 45 = .ok (.istore_n 3, 1) := by decide +kernel
theorem dX3_stepsBetween_46 : decode cX3_stepsBetween 46 = .ok (.iinc 4 1, 3) := by decide +kernel
theorem dX3_stepsBetween_49 : decode cX3_stepsBetween 49 = .ok (.goto (-44), 3) := by decide +kernel
theorem dX3_stepsBetween_52 : decode cX3_stepsBetween 52 = .ok (.bipush (-4), 2) := by decide +kernel
theorem dX3_stepsBetween_54 : decode cX3_stepsBetween 54 = .ok (.ireturn, 1) := by decide +kernel
theorem dX3_descendants_0 : decode cX3_descendants 0 = .ok (.iconst 0, 1) := by decide +kernel
theorem dX3_descendants_1 : decode cX3_descendants 1 = .ok (.istore_n 2, 1) := by decide +kernel
theorem dX3_descendants_2 : decode cX3_descendants 2 = .ok (.iconst 0, 1) := by decide +kernel
theorem dX3_descendants_3 : decode cX3_descendants 3 = .ok (.istore_n 3, 1) := by decide +kernel
theorem dX3_descendants_4 : decode cX3_descendants 4 = .ok (.iload_n 3, 1) := by decide +kernel
theorem dX3_descendants_5 : decode cX3_descendants 5 = .ok (.aload_n 0, 1) := by decide +kernel
theorem dX3_descendants_6 : decode cX3_descendants 6 = .ok (.getfield 53, 3) := by decide +kernel
theorem dX3_descendants_9 : decode cX3_descendants 9 = .ok (.if_icmp .ge 28, 3) := by decide +kernel
theorem dX3_descendants_12 : decode cX3_descendants 12 = .ok (.iload_n 3, 1) := by decide +kernel
theorem dX3_descendants_13 : decode cX3_descendants 13 = .ok (.iload_n 1, 1) := by decide +kernel
theorem dX3_descendants_14 : decode cX3_descendants 14 = .ok (.if_icmp .eq 17, 3) := by decide +kernel
theorem dX3_descendants_17 : decode cX3_descendants 17 = .ok (.aload_n 0, 1) := by decide +kernel
theorem dX3_descendants_18 : decode cX3_descendants 18 = .ok (.iload_n 3, 1) := by decide +kernel
theorem dX3_descendants_19 : decode cX3_descendants 19 = .ok (.iload_n 1, 1) := by decide +kernel
theorem dX3_descendants_20 : decode cX3_descendants 20 = .ok (.invokevirtual 86, 3) := by decide +kernel
theorem dX3_descendants_23 : decode cX3_descendants 23 = .ok (.bipush (-4), 2) := by decide +kernel
theorem dX3_descendants_25 : decode cX3_descendants 25 = .ok (.if_icmp .eq 6, 3) := by decide +kernel
theorem dX3_descendants_28 : decode cX3_descendants 28 = .ok (.iinc 2 1, 3) := by decide +kernel
theorem dX3_descendants_31 : decode cX3_descendants 31 = .ok (.iinc 3 1, 3) := by decide +kernel
theorem dX3_descendants_34 : decode cX3_descendants 34 = .ok (.goto (-30), 3) := by decide +kernel
theorem dX3_descendants_37 : decode cX3_descendants 37 = .ok (.iload_n 2, 1) := by decide +kernel
theorem dX3_descendants_38 : decode cX3_descendants 38 = .ok (.ireturn, 1) := by decide +kernel
theorem dX3_renamedDescendants_0 : decode cX3_renamedDescendants 0 = .ok (.iconst 0, 1) := by decide +kernel
theorem dX3_renamedDescendants_1 : decode cX3_renamedDescendants 1 = .ok (.istore_n 2, 1) := by decide +kernel
theorem dX3_renamedDescendants_2 : decode cX3_renamedDescendants 2 = .ok (.iconst 0, 1) := by decide +kernel
theorem dX3_renamedDescendants_3 : decode cX3_renamedDescendants 3 = .ok (.istore_n 3, 1) := by decide +kernel
theorem dX3_renamedDescendants_4 : decode cX3_renamedDescendants 4 = .ok (.iload_n 3, 1) := by decide +kernel
theorem dX3_renamedDescendants_5 : decode cX3_renamedDescendants 5 = .ok (.aload_n 0, 1) := by decide +kernel
theorem dX3_renamedDescendants_6 : decode cX3_renamedDescendants 6 = .ok (.getfield 53, 3) := by decide +kernel
theorem dX3_renamedDescendants_9 : decode cX3_renamedDescendants 9 = .ok (.if_icmp .ge 36, 3) := by decide +kernel
theorem dX3_renamedDescendants_12 : decode cX3_renamedDescendants 12 = .ok (.aload_n 0, 1) := by decide +kernel
theorem dX3_renamedDescendants_13 : decode cX3_renamedDescendants 13 = .ok (.iload_n 3, 1) := by decide +kernel
theorem dX3_renamedDescendants_14 : decode cX3_renamedDescendants 14 = .ok (.invokevirtual 65, 3) := by decide +kernel
theorem dX3_renamedDescendants_17 : decode cX3_renamedDescendants 17 = .ok (.aload_n 0, 1) := by decide +kernel
theorem dX3_renamedDescendants_18 : decode cX3_renamedDescendants 18 = .ok (.iload_n 1, 1) := by decide +kernel
theorem dX3_renamedDescendants_19 : decode cX3_renamedDescendants 19 = .ok (.invokevirtual 65, 3) := by decide +kernel
theorem dX3_renamedDescendants_22 : decode cX3_renamedDescendants 22 = .ok (.if_icmp .eq 17, 3) := by decide +kernel
theorem dX3_renamedDescendants_25 : decode cX3_renamedDescendants 25 = .ok (.aload_n 0, 1) := by decide +kernel
theorem dX3_renamedDescendants_26 : decode cX3_renamedDescendants 26 = .ok (.iload_n 3, 1) := by decide +kernel
theorem dX3_renamedDescendants_27 : decode cX3_renamedDescendants 27 = .ok (.iload_n 1, 1) := by decide +kernel
theorem dX3_renamedDescendants_28 : decode cX3_renamedDescendants 28 = .ok (.invokevirtual 86, 3) := by decide +kernel
theorem dX3_renamedDescendants_31 : decode cX3_renamedDescendants 31 = .ok (.bipush (-4), 2) := by decide +kernel
theorem dX3_renamedDescendants_33 : decode cX3_renamedDescendants 33 = .ok (.if_icmp .eq 6, 3) := by decide +kernel
theorem dX3_renamedDescendants_36 : decode cX3_renamedDescendants 36 = .ok (.iinc 2 1, 3) := by decide +kernel
theorem dX3_renamedDescendants_39 : decode cX3_renamedDescendants 39 = .ok (.iinc 3 1, 3) := by decide +kernel
theorem dX3_renamedDescendants_42 : decode cX3_renamedDescendants 42 = .ok (.goto (-38), 3) := by decide +kernel
theorem dX3_renamedDescendants_45 : decode cX3_renamedDescendants 45 = .ok (.iload_n 2, 1) := by decide +kernel
theorem dX3_renamedDescendants_46 : decode cX3_renamedDescendants 46 = .ok (.ireturn, 1) := by decide +kernel
theorem dX3_longestDescent_0 : decode cX3_longestDescent 0 = .ok (.iconst 0, 1) := by decide +kernel
theorem dX3_longestDescent_1 : decode cX3_longestDescent 1 = .ok (.istore_n 2, 1) := by decide +kernel
theorem dX3_longestDescent_2 : decode cX3_longestDescent 2 = .ok (.iconst 0, 1) := by decide +kernel
theorem dX3_longestDescent_3 : decode cX3_longestDescent 3 = .ok (.istore_n 3, 1) := by decide +kernel
theorem dX3_longestDescent_4 : decode cX3_longestDescent 4 = .ok (.iload_n 3, 1) := by decide +kernel
theorem dX3_longestDescent_5 : decode cX3_longestDescent 5 = .ok (.aload_n 0, 1) := by decide +kernel
theorem dX3_longestDescent_6 : decode cX3_longestDescent 6 = .ok (.getfield 53, 3) := by decide +kernel
theorem dX3_longestDescent_9 : decode cX3_longestDescent 9 = .ok (.if_icmp .ge 20, 3) := by decide +kernel
theorem dX3_longestDescent_12 : decode cX3_longestDescent 12 = .ok (.iload_n 2, 1) := by decide +kernel
theorem dX3_longestDescent_13 : decode cX3_longestDescent 13 = .ok (.aload_n 0, 1) := by decide +kernel
theorem dX3_longestDescent_14 : decode cX3_longestDescent 14 = .ok (.iload_n 3, 1) := by decide +kernel
theorem dX3_longestDescent_15 : decode cX3_longestDescent 15 = .ok (.iload_n 1, 1) := by decide +kernel
theorem dX3_longestDescent_16 : decode cX3_longestDescent 16 = .ok (.invokevirtual 86, 3) := by decide +kernel
theorem dX3_longestDescent_19 : decode cX3_longestDescent 19 = .ok (.invokestatic 90, 3) := by decide +kernel
theorem dX3_longestDescent_22 : decode cX3_longestDescent 22 = .ok (.istore_n 2, 1) := by decide +kernel
theorem dX3_longestDescent_23 : decode cX3_longestDescent 23 = .ok (.iinc 3 1, 3) := by decide +kernel
theorem dX3_longestDescent_26 : decode cX3_longestDescent 26 = .ok (.goto (-22), 3) := by decide +kernel
theorem dX3_longestDescent_29 : decode cX3_longestDescent 29 = .ok (.iload_n 2, 1) := by decide +kernel
theorem dX3_longestDescent_30 : decode cX3_longestDescent 30 = .ok (.ireturn, 1) := by decide +kernel
theorem dX4_init_0 : decode cX4_init 0 = .ok (.aload_n 0, 1) := by decide +kernel
theorem dX4_init_1 : decode cX4_init 1 = .ok (.invokespecial 3, 3) := by decide +kernel
theorem dX4_init_4 : decode cX4_init 4 = .ok (.aload_n 0, 1) := by decide +kernel
theorem dX4_init_5 : decode cX4_init 5 = .ok (.aload_n 1, 1) := by decide +kernel
theorem dX4_init_6 : decode cX4_init 6 = .ok (.putfield 9, 3) := by decide +kernel
theorem dX4_init_9 : decode cX4_init 9 = .ok (.aload_n 0, 1) := by decide +kernel
theorem dX4_init_10 : decode cX4_init 10 = .ok (.aload_n 2, 1) := by decide +kernel
theorem dX4_init_11 : decode cX4_init 11 = .ok (.putfield 15, 3) := by decide +kernel
theorem dX4_init_14 : decode cX4_init 14 = .ok (.aload_n 0, 1) := by decide +kernel
theorem dX4_init_15 : decode cX4_init 15 = .ok (.bipush 8, 2) := by decide +kernel
theorem dX4_init_17 : decode cX4_init 17 = .ok (.newarray .int, 2) := by decide +kernel
theorem dX4_init_19 : decode cX4_init 19 = .ok (.putfield 21, 3) := by decide +kernel
theorem dX4_init_22 : decode cX4_init 22 = .ok (.aload_n 0, 1) := by decide +kernel
theorem dX4_init_23 : decode cX4_init 23 = .ok (.bipush 8, 2) := by decide +kernel
theorem dX4_init_25 : decode cX4_init 25 = .ok (.newarray .int, 2) := by decide +kernel
theorem dX4_init_27 : decode cX4_init 27 = .ok (.putfield 25, 3) := by decide +kernel
theorem dX4_init_30 : decode cX4_init 30 = .ok (.return_, 1) := by decide +kernel
theorem dX4_gather_0 : decode cX4_gather 0 = .ok (.aload_n 0, 1) := by decide +kernel
theorem dX4_gather_1 : decode cX4_gather 1 = .ok (.iconst 0, 1) := by decide +kernel
theorem dX4_gather_2 : decode cX4_gather 2 = .ok (.putfield 28, 3) := by decide +kernel
theorem dX4_gather_5 : decode cX4_gather 5 = .ok (.iconst 0, 1) := by decide +kernel
theorem dX4_gather_6 : decode cX4_gather 6 = .ok (.istore_n 2, 1) := by decide +kernel
theorem dX4_gather_7 : decode cX4_gather 7 = .ok (.iload_n 2, 1) := by decide +kernel
theorem dX4_gather_8 : decode cX4_gather 8 = .ok (.aload_n 0, 1) := by decide +kernel
theorem dX4_gather_9 : decode cX4_gather 9 = .ok (.getfield 15, 3) := by decide +kernel
theorem dX4_gather_12 : decode cX4_gather 12 = .ok (.getfield 32, 3) := by decide +kernel
theorem dX4_gather_15 : decode cX4_gather 15 = .ok (.if_icmp .ge 47, 3) := by decide +kernel
theorem dX4_gather_18 : decode cX4_gather 18 = .ok (.aload_n 0, 1) := by decide +kernel
theorem dX4_gather_19 : decode cX4_gather 19 = .ok (.getfield 21, 3) := by decide +kernel
theorem dX4_gather_22 : decode cX4_gather 22 = .ok (.iload_n 2, 1) := by decide +kernel
theorem dX4_gather_23 : decode cX4_gather 23 = .ok (.aload_n 0, 1) := by decide +kernel
theorem dX4_gather_24 : decode cX4_gather 24 = .ok (.getfield 9, 3) := by decide +kernel
theorem dX4_gather_27 : decode cX4_gather 27 = .ok (.iload_n 1, 1) := by decide +kernel
theorem dX4_gather_28 : decode cX4_gather 28 = .ok (.iload_n 2, 1) := by decide +kernel
theorem dX4_gather_29 : decode cX4_gather 29 = .ok (.invokevirtual 35, 3) := by decide +kernel
theorem dX4_gather_32 : decode cX4_gather 32 = .ok (.iastore, 1) := by decide +kernel
theorem dX4_gather_33 : decode cX4_gather 33 = .ok (.aload_n 0, 1) := by decide +kernel
theorem dX4_gather_34 : decode cX4_gather 34 = .ok (.getfield 21, 3) := by decide +kernel
theorem dX4_gather_37 : decode cX4_gather 37 = .ok (.iload_n 2, 1) := by decide +kernel
theorem dX4_gather_38 : decode cX4_gather 38 = .ok (.iaload, 1) := by decide +kernel
theorem dX4_gather_39 : decode cX4_gather 39 = .ok (.bipush (-4), 2) := by decide +kernel
theorem dX4_gather_41 : decode cX4_gather 41 = .ok (.if_icmp .eq 15, 3) := by decide +kernel
theorem dX4_gather_44 : decode cX4_gather 44 = .ok (.aload_n 0, 1) := by decide +kernel
theorem dX4_gather_45 : decode cX4_gather 45 = .ok (.dup, 1) := by decide +kernel
theorem dX4_gather_46 : decode cX4_gather 46 = .ok (.getfield 28, 3) := by decide +kernel
theorem dX4_gather_49 : decode cX4_gather 49 = .ok (.iconst 1, 1) := by decide +kernel
theorem dX4_gather_50 : decode cX4_gather 50 = .ok (.iload_n 2, 1) := by decide +kernel
theorem dX4_gather_51 : decode cX4_gather 51 = .ok (.ishl, 1) := by decide +kernel
theorem dX4_gather_52 : decode cX4_gather 52 = .ok (.ior, 1) := by decide +kernel
theorem dX4_gather_53 : decode cX4_gather 53 = .ok (.putfield 28, 3) := by decide +kernel
theorem dX4_gather_56 : decode cX4_gather 56 = .ok (.iinc 2 1, 3) := by decide +kernel
theorem dX4_gather_59 : decode cX4_gather 59 = .ok (.goto (-52), 3) := by decide +kernel
theorem dX4_gather_62 : decode cX4_gather 62 = .ok (.return_, 1) := by decide +kernel
theorem dX4_isPresent_0 : decode cX4_isPresent 0 = .ok (.aload_n 0, 1) := by decide +kernel
theorem dX4_isPresent_1 : decode cX4_isPresent 1 = .ok (.getfield 28, 3) := by decide +kernel
theorem dX4_isPresent_4 : decode cX4_isPresent 4 = .ok (.iload_n 1, 1) := by decide +kernel
theorem dX4_isPresent_5 : decode cX4_isPresent 5 = .ok (.ishr, 1) := by decide +kernel
theorem dX4_isPresent_6 : decode cX4_isPresent 6 = .ok (.iconst 1, 1) := by decide +kernel
theorem dX4_isPresent_7 : decode cX4_isPresent 7 = .ok (.iand, 1) := by decide +kernel
theorem dX4_isPresent_8 : decode cX4_isPresent 8 = .ok (.iconst 1, 1) := by decide +kernel
theorem dX4_isPresent_9 : decode cX4_isPresent 9 = .ok (.if_icmp .ne 7, 3) := by decide +kernel
theorem dX4_isPresent_12 : decode cX4_isPresent 12 = .ok (.iconst 1, 1) := by decide +kernel
theorem dX4_isPresent_13 : decode cX4_isPresent 13 = .ok (.goto 4, 3) := by decide +kernel
theorem dX4_isPresent_16 : decode cX4_isPresent 16 = .ok (.iconst 0, 1) := by decide +kernel
theorem dX4_isPresent_17 : decode cX4_isPresent 17 = .ok (.ireturn, 1) := by decide +kernel
theorem dX4_spread_0 : decode cX4_spread 0 = .ok (.iconst 0, 1) := by decide +kernel
theorem dX4_spread_1 : decode cX4_spread 1 = .ok (.istore_n 2, 1) := by decide +kernel
theorem dX4_spread_2 : decode cX4_spread 2 = .ok (.iload_n 2, 1) := by decide +kernel
theorem dX4_spread_3 : decode cX4_spread 3 = .ok (.aload_n 0, 1) := by decide +kernel
theorem dX4_spread_4 : decode cX4_spread 4 = .ok (.getfield 15, 3) := by decide +kernel
theorem dX4_spread_7 : decode cX4_spread 7 = .ok (.getfield 32, 3) := by decide +kernel
theorem dX4_spread_10 : decode cX4_spread 10 = .ok (.if_icmp .ge 33, 3) := by decide +kernel
theorem dX4_spread_13 : decode cX4_spread 13 = .ok (.aload_n 0, 1) := by decide +kernel
theorem dX4_spread_14 : decode cX4_spread 14 = .ok (.getfield 25, 3) := by decide +kernel
theorem dX4_spread_17 : decode cX4_spread 17 = .ok (.iload_n 2, 1) := by decide +kernel
theorem dX4_spread_18 : decode cX4_spread 18 = .ok (.aload_n 0, 1) := by decide +kernel
theorem dX4_spread_19 : decode cX4_spread 19 = .ok (.iload_n 2, 1) := by decide +kernel
theorem dX4_spread_20 : decode cX4_spread 20 = .ok (.invokevirtual 41, 3) := by decide +kernel
theorem dX4_spread_23 : decode cX4_spread 23 = .ok (.ifCond .eq 12, 3) := by decide +kernel
theorem dX4_spread_26 : decode cX4_spread 26 = .ok (.aload_n 0, 1) := by decide +kernel
theorem dX4_spread_27 : decode cX4_spread 27 = .ok (.iload_n 2, 1) := by decide +kernel
theorem dX4_spread_28 : decode cX4_spread 28 = .ok (.iload_n 1, 1) := by decide +kernel
theorem dX4_spread_29 : decode cX4_spread 29 = .ok (.invokevirtual 45, 3) := by decide +kernel
theorem dX4_spread_32 : decode cX4_spread 32 = .ok (.goto 4, 3) := by decide +kernel
theorem dX4_spread_35 : decode cX4_spread 35 = .ok (.iconst 0, 1) := by decide +kernel
theorem dX4_spread_36 : decode cX4_spread 36 = .ok (.iastore, 1) := by decide +kernel
theorem dX4_spread_37 : decode cX4_spread 37 = .ok (.iinc 2 1, 3) := by decide +kernel
theorem dX4_spread_40 : decode cX4_spread 40 = .ok (.goto (-38), 3) := by decide +kernel
theorem dX4_spread_43 : decode cX4_spread 43 = .ok (.return_, 1) := by decide +kernel
theorem dX4_reachOf_0 : decode cX4_reachOf 0 = .ok (.iconst 1, 1) := by decide +kernel
theorem dX4_reachOf_1 : decode cX4_reachOf 1 = .ok (.iload_n 1, 1) := by decide +kernel
theorem dX4_reachOf_2 : decode cX4_reachOf 2 = .ok (.ishl, 1) := by decide +kernel
theorem dX4_reachOf_3 : decode cX4_reachOf 3 = .ok (.istore_n 3, 1) := by decide +kernel
theorem dX4_reachOf_4 : decode cX4_reachOf 4 = .ok (.iconst 0, 1) := by decide +kernel
theorem dX4_reachOf_5 : decode cX4_reachOf 5 = .ok (.istore 4, 2) := by decide +kernel
theorem dX4_reachOf_7 : decode cX4_reachOf 7 = .ok (.iload 4, 2) := by decide +kernel
theorem dX4_reachOf_9 : decode cX4_reachOf 9 = .ok (.aload_n 0, 1) := by decide +kernel
theorem dX4_reachOf_10 : decode cX4_reachOf 10 = .ok (.getfield 15, 3) := by decide +kernel
theorem dX4_reachOf_13 : decode cX4_reachOf 13 = .ok (.getfield 32, 3) := by decide +kernel
theorem dX4_reachOf_16 : decode cX4_reachOf 16 = .ok (.if_icmp .ge 63, 3) := by decide +kernel
theorem dX4_reachOf_19 : decode cX4_reachOf 19 = .ok (.aload_n 0, 1) := by decide +kernel
theorem dX4_reachOf_20 : decode cX4_reachOf 20 = .ok (.getfield 15, 3) := by decide +kernel
theorem dX4_reachOf_23 : decode cX4_reachOf 23 = .ok (.iload_n 1, 1) := by decide +kernel
theorem dX4_reachOf_24 : decode cX4_reachOf 24 = .ok (.iload 4, 2) := by decide +kernel
theorem dX4_reachOf_26 : decode cX4_reachOf 26 = .ok (.invokevirtual 48, 3) := by decide +kernel
theorem dX4_reachOf_29 : decode cX4_reachOf 29 = .ok (.bipush 10, 2) := by decide +kernel
theorem dX4_reachOf_31 : decode cX4_reachOf 31 = .ok (.imul, 1) := by decide +kernel
theorem dX4_reachOf_32 : decode cX4_reachOf 32 = .ok (.iload_n 2, 1) := by decide +kernel
theorem dX4_reachOf_33 : decode cX4_reachOf 33 = .ok (.invokestatic 51, 3) := by decide +kernel
theorem dX4_reachOf_36 : decode cX4_reachOf 36 = .ok (.istore 5, 2) := by decide +kernel
theorem dX4_reachOf_38 : decode cX4_reachOf 38 = .ok (.aload_n 0, 1) := by decide +kernel
theorem dX4_reachOf_39 : decode cX4_reachOf 39 = .ok (.iload 4, 2) := by decide +kernel
theorem dX4_reachOf_41 : decode cX4_reachOf 41 = .ok (.invokevirtual 41, 3) := by decide +kernel
theorem dX4_reachOf_44 : decode cX4_reachOf 44 = .ok (.ifCond .eq 29, 3) := by decide +kernel
theorem dX4_reachOf_47 : decode cX4_reachOf 47 = .ok (.aload_n 0, 1) := by decide +kernel
theorem dX4_reachOf_48 : decode cX4_reachOf 48 = .ok (.getfield 21, 3) := by decide +kernel
theorem dX4_reachOf_51 : decode cX4_reachOf 51 = .ok (.iload_n 1, 1) := by decide +kernel
theorem dX4_reachOf_52 : decode cX4_reachOf 52 = .ok (.iaload, 1) := by decide +kernel
theorem dX4_reachOf_53 : decode cX4_reachOf 53 = .ok (.iload 5, 2) := by decide +kernel
theorem dX4_reachOf_55 : decode cX4_reachOf 55 = .ok (.iadd, 1) := by decide +kernel
theorem dX4_reachOf_56 : decode cX4_reachOf 56 = .ok (.aload_n 0, 1) := by decide +kernel
theorem dX4_reachOf_57 : decode cX4_reachOf 57 = .ok (.getfield 21, 3) := by decide +kernel
theorem dX4_reachOf_60 : decode cX4_reachOf 60 = .ok (.iload 4, 2) := by decide +kernel
theorem dX4_reachOf_62 : decode cX4_reachOf 62 = .ok (.iaload, 1) := by decide +kernel
theorem dX4_reachOf_63 : decode cX4_reachOf 63 = .ok (.if_icmp .gt 10, 3) := by decide +kernel
theorem dX4_reachOf_66 : decode cX4_reachOf 66 = .ok (.iload_n 3, 1) := by decide +kernel
theorem dX4_reachOf_67 : decode cX4_reachOf 67 = .ok (.iconst 1, 1) := by decide +kernel
theorem dX4_reachOf_68 : decode cX4_reachOf 68 = .ok (.iload 4, 2) := by decide +kernel
theorem dX4_reachOf_70 : decode cX4_reachOf 70 = .ok (.ishl, 1) := by decide +kernel
theorem dX4_reachOf_71 : decode cX4_reachOf 71 = .ok (.ior, 1) := by decide +kernel
theorem dX4_reachOf_72 : decode cX4_reachOf 72 = .ok (.istore_n 3, 1) := by decide +kernel
theorem dX4_reachOf_73 : decode cX4_reachOf 73 = .ok (.iinc 4 1, 3) := by decide +kernel
theorem dX4_reachOf_76 : decode cX4_reachOf 76 = .ok (.goto (-69), 3) := by decide +kernel
theorem dX4_reachOf_79 : decode cX4_reachOf 79 = .ok (.iload_n 3, 1) := by decide +kernel
theorem dX4_reachOf_80 : decode cX4_reachOf 80 = .ok (.ireturn, 1) := by decide +kernel
theorem dX4_letsAllCome_0 : decode cX4_letsAllCome 0 = .ok (.iconst 0, 1) := by decide +kernel
theorem dX4_letsAllCome_1 : decode cX4_letsAllCome 1 = .ok (.istore_n 2, 1) := by decide +kernel
theorem dX4_letsAllCome_2 : decode cX4_letsAllCome 2 = .ok (.iconst 0, 1) := by decide +kernel
theorem dX4_letsAllCome_3 : decode cX4_letsAllCome 3 = .ok (.istore_n 3, 1) := by decide +kernel
theorem dX4_letsAllCome_4 : decode cX4_letsAllCome 4 = .ok (.iload_n 3, 1) := by decide +kernel
theorem dX4_letsAllCome_5 : decode cX4_letsAllCome 5 = .ok (.aload_n 0, 1) := by decide +kernel
theorem dX4_letsAllCome_6 : decode cX4_letsAllCome 6 = .ok (.getfield 15, 3) := by decide +kernel
theorem dX4_letsAllCome_9 : decode cX4_letsAllCome 9 = .ok (.getfield 32, 3) := by decide +kernel
theorem dX4_letsAllCome_12 : decode cX4_letsAllCome 12 = .ok (.if_icmp .ge 27, 3) := by decide +kernel
theorem dX4_letsAllCome_15 : decode cX4_letsAllCome 15 = .ok (.iload_n 1, 1) := by decide +kernel
theorem dX4_letsAllCome_16 : decode cX4_letsAllCome 16 = .ok (.iload_n 3, 1) := by decide +kernel
theorem dX4_letsAllCome_17 : decode cX4_letsAllCome 17 = .ok (.ishr, 1) := by decide +kernel
theorem dX4_letsAllCome_18 : decode cX4_letsAllCome 18 = .ok (.iconst 1, 1) := by decide +kernel
theorem dX4_letsAllCome_19 : decode cX4_letsAllCome 19 = .ok (.iand, 1) := by decide +kernel
theorem dX4_letsAllCome_20 : decode cX4_letsAllCome 20 = .ok (.iconst 1, 1) := by decide +kernel
theorem dX4_letsAllCome_21 : decode cX4_letsAllCome 21 = .ok (.if_icmp .ne 12, 3) := by decide +kernel
theorem dX4_letsAllCome_24 : decode cX4_letsAllCome 24 = .ok (.iload_n 2, 1) := by decide +kernel
theorem dX4_letsAllCome_25 : decode cX4_letsAllCome 25 = .ok (.aload_n 0, 1) := by decide +kernel
theorem dX4_letsAllCome_26 : decode cX4_letsAllCome 26 = .ok (.getfield 25, 3) := by decide +kernel
theorem dX4_letsAllCome_29 : decode cX4_letsAllCome 29 = .ok (.iload_n 3, 1) := by decide +kernel
theorem dX4_letsAllCome_30 : decode cX4_letsAllCome 30 = .ok (.iaload, 1) := by decide +kernel
theorem dX4_letsAllCome_31 : decode cX4_letsAllCome 31 = .ok (.ior, 1) := by decide +kernel
theorem dX4_letsAllCome_32 : decode cX4_letsAllCome 32 = .ok (.istore_n 2, 1) := by decide +kernel
theorem dX4_letsAllCome_33 : decode cX4_letsAllCome 33 = .ok (.iinc 3 1, 3) := by decide +kernel
theorem dX4_letsAllCome_36 : decode cX4_letsAllCome 36 = .ok (.goto (-32), 3) := by decide +kernel
theorem dX4_letsAllCome_39 : decode cX4_letsAllCome 39 = .ok (.iload_n 2, 1) := by decide +kernel
theorem dX4_letsAllCome_40 : decode cX4_letsAllCome 40 = .ok (.aload_n 0, 1) := by decide +kernel
theorem dX4_letsAllCome_41 : decode cX4_letsAllCome 41 = .ok (.getfield 28, 3) := by decide +kernel
theorem dX4_letsAllCome_44 : decode cX4_letsAllCome 44 = .ok (.if_icmp .ne 7, 3) := by decide +kernel
theorem dX4_letsAllCome_47 : decode cX4_letsAllCome 47 = .ok (.iconst 1, 1) := by decide +kernel
theorem dX4_letsAllCome_48 : decode cX4_letsAllCome 48 = .ok (.goto 4, 3) := by decide +kernel
theorem dX4_letsAllCome_51 : decode cX4_letsAllCome 51 = .ok (.iconst 0, 1) := by decide +kernel
theorem dX4_letsAllCome_52 : decode cX4_letsAllCome 52 = .ok (.ireturn, 1) := by decide +kernel
theorem dX4_hasSingleStart_0 : decode cX4_hasSingleStart 0 = .ok (.iconst 0, 1) := by decide +kernel
theorem dX4_hasSingleStart_1 : decode cX4_hasSingleStart 1 = .ok (.istore_n 1, 1) := by decide +kernel
theorem dX4_hasSingleStart_2 : decode cX4_hasSingleStart 2 = .ok (.iload_n 1, 1) := by decide +kernel
theorem dX4_hasSingleStart_3 : decode cX4_hasSingleStart 3 = .ok (.aload_n 0, 1) := by decide +kernel
theorem dX4_hasSingleStart_4 : decode cX4_hasSingleStart 4 = .ok (.getfield 15, 3) := by decide +kernel
theorem dX4_hasSingleStart_7 : decode cX4_hasSingleStart 7 = .ok (.getfield 32, 3) := by decide +kernel
theorem dX4_hasSingleStart_10 : decode cX4_hasSingleStart 10 = .ok (.if_icmp .ge 32, 3) := by decide +kernel
theorem dX4_hasSingleStart_13 : decode cX4_hasSingleStart 13 = .ok (.aload_n 0, 1) := by decide +kernel
theorem dX4_hasSingleStart_14 : decode cX4_hasSingleStart 14 = .ok (.iload_n 1, 1) := by decide +kernel
theorem dX4_hasSingleStart_15 : decode cX4_hasSingleStart 15 = .ok (.invokevirtual 41, 3) := by decide +kernel
theorem dX4_hasSingleStart_18 : decode cX4_hasSingleStart 18 = .ok (.ifCond .eq 18, 3) := by decide +kernel
theorem dX4_hasSingleStart_21 : decode cX4_hasSingleStart 21 = .ok (.aload_n 0, 1) := by decide +kernel
theorem dX4_hasSingleStart_22 : decode cX4_hasSingleStart 22 = .ok (.getfield 25, 3) := by decide +kernel
theorem dX4_hasSingleStart_25 : decode cX4_hasSingleStart 25 = .ok (.iload_n 1, 1) := by decide +kernel
theorem dX4_hasSingleStart_26 : decode cX4_hasSingleStart 26 = .ok (.iaload, 1) := by decide +kernel
theorem dX4_hasSingleStart_27 : decode cX4_hasSingleStart 27 = .ok (.aload_n 0, 1) := by decide +kernel
theorem dX4_hasSingleStart_28 : decode cX4_hasSingleStart 28 = .ok (.getfield 28, 3) := by decide +kernel
theorem dX4_hasSingleStart_31 : decode cX4_hasSingleStart 31 = .ok (.if_icmp .ne 5, 3) := by decide +kernel
theorem dX4_hasSingleStart_34 : decode cX4_hasSingleStart 34 = .ok (.iconst 1, 1) := by decide +kernel
theorem dX4_hasSingleStart_35 : decode cX4_hasSingleStart 35 = .ok (.ireturn, 1) := by decide +kernel
theorem dX4_hasSingleStart_36 : decode cX4_hasSingleStart 36 = .ok (.iinc 1 1, 3) := by decide +kernel
theorem dX4_hasSingleStart_39 : decode cX4_hasSingleStart 39 = .ok (.goto (-37), 3) := by decide +kernel
theorem dX4_hasSingleStart_42 : decode cX4_hasSingleStart 42 = .ok (.iconst 0, 1) := by decide +kernel
theorem dX4_hasSingleStart_43 : decode cX4_hasSingleStart 43 = .ok (.ireturn, 1) := by decide +kernel
theorem dX4_search_0 : decode cX4_search 0 = .ok (.aload_n 0, 1) := by decide +kernel
theorem dX4_search_1 : decode cX4_search 1 = .ok (.aload_n 0, 1) := by decide +kernel
theorem dX4_search_2 : decode cX4_search 2 = .ok (.getfield 28, 3) := by decide +kernel
theorem dX4_search_5 : decode cX4_search 5 = .ok (.putfield 54, 3) := by decide +kernel
theorem dX4_search_8 : decode cX4_search 8 = .ok (.aload_n 0, 1) := by decide +kernel
theorem dX4_search_9 : decode cX4_search 9 = .ok (.aload_n 0, 1) := by decide +kernel
theorem dX4_search_10 : decode cX4_search 10 = .ok (.getfield 28, 3) := by decide +kernel
theorem dX4_search_13 : decode cX4_search 13 = .ok (.putfield 57, 3) := by decide +kernel
theorem dX4_search_16 : decode cX4_search 16 = .ok (.aload_n 0, 1) := by decide +kernel
theorem dX4_search_17 : decode cX4_search 17 = .ok (.getfield 28, 3) := by decide +kernel
theorem dX4_search_20 : decode cX4_search 20 = .ok (.invokestatic 60, 3) := by decide +kernel
theorem dX4_search_23 : decode cX4_search 23 = .ok (.iconst 1, 1) := by decide +kernel
theorem dX4_search_24 : decode cX4_search 24 = .ok (.iadd, 1) := by decide +kernel
theorem dX4_search_25 : decode cX4_search 25 = .ok (.istore_n 1, 1) := by decide +kernel
theorem dX4_search_26 : decode cX4_search 26 = .ok (.iconst 0, 1) := by decide +kernel
theorem dX4_search_27 : decode cX4_search 27 = .ok (.istore_n 2, 1) := by decide +kernel
theorem dX4_search_28 : decode cX4_search 28 = .ok (.iload_n 2, 1) := by decide +kernel
theorem dX4_search_29 : decode cX4_search 29 = .ok (.aload_n 0, 1) := by decide +kernel
theorem dX4_search_30 : decode cX4_search 30 = .ok (.getfield 28, 3) := by decide +kernel
theorem dX4_search_33 : decode cX4_search 33 = .ok (.if_icmp .gt 76, 3) := by decide +kernel
