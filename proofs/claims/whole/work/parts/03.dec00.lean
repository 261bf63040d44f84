theorem dX0_init_0 : decode cX0_init 0 = .ok (.aload_n 0, 1) := by decide +kernel
theorem dX0_init_1 : decode cX0_init 1 = .ok (.invokespecial 3, 3) := by decide +kernel
theorem dX0_init_4 : decode cX0_init 4 = .ok (.aload_n 0, 1) := by decide +kernel
theorem dX0_init_5 : decode cX0_init 5 = .ok (.bipush 10, 2) := by decide +kernel
theorem dX0_init_7 : decode cX0_init 7 = .ok (.newarray .int, 2) := by decide +kernel
theorem dX0_init_9 : decode cX0_init 9 = .ok (.putfield 11, 3) := by decide +kernel
theorem dX0_init_12 : decode cX0_init 12 = .ok (.aload_n 0, 1) := by decide +kernel
theorem dX0_init_13 : decode cX0_init 13 = .ok (.bipush 10, 2) := by decide +kernel
theorem dX0_init_15 : decode cX0_init 15 = .ok (.newarray .int, 2) := by decide +kernel
theorem dX0_init_17 : decode cX0_init 17 = .ok (.putfield 15, 3) := by decide +kernel
theorem dX0_init_20 : decode cX0_init 20 = .ok (.aload_n 0, 1) := by decide +kernel
theorem dX0_init_21 : decode cX0_init 21 = .ok (.bipush 10, 2) := by decide +kernel
theorem dX0_init_23 : decode cX0_init 23 = .ok (.newarray .int, 2) := by decide +kernel
theorem dX0_init_25 : decode cX0_init 25 = .ok (.putfield 18, 3) := by decide +kernel
theorem dX0_init_28 : decode cX0_init 28 = .ok (.aload_n 0, 1) := by decide +kernel
theorem dX0_init_29 : decode cX0_init 29 = .ok (.bipush 10, 2) := by decide +kernel
theorem dX0_init_31 : decode cX0_init 31 = .ok (.newarray .int, 2) := by decide +kernel
theorem dX0_init_33 : decode cX0_init 33 = .ok (.putfield 21, 3) := by decide +kernel
theorem dX0_init_36 : decode cX0_init 36 = .ok (.aload_n 0, 1) := by decide +kernel
theorem dX0_init_37 : decode cX0_init 37 = .ok (.bipush 10, 2) := by decide +kernel
theorem dX0_init_39 : decode cX0_init 39 = .ok (.newarray .int, 2) := by decide +kernel
theorem dX0_init_41 : decode cX0_init 41 = .ok (.putfield 24, 3) := by decide +kernel
theorem dX0_init_44 : decode cX0_init 44 = .ok (.return_, 1) := by decide +kernel
theorem dX0_add_0 : decode cX0_add 0 = .ok (.aload_n 0, 1) := by decide +kernel
theorem dX0_add_1 : decode cX0_add 1 = .ok (.getfield 11, 3) := by decide +kernel
theorem dX0_add_4 : decode cX0_add 4 = .ok (.aload_n 0, 1) := by decide +kernel
theorem dX0_add_5 : decode cX0_add 5 = .ok (.getfield 27, 3) := by decide +kernel
theorem dX0_add_8 : decode cX0_add 8 = .ok (.iload_n 1, 1) := by decide +kernel
theorem dX0_add_9 : decode cX0_add 9 = .ok (.iastore, 1) := by decide +kernel
theorem dX0_add_10 : decode cX0_add 10 = .ok (.aload_n 0, 1) := by decide +kernel
theorem dX0_add_11 : decode cX0_add 11 = .ok (.getfield 15, 3) := by decide +kernel
theorem dX0_add_14 : decode cX0_add 14 = .ok (.aload_n 0, 1) := by decide +kernel
theorem dX0_add_15 : decode cX0_add 15 = .ok (.getfield 27, 3) := by decide +kernel
theorem dX0_add_18 : decode cX0_add 18 = .ok (.iload_n 2, 1) := by decide +kernel
theorem dX0_add_19 : decode cX0_add 19 = .ok (.iastore, 1) := by decide +kernel
theorem dX0_add_20 : decode cX0_add 20 = .ok (.aload_n 0, 1) := by decide +kernel
theorem dX0_add_21 : decode cX0_add 21 = .ok (.getfield 18, 3) := by decide +kernel
theorem dX0_add_24 : decode cX0_add 24 = .ok (.aload_n 0, 1) := by decide +kernel
theorem dX0_add_25 : decode cX0_add 25 = .ok (.getfield 27, 3) := by decide +kernel
theorem dX0_add_28 : decode cX0_add 28 = .ok (.iload_n 3, 1) := by decide +kernel
theorem dX0_add_29 : decode cX0_add 29 = .ok (.iastore, 1) := by decide +kernel
theorem dX0_add_30 : decode cX0_add 30 = .ok (.aload_n 0, 1) := by decide +kernel
theorem dX0_add_31 : decode cX0_add 31 = .ok (.getfield 21, 3) := by decide +kernel
theorem dX0_add_34 : decode cX0_add 34 = .ok (.aload_n 0, 1) := by decide +kernel
theorem dX0_add_35 : decode cX0_add 35 = .ok (.getfield 27, 3) := by decide +kernel
theorem dX0_add_38 : decode cX0_add 38 = .ok (.iload 4, 2) := by decide +kernel
theorem dX0_add_40 : decode cX0_add 40 = .ok (.iastore, 1) := by decide +kernel
theorem dX0_add_41 : decode cX0_add 41 = .ok (.aload_n 0, 1) := by decide +kernel
theorem dX0_add_42 : decode cX0_add 42 = .ok (.dup, 1) := by decide +kernel
theorem dX0_add_43 : decode cX0_add 43 = .ok (.getfield 27, 3) := by decide +kernel
theorem dX0_add_46 : decode cX0_add 46 = .ok (.iconst 1, 1) := by decide +kernel
theorem dX0_add_47 : decode cX0_add 47 = .ok (.iadd, 1) := by decide +kernel
theorem dX0_add_48 : decode cX0_add 48 = .ok (.putfield 27, 3) := by decide +kernel
theorem dX0_add_51 : decode cX0_add 51 = .ok (.aload_n 0, 1) := by decide +kernel
theorem dX0_add_52 : decode cX0_add 52 = .ok (.getfield 27, 3) := by decide +kernel
theorem dX0_add_55 : decode cX0_add 55 = .ok (.iconst 1, 1) := by decide +kernel
theorem dX0_add_56 : decode cX0_add 56 = .ok (.isub, 1) := by decide +kernel
theorem dX0_add_57 : decode cX0_add 57 = .ok (.ireturn, 1) := by decide +kernel
theorem dX0_meetingOf_0 : decode cX0_meetingOf 0 = .ok (.iconst 1, 1) := by decide +kernel
theorem dX0_meetingOf_1 : decode cX0_meetingOf 1 = .ok (.iload_n 1, 1) := by decide +kernel
theorem dX0_meetingOf_2 : decode cX0_meetingOf 2 = .ok (.ishl, 1) := by decide +kernel
theorem dX0_meetingOf_3 : decode cX0_meetingOf 3 = .ok (.istore_n 2, 1) := by decide +kernel
theorem dX0_meetingOf_4 : decode cX0_meetingOf 4 = .ok (.iconst 1, 1) := by decide +kernel
theorem dX0_meetingOf_5 : decode cX0_meetingOf 5 = .ok (.istore_n 3, 1) := by decide +kernel
theorem dX0_meetingOf_6 : decode cX0_meetingOf 6 = .ok (.iconst 0, 1) := by decide +kernel
theorem dX0_meetingOf_7 : decode cX0_meetingOf 7 = .ok (.istore 4, 2) := by decide +kernel
theorem dX0_meetingOf_9 : decode cX0_meetingOf 9 = .ok (.iload 4, 2) := by decide +kernel
theorem dX0_meetingOf_11 : decode cX0_meetingOf 11 = .ok (.bipush 10, 2) := by decide +kernel
theorem dX0_meetingOf_13 : decode cX0_meetingOf 13 = .ok (.if_icmp .ge 64, 3) := by decide +kernel
theorem dX0_meetingOf_16 : decode cX0_meetingOf 16 = .ok (.iload_n 3, 1) := by decide +kernel
theorem dX0_meetingOf_17 : decode cX0_meetingOf 17 = .ok (.ifCond .eq 60, 3) := by decide +kernel
theorem dX0_meetingOf_20 : decode cX0_meetingOf 20 = .ok (.iload_n 2, 1) := by decide +kernel
theorem dX0_meetingOf_21 : decode cX0_meetingOf 21 = .ok (.istore 5, 2) := by decide +kernel
theorem dX0_meetingOf_23 : decode cX0_meetingOf 23 = .ok (.iconst 0, 1) := by decide +kernel
theorem dX0_meetingOf_24 : decode cX0_meetingOf 24 = .ok (.istore 6, 2) := by decide +kernel
theorem dX0_meetingOf_26 : decode cX0_meetingOf 26 = .ok (.iload 6, 2) := by decide +kernel
theorem dX0_meetingOf_28 : decode cX0_meetingOf 28 = .ok (.aload_n 0, 1) := by decide +kernel
theorem dX0_meetingOf_29 : decode cX0_meetingOf 29 = .ok (.getfield 27, 3) := by decide +kernel
theorem dX0_meetingOf_32 : decode cX0_meetingOf 32 = .ok (.if_icmp .ge 27, 3) := by decide +kernel
theorem dX0_meetingOf_35 : decode cX0_meetingOf 35 = .ok (.iload_n 2, 1) := by decide +kernel
theorem dX0_meetingOf_36 : decode cX0_meetingOf 36 = .ok (.iload 6, 2) := by decide +kernel
theorem dX0_meetingOf_38 : decode cX0_meetingOf 38 = .ok (.ishr, 1) := by decide +kernel
theorem dX0_meetingOf_39 : decode cX0_meetingOf 39 = .ok (.iconst 1, 1) := by decide +kernel
theorem dX0_meetingOf_40 : decode cX0_meetingOf 40 = .ok (.iand, 1) := by decide +kernel
theorem dX0_meetingOf_41 : decode cX0_meetingOf 41 = .ok (.ifCond .eq 12, 3) := by decide +kernel
theorem dX0_meetingOf_44 : decode cX0_meetingOf 44 = .ok (.iload_n 2, 1) := by decide +kernel
theorem dX0_meetingOf_45 : decode cX0_meetingOf 45 = .ok (.aload_n 0, 1) := by decide +kernel
theorem dX0_meetingOf_46 : decode cX0_meetingOf 46 = .ok (.iload 6, 2) := by decide +kernel
theorem dX0_meetingOf_48 : decode cX0_meetingOf 48 = .ok (.invokevirtual 31, 3) := by decide +kernel
theorem dX0_meetingOf_51 : decode cX0_meetingOf 51 = .ok (.ior, 1) := by decide +kernel
theorem dX0_meetingOf_52 : decode cX0_meetingOf 52 = .ok (.istore_n 2, 1) := by decide +kernel
theorem dX0_meetingOf_53 : decode cX0_meetingOf 53 = .ok (.iinc 6 1, 3) := by decide +kernel
theorem dX0_meetingOf_56 : decode cX0_meetingOf 56 = .ok (.goto (-30), 3) := by decide +kernel
theorem dX0_meetingOf_59 : decode cX0_meetingOf 59 = .ok (.iload_n 2, 1) := by decide +kernel
theorem dX0_meetingOf_60 : decode cX0_meetingOf 60 = .ok (.iload 5, 2) := by decide +kernel
theorem dX0_meetingOf_62 : decode cX0_meetingOf 62 = .ok (.if_icmp .eq 7, 3) := by decide +kernel
theorem dX0_meetingOf_65 : decode cX0_meetingOf 65 = .ok (.iconst 1, 1) := by decide +kernel
theorem dX0_meetingOf_66 : decode cX0_meetingOf 66 = .ok (.goto 4, 3) := by decide +kernel
theorem dX0_meetingOf_69 : decode cX0_meetingOf 69 = .ok (.iconst 0, 1) := by decide +kernel
theorem dX0_meetingOf_70 : decode cX0_meetingOf 70 = .ok (.istore_n 3, 1) := by decide +kernel
theorem dX0_meetingOf_71 : decode cX0_meetingOf 71 = .ok (.iinc 4 1, 3) := by decide +kernel
theorem dX0_meetingOf_74 : decode cX0_meetingOf 74 = .ok (.goto (-65), 3) := by decide +kernel
theorem dX0_meetingOf_77 : decode cX0_meetingOf 77 = .ok (.iload_n 2, 1) := by decide +kernel
theorem dX0_meetingOf_78 : decode cX0_meetingOf 78 = .ok (.ireturn, 1) := by decide +kernel
theorem dX0_closeTo_0 : decode cX0_closeTo 0 = .ok (.iconst 0, 1) := by decide +kernel
theorem dX0_closeTo_1 : decode cX0_closeTo 1 = .ok (.istore_n 2, 1) := by decide +kernel
theorem dX0_closeTo_2 : decode cX0_closeTo 2 = .ok (.iconst 0, 1) := by decide +kernel
theorem dX0_closeTo_3 : decode cX0_closeTo 3 = .ok (.istore_n 3, 1) := by decide +kernel
theorem dX0_closeTo_4 : decode cX0_closeTo 4 = .ok (.iload_n 3, 1) := by decide +kernel
theorem dX0_closeTo_5 : decode cX0_closeTo 5 = .ok (.aload_n 0, 1) := by decide +kernel
theorem dX0_closeTo_6 : decode cX0_closeTo 6 = .ok (.getfield 27, 3) := by decide +kernel
theorem dX0_closeTo_9 : decode cX0_closeTo 9 = .ok (.if_icmp .ge 50, 3) := by decide +kernel
theorem dX0_closeTo_12 : decode cX0_closeTo 12 = .ok (.aload_n 0, 1) := by decide +kernel
theorem dX0_closeTo_13 : decode cX0_closeTo 13 = .ok (.getfield 11, 3) := by decide +kernel
theorem dX0_closeTo_16 : decode cX0_closeTo 16 = .ok (.iload_n 3, 1) := by decide +kernel
theorem dX0_closeTo_17 : decode cX0_closeTo 17 = .ok (.iaload, 1) := by decide +kernel
theorem dX0_closeTo_18 : decode cX0_closeTo 18 = .ok (.aload_n 0, 1) := by decide +kernel
theorem dX0_closeTo_19 : decode cX0_closeTo 19 = .ok (.getfield 11, 3) := by decide +kernel
theorem dX0_closeTo_22 : decode cX0_closeTo 22 = .ok (.iload_n 1, 1) := by decide +kernel
theorem dX0_closeTo_23 : decode cX0_closeTo 23 = .ok (.iaload, 1) := by decide +kernel
theorem dX0_closeTo_24 : decode cX0_closeTo 24 = .ok (.if_icmp .ne 29, 3) := by decide +kernel
theorem dX0_closeTo_27 : decode cX0_closeTo 27 = .ok (.aload_n 0, 1) := by decide +kernel
theorem dX0_closeTo_28 : decode cX0_closeTo 28 = .ok (.iload_n 3, 1) := by decide +kernel
theorem dX0_closeTo_29 : decode cX0_closeTo 29 = .ok (.iload_n 1, 1) := by decide +kernel
theorem dX0_closeTo_30 : decode cX0_closeTo 30 = .ok (.invokevirtual 35, 3) := by decide +kernel
theorem dX0_closeTo_33 : decode cX0_closeTo 33 = .ok (.iconst 1, 1) := by decide +kernel
theorem dX0_closeTo_34 : decode cX0_closeTo 34 = .ok (.if_icmp .gt 19, 3) := by decide +kernel
theorem dX0_closeTo_37 : decode cX0_closeTo 37 = .ok (.aload_n 0, 1) := by decide +kernel
theorem dX0_closeTo_38 : decode cX0_closeTo 38 = .ok (.iload_n 3, 1) := by decide +kernel
theorem dX0_closeTo_39 : decode cX0_closeTo 39 = .ok (.iload_n 1, 1) := by decide +kernel
theorem dX0_closeTo_40 : decode cX0_closeTo 40 = .ok (.invokevirtual 39, 3) := by decide +kernel
theorem dX0_closeTo_43 : decode cX0_closeTo 43 = .ok (.iconst 2, 1) := by decide +kernel
theorem dX0_closeTo_44 : decode cX0_closeTo 44 = .ok (.if_icmp .gt 9, 3) := by decide +kernel
theorem dX0_closeTo_47 : decode cX0_closeTo 47 = .ok (.iload_n 2, 1) := by decide +kernel
theorem dX0_closeTo_48 : decode cX0_closeTo 48 = .ok (.iconst 1, 1) := by decide +kernel
theorem dX0_closeTo_49 : decode cX0_closeTo 49 = .ok (.iload_n 3, 1) := by decide +kernel
theorem dX0_closeTo_50 : decode cX0_closeTo 50 = .ok (.ishl, 1) := by decide +kernel
theorem dX0_closeTo_51 : decode cX0_closeTo 51 = .ok (.ior, 1) := by decide +kernel
theorem dX0_closeTo_52 : decode cX0_closeTo 52 = .ok (.istore_n 2, 1) := by decide +kernel
theorem dX0_closeTo_53 : decode cX0_closeTo 53 = .ok (.iinc 3 1, 3) := by decide +kernel
theorem dX0_closeTo_56 : decode cX0_closeTo 56 = .ok (.goto (-52), 3) := by decide +kernel
theorem dX0_closeTo_59 : decode cX0_closeTo 59 = .ok (.iload_n 2, 1) := by decide +kernel
theorem dX0_closeTo_60 : decode cX0_closeTo 60 = .ok (.ireturn, 1) := by decide +kernel
theorem dX0_daysBetween_0 : decode cX0_daysBetween 0 = .ok (.aload_n 0, 1) := by decide +kernel
theorem dX0_daysBetween_1 : decode cX0_daysBetween 1 = .ok (.getfield 15, 3) := by decide +kernel
theorem dX0_daysBetween_4 : decode cX0_daysBetween 4 = .ok (.iload_n 1, 1) := by decide +kernel
theorem dX0_daysBetween_5 : decode cX0_daysBetween 5 = .ok (.iaload, 1) := by decide +kernel
theorem dX0_daysBetween_6 : decode cX0_daysBetween 6 = .ok (.aload_n 0, 1) := by decide +kernel
theorem dX0_daysBetween_7 : decode cX0_daysBetween 7 = .ok (.getfield 15, 3) := by decide +kernel
theorem dX0_daysBetween_10 : decode cX0_daysBetween 10 = .ok (.iload_n 2, 1) := by decide +kernel
theorem dX0_daysBetween_11 : decode cX0_daysBetween 11 = .ok (.iaload, 1) := by decide +kernel
theorem dX0_daysBetween_12 : decode cX0_daysBetween 12 = .ok (.isub, 1) := by decide +kernel
theorem dX0_daysBetween_13 : decode cX0_daysBetween 13 = .ok (.invokestatic 42, 3) := by decide +kernel
theorem dX0_daysBetween_16 : decode cX0_daysBetween 16 = .ok (.ireturn, 1) := by decide +kernel
theorem dX0_cellsBetween_0 : decode cX0_cellsBetween 0 = .ok (.aload_n 0, 1) := by decide +kernel
theorem dX0_cellsBetween_1 : decode cX0_cellsBetween 1 = .ok (.getfield 18, 3) := by decide +kernel
theorem dX0_cellsBetween_4 : decode cX0_cellsBetween 4 = .ok (.iload_n 1, 1) := by decide +kernel
theorem dX0_cellsBetween_5 : decode cX0_cellsBetween 5 = .ok (.iaload, 1) := by decide +kernel
theorem dX0_cellsBetween_6 : decode cX0_cellsBetween 6 = .ok (.aload_n 0, 1) := by decide +kernel
theorem dX0_cellsBetween_7 : decode cX0_cellsBetween 7 = .ok (.getfield 18, 3) := by decide +kernel
theorem dX0_cellsBetween_10 : decode cX0_cellsBetween 10 = .ok (.iload_n 2, 1) := by decide +kernel
theorem dX0_cellsBetween_11 : decode cX0_cellsBetween 11 = .ok (.iaload, 1) := by decide +kernel
theorem dX0_cellsBetween_12 : decode cX0_cellsBetween 12 = .ok (.isub, 1) := by decide +kernel
theorem dX0_cellsBetween_13 : decode cX0_cellsBetween 13 = .ok (.invokestatic 42, 3) := by decide +kernel
theorem dX0_cellsBetween_16 : decode cX0_cellsBetween 16 = .ok (.ireturn, 1) := by decide +kernel
theorem dX0_meetingsOf_0 : decode cX0_meetingsOf 0 = .ok (.iconst 0, 1) := by decide +kernel
theorem dX0_meetingsOf_1 : decode cX0_meetingsOf 1 = .ok (.istore_n 2, 1) := by decide +kernel
theorem dX0_meetingsOf_2 : decode cX0_meetingsOf 2 = .ok (.iconst 0, 1) := by decide +kernel
theorem dX0_meetingsOf_3 : decode cX0_meetingsOf 3 = .ok (.istore_n 3, 1) := by decide +kernel
theorem dX0_meetingsOf_4 : decode cX0_meetingsOf 4 = .ok (.iconst 0, 1) := by decide +kernel
theorem dX0_meetingsOf_5 : decode cX0_meetingsOf 5 = .ok (.istore 4, 2) := by decide +kernel
theorem dX0_meetingsOf_7 : decode cX0_meetingsOf 7 = .ok (.iload 4, 2) := by decide +kernel
theorem dX0_meetingsOf_9 : decode cX0_meetingsOf 9 = .ok (.aload_n 0, 1) := by decide +kernel
theorem dX0_meetingsOf_10 : decode cX0_meetingsOf 10 = .ok (.getfield 27, 3) := by decide +kernel
theorem dX0_meetingsOf_13 : decode cX0_meetingsOf 13 = .ok (.if_icmp .ge 41, 3) := by decide +kernel
theorem dX0_meetingsOf_16 : decode cX0_meetingsOf 16 = .ok (.aload_n 0, 1) := by decide +kernel
theorem dX0_meetingsOf_17 : decode cX0_meetingsOf 17 = .ok (.getfield 11, 3) := by decide +kernel
theorem dX0_meetingsOf_20 : decode cX0_meetingsOf 20 = .ok (.iload 4, 2) := by decide +kernel
theorem dX0_meetingsOf_22 : decode cX0_meetingsOf 22 = .ok (.iaload, 1) := by decide +kernel
theorem dX0_meetingsOf_23 : decode cX0_meetingsOf 23 = .ok (.iload_n 1, 1) := by decide +kernel
theorem dX0_meetingsOf_24 : decode cX0_meetingsOf 24 = .ok (.if_icmp .ne 24, 3) := by decide +kernel
theorem dX0_meetingsOf_27 : decode cX0_meetingsOf 27 = .ok (.iload_n 2, 1) := by decide +kernel
theorem dX0_meetingsOf_28 : decode cX0_meetingsOf 28 = .ok (.iload 4, 2) := by decide +kernel
theorem dX0_meetingsOf_30 : decode cX0_meetingsOf 30 = .ok (.ishr, 1) := by decide +kernel
theorem dX0_meetingsOf_31 : decode cX0_meetingsOf 31 = .ok (.iconst 1, 1) := by decide +kernel
theorem dX0_meetingsOf_32 : decode cX0_meetingsOf 32 = .ok (.iand, 1) := by decide +kernel
theorem dX0_meetingsOf_33 : decode cX0_meetingsOf 33 = .ok (.ifCond .ne 15, 3) := by decide +kernel
theorem dX0_meetingsOf_36 : decode cX0_meetingsOf 36 = .ok (.iload_n 2, 1) := by decide +kernel
theorem dX0_meetingsOf_37 : decode cX0_meetingsOf 37 = .ok (.aload_n 0, 1) := by decide +kernel
theorem dX0_meetingsOf_38 : decode cX0_meetingsOf 38 = .ok (.iload 4, 2) := by decide +kernel
theorem dX0_meetingsOf_40 : decode cX0_meetingsOf 40 = .ok (.invokevirtual 47, 3) := by decide +kernel
theorem dX0_meetingsOf_43 : decode cX0_meetingsOf 43 = .ok (.ior, 1) := by decide +kernel
theorem dX0_meetingsOf_44 : decode cX0_meetingsOf 44 = .ok (.istore_n 2, 1) := by decide +kernel
theorem dX0_meetingsOf_45 : decode cX0_meetingsOf 45 = .ok (.iinc 3 1, 3) := by decide +kernel
theorem dX0_meetingsOf_48 : decode cX0_meetingsOf 48 = .ok (.iinc 4 1, 3) := by decide +kernel
theorem dX0_meetingsOf_51 : decode cX0_meetingsOf 51 = .ok (.goto (-44), 3) := by decide +kernel
theorem dX0_meetingsOf_54 : decode cX0_meetingsOf 54 = .ok (.iload_n 3, 1) := by decide +kernel
theorem dX0_meetingsOf_55 : decode cX0_meetingsOf 55 = .ok (.ireturn, 1) := by decide +kernel
theorem dX0_reportsOf_0 : decode cX0_reportsOf 0 = .ok (.iconst 0, 1) := by decide +kernel
theorem dX0_reportsOf_1 : decode cX0_reportsOf 1 = .ok (.istore_n 2, 1) := by decide +kernel
theorem dX0_reportsOf_2 : decode cX0_reportsOf 2 = .ok (.iconst 0, 1) := by decide +kernel
theorem dX0_reportsOf_3 : decode cX0_reportsOf 3 = .ok (.istore_n 3, 1) := by decide +kernel
theorem dX0_reportsOf_4 : decode cX0_reportsOf 4 = .ok (.iload_n 3, 1) := by decide +kernel
theorem dX0_reportsOf_5 : decode cX0_reportsOf 5 = .ok (.aload_n 0, 1) := by decide +kernel
theorem dX0_reportsOf_6 : decode cX0_reportsOf 6 = .ok (.getfield 27, 3) := by decide +kernel
theorem dX0_reportsOf_9 : decode cX0_reportsOf 9 = .ok (.if_icmp .ge 25, 3) := by decide +kernel
theorem dX0_reportsOf_12 : decode cX0_reportsOf 12 = .ok (.aload_n 0, 1) := by decide +kernel
theorem dX0_reportsOf_13 : decode cX0_reportsOf 13 = .ok (.getfield 11, 3) := by decide +kernel
theorem dX0_reportsOf_16 : decode cX0_reportsOf 16 = .ok (.iload_n 3, 1) := by decide +kernel
theorem dX0_reportsOf_17 : decode cX0_reportsOf 17 = .ok (.iaload, 1) := by decide +kernel
theorem dX0_reportsOf_18 : decode cX0_reportsOf 18 = .ok (.iload_n 1, 1) := by decide +kernel
theorem dX0_reportsOf_19 : decode cX0_reportsOf 19 = .ok (.if_icmp .ne 9, 3) := by decide +kernel
theorem dX0_reportsOf_22 : decode cX0_reportsOf 22 = .ok (.iload_n 2, 1) := by decide +kernel
theorem dX0_reportsOf_23 : decode cX0_reportsOf 23 = .ok (.iconst 1, 1) := by decide +kernel
theorem dX0_reportsOf_24 : decode cX0_reportsOf 24 = .ok (.iload_n 3, 1) := by decide +kernel
theorem dX0_reportsOf_25 : decode cX0_reportsOf 25 = .ok (.ishl, 1) := by decide +kernel
theorem dX0_reportsOf_26 : decode cX0_reportsOf 26 = .ok (.ior, 1) := by decide +kernel
theorem dX0_reportsOf_27 : decode cX0_reportsOf 27 = .ok (.istore_n 2, 1) := by decide +kernel
theorem dX0_reportsOf_28 : decode cX0_reportsOf 28 = .ok (.iinc 3 1, 3) := by decide +kernel
theorem dX0_reportsOf_31 : decode cX0_reportsOf 31 = .ok (.goto (-27), 3) := by decide +kernel
theorem dX0_reportsOf_34 : decode cX0_reportsOf 34 = .ok (.iload_n 2, 1) := by decide +kernel
theorem dX0_reportsOf_35 : decode cX0_reportsOf 35 = .ok (.ireturn, 1) := by decide +kernel
theorem dX0_falseOf_0 : decode cX0_falseOf 0 = .ok (.aload_n 0, 1) := by decide +kernel
theorem dX0_falseOf_1 : decode cX0_falseOf 1 = .ok (.iload_n 2, 1) := by decide +kernel
theorem dX0_falseOf_2 : decode cX0_falseOf 2 = .ok (.invokevirtual 50, 3) := by decide +kernel
theorem dX0_falseOf_5 : decode cX0_falseOf 5 = .ok (.aload_n 0, 1) := by decide +kernel
theorem dX0_falseOf_6 : decode cX0_falseOf 6 = .ok (.iload_n 1, 1) := by decide +kernel
theorem dX0_falseOf_7 : decode cX0_falseOf 7 = .ok (.invokevirtual 54, 3) := by decide +kernel
theorem dX0_falseOf_10 : decode cX0_falseOf 10 = .ok (.istore_n 3, 1) := by decide +kernel
theorem dX0_falseOf_11 : decode cX0_falseOf 11 = .ok (.iload_n 3, 1) := by decide +kernel
theorem dX0_falseOf_12 : decode cX0_falseOf 12 = .ok (.istore 4, 2) := by decide +kernel
theorem dX0_falseOf_14 : decode cX0_falseOf 14 = .ok (.iload_n 3, 1) := by decide +kernel
theorem dX0_falseOf_15 : decode cX0_falseOf 15 = .ok (.invokestatic 57, 3) := by decide +kernel
theorem dX0_falseOf_18 : decode cX0_falseOf 18 = .ok (.istore 5, 2) := by decide +kernel
theorem dX0_falseOf_20 : decode cX0_falseOf 20 = .ok (.iconst 0, 1) := by decide +kernel
theorem dX0_falseOf_21 : decode cX0_falseOf 21 = .ok (.istore 6, 2) := by decide +kernel
theorem dX0_falseOf_23 : decode cX0_falseOf 23 = .ok (.iload 6, 2) := by decide +kernel
theorem dX0_falseOf_25 : decode cX0_falseOf 25 = .ok (.iload_n 3, 1) := by decide +kernel
theorem dX0_falseOf_26 : decode cX0_falseOf 26 = .ok (.if_icmp .ge 52, 3) := by decide +kernel
theorem dX0_falseOf_29 : decode cX0_falseOf 29 = .ok (.iload 6, 2) := by decide +kernel
theorem dX0_falseOf_31 : decode cX0_falseOf 31 = .ok (.iload_n 3, 1) := by decide +kernel
theorem dX0_falseOf_32 : decode cX0_falseOf 32 = .ok (.iconst (-1), 1) := by decide +kernel
theorem dX0_falseOf_33 : decode cX0_falseOf 33 = .ok (.ixor, 1) := by decide +kernel
theorem dX0_falseOf_34 : decode cX0_falseOf 34 = .ok (.iand, 1) := by decide +kernel
theorem dX0_falseOf_35 : decode cX0_falseOf 35 = .ok (.ifCond .ne 37, 3) := by decide +kernel
theorem dX0_falseOf_38 : decode cX0_falseOf 38 = .ok (.iload 6, 2) := by decide +kernel
theorem dX0_falseOf_40 : decode cX0_falseOf 40 = .ok (.invokestatic 57, 3) := by decide +kernel
theorem dX0_falseOf_43 : decode cX0_falseOf 43 = .ok (.iload 5, 2) := by decide +kernel
theorem dX0_falseOf_45 : decode cX0_falseOf 45 = .ok (.if_icmp .ge 27, 3) := by decide +kernel
theorem dX0_falseOf_48 : decode cX0_falseOf 48 = .ok (.aload_n 0, 1) := by decide +kernel
theorem dX0_falseOf_49 : decode cX0_falseOf 49 = .ok (.iload_n 3, 1) := by decide +kernel
theorem dX0_falseOf_50 : decode cX0_falseOf 50 = .ok (.iload 6, 2) := by decide +kernel
theorem dX0_falseOf_52 : decode cX0_falseOf 52 = .ok (.iconst (-1), 1) := by decide +kernel
theorem dX0_falseOf_53 : decode cX0_falseOf 53 = .ok (.ixor, 1) := by decide +kernel
theorem dX0_falseOf_54 : decode cX0_falseOf 54 = .ok (.iand, 1) := by decide +kernel
theorem dX0_falseOf_55 : decode cX0_falseOf 55 = .ok (.invokevirtual 62, 3) := by decide +kernel
theorem dX0_falseOf_58 : decode cX0_falseOf 58 = .ok (.ifCond .eq 14, 3) := by decide +kernel
theorem dX0_falseOf_61 : decode cX0_falseOf 61 = .ok (.iload 6, 2) := by decide +kernel
theorem dX0_falseOf_63 : decode cX0_falseOf 63 = .ok (.istore 4, 2) := by decide +kernel
theorem dX0_falseOf_65 : decode cX0_falseOf 65 = .ok (.iload 6, 2) := by decide +kernel
theorem dX0_falseOf_67 : decode cX0_falseOf 67 = .ok (.invokestatic 57, 3) := by decide +kernel
theorem dX0_falseOf_70 : decode cX0_falseOf 70 = .ok (.istore 5, 2) := by decide +kernel
theorem dX0_falseOf_72 : decode cX0_falseOf 72 = .ok (.iinc 6 1, 3) := by decide +kernel
theorem dX0_falseOf_75 : decode cX0_falseOf 75 = .ok (.goto (-52), 3) := by decide +kernel
theorem dX0_falseOf_78 : decode cX0_falseOf 78 = .ok (.iload 4, 2) := by decide +kernel
theorem dX0_falseOf_80 : decode cX0_falseOf 80 = .ok (.ireturn, 1) := by decide +kernel
theorem dX0_findClashes_0 : decode cX0_findClashes 0 = .ok (.iconst 0, 1) := by decide +kernel
theorem dX0_findClashes_1 : decode cX0_findClashes 1 = .ok (.istore_n 2, 1) := by decide +kernel
theorem dX0_findClashes_2 : decode cX0_findClashes 2 = .ok (.iload_n 2, 1) := by decide +kernel
theorem dX0_findClashes_3 : decode cX0_findClashes 3 = .ok (.aload_n 0, 1) := by decide +kernel
theorem dX0_findClashes_4 : decode cX0_findClashes 4 = .ok (.getfield 27, 3) := by decide +kernel
theorem dX0_findClashes_7 : decode cX0_findClashes 7 = .ok (.if_icmp .ge 61, 3) := by decide +kernel
theorem dX0_findClashes_10 : decode cX0_findClashes 10 = .ok (.aload_n 0, 1) := by decide +kernel
theorem dX0_findClashes_11 : decode cX0_findClashes 11 = .ok (.getfield 24, 3) := by decide +kernel
theorem dX0_findClashes_14 : decode cX0_findClashes 14 = .ok (.iload_n 2, 1) := by decide +kernel
theorem dX0_findClashes_15 : decode cX0_findClashes 15 = .ok (.iconst 0, 1) := by decide +kernel
theorem dX0_findClashes_16 : decode cX0_findClashes 16 = .ok (.iastore, 1) := by decide +kernel
theorem dX0_findClashes_17 : decode cX0_findClashes 17 = .ok (.iconst 0, 1) := by decide +kernel
theorem dX0_findClashes_18 : decode cX0_findClashes 18 = .ok (.istore_n 3, 1) := by decide +kernel
theorem dX0_findClashes_19 : decode cX0_findClashes 19 = .ok (.iload_n 3, 1) := by decide +kernel
theorem dX0_findClashes_20 : decode cX0_findClashes 20 = .ok (.aload_n 0, 1) := by decide +kernel
theorem dX0_findClashes_21 : decode cX0_findClashes 21 = .ok (.getfield 27, 3) := by decide +kernel
theorem dX0_findClashes_24 : decode cX0_findClashes 24 = .ok (.if_icmp .ge 38, 3) := by decide +kernel
theorem dX0_findClashes_27 : decode cX0_findClashes 27 = .ok (.aload_n 0, 1) := by decide +kernel
theorem dX0_findClashes_28 : decode cX0_findClashes 28 = .ok (.iload_n 2, 1) := by decide +kernel
theorem dX0_findClashes_29 : decode cX0_findClashes 29 = .ok (.iload_n 3, 1) := by decide +kernel
theorem dX0_findClashes_30 : decode cX0_findClashes 30 = .ok (.invokevirtual 39, 3) := by decide +kernel
theorem dX0_findClashes_33 : decode cX0_findClashes 33 = .ok (.iload_n 1, 1) := by decide +kernel
theorem dX0_findClashes_34 : decode cX0_findClashes 34 = .ok (.aload_n 0, 1) := by decide +kernel
theorem dX0_findClashes_35 : decode cX0_findClashes 35 = .ok (.iload_n 2, 1) := by decide +kernel
theorem dX0_findClashes_36 : decode cX0_findClashes 36 = .ok (.iload_n 3, 1) := by decide +kernel
theorem dX0_findClashes_37 : decode cX0_findClashes 37 = .ok (.invokevirtual 35, 3) := by decide +kernel
theorem dX0_findClashes_40 : decode cX0_findClashes 40 = .ok (.imul, 1) := by decide +kernel
theorem dX0_findClashes_41 : decode cX0_findClashes 41 = .ok (.if_icmp .le 15, 3) := by decide +kernel
theorem dX0_findClashes_44 : decode cX0_findClashes 44 = .ok (.aload_n 0, 1) := by decide +kernel
theorem dX0_findClashes_45 : decode cX0_findClashes 45 = .ok (.getfield 24, 3) := by decide +kernel
theorem dX0_findClashes_48 : decode cX0_findClashes 48 = .ok (.iload_n 2, 1) := by decide +kernel
theorem dX0_findClashes_49 : decode cX0_findClashes 49 = .ok (.dup2, 1) := by decide +kernel
theorem dX0_findClashes_50 : decode cX0_findClashes 50 = .ok (.iaload, 1) := by decide +kernel
theorem dX0_findClashes_51 : decode cX0_findClashes 51 = .ok (.iconst 1, 1) := by decide +kernel
theorem dX0_findClashes_52 : decode cX0_findClashes 52 = .ok (.iload_n 3, 1) := by decide +kernel
theorem dX0_findClashes_53 : decode cX0_findClashes 53 = .ok (.ishl, 1) := by decide +kernel
theorem dX0_findClashes_54 : decode cX0_findClashes 54 = .ok (.ior, 1) := by decide +kernel
theorem dX0_findClashes_55 : decode cX0_findClashes 55 = .ok (.iastore, 1) := by decide +kernel
theorem dX0_findClashes_56 : decode cX0_findClashes 56 = .ok (.iinc 3 1, 3) := by decide +kernel
theorem dX0_findClashes_59 : decode cX0_findClashes 59 = .ok (.goto (-40), 3) := by decide +kernel
theorem dX0_findClashes_62 : decode cX0_findClashes 62 = .ok (.iinc 2 1, 3) := by decide +kernel
theorem dX0_findClashes_65 : decode cX0_findClashes 65 = .ok (.goto (-63), 3) := by decide +kernel
theorem dX0_findClashes_68 : decode cX0_findClashes 68 = .ok (.return_, 1) := by decide +kernel
theorem dX0_agree_0 : decode cX0_agree 0 = .ok (.iconst 0, 1) := by decide +kernel
theorem dX0_agree_1 : decode cX0_agree 1 = .ok (.istore_n 2, 1) := by decide +kernel
theorem dX0_agree_2 : decode cX0_agree 2 = .ok (.iload_n 2, 1) := by decide +kernel
theorem dX0_agree_3 : decode cX0_agree 3 = .ok (.aload_n 0, 1) := by decide +kernel
theorem dX0_agree_4 : decode cX0_agree 4 = .ok (.getfield 27, 3) := by decide +kernel
theorem dX0_agree_7 : decode cX0_agree 7 = .ok (.if_icmp .ge 30, 3) := by decide +kernel
theorem dX0_agree_10 : decode cX0_agree 10 = .ok (.iload_n 1, 1) := by decide +kernel
theorem dX0_agree_11 : decode cX0_agree 11 = .ok (.iload_n 2, 1) := by decide +kernel
theorem dX0_agree_12 : decode cX0_agree 12 = .ok (.ishr, 1) := by decide +kernel
theorem dX0_agree_13 : decode cX0_agree 13 = .ok (.iconst 1, 1) := by decide +kernel
theorem dX0_agree_14 : decode cX0_agree 14 = .ok (.iand, 1) := by decide +kernel
theorem dX0_agree_15 : decode cX0_agree 15 = .ok (.ifCond .eq 16, 3) := by decide +kernel
theorem dX0_agree_18 : decode cX0_agree 18 = .ok (.aload_n 0, 1) := by decide +kernel
theorem dX0_agree_19 : decode cX0_agree 19 = .ok (.getfield 24, 3) := by decide +kernel
theorem dX0_agree_22 : decode cX0_agree 22 = .ok (.iload_n 2, 1) := by decide +kernel
theorem dX0_agree_23 : decode cX0_agree 23 = .ok (.iaload, 1) := by decide +kernel
theorem dX0_agree_24 : decode cX0_agree 24 = .ok (.iload_n 1, 1) := by decide +kernel
theorem dX0_agree_25 : decode cX0_agree 25 = .ok (.iand, 1) := by decide +kernel
theorem dX0_agree_26 : decode cX0_agree 26 = .ok (.ifCond .eq 5, 3) := by decide +kernel
theorem dX0_agree_29 : decode cX0_agree 29 = .ok (.iconst 0, 1) := by decide +kernel
theorem dX0_agree_30 : decode cX0_agree 30 = .ok (.ireturn, 1) := by decide +kernel
theorem dX0_agree_31 : decode cX0_agree 31 = .ok (.iinc 2 1, 3) := by decide +kernel
theorem dX0_agree_34 : decode cX0_agree 34 = .ok (.goto (-32), 3) := by decide +kernel
theorem dX0_agree_37 : decode cX0_agree 37 = .ok (.iconst 1, 1) := by decide +kernel
theorem dX0_agree_38 : decode cX0_agree 38 = .ok (.ireturn, 1) := by decide +kernel
theorem dX0_trueOf_0 : decode cX0_trueOf 0 = .ok (.aload_n 0, 1) := by decide +kernel
theorem dX0_trueOf_1 : decode cX0_trueOf 1 = .ok (.iload_n 1, 1) := by decide +kernel
theorem dX0_trueOf_2 : decode cX0_trueOf 2 = .ok (.invokevirtual 54, 3) := by decide +kernel
theorem dX0_trueOf_5 : decode cX0_trueOf 5 = .ok (.aload_n 0, 1) := by decide +kernel
theorem dX0_trueOf_6 : decode cX0_trueOf 6 = .ok (.iload_n 1, 1) := by decide +kernel
theorem dX0_trueOf_7 : decode cX0_trueOf 7 = .ok (.iload_n 2, 1) := by decide +kernel
theorem dX0_trueOf_8 : decode cX0_trueOf 8 = .ok (.invokevirtual 66, 3) := by decide +kernel
theorem dX0_trueOf_11 : decode cX0_trueOf 11 = .ok (.iconst (-1), 1) := by decide +kernel
theorem dX0_trueOf_12 : decode cX0_trueOf 12 = .ok (.ixor, 1) := by decide +kernel
theorem dX0_trueOf_13 : decode cX0_trueOf 13 = .ok (.iand, 1) := by decide +kernel
theorem dX0_trueOf_14 : decode cX0_trueOf 14 = .ok (.ireturn, 1) := by decide +kernel
theorem dX0_cellsOf_0 : decode cX0_cellsOf 0 = .ok (.aload_n 0, 1) := by decide +kernel
theorem dX0_cellsOf_1 : decode cX0_cellsOf 1 = .ok (.iload_n 1, 1) := by decide +kernel
theorem dX0_cellsOf_2 : decode cX0_cellsOf 2 = .ok (.iload_n 2, 1) := by decide +kernel
theorem dX0_cellsOf_3 : decode cX0_cellsOf 3 = .ok (.invokevirtual 69, 3) := by decide +kernel
theorem dX0_cellsOf_6 : decode cX0_cellsOf 6 = .ok (.istore 4, 2) := by decide +kernel
theorem dX0_cellsOf_8 : decode cX0_cellsOf 8 = .ok (.lconst 0, 1) := by decide +kernel
theorem dX0_cellsOf_9 : decode cX0_cellsOf 9 = .ok (.lstore 5, 2) := by decide +kernel
theorem dX0_cellsOf_11 : decode cX0_cellsOf 11 = .ok (.iconst 0, 1) := by decide +kernel
theorem dX0_cellsOf_12 : decode cX0_cellsOf 12 = .ok (.istore 7, 2) := by decide +kernel
theorem dX0_cellsOf_14 : decode cX0_cellsOf 14 = .ok (.iload 7, 2) := by decide +kernel
theorem dX0_cellsOf_16 : decode cX0_cellsOf 16 = .ok (.bipush 60, 2) := by decide +kernel
theorem dX0_cellsOf_18 : decode cX0_cellsOf 18 = .ok (.if_icmp .gt 31, 3) := by decide +kernel
theorem dX0_cellsOf_21 : decode cX0_cellsOf 21 = .ok (.aload_n 0, 1) := by decide +kernel
theorem dX0_cellsOf_22 : decode cX0_cellsOf 22 = .ok (.iload 4, 2) := by decide +kernel
theorem dX0_cellsOf_24 : decode cX0_cellsOf 24 = .ok (.iload_n 2, 1) := by decide +kernel
theorem dX0_cellsOf_25 : decode cX0_cellsOf 25 = .ok (.iload_n 3, 1) := by decide +kernel
theorem dX0_cellsOf_26 : decode cX0_cellsOf 26 = .ok (.iload 7, 2) := by decide +kernel
theorem dX0_cellsOf_28 : decode cX0_cellsOf 28 = .ok (.invokevirtual 72, 3) := by decide +kernel
theorem dX0_cellsOf_31 : decode cX0_cellsOf 31 = .ok (.ifCond .eq 12, 3) := by decide +kernel
theorem dX0_cellsOf_34 : decode cX0_cellsOf 34 = .ok (.lload 5, 2) := by decide +kernel
theorem dX0_cellsOf_36 : decode cX0_cellsOf 36 = .ok (.lconst 1, 1) := by decide +kernel
theorem dX0_cellsOf_37 : decode cX0_cellsOf 37 = .ok (.iload 7, 2) := by decide +kernel
theorem dX0_cellsOf_39 : decode cX0_cellsOf 39 = .ok (.lshl, 1) := by decide +kernel
theorem dX0_cellsOf_40 : decode cX0_cellsOf 40 = .ok (.lor, 1) := by decide +kernel
theorem dX0_cellsOf_41 : decode cX0_cellsOf 41 = .ok (.lstore 5, 2) := by decide +kernel
theorem dX0_cellsOf_43 : decode cX0_cellsOf 43 = .ok (.iinc 7 1, 3) := by decide +kernel
theorem dX0_cellsOf_46 : decode cX0_cellsOf 46 = .ok (.goto (-32), 3) := by decide +kernel
theorem dX0_cellsOf_49 : decode cX0_cellsOf 49 = .ok (.lload 5, 2) := by decide +kernel
theorem dX0_cellsOf_51 : decode cX0_cellsOf 51 = .ok (.lreturn, 1) := by decide +kernel
theorem dX0_mayBe_0 : decode cX0_mayBe 0 = .ok (.iconst 0, 1) := by decide +kernel
theorem dX0_mayBe_1 : decode cX0_mayBe 1 = .ok (.istore 5, 2) := by decide +kernel
theorem dX0_mayBe_3 : decode cX0_mayBe 3 = .ok (.iload 5, 2) := by decide +kernel
theorem dX0_mayBe_5 : decode cX0_mayBe 5 = .ok (.aload_n 0, 1) := by decide +kernel
theorem dX0_mayBe_6 : decode cX0_mayBe 6 = .ok (.getfield 27, 3) := by decide +kernel
theorem dX0_mayBe_9 : decode cX0_mayBe 9 = .ok (.if_icmp .ge 50, 3) := by decide +kernel
theorem dX0_mayBe_12 : decode cX0_mayBe 12 = .ok (.iload_n 1, 1) := by decide +kernel
theorem dX0_mayBe_13 : decode cX0_mayBe 13 = .ok (.iload 5, 2) := by decide +kernel
theorem dX0_mayBe_15 : decode cX0_mayBe 15 = .ok (.ishr, 1) := by decide +kernel
theorem dX0_mayBe_16 : decode cX0_mayBe 16 = .ok (.iconst 1, 1) := by decide +kernel
theorem dX0_mayBe_17 : decode cX0_mayBe 17 = .ok (.iand, 1) := by decide +kernel
theorem dX0_mayBe_18 : decode cX0_mayBe 18 = .ok (.ifCond .eq 35, 3) := by decide +kernel
theorem dX0_mayBe_21 : decode cX0_mayBe 21 = .ok (.aload_n 0, 1) := by decide +kernel
theorem dX0_mayBe_22 : decode cX0_mayBe 22 = .ok (.getfield 18, 3) := by decide +kernel
theorem dX0_mayBe_25 : decode cX0_mayBe 25 = .ok (.iload 5, 2) := by decide +kernel
theorem dX0_mayBe_27 : decode cX0_mayBe 27 = .ok (.iaload, 1) := by decide +kernel
theorem dX0_mayBe_28 : decode cX0_mayBe 28 = .ok (.iload 4, 2) := by decide +kernel
theorem dX0_mayBe_30 : decode cX0_mayBe 30 = .ok (.isub, 1) := by decide +kernel
theorem dX0_mayBe_31 : decode cX0_mayBe 31 = .ok (.invokestatic 42, 3) := by decide +kernel
theorem dX0_mayBe_34 : decode cX0_mayBe 34 = .ok (.iload_n 2, 1) := by decide +kernel
theorem dX0_mayBe_35 : decode cX0_mayBe 35 = .ok (.aload_n 0, 1) := by decide +kernel
theorem dX0_mayBe_36 : decode cX0_mayBe 36 = .ok (.getfield 15, 3) := by decide +kernel
theorem dX0_mayBe_39 : decode cX0_mayBe 39 = .ok (.iload 5, 2) := by decide +kernel
theorem dX0_mayBe_41 : decode cX0_mayBe 41 = .ok (.iaload, 1) := by decide +kernel
theorem dX0_mayBe_42 : decode cX0_mayBe 42 = .ok (.iload_n 3, 1) := by decide +kernel
theorem dX0_mayBe_43 : decode cX0_mayBe 43 = .ok (.isub, 1) := by decide +kernel
theorem dX0_mayBe_44 : decode cX0_mayBe 44 = .ok (.invokestatic 42, 3) := by decide +kernel
theorem dX0_mayBe_47 : decode cX0_mayBe 47 = .ok (.imul, 1) := by decide +kernel
theorem dX0_mayBe_48 : decode cX0_mayBe 48 = .ok (.if_icmp .le 5, 3) := by decide +kernel
theorem dX0_mayBe_51 : decode cX0_mayBe 51 = .ok (.iconst 0, 1) := by decide +kernel
theorem dX0_mayBe_52 : decode cX0_mayBe 52 = .ok (.ireturn, 1) := by decide +kernel
theorem dX0_mayBe_53 : decode cX0_mayBe 53 = .ok (.iinc 5 1, 3) := by decide +kernel
theorem dX0_mayBe_56 : decode cX0_mayBe 56 = .ok (.goto (-53), 3) := by decide +kernel
theorem dX0_mayBe_59 : decode cX0_mayBe 59 = .ok (.iconst 1, 1) := by decide +kernel
theorem dX0_mayBe_60 : decode cX0_mayBe 60 = .ok (.ireturn, 1) := by decide +kernel
theorem dX0_latestTrue_0 : decode cX0_latestTrue 0 = .ok (.aload_n 0, 1) := by decide +kernel
theorem dX0_latestTrue_1 : decode cX0_latestTrue 1 = .ok (.iload_n 1, 1) := by decide +kernel
theorem dX0_latestTrue_2 : decode cX0_latestTrue 2 = .ok (.iload_n 2, 1) := by decide +kernel
theorem dX0_latestTrue_3 : decode cX0_latestTrue 3 = .ok (.invokevirtual 69, 3) := by decide +kernel
theorem dX0_latestTrue_6 : decode cX0_latestTrue 6 = .ok (.istore_n 3, 1) := by decide +kernel
theorem dX0_latestTrue_7 : decode cX0_latestTrue 7 = .ok (.iconst (-1), 1) := by decide +kernel
theorem dX0_latestTrue_8 : decode cX0_latestTrue 8 = .ok (.istore 4, 2) := by decide +kernel
theorem dX0_latestTrue_10 : decode cX0_latestTrue 10 = .ok (.iconst 0, 1) := by decide +kernel
theorem dX0_latestTrue_11 : decode cX0_latestTrue 11 = .ok (.istore 5, 2) := by decide +kernel
theorem dX0_latestTrue_13 : decode cX0_latestTrue 13 = .ok (.iload 5, 2) := by decide +kernel
theorem dX0_latestTrue_15 : decode cX0_latestTrue 15 = .ok (.aload_n 0, 1) := by decide +kernel
theorem dX0_latestTrue_16 : decode cX0_latestTrue 16 = .ok (.getfield 27, 3) := by decide +kernel
theorem dX0_latestTrue_19 : decode cX0_latestTrue 19 = .ok (.if_icmp .ge 44, 3) := by decide +kernel
theorem dX0_latestTrue_22 : decode cX0_latestTrue 22 = .ok (.iload_n 3, 1) := by decide +kernel
theorem dX0_latestTrue_23 : decode cX0_latestTrue 23 = .ok (.iload 5, 2) := by decide +kernel
theorem dX0_latestTrue_25 : decode cX0_latestTrue 25 = .ok (.ishr, 1) := by decide +kernel
theorem dX0_latestTrue_26 : decode cX0_latestTrue 26 = .ok (.iconst 1, 1) := by decide +kernel
theorem dX0_latestTrue_27 : decode cX0_latestTrue 27 = .ok (.iand, 1) := by decide +kernel
theorem dX0_latestTrue_28 : decode cX0_latestTrue 28 = .ok (.ifCond .eq 29, 3) := by decide +kernel
theorem dX0_latestTrue_31 : decode cX0_latestTrue 31 = .ok (.iload 4, 2) := by decide +kernel
theorem dX0_latestTrue_33 : decode cX0_latestTrue 33 = .ok (.ifCond .lt 20, 3) := by decide +kernel
theorem dX0_latestTrue_36 : decode cX0_latestTrue 36 = .ok (.aload_n 0, 1) := by decide +kernel
theorem dX0_latestTrue_37 : decode cX0_latestTrue 37 = .ok (.getfield 15, 3) := by decide +kernel
theorem dX0_latestTrue_40 : decode cX0_latestTrue 40 = .ok (.iload 5, 2) := by decide +kernel
theorem dX0_latestTrue_42 : decode cX0_latestTrue 42 = .ok (.iaload, 1) := by decide +kernel
theorem dX0_latestTrue_43 : decode cX0_latestTrue 43 = .ok (.aload_n 0, 1) := by decide +kernel
theorem dX0_latestTrue_44 : decode cX0_latestTrue 44 = .ok (.getfield 15, 3) := by decide +kernel
theorem dX0_latestTrue_47 : decode cX0_latestTrue 47 = .ok (.iload 4, 2) := by decide +kernel
theorem dX0_latestTrue_49 : decode cX0_latestTrue 49 = .ok (.iaload, 1) := by decide +kernel
theorem dX0_latestTrue_50 : decode cX0_latestTrue 50 = .ok (.if_icmp .le 7, 3) := by decide +kernel
theorem dX0_latestTrue_53 : decode cX0_latestTrue 53 = .ok (.iload 5, 2) := by decide +kernel
theorem dX0_latestTrue_55 : decode cX0_latestTrue 55 = .ok (.istore 4, 2) := by decide +kernel
theorem dX0_latestTrue_57 : decode cX0_latestTrue 57 = .ok (.iinc 5 1, 3) := by decide +kernel
theorem dX0_latestTrue_60 : decode cX0_latestTrue 60 = .ok (.goto (-47), 3) := by decide +kernel
theorem dX0_latestTrue_63 : decode cX0_latestTrue 63 = .ok (.iload 4, 2) := by decide +kernel
theorem dX0_latestTrue_65 : decode cX0_latestTrue 65 = .ok (.ireturn, 1) := by decide +kernel
theorem dX1_init_0 : decode cX1_init 0 = .ok (.aload_n 0, 1) := by decide +kernel
theorem dX1_init_1 : decode cX1_init 1 = .ok (.invokespecial 1, 3) := by decide +kernel
theorem dX1_init_4 : decode cX1_init 4 = .ok (.aload_n 0, 1) := by decide +kernel
theorem dX1_init_5 : decode cX1_init 5 = .ok (.new 7, 3) := by decide +kernel
theorem dX1_init_8 : decode cX1_init 8 = .ok (.dup, 1) := by decide +kernel
theorem dX1_init_9 : decode cX1_init 9 = .ok (.invokespecial 9, 3) := by decide +kernel
theorem dX1_init_12 : decode cX1_init 12 = .ok (.putfield 10, 3) := by decide +kernel
theorem dX1_init_15 : decode cX1_init 15 = .ok (.aload_n 0, 1) := by decide +kernel
theorem dX1_init_16 : decode cX1_init 16 = .ok (.bipush 6, 2) := by decide +kernel
theorem dX1_init_18 : decode cX1_init 18 = .ok (.bipush 6, 2) := by decide +kernel
theorem dX1_init_20 : decode cX1_init 20 = .ok (.multianewarray 18 2, 4) := by decide +kernel
theorem dX1_init_24 : decode cX1_init 24 = .ok (.putfield 20, 3) := by decide +kernel
theorem dX1_init_27 : decode cX1_init 27 = .ok (.return_, 1) := by decide +kernel
theorem dX1_keep_0 : decode cX1_keep 0 = .ok (.aload_n 0, 1) := by decide +kernel
theorem dX1_keep_1 : decode cX1_keep 1 = .ok (.getfield 10, 3) := by decide +kernel
theorem dX1_keep_4 : decode cX1_keep 4 = .ok (.aload_n 1, 1) := by decide +kernel
theorem dX1_keep_5 : decode cX1_keep 5 = .ok (.invokevirtual 23, 3) := by decide +kernel
theorem dX1_keep_8 : decode cX1_keep 8 = .ok (.aload_n 0, 1) := by decide +kernel
theorem dX1_keep_9 : decode cX1_keep 9 = .ok (.aload_n 2, 1) := by decide +kernel
theorem dX1_keep_10 : decode cX1_keep 10 = .ok (.getfield 27, 3) := by decide +kernel
theorem dX1_keep_13 : decode cX1_keep 13 = .ok (.putfield 31, 3) := by decide +kernel
theorem dX1_keep_16 : decode cX1_keep 16 = .ok (.aload_n 0, 1) := by decide +kernel
theorem dX1_keep_17 : decode cX1_keep 17 = .ok (.aload_n 2, 1) := by decide +kernel
theorem dX1_keep_18 : decode cX1_keep 18 = .ok (.getfield 34, 3) := by decide +kernel
theorem dX1_keep_21 : decode cX1_keep 21 = .ok (.aload_n 0, 1) := by decide +kernel
theorem dX1_keep_22 : decode cX1_keep 22 = .ok (.getfield 20, 3) := by decide +kernel
theorem dX1_keep_25 : decode cX1_keep 25 = .ok (.invokevirtual 35, 3) := by decide +kernel
theorem dX1_keep_28 : decode cX1_keep 28 = .ok (.aload_n 0, 1) := by decide +kernel
theorem dX1_keep_29 : decode cX1_keep 29 = .ok (.iconst 1, 1) := by decide +kernel
theorem dX1_keep_30 : decode cX1_keep 30 = .ok (.putfield 39, 3) := by decide +kernel
theorem dX1_keep_33 : decode cX1_keep 33 = .ok (.return_, 1) := by decide +kernel
theorem dX1_giveBack_0 : decode cX1_giveBack 0 = .ok (.aload_n 1, 1) := by decide +kernel
theorem dX1_giveBack_1 : decode cX1_giveBack 1 = .ok (.aload_n 0, 1) := by decide +kernel
theorem dX1_giveBack_2 : decode cX1_giveBack 2 = .ok (.getfield 10, 3) := by decide +kernel
theorem dX1_giveBack_5 : decode cX1_giveBack 5 = .ok (.invokevirtual 23, 3) := by decide +kernel
theorem dX1_giveBack_8 : decode cX1_giveBack 8 = .ok (.aload_n 0, 1) := by decide +kernel
theorem dX1_giveBack_9 : decode cX1_giveBack 9 = .ok (.aload_n 0, 1) := by decide +kernel
theorem dX1_giveBack_10 : decode cX1_giveBack 10 = .ok (.getfield 20, 3) := by decide +kernel
theorem dX1_giveBack_13 : decode cX1_giveBack 13 = .ok (.aload_n 2, 1) := by decide +kernel
theorem dX1_giveBack_14 : decode cX1_giveBack 14 = .ok (.getfield 34, 3) := by decide +kernel
theorem dX1_giveBack_17 : decode cX1_giveBack 17 = .ok (.invokevirtual 35, 3) := by decide +kernel
theorem dX1_giveBack_20 : decode cX1_giveBack 20 = .ok (.return_, 1) := by decide +kernel
theorem dX1_copyTaken_0 : decode cX1_copyTaken 0 = .ok (.iconst 0, 1) := by decide +kernel
theorem dX1_copyTaken_1 : decode cX1_copyTaken 1 = .ok (.istore_n 3, 1) := by decide +kernel
theorem dX1_copyTaken_2 : decode cX1_copyTaken 2 = .ok (.iload_n 3, 1) := by decide +kernel
theorem dX1_copyTaken_3 : decode cX1_copyTaken 3 = .ok (.aload_n 0, 1) := by decide +kernel
theorem dX1_copyTaken_4 : decode cX1_copyTaken 4 = .ok (.getfield 31, 3) := by decide +kernel
theorem dX1_copyTaken_7 : decode cX1_copyTaken 7 = .ok (.if_icmp .ge 24, 3) := by decide +kernel
theorem dX1_copyTaken_10 : decode cX1_copyTaken 10 = .ok (.aload_n 1, 1) := by decide +kernel
theorem dX1_copyTaken_11 : decode cX1_copyTaken 11 = .ok (.iload_n 3, 1) := by decide +kernel
theorem dX1_copyTaken_12 : decode cX1_copyTaken 12 = .ok (.aaload, 1) := by decide +kernel
theorem dX1_copyTaken_13 : decode cX1_copyTaken 13 = .ok (.iconst 0, 1) := by decide +kernel
theorem dX1_copyTaken_14 : decode cX1_copyTaken 14 = .ok (.aload_n 2, 1) := by decide +kernel
theorem dX1_copyTaken_15 : decode cX1_copyTaken 15 = .ok (.iload_n 3, 1) := by decide +kernel
theorem dX1_copyTaken_16 : decode cX1_copyTaken 16 = .ok (.aaload, 1) := by decide +kernel
theorem dX1_copyTaken_17 : decode cX1_copyTaken 17 = .ok (.iconst 0, 1) := by decide +kernel
theorem dX1_copyTaken_18 : decode cX1_copyTaken 18 = .ok (.aload_n 0, 1) := by decide +kernel
theorem dX1_copyTaken_19 : decode cX1_copyTaken 19 = .ok (.getfield 31, 3) := by decide +kernel
theorem dX1_copyTaken_22 : decode cX1_copyTaken 22 = .ok (.invokestatic 43, 3) := by decide +kernel
theorem dX1_copyTaken_25 : decode cX1_copyTaken 25 = .ok (.iinc 3 1, 3) := by decide +kernel
theorem dX1_copyTaken_28 : decode cX1_copyTaken 28 = .ok (.goto (-26), 3) := by decide +kernel
theorem dX1_copyTaken_31 : decode cX1_copyTaken 31 = .ok (.return_, 1) := by decide +kernel
theorem dX2_init_0 : decode cX2_init 0 = .ok (.aload_n 0, 1) := by decide +kernel
theorem dX2_init_1 : decode cX2_init 1 = .ok (.invokespecial 1, 3) := by decide +kernel
theorem dX2_init_4 : decode cX2_init 4 = .ok (.aload_n 0, 1) := by decide +kernel
theorem dX2_init_5 : decode cX2_init 5 = .ok (.new 7, 3) := by decide +kernel
theorem dX2_init_8 : decode cX2_init 8 = .ok (.dup, 1) := by decide +kernel
theorem dX2_init_9 : decode cX2_init 9 = .ok (.invokespecial 9, 3) := by decide +kernel
theorem dX2_init_12 : decode cX2_init 12 = .ok (.putfield 10, 3) := by decide +kernel
theorem dX2_init_15 : decode cX2_init 15 = .ok (.aload_n 0, 1) := by decide +kernel
theorem dX2_init_16 : decode cX2_init 16 = .ok (.bipush 6, 2) := by decide +kernel
theorem dX2_init_18 : decode cX2_init 18 = .ok (.newarray .int, 2) := by decide +kernel
theorem dX2_init_20 : decode cX2_init 20 = .ok (.putfield 16, 3) := by decide +kernel
theorem dX2_init_23 : decode cX2_init 23 = .ok (.aload_n 0, 1) := by decide +kernel
theorem dX2_init_24 : decode cX2_init 24 = .ok (.iconst 1, 1) := by decide +kernel
theorem dX2_init_25 : decode cX2_init 25 = .ok (.putfield 20, 3) := by decide +kernel
theorem dX2_init_28 : decode cX2_init 28 = .ok (.aload_n 0, 1) := by decide +kernel
theorem dX2_init_29 : decode cX2_init 29 = .ok (.bipush 6, 2) := by decide +kernel
theorem dX2_init_31 : decode cX2_init 31 = .ok (.sipush 160, 3) := by decide +kernel
theorem dX2_init_34 : decode cX2_init 34 = .ok (.multianewarray 26 2, 4) := by decide +kernel
theorem dX2_init_38 : decode cX2_init 38 = .ok (.putfield 28, 3) := by decide +kernel
theorem dX2_init_41 : decode cX2_init 41 = .ok (.aload_n 0, 1) := by decide +kernel
theorem dX2_init_42 : decode cX2_init 42 = .ok (.bipush 6, 2) := by decide +kernel
theorem dX2_init_44 : decode cX2_init 44 = .ok (.iconst 4, 1) := by decide +kernel
theorem dX2_init_45 : decode cX2_init 45 = .ok (.multianewarray 26 2, 4) := by decide +kernel
theorem dX2_init_49 : decode cX2_init 49 = .ok (.putfield 31, 3) := by decide +kernel
theorem dX2_init_52 : decode cX2_init 52 = .ok (.aload_n 0, 1) := by decide +kernel
theorem dX2_init_53 : decode cX2_init 53 = .ok (.sipush 160, 3) := by decide +kernel
theorem dX2_init_56 : decode cX2_init 56 = .ok (.newarray .int, 2) := by decide +kernel
theorem dX2_init_58 : decode cX2_init 58 = .ok (.putfield 34, 3) := by decide +kernel
theorem dX2_init_61 : decode cX2_init 61 = .ok (.getstatic 37, 3) := by decide +kernel
theorem dX2_init_64 : decode cX2_init 64 = .ok (.iconst 0, 1) := by decide +kernel
theorem dX2_init_65 : decode cX2_init 65 = .ok (.aload_n 0, 1) := by decide +kernel
theorem dX2_init_66 : decode cX2_init 66 = .ok (.getfield 28, 3) := by decide +kernel
theorem dX2_init_69 : decode cX2_init 69 = .ok (.iconst 0, 1) := by decide +kernel
theorem dX2_init_70 : decode cX2_init 70 = .ok (.aaload, 1) := by decide +kernel
theorem dX2_init_71 : decode cX2_init 71 = .ok (.iconst 0, 1) := by decide +kernel
theorem dX2_init_72 : decode cX2_init 72 = .ok (.getstatic 37, 3) := by decide +kernel
theorem dX2_init_75 : decode cX2_init 75 = .ok (.arraylength, 1) := by decide +kernel
theorem dX2_init_76 : decode cX2_init 76 = .ok (.invokestatic 40, 3) := by decide +kernel
theorem dX2_init_79 : decode cX2_init 79 = .ok (.getstatic 46, 3) := by decide +kernel
theorem dX2_init_82 : decode cX2_init 82 = .ok (.iconst 0, 1) := by decide +kernel
theorem dX2_init_83 : decode cX2_init 83 = .ok (.aload_n 0, 1) := by decide +kernel
theorem dX2_init_84 : decode cX2_init 84 = .ok (.getfield 31, 3) := by decide +kernel
theorem dX2_init_87 : decode cX2_init 87 = .ok (.iconst 0, 1) := by decide +kernel
theorem dX2_init_88 : decode cX2_init 88 = .ok (.aaload, 1) := by decide +kernel
theorem dX2_init_89 : decode cX2_init 89 = .ok (.iconst 0, 1) := by decide +kernel
theorem dX2_init_90 : decode cX2_init 90 = .ok (.getstatic 46, 3) := by decide +kernel
theorem dX2_init_93 : decode cX2_init 93 = .ok (.arraylength, 1) := by decide +kernel
theorem dX2_init_94 : decode cX2_init 94 = .ok (.invokestatic 40, 3) := by decide +kernel
theorem dX2_init_97 : decode cX2_init 97 = .ok (.return_, 1) := by decide +kernel
theorem dX2_add_0 : decode cX2_add 0 = .ok (.aload_n 0, 1) := by decide +kernel
theorem dX2_add_1 : decode cX2_add 1 = .ok (.getfield 10, 3) := by decide +kernel
theorem dX2_add_4 : decode cX2_add 4 = .ok (.getfield 49, 3) := by decide +kernel
theorem dX2_add_7 : decode cX2_add 7 = .ok (.iconst 0, 1) := by decide +kernel
theorem dX2_add_8 : decode cX2_add 8 = .ok (.aload_n 0, 1) := by decide +kernel
theorem dX2_add_9 : decode cX2_add 9 = .ok (.getfield 28, 3) := by decide +kernel
theorem dX2_add_12 : decode cX2_add 12 = .ok (.aload_n 0, 1) := by decide +kernel
theorem dX2_add_13 : decode cX2_add 13 = .ok (.getfield 20, 3) := by decide +kernel
theorem dX2_add_16 : decode cX2_add 16 = .ok (.aaload, 1) := by decide +kernel
theorem dX2_add_17 : decode cX2_add 17 = .ok (.iconst 0, 1) := by decide +kernel
theorem dX2_add_18 : decode cX2_add 18 = .ok (.aload_n 0, 1) := by decide +kernel
theorem dX2_add_19 : decode cX2_add 19 = .ok (.getfield 10, 3) := by decide +kernel
theorem dX2_add_22 : decode cX2_add 22 = .ok (.getfield 49, 3) := by decide +kernel
theorem dX2_add_25 : decode cX2_add 25 = .ok (.arraylength, 1) := by decide +kernel
theorem dX2_add_26 : decode cX2_add 26 = .ok (.invokestatic 40, 3) := by decide +kernel
theorem dX2_add_29 : decode cX2_add 29 = .ok (.aload_n 0, 1) := by decide +kernel
theorem dX2_add_30 : decode cX2_add 30 = .ok (.getfield 10, 3) := by decide +kernel
theorem dX2_add_33 : decode cX2_add 33 = .ok (.getfield 51, 3) := by decide +kernel
theorem dX2_add_36 : decode cX2_add 36 = .ok (.iconst 0, 1) := by decide +kernel
theorem dX2_add_37 : decode cX2_add 37 = .ok (.aload_n 0, 1) := by decide +kernel
theorem dX2_add_38 : decode cX2_add 38 = .ok (.getfield 31, 3) := by decide +kernel
theorem dX2_add_41 : decode cX2_add 41 = .ok (.aload_n 0, 1) := by decide +kernel
theorem dX2_add_42 : decode cX2_add 42 = .ok (.getfield 20, 3) := by decide +kernel
theorem dX2_add_45 : decode cX2_add 45 = .ok (.aaload, 1) := by decide +kernel
theorem dX2_add_46 : decode cX2_add 46 = .ok (.iconst 0, 1) := by decide +kernel
theorem dX2_add_47 : decode cX2_add 47 = .ok (.aload_n 0, 1) := by decide +kernel
theorem dX2_add_48 : decode cX2_add 48 = .ok (.getfield 10, 3) := by decide +kernel
theorem dX2_add_51 : decode cX2_add 51 = .ok (.getfield 51, 3) := by decide +kernel
theorem dX2_add_54 : decode cX2_add 54 = .ok (.arraylength, 1) := by decide +kernel
theorem dX2_add_55 : decode cX2_add 55 = .ok (.invokestatic 40, 3) := by decide +kernel
theorem dX2_add_58 : decode cX2_add 58 = .ok (.aload_n 0, 1) := by decide +kernel
theorem dX2_add_59 : decode cX2_add 59 = .ok (.dup, 1) := by decide +kernel
theorem dX2_add_60 : decode cX2_add 60 = .ok (.getfield 20, 3) := by decide +kernel
theorem dX2_add_63 : decode cX2_add 63 = .ok (.iconst 1, 1) := by decide +kernel
theorem dX2_add_64 : decode cX2_add 64 = .ok (.iadd, 1) := by decide +kernel
theorem dX2_add_65 : decode cX2_add 65 = .ok (.putfield 20, 3) := by decide +kernel
theorem dX2_add_68 : decode cX2_add 68 = .ok (.aload_n 0, 1) := by decide +kernel
theorem dX2_add_69 : decode cX2_add 69 = .ok (.getfield 20, 3) := by decide +kernel
theorem dX2_add_72 : decode cX2_add 72 = .ok (.iconst 1, 1) := by decide +kernel
theorem dX2_add_73 : decode cX2_add 73 = .ok (.isub, 1) := by decide +kernel
theorem dX2_add_74 : decode cX2_add 74 = .ok (.ireturn, 1) := by decide +kernel
theorem dX2_says_0 : decode cX2_says 0 = .ok (.aload_n 0, 1) := by decide +kernel
theorem dX2_says_1 : decode cX2_says 1 = .ok (.getfield 28, 3) := by decide +kernel
theorem dX2_says_4 : decode cX2_says 4 = .ok (.iload_n 1, 1) := by decide +kernel
theorem dX2_says_5 : decode cX2_says 5 = .ok (.aaload, 1) := by decide +kernel
theorem dX2_says_6 : decode cX2_says 6 = .ok (.astore_n 3, 1) := by decide +kernel
theorem dX2_says_7 : decode cX2_says 7 = .ok (.iconst 0, 1) := by decide +kernel
theorem dX2_says_8 : decode cX2_says 8 = .ok (.istore 4, 2) := by decide +kernel
theorem dX2_says_10 : decode cX2_says 10 = .ok (.aload_n 0, 1) := by decide +kernel
theorem dX2_says_11 : decode cX2_says 11 = .ok (.getfield 31, 3) := by decide +kernel
theorem dX2_says_14 : decode cX2_says 14 = .ok (.iload_n 1, 1) := by decide +kernel
theorem dX2_says_15 : decode cX2_says 15 = .ok (.aaload, 1) := by decide +kernel
theorem dX2_says_16 : decode cX2_says 16 = .ok (.iload_n 2, 1) := by decide +kernel
theorem dX2_says_17 : decode cX2_says 17 = .ok (.iaload, 1) := by decide +kernel
theorem dX2_says_18 : decode cX2_says 18 = .ok (.istore 5, 2) := by decide +kernel
theorem dX2_says_20 : decode cX2_says 20 = .ok (.iload 5, 2) := by decide +kernel
theorem dX2_says_22 : decode cX2_says 22 = .ok (.aload_n 0, 1) := by decide +kernel
theorem dX2_says_23 : decode cX2_says 23 = .ok (.getfield 31, 3) := by decide +kernel
theorem dX2_says_26 : decode cX2_says 26 = .ok (.iload_n 1, 1) := by decide +kernel
theorem dX2_says_27 : decode cX2_says 27 = .ok (.aaload, 1) := by decide +kernel
theorem dX2_says_28 : decode cX2_says 28 = .ok (.iload_n 2, 1) := by decide +kernel
theorem dX2_says_29 : decode cX2_says 29 = .ok (.iconst 1, 1) := by decide +kernel
theorem dX2_says_30 : decode cX2_says 30 = .ok (.iadd, 1) := by decide +kernel
theorem dX2_says_31 : decode cX2_says 31 = .ok (.iaload, 1) := by decide +kernel
theorem dX2_says_32 : decode cX2_says 32 = .ok (.if_icmp .ge 130, 3) := by decide +kernel
theorem dX2_says_35 : decode cX2_says 35 = .ok (.aload_n 3, 1) := by decide +kernel
theorem dX2_says_36 : decode cX2_says 36 = .ok (.iload 5, 2) := by decide +kernel
theorem dX2_says_38 : decode cX2_says 38 = .ok (.iaload, 1) := by decide +kernel
theorem dX2_says_39 : decode cX2_says 39 = .ok (.istore 6, 2) := by decide +kernel
theorem dX2_says_41 : decode cX2_says 41 = .ok (.iload 6, 2) := by decide +kernel
theorem dX2_says_43 : decode cX2_says 43 = .ok (.bipush (-6), 2) := by decide +kernel
theorem dX2_says_45 : decode cX2_says 45 = .ok (.if_icmp .lt 45, 3) := by decide +kernel
theorem dX2_says_48 : decode cX2_says 48 = .ok (.iload 4, 2) := by decide +kernel
theorem dX2_says_50 : decode cX2_says 50 = .ok (.aload_n 0, 1) := by decide +kernel
theorem dX2_says_51 : decode cX2_says 51 = .ok (.getfield 34, 3) := by decide +kernel
theorem dX2_says_54 : decode cX2_says 54 = .ok (.arraylength, 1) := by decide +kernel
theorem dX2_says_55 : decode cX2_says 55 = .ok (.if_icmp .ge 35, 3) := by decide +kernel
theorem dX2_says_58 : decode cX2_says 58 = .ok (.aload_n 0, 1) := by decide +kernel
theorem dX2_says_59 : decode cX2_says 59 = .ok (.getfield 34, 3) := by decide +kernel
theorem dX2_says_62 : decode cX2_says 62 = .ok (.iload 4, 2) := by decide +kernel
theorem dX2_says_64 : decode cX2_says 64 = .ok (.iload 6, 2) := by decide +kernel
theorem dX2_says_66 : decode cX2_says 66 = .ok (.ifCond .lt 8, 3) := by decide +kernel
theorem dX2_says_69 : decode cX2_says 69 = .ok (.iload 6, 2) := by decide +kernel
theorem dX2_says_71 : decode cX2_says 71 = .ok (.goto 12, 3) := by decide +kernel
theorem dX2_says_74 : decode cX2_says 74 = .ok (.aload_n 0, 1) := by decide +kernel
theorem dX2_says_75 : decode cX2_says 75 = .ok (.getfield 16, 3) := by decide +kernel
theorem dX2_says_78 : decode cX2_says 78 = .ok (.iconst (-1), 1) := by decide +kernel
theorem dX2_says_79 : decode cX2_says 79 = .ok (.iload 6, 2) := by decide +kernel
theorem dX2_says_81 : decode cX2_says 81 = .ok (.isub, 1) := by decide +kernel
theorem dX2_says_82 : decode cX2_says 82 = .ok (.iaload, 1) := by decide +kernel
theorem dX2_says_83 : decode cX2_says 83 = .ok (.iastore, 1) := by decide +kernel
theorem dX2_says_84 : decode cX2_says 84 = .ok (.iinc 4 1, 3) := by decide +kernel
theorem dX2_says_87 : decode cX2_says 87 = .ok (.goto 69, 3) := by decide +kernel
theorem dX2_says_90 : decode cX2_says 90 = .ok (.iload 6, 2) := by decide +kernel
theorem dX2_says_92 : decode cX2_says 92 = .ok (.bipush (-13), 2) := by decide +kernel
theorem dX2_says_94 : decode cX2_says 94 = .ok (.if_icmp .eq 10, 3) := by decide +kernel
theorem dX2_says_97 : decode cX2_says 97 = .ok (.iload 6, 2) := by decide +kernel
theorem dX2_says_99 : decode cX2_says 99 = .ok (.bipush (-19), 2) := by decide +kernel
theorem dX2_says_101 : decode cX2_says 101 = .ok (.if_icmp .ne 16, 3) := by decide +kernel
theorem dX2_says_104 : decode cX2_says 104 = .ok (.aload_n 0, 1) := by decide +kernel
theorem dX2_says_105 : decode cX2_says 105 = .ok (.iload 6, 2) := by decide +kernel
theorem dX2_says_107 : decode cX2_says 107 = .ok (.iload 4, 2) := by decide +kernel
theorem dX2_says_109 : decode cX2_says 109 = .ok (.iconst 1, 1) := by decide +kernel
theorem dX2_says_110 : decode cX2_says 110 = .ok (.isub, 1) := by decide +kernel
theorem dX2_says_111 : decode cX2_says 111 = .ok (.invokevirtual 53, 3) := by decide +kernel
theorem dX2_says_114 : decode cX2_says 114 = .ok (.goto 42, 3) := by decide +kernel
theorem dX2_says_117 : decode cX2_says 117 = .ok (.iload 4, 2) := by decide +kernel
theorem dX2_says_119 : decode cX2_says 119 = .ok (.iconst 2, 1) := by decide +kernel
theorem dX2_says_120 : decode cX2_says 120 = .ok (.if_icmp .lt 36, 3) := by decide +kernel
theorem dX2_says_123 : decode cX2_says 123 = .ok (.iinc 4 (-1), 3) := by decide +kernel
theorem dX2_says_126 : decode cX2_says 126 = .ok (.aload_n 0, 1) := by decide +kernel
theorem dX2_says_127 : decode cX2_says 127 = .ok (.getfield 34, 3) := by decide +kernel
theorem dX2_says_130 : decode cX2_says 130 = .ok (.iload 4, 2) := by decide +kernel
theorem dX2_says_132 : decode cX2_says 132 = .ok (.iconst 1, 1) := by decide +kernel
theorem dX2_says_133 : decode cX2_says 133 = .ok (.isub, 1) := by decide +kernel
theorem dX2_says_134 : decode cX2_says 134 = .ok (.iload 6, 2) := by decide +kernel
theorem dX2_says_136 : decode cX2_says 136 = .ok (.aload_n 0, 1) := by decide +kernel
theorem dX2_says_137 : decode cX2_says 137 = .ok (.getfield 34, 3) := by decide +kernel
theorem dX2_says_140 : decode cX2_says 140 = .ok (.iload 4, 2) := by decide +kernel
theorem dX2_says_142 : decode cX2_says 142 = .ok (.iconst 1, 1) := by decide +kernel
theorem dX2_says_143 : decode cX2_says 143 = .ok (.isub, 1) := by decide +kernel
theorem dX2_says_144 : decode cX2_says 144 = .ok (.iaload, 1) := by decide +kernel
theorem dX2_says_145 : decode cX2_says 145 = .ok (.aload_n 0, 1) := by decide +kernel
theorem dX2_says_146 : decode cX2_says 146 = .ok (.getfield 34, 3) := by decide +kernel
theorem dX2_says_149 : decode cX2_says 149 = .ok (.iload 4, 2) := by decide +kernel
theorem dX2_says_151 : decode cX2_says 151 = .ok (.iaload, 1) := by decide +kernel
theorem dX2_says_152 : decode cX2_says 152 = .ok (.invokestatic 57, 3) := by decide +kernel
theorem dX2_says_155 : decode cX2_says 155 = .ok (.iastore, 1) := by decide +kernel
theorem dX2_says_156 : decode cX2_says 156 = .ok (.iinc 5 1, 3) := by decide +kernel
theorem dX2_says_159 : decode cX2_says 159 = .ok (.goto (-139), 3) := by decide +kernel
theorem dX2_says_162 : decode cX2_says 162 = .ok (.getstatic 61, 3) := by decide +kernel
theorem dX2_says_165 : decode cX2_says 165 = .ok (.iload_n 2, 1) := by decide +kernel
theorem dX2_says_166 : decode cX2_says 166 = .ok (.iaload, 1) := by decide +kernel
theorem dX2_says_167 : decode cX2_says 167 = .ok (.getstatic 64, 3) := by decide +kernel
theorem dX2_says_170 : decode cX2_says 170 = .ok (.iload_n 2, 1) := by decide +kernel
theorem dX2_says_171 : decode cX2_says 171 = .ok (.iaload, 1) := by decide +kernel
theorem dX2_says_172 : decode cX2_says 172 = .ok (.aload_n 0, 1) := by decide +kernel
theorem dX2_says_173 : decode cX2_says 173 = .ok (.getfield 34, 3) := by decide +kernel
theorem dX2_says_176 : decode cX2_says 176 = .ok (.iconst 0, 1) := by decide +kernel
theorem dX2_says_177 : decode cX2_says 177 = .ok (.iaload, 1) := by decide +kernel
theorem dX2_says_178 : decode cX2_says 178 = .ok (.invokestatic 67, 3) := by decide +kernel
theorem dX2_says_181 : decode cX2_says 181 = .ok (.invokestatic 73, 3) := by decide +kernel
theorem dX2_says_184 : decode cX2_says 184 = .ok (.ireturn, 1) := by decide +kernel
theorem dX2_turnTop_0 : decode cX2_turnTop 0 = .ok (.iload_n 2, 1) := by decide +kernel
theorem dX2_turnTop_1 : decode cX2_turnTop 1 = .ok (.ifCond .lt 36, 3) := by decide +kernel
theorem dX2_turnTop_4 : decode cX2_turnTop 4 = .ok (.aload_n 0, 1) := by decide +kernel
theorem dX2_turnTop_5 : decode cX2_turnTop 5 = .ok (.getfield 34, 3) := by decide +kernel
theorem dX2_turnTop_8 : decode cX2_turnTop 8 = .ok (.iload_n 2, 1) := by decide +kernel
theorem dX2_turnTop_9 : decode cX2_turnTop 9 = .ok (.iaload, 1) := by decide +kernel
theorem dX2_turnTop_10 : decode cX2_turnTop 10 = .ok (.istore_n 3, 1) := by decide +kernel
theorem dX2_turnTop_11 : decode cX2_turnTop 11 = .ok (.aload_n 0, 1) := by decide +kernel
theorem dX2_turnTop_12 : decode cX2_turnTop 12 = .ok (.getfield 34, 3) := by decide +kernel
theorem dX2_turnTop_15 : decode cX2_turnTop 15 = .ok (.iload_n 2, 1) := by decide +kernel
theorem dX2_turnTop_16 : decode cX2_turnTop 16 = .ok (.iload_n 1, 1) := by decide +kernel
theorem dX2_turnTop_17 : decode cX2_turnTop 17 = .ok (.bipush (-19), 2) := by decide +kernel
theorem dX2_turnTop_19 : decode cX2_turnTop 19 = .ok (.if_icmp .ne 8, 3) := by decide +kernel
theorem dX2_turnTop_22 : decode cX2_turnTop 22 = .ok (.iload_n 3, 1) := by decide +kernel
theorem dX2_turnTop_23 : decode cX2_turnTop 23 = .ok (.ineg, 1) := by decide +kernel
theorem dX2_turnTop_24 : decode cX2_turnTop 24 = .ok (.goto 12, 3) := by decide +kernel
theorem dX2_turnTop_27 : decode cX2_turnTop 27 = .ok (.iload_n 3, 1) := by decide +kernel
theorem dX2_turnTop_28 : decode cX2_turnTop 28 = .ok (.ifCond .ne 7, 3) := by decide +kernel
theorem dX2_turnTop_31 : decode cX2_turnTop 31 = .ok (.iconst 1, 1) := by decide +kernel
theorem dX2_turnTop_32 : decode cX2_turnTop 32 = .ok (.goto 4, 3) := by decide +kernel
theorem dX2_turnTop_35 : decode cX2_turnTop 35 = .ok (.iconst 0, 1) := by decide +kernel
theorem dX2_turnTop_36 : decode cX2_turnTop 36 = .ok (.iastore, 1) := by decide +kernel
theorem dX2_turnTop_37 : decode cX2_turnTop 37 = .ok (.return_, 1) := by decide +kernel
theorem dX2_ofTwo_0 : decode cX2_ofTwo 0 = .ok (.iload_n 0, 1) := by decide +kernel
theorem dX2_ofTwo_1 : decode cX2_ofTwo 1 = .ok (.tableswitch 101 (-17) (-11) #[97, 93, 82, 71, 101, 57, 43], 43) := by decide +kernel
theorem dX2_ofTwo_44 : decode cX2_ofTwo 44 = .ok (.iload_n 1, 1) := by decide +kernel
theorem dX2_ofTwo_45 : decode cX2_ofTwo 45 = .ok (.ifCond .ne 7, 3) := by decide +kernel
theorem dX2_ofTwo_48 : decode cX2_ofTwo 48 = .ok (.iload_n 2, 1) := by decide +kernel
theorem dX2_ofTwo_49 : decode cX2_ofTwo 49 = .ok (.ifCond .eq 7, 3) := by decide +kernel
theorem dX2_ofTwo_52 : decode cX2_ofTwo 52 = .ok (.iconst 1, 1) := by decide +kernel
theorem dX2_ofTwo_53 : decode cX2_ofTwo 53 = .ok (.goto 4, 3) := by decide +kernel
theorem dX2_ofTwo_56 : decode cX2_ofTwo 56 = .ok (.iconst 0, 1) := by decide +kernel
theorem dX2_ofTwo_57 : decode cX2_ofTwo 57 = .ok (.ireturn, 1) := by decide +kernel
theorem dX2_ofTwo_58 : decode cX2_ofTwo 58 = .ok (.iload_n 1, 1) := by decide +kernel
theorem dX2_ofTwo_59 : decode cX2_ofTwo 59 = .ok (.ifCond .eq 11, 3) := by decide +kernel
theorem dX2_ofTwo_62 : decode cX2_ofTwo 62 = .ok (.iload_n 2, 1) := by decide +kernel
theorem dX2_ofTwo_63 : decode cX2_ofTwo 63 = .ok (.ifCond .eq 7, 3) := by decide +kernel
theorem dX2_ofTwo_66 : decode cX2_ofTwo 66 = .ok (.iconst 1, 1) := by decide +kernel
theorem dX2_ofTwo_67 : decode cX2_ofTwo 67 = .ok (.goto 4, 3) := by decide +kernel
theorem dX2_ofTwo_70 : decode cX2_ofTwo 70 = .ok (.iconst 0, 1) := by decide +kernel
theorem dX2_ofTwo_71 : decode cX2_ofTwo 71 = .ok (.ireturn, 1) := by decide +kernel
theorem dX2_ofTwo_72 : decode cX2_ofTwo 72 = .ok (.iload_n 1, 1) := by decide +kernel
theorem dX2_ofTwo_73 : decode cX2_ofTwo 73 = .ok (.iload_n 2, 1) := by decide +kernel
theorem dX2_ofTwo_74 : decode cX2_ofTwo 74 = .ok (.if_icmp .ge 7, 3) := by decide +kernel
theorem dX2_ofTwo_77 : decode cX2_ofTwo 77 = .ok (.iconst 1, 1) := by decide +kernel
theorem dX2_ofTwo_78 : decode cX2_ofTwo 78 = .ok (.goto 4, 3) := by decide +kernel
theorem dX2_ofTwo_81 : decode cX2_ofTwo 81 = .ok (.iconst 0, 1) := by decide +kernel
theorem dX2_ofTwo_82 : decode cX2_ofTwo 82 = .ok (.ireturn, 1) := by decide +kernel
theorem dX2_ofTwo_83 : decode cX2_ofTwo 83 = .ok (.iload_n 1, 1) := by decide +kernel
theorem dX2_ofTwo_84 : decode cX2_ofTwo 84 = .ok (.iload_n 2, 1) := by decide +kernel
theorem dX2_ofTwo_85 : decode cX2_ofTwo 85 = .ok (.if_icmp .ne 7, 3) := by decide +kernel
theorem dX2_ofTwo_88 : decode cX2_ofTwo 88 = .ok (.iconst 1, 1) := by decide +kernel
theorem dX2_ofTwo_89 : decode cX2_ofTwo 89 = .ok (.goto 4, 3) := by decide +kernel
theorem dX2_ofTwo_92 : decode cX2_ofTwo 92 = .ok (.iconst 0, 1) := by decide +kernel
theorem dX2_ofTwo_93 : decode cX2_ofTwo 93 = .ok (.ireturn, 1) := by decide +kernel
theorem dX2_ofTwo_94 : decode cX2_ofTwo 94 = .ok (.iload_n 1, 1) := by decide +kernel
theorem dX2_ofTwo_95 : decode cX2_ofTwo 95 = .ok (.iload_n 2, 1) := by decide +kernel
theorem dX2_ofTwo_96 : decode cX2_ofTwo 96 = .ok (.iadd, 1) := by decide +kernel
theorem dX2_ofTwo_97 : decode cX2_ofTwo 97 = .ok (.ireturn, 1) := by decide +kernel
theorem dX2_ofTwo_98 : decode cX2_ofTwo 98 = .ok (.iload_n 1, 1) := by decide +kernel
theorem dX2_ofTwo_99 : decode cX2_ofTwo 99 = .ok (.iload_n 2, 1) := by decide +kernel
theorem dX2_ofTwo_100 : decode cX2_ofTwo 100 = .ok (.isub, 1) := by decide +kernel
theorem dX2_ofTwo_101 : decode cX2_ofTwo 101 = .ok (.ireturn, 1) := by decide +kernel
theorem dX2_ofTwo_102 : decode cX2_ofTwo 102 = .ok (.iload_n 1, 1) := by decide +kernel
theorem dX2_ofTwo_103 : decode cX2_ofTwo 103 = .ok (.iload_n 2, 1) := by decide +kernel
theorem dX2_ofTwo_104 : decode cX2_ofTwo 104 = .ok (.imul, 1) := by decide +kernel
theorem dX2_ofTwo_105 : decode cX2_ofTwo 105 = .ok (.ireturn, 1) := by decide +kernel
theorem dX3_init_0 : decode cX3_init 0 = .ok (.aload_n 0, 1) := by decide +kernel
theorem dX3_init_1 : decode cX3_init 1 = .ok (.invokespecial 3, 3) := by decide +kernel
theorem dX3_init_4 : decode cX3_init 4 = .ok (.aload_n 0, 1) := by decide +kernel
theorem dX3_init_5 : decode cX3_init 5 = .ok (.bipush 24, 2) := by decide +kernel
theorem dX3_init_7 : decode cX3_init 7 = .ok (.newarray .int, 2) := by decide +kernel
theorem dX3_init_9 : decode cX3_init 9 = .ok (.putfield 11, 3) := by decide +kernel
theorem dX3_init_12 : decode cX3_init 12 = .ok (.aload_n 0, 1) := by decide +kernel
theorem dX3_init_13 : decode cX3_init 13 = .ok (.bipush 24, 2) := by decide +kernel
theorem dX3_init_15 : decode cX3_init 15 = .ok (.newarray .int, 2) := by decide +kernel
theorem dX3_init_17 : decode cX3_init 17 = .ok (.putfield 15, 3) := by decide +kernel
theorem dX3_init_20 : decode cX3_init 20 = .ok (.aload_n 0, 1) := by decide +kernel
theorem dX3_init_21 : decode cX3_init 21 = .ok (.bipush 24, 2) := by decide +kernel
theorem dX3_init_23 : decode cX3_init 23 = .ok (.newarray .int, 2) := by decide +kernel
theorem dX3_init_25 : decode cX3_init 25 = .ok (.putfield 18, 3) := by decide +kernel
theorem dX3_init_28 : decode cX3_init 28 = .ok (.aload_n 0, 1) := by decide +kernel
theorem dX3_init_29 : decode cX3_init 29 = .ok (.iconst 4, 1) := by decide +kernel
theorem dX3_init_30 : decode cX3_init 30 = .ok (.newarray .int, 2) := by decide +kernel
theorem dX3_init_32 : decode cX3_init 32 = .ok (.putfield 21, 3) := by decide +kernel
theorem dX3_init_35 : decode cX3_init 35 = .ok (.return_, 1) := by decide +kernel
theorem dX3_add_0 : decode cX3_add 0 = .ok (.aload_n 0, 1) := by decide +kernel
theorem dX3_add_1 : decode cX3_add 1 = .ok (.getfield 11, 3) := by decide +kernel
theorem dX3_add_4 : decode cX3_add 4 = .ok (.aload_n 0, 1) := by decide +kernel
theorem dX3_add_5 : decode cX3_add 5 = .ok (.getfield 24, 3) := by decide +kernel
theorem dX3_add_8 : decode cX3_add 8 = .ok (.iload_n 1, 1) := by decide +kernel
theorem dX3_add_9 : decode cX3_add 9 = .ok (.iastore, 1) := by decide +kernel
theorem dX3_add_10 : decode cX3_add 10 = .ok (.aload_n 0, 1) := by decide +kernel
theorem dX3_add_11 : decode cX3_add 11 = .ok (.getfield 15, 3) := by decide +kernel
theorem dX3_add_14 : decode cX3_add 14 = .ok (.aload_n 0, 1) := by decide +kernel
theorem dX3_add_15 : decode cX3_add 15 = .ok (.getfield 24, 3) := by decide +kernel
theorem dX3_add_18 : decode cX3_add 18 = .ok (.iload_n 2, 1) := by decide +kernel
theorem dX3_add_19 : decode cX3_add 19 = .ok (.iastore, 1) := by decide +kernel
theorem dX3_add_20 : decode cX3_add 20 = .ok (.aload_n 0, 1) := by decide +kernel
theorem dX3_add_21 : decode cX3_add 21 = .ok (.getfield 18, 3) := by decide +kernel
theorem dX3_add_24 : decode cX3_add 24 = .ok (.aload_n 0, 1) := by decide +kernel
theorem dX3_add_25 : decode cX3_add 25 = .ok (.getfield 24, 3) := by decide +kernel
theorem dX3_add_28 : decode cX3_add 28 = .ok (.iload_n 3, 1) := by decide +kernel
theorem dX3_add_29 : decode cX3_add 29 = .ok (.iastore, 1) := by decide +kernel
theorem dX3_add_30 : decode cX3_add 30 = .ok (.aload_n 0, 1) := by decide +kernel
theorem dX3_add_31 : decode cX3_add 31 = .ok (.dup, 1) := by decide +kernel
theorem dX3_add_32 : decode cX3_add 32 = .ok (.getfield 24, 3) := by decide +kernel
theorem dX3_add_35 : decode cX3_add 35 = .ok (.iconst 1, 1) := by decide +kernel
theorem dX3_add_36 : decode cX3_add 36 = .ok (.iadd, 1) := by decide +kernel
theorem dX3_add_37 : decode cX3_add 37 = .ok (.putfield 24, 3) := by decide +kernel
theorem dX3_add_40 : decode cX3_add 40 = .ok (.aload_n 0, 1) := by decide +kernel
theorem dX3_add_41 : decode cX3_add 41 = .ok (.getfield 24, 3) := by decide +kernel
theorem dX3_add_44 : decode cX3_add 44 = .ok (.iconst 1, 1) := by decide +kernel
theorem dX3_add_45 : decode cX3_add 45 = .ok (.isub, 1) := by decide +kernel
theorem dX3_add_46 : decode cX3_add 46 = .ok (.ireturn, 1) := by decide +kernel
theorem dX3_lastDay_0 : decode cX3_lastDay 0 = .ok (.aload_n 0, 1) := by decide +kernel
theorem dX3_lastDay_1 : decode cX3_lastDay 1 = .ok (.getfield 24, 3) := by decide +kernel
theorem dX3_lastDay_4 : decode cX3_lastDay 4 = .ok (.ifCond .le 17, 3) := by decide +kernel
theorem dX3_lastDay_7 : decode cX3_lastDay 7 = .ok (.aload_n 0, 1) := by decide +kernel
theorem dX3_lastDay_8 : decode cX3_lastDay 8 = .ok (.getfield 11, 3) := by decide +kernel
theorem dX3_lastDay_11 : decode cX3_lastDay 11 = .ok (.aload_n 0, 1) := by decide +kernel
theorem dX3_lastDay_12 : decode cX3_lastDay 12 = .ok (.getfield 24, 3) := by decide +kernel
theorem dX3_lastDay_15 : decode cX3_lastDay 15 = .ok (.iconst 1, 1) := by decide +kernel
theorem dX3_lastDay_16 : decode cX3_lastDay 16 = .ok (.isub, 1) := by decide +kernel
theorem dX3_lastDay_17 : decode cX3_lastDay 17 = .ok (.iaload, 1) := by decide +kernel
theorem dX3_lastDay_18 : decode cX3_lastDay 18 = .ok (.goto 4, 3) := by decide +kernel
theorem dX3_lastDay_21 : decode cX3_lastDay 21 = .ok (.iconst 0, 1) := by decide +kernel
theorem dX3_lastDay_22 : decode cX3_lastDay 22 = .ok (.ireturn, 1) := by decide +kernel
theorem dX3_spread_0 : decode cX3_spread 0 = .ok (.aload_n 0, 1) := by decide +kernel
theorem dX3_spread_1 : decode cX3_spread 1 = .ok (.getfield 21, 3) := by decide +kernel
theorem dX3_spread_4 : decode cX3_spread 4 = .ok (.iconst (-1), 1) := by decide +kernel
theorem dX3_spread_5 : decode cX3_spread 5 = .ok (.invokestatic 28, 3) := by decide +kernel
theorem dX3_spread_8 : decode cX3_spread 8 = .ok (.aload_n 0, 1) := by decide +kernel
theorem dX3_spread_9 : decode cX3_spread 9 = .ok (.getfield 21, 3) := by decide +kernel
theorem dX3_spread_12 : decode cX3_spread 12 = .ok (.iload_n 1, 1) := by decide +kernel
theorem dX3_spread_13 : decode cX3_spread 13 = .ok (.iload_n 2, 1) := by decide +kernel
theorem dX3_spread_14 : decode cX3_spread 14 = .ok (.iastore, 1) := by decide +kernel
theorem dX3_spread_15 : decode cX3_spread 15 = .ok (.iconst 0, 1) := by decide +kernel
theorem dX3_spread_16 : decode cX3_spread 16 = .ok (.istore 4, 2) := by decide +kernel
theorem dX3_spread_18 : decode cX3_spread 18 = .ok (.iload 4, 2) := by decide +kernel
theorem dX3_spread_20 : decode cX3_spread 20 = .ok (.aload_n 0, 1) := by decide +kernel
theorem dX3_spread_21 : decode cX3_spread 21 = .ok (.getfield 24, 3) := by decide +kernel
theorem dX3_spread_24 : decode cX3_spread 24 = .ok (.if_icmp .ge 119, 3) := by decide +kernel
theorem dX3_spread_27 : decode cX3_spread 27 = .ok (.iload 4, 2) := by decide +kernel
theorem dX3_spread_29 : decode cX3_spread 29 = .ok (.iload_n 3, 1) := by decide +kernel
theorem dX3_spread_30 : decode cX3_spread 30 = .ok (.if_icmp .eq 107, 3) := by decide +kernel
theorem dX3_spread_33 : decode cX3_spread 33 = .ok (.aload_n 0, 1) := by decide +kernel
theorem dX3_spread_34 : decode cX3_spread 34 = .ok (.getfield 11, 3) := by decide +kernel
theorem dX3_spread_37 : decode cX3_spread 37 = .ok (.iload 4, 2) := by decide +kernel
theorem dX3_spread_39 : decode cX3_spread 39 = .ok (.iaload, 1) := by decide +kernel
theorem dX3_spread_40 : decode cX3_spread 40 = .ok (.iload_n 2, 1) := by decide +kernel
theorem dX3_spread_41 : decode cX3_spread 41 = .ok (.if_icmp .lt 96, 3) := by decide +kernel
theorem dX3_spread_44 : decode cX3_spread 44 = .ok (.aload_n 0, 1) := by decide +kernel
theorem dX3_spread_45 : decode cX3_spread 45 = .ok (.getfield 15, 3) := by decide +kernel
theorem dX3_spread_48 : decode cX3_spread 48 = .ok (.iload 4, 2) := by decide +kernel
theorem dX3_spread_50 : decode cX3_spread 50 = .ok (.iaload, 1) := by decide +kernel
theorem dX3_spread_51 : decode cX3_spread 51 = .ok (.istore 5, 2) := by decide +kernel
theorem dX3_spread_53 : decode cX3_spread 53 = .ok (.aload_n 0, 1) := by decide +kernel
theorem dX3_spread_54 : decode cX3_spread 54 = .ok (.getfield 18, 3) := by decide +kernel
theorem dX3_spread_57 : decode cX3_spread 57 = .ok (.iload 4, 2) := by decide +kernel
theorem dX3_spread_59 : decode cX3_spread 59 = .ok (.iaload, 1) := by decide +kernel
theorem dX3_spread_60 : decode cX3_spread 60 = .ok (.istore 6, 2) := by decide +kernel
theorem dX3_spread_62 : decode cX3_spread 62 = .ok (.aload_n 0, 1) := by decide +kernel
theorem dX3_spread_63 : decode cX3_spread 63 = .ok (.getfield 21, 3) := by decide +kernel
theorem dX3_spread_66 : decode cX3_spread 66 = .ok (.iload 5, 2) := by decide +kernel
theorem dX3_spread_68 : decode cX3_spread 68 = .ok (.iaload, 1) := by decide +kernel
theorem dX3_spread_69 : decode cX3_spread 69 = .ok (.iconst (-1), 1) := by decide +kernel
theorem dX3_spread_70 : decode cX3_spread 70 = .ok (.if_icmp .ne 31, 3) := by decide +kernel
theorem dX3_spread_73 : decode cX3_spread 73 = .ok (.aload_n 0, 1) := by decide +kernel
theorem dX3_spread_74 : decode cX3_spread 74 = .ok (.getfield 21, 3) := by decide +kernel
theorem dX3_spread_77 : decode cX3_spread 77 = .ok (.iload 6, 2) := by decide +kernel
theorem dX3_spread_79 : decode cX3_spread 79 = .ok (.iaload, 1) := by decide +kernel
theorem dX3_spread_80 : decode cX3_spread 80 = .ok (.iconst (-1), 1) := by decide +kernel
theorem dX3_spread_81 : decode cX3_spread 81 = .ok (.if_icmp .eq 20, 3) := by decide +kernel
theorem dX3_spread_84 : decode cX3_spread 84 = .ok (.aload_n 0, 1) := by decide +kernel
theorem dX3_spread_85 : decode cX3_spread 85 = .ok (.getfield 21, 3) := by decide +kernel
theorem dX3_spread_88 : decode cX3_spread 88 = .ok (.iload 5, 2) := by decide +kernel
theorem dX3_spread_90 : decode cX3_spread 90 = .ok (.aload_n 0, 1) := by decide +kernel
theorem dX3_spread_91 : decode cX3_spread 91 = .ok (.getfield 11, 3) := by decide +kernel
theorem dX3_spread_94 : decode cX3_spread 94 = .ok (.iload 4, 2) := by decide +kernel
theorem dX3_spread_96 : decode cX3_spread 96 = .ok (.iaload, 1) := by decide +kernel
theorem dX3_spread_97 : decode cX3_spread 97 = .ok (.iastore, 1) := by decide +kernel
theorem dX3_spread_98 : decode cX3_spread 98 = .ok (.goto 39, 3) := by decide +kernel
theorem dX3_spread_101 : decode cX3_spread 101 = .ok (.aload_n 0, 1) := by decide +kernel
theorem dX3_spread_102 : decode cX3_spread 102 = .ok (.getfield 21, 3) := by decide +kernel
theorem dX3_spread_105 : decode cX3_spread 105 = .ok (.iload 6, 2) := by decide +kernel
theorem dX3_spread_107 : decode cX3_spread 107 = .ok (.iaload, 1) := by decide +kernel
theorem dX3_spread_108 : decode cX3_spread 108 = .ok (.iconst (-1), 1) := by decide +kernel
theorem dX3_spread_109 : decode cX3_spread 109 = .ok (.if_icmp .ne 28, 3) := by decide +kernel
theorem dX3_spread_112 : decode cX3_spread 112 = .ok (.aload_n 0, 1) := by decide +kernel
theorem dX3_spread_113 : decode cX3_spread 113 = .ok (.getfield 21, 3) := by decide +kernel
theorem dX3_spread_116 : decode cX3_spread 116 = .ok (.iload 5, 2) := by decide +kernel
theorem dX3_spread_118 : decode cX3_spread 118 = .ok (.iaload, 1) := by decide +kernel
theorem dX3_spread_119 : decode cX3_spread 119 = .ok (.iconst (-1), 1) := by decide +kernel
theorem dX3_spread_120 : decode cX3_spread 120 = .ok (.if_icmp .eq 17, 3) := by decide +kernel
theorem dX3_spread_123 : decode cX3_spread 123 = .ok (.aload_n 0, 1) := by decide +kernel
theorem dX3_spread_124 : decode cX3_spread 124 = .ok (.getfield 21, 3) := by decide +kernel
theorem dX3_spread_127 : decode cX3_spread 127 = .ok (.iload 6, 2) := by decide +kernel
theorem dX3_spread_129 : decode cX3_spread 129 = .ok (.aload_n 0, 1) := by decide +kernel
theorem dX3_spread_130 : decode cX3_spread 130 = .ok (.getfield 11, 3) := by decide +kernel
theorem dX3_spread_133 : decode cX3_spread 133 = .ok (.iload 4, 2) := by decide +kernel
theorem dX3_spread_135 : decode cX3_spread 135 = .ok (.iaload, 1) := by decide +kernel
theorem dX3_spread_136 : decode cX3_spread 136 = .ok (.iastore, 1) := by decide +kernel
theorem dX3_spread_137 : decode cX3_spread 137 = .ok (.iinc 4 1, 3) := by decide +kernel
theorem dX3_spread_140 : decode cX3_spread 140 = .ok (.goto (-122), 3) := by decide +kernel
theorem dX3_spread_143 : decode cX3_spread 143 = .ok (.return_, 1) := by decide +kernel
theorem dX3_knowsFrom_0 : decode cX3_knowsFrom 0 = .ok (.aload_n 0, 1) := by decide +kernel
theorem dX3_knowsFrom_1 : decode cX3_knowsFrom 1 = .ok (.iload_n 1, 1) := by decide +kernel
theorem dX3_knowsFrom_2 : decode cX3_knowsFrom 2 = .ok (.iload_n 2, 1) := by decide +kernel
theorem dX3_knowsFrom_3 : decode cX3_knowsFrom 3 = .ok (.iload 4, 2) := by decide +kernel
theorem dX3_knowsFrom_5 : decode cX3_knowsFrom 5 = .ok (.invokevirtual 34, 3) := by decide +kernel
theorem dX3_knowsFrom_8 : decode cX3_knowsFrom 8 = .ok (.aload_n 0, 1) := by decide +kernel
theorem dX3_knowsFrom_9 : decode cX3_knowsFrom 9 = .ok (.getfield 21, 3) := by decide +kernel
theorem dX3_knowsFrom_12 : decode cX3_knowsFrom 12 = .ok (.iload_n 3, 1) := by decide +kernel
theorem dX3_knowsFrom_13 : decode cX3_knowsFrom 13 = .ok (.iaload, 1) := by decide +kernel
theorem dX3_knowsFrom_14 : decode cX3_knowsFrom 14 = .ok (.ireturn, 1) := by decide +kernel
theorem dX3_howManyKnow_0 : decode cX3_howManyKnow 0 = .ok (.aload_n 0, 1) := by decide +kernel
theorem dX3_howManyKnow_1 : decode cX3_howManyKnow 1 = .ok (.iload_n 1, 1) := by decide +kernel
theorem dX3_howManyKnow_2 : decode cX3_howManyKnow 2 = .ok (.iload_n 2, 1) := by decide +kernel
theorem dX3_howManyKnow_3 : decode cX3_howManyKnow 3 = .ok (.iconst (-1), 1) := by decide +kernel
theorem dX3_howManyKnow_4 : decode cX3_howManyKnow 4 = .ok (.invokevirtual 34, 3) := by decide +kernel
theorem dX3_howManyKnow_7 : decode cX3_howManyKnow 7 = .ok (.iconst 0, 1) := by decide +kernel
theorem dX3_howManyKnow_8 : decode cX3_howManyKnow 8 = .ok (.istore 4, 2) := by decide +kernel
theorem dX3_howManyKnow_10 : decode cX3_howManyKnow 10 = .ok (.iconst 0, 1) := by decide +kernel
theorem dX3_howManyKnow_11 : decode cX3_howManyKnow 11 = .ok (.istore 5, 2) := by decide +kernel
theorem dX3_howManyKnow_13 : decode cX3_howManyKnow 13 = .ok (.iload 5, 2) := by decide +kernel
theorem dX3_howManyKnow_15 : decode cX3_howManyKnow 15 = .ok (.iconst 4, 1) := by decide +kernel
theorem dX3_howManyKnow_16 : decode cX3_howManyKnow 16 = .ok (.if_icmp .ge 34, 3) := by decide +kernel
theorem dX3_howManyKnow_19 : decode cX3_howManyKnow 19 = .ok (.aload_n 0, 1) := by decide +kernel
theorem dX3_howManyKnow_20 : decode cX3_howManyKnow 20 = .ok (.getfield 21, 3) := by decide +kernel
theorem dX3_howManyKnow_23 : decode cX3_howManyKnow 23 = .ok (.iload 5, 2) := by decide +kernel
theorem dX3_howManyKnow_25 : decode cX3_howManyKnow 25 = .ok (.iaload, 1) := by decide +kernel
theorem dX3_howManyKnow_26 : decode cX3_howManyKnow 26 = .ok (.iconst (-1), 1) := by decide +kernel
theorem dX3_howManyKnow_27 : decode cX3_howManyKnow 27 = .ok (.if_icmp .eq 17, 3) := by decide +kernel
theorem dX3_howManyKnow_30 : decode cX3_howManyKnow 30 = .ok (.aload_n 0, 1) := by decide +kernel
theorem dX3_howManyKnow_31 : decode cX3_howManyKnow 31 = .ok (.getfield 21, 3) := by decide +kernel
theorem dX3_howManyKnow_34 : decode cX3_howManyKnow 34 = .ok (.iload 5, 2) := by decide +kernel
theorem dX3_howManyKnow_36 : decode cX3_howManyKnow 36 = .ok (.iaload, 1) := by decide +kernel
theorem dX3_howManyKnow_37 : decode cX3_howManyKnow 37 = .ok (.iload_n 3, 1) := by decide +kernel
theorem dX3_howManyKnow_38 : decode cX3_howManyKnow 38 = .ok (.if_icmp .gt 6, 3) := by decide +kernel
theorem dX3_howManyKnow_41 : decode cX3_howManyKnow 41 = .ok (.iinc 4 1, 3) := by decide +kernel
theorem dX3_howManyKnow_44 : decode cX3_howManyKnow 44 = .ok (.iinc 5 1, 3) := by decide +kernel
theorem dX3_howManyKnow_47 : decode cX3_howManyKnow 47 = .ok (.goto (-34), 3) := by decide +kernel
theorem dX3_howManyKnow_50 : decode cX3_howManyKnow 50 = .ok (.iload 4, 2) := by decide +kernel
theorem dX3_howManyKnow_52 : decode cX3_howManyKnow 52 = .ok (.ireturn, 1) := by decide +kernel
theorem dX3_firstNeeded_0 : decode cX3_firstNeeded 0 = .ok (.aload_n 0, 1) := by decide +kernel
theorem dX3_firstNeeded_1 : decode cX3_firstNeeded 1 = .ok (.iload_n 1, 1) := by decide +kernel
theorem dX3_firstNeeded_2 : decode cX3_firstNeeded 2 = .ok (.iload_n 2, 1) := by decide +kernel
theorem dX3_firstNeeded_3 : decode cX3_firstNeeded 3 = .ok (.iload_n 3, 1) := by decide +kernel
theorem dX3_firstNeeded_4 : decode cX3_firstNeeded 4 = .ok (.iconst (-1), 1) := by decide +kernel
theorem dX3_firstNeeded_5 : decode cX3_firstNeeded 5 = .ok (.invokevirtual 38, 3) := by decide +kernel
theorem dX3_firstNeeded_8 : decode cX3_firstNeeded 8 = .ok (.istore 4, 2) := by decide +kernel
theorem dX3_firstNeeded_10 : decode cX3_firstNeeded 10 = .ok (.iload 4, 2) := by decide +kernel
theorem dX3_firstNeeded_12 : decode cX3_firstNeeded 12 = .ok (.iconst (-1), 1) := by decide +kernel
theorem dX3_firstNeeded_13 : decode cX3_firstNeeded 13 = .ok (.if_icmp .ne 5, 3) := by decide +kernel
theorem dX3_firstNeeded_16 : decode cX3_firstNeeded 16 = .ok (.iconst (-1), 1) := by decide +kernel
theorem dX3_firstNeeded_17 : decode cX3_firstNeeded 17 = .ok (.ireturn, 1) := by decide +kernel
theorem dX3_firstNeeded_18 : decode cX3_firstNeeded 18 = .ok (.iconst 0, 1) := by decide +kernel
theorem dX3_firstNeeded_19 : decode cX3_firstNeeded 19 = .ok (.istore 5, 2) := by decide +kernel
theorem dX3_firstNeeded_21 : decode cX3_firstNeeded 21 = .ok (.iload 5, 2) := by decide +kernel
theorem dX3_firstNeeded_23 : decode cX3_firstNeeded 23 = .ok (.aload_n 0, 1) := by decide +kernel
theorem dX3_firstNeeded_24 : decode cX3_firstNeeded 24 = .ok (.getfield 24, 3) := by decide +kernel
theorem dX3_firstNeeded_27 : decode cX3_firstNeeded 27 = .ok (.if_icmp .ge 36, 3) := by decide +kernel
theorem dX3_firstNeeded_30 : decode cX3_firstNeeded 30 = .ok (.aload_n 0, 1) := by decide +kernel
theorem dX3_firstNeeded_31 : decode cX3_firstNeeded 31 = .ok (.iload_n 1, 1) := by decide +kernel
theorem dX3_firstNeeded_32 : decode cX3_firstNeeded 32 = .ok (.iload_n 2, 1) := by decide +kernel
theorem dX3_firstNeeded_33 : decode cX3_firstNeeded 33 = .ok (.iload_n 3, 1) := by decide +kernel
theorem dX3_firstNeeded_34 : decode cX3_firstNeeded 34 = .ok (.iload 5, 2) := by decide +kernel
theorem dX3_firstNeeded_36 : decode cX3_firstNeeded 36 = .ok (.invokevirtual 38, 3) := by decide +kernel
theorem dX3_firstNeeded_39 : decode cX3_firstNeeded 39 = .ok (.istore 6, 2) := by decide +kernel
theorem dX3_firstNeeded_41 : decode cX3_firstNeeded 41 = .ok (.iload 6, 2) := by decide +kernel
theorem dX3_firstNeeded_43 : decode cX3_firstNeeded 43 = .ok (.iconst (-1), 1) := by decide +kernel
theorem dX3_firstNeeded_44 : decode cX3_firstNeeded 44 = .ok (.if_icmp .eq 10, 3) := by decide +kernel
theorem dX3_firstNeeded_47 : decode cX3_firstNeeded 47 = .ok (.iload 6, 2) := by decide +kernel
theorem dX3_firstNeeded_49 : decode cX3_firstNeeded 49 = .ok (.iload 4, 2) := by decide +kernel
theorem dX3_firstNeeded_51 : decode cX3_firstNeeded 51 = .ok (.if_icmp .le 6, 3) := by decide +kernel
theorem dX3_firstNeeded_54 : decode cX3_firstNeeded 54 = .ok (.iload 5, 2) := by decide +kernel
theorem dX3_firstNeeded_56 : decode cX3_firstNeeded 56 = .ok (.ireturn, 1) := by decide +kernel
theorem dX3_firstNeeded_57 : decode cX3_firstNeeded 57 = .ok (.iinc 5 1, 3) := by decide +kernel
theorem dX3_firstNeeded_60 : decode cX3_firstNeeded 60 = .ok (.goto (-39), 3) := by decide +kernel
theorem dX3_firstNeeded_63 : decode cX3_firstNeeded 63 = .ok (.iconst (-1), 1) := by decide +kernel
theorem dX3_firstNeeded_64 : decode cX3_firstNeeded 64 = .ok (.ireturn, 1) := by decide +kernel
theorem dX4_init_0 : decode cX4_init 0 = .ok (.aload_n 0, 1) := by decide +kernel
theorem dX4_init_1 : decode cX4_init 1 = .ok (.invokespecial 3, 3) := by decide +kernel
theorem dX4_init_4 : decode cX4_init 4 = .ok (.aload_n 0, 1) := by decide +kernel
theorem dX4_init_5 : decode cX4_init 5 = .ok (.bipush 6, 2) := by decide +kernel
theorem dX4_init_7 : decode cX4_init 7 = .ok (.newarray .int, 2) := by decide +kernel
theorem dX4_init_9 : decode cX4_init 9 = .ok (.dup, 1) := by decide +kernel
theorem dX4_init_10 : decode cX4_init 10 = .ok (.iconst 0, 1) := by decide +kernel
theorem dX4_init_11 : decode cX4_init 11 = .ok (.iconst 4, 1) := by decide +kernel
theorem dX4_init_12 : decode cX4_init 12 = .ok (.iastore, 1) := by decide +kernel
theorem dX4_init_13 : decode cX4_init 13 = .ok (.dup, 1) := by decide +kernel
theorem dX4_init_14 : decode cX4_init 14 = .ok (.iconst 1, 1) := by decide +kernel
theorem dX4_init_15 : decode cX4_init 15 = .ok (.iconst 2, 1) := by decide +kernel
theorem dX4_init_16 : decode cX4_init 16 = .ok (.iastore, 1) := by decide +kernel
theorem dX4_init_17 : decode cX4_init 17 = .ok (.dup, 1) := by decide +kernel
theorem dX4_init_18 : decode cX4_init 18 = .ok (.iconst 2, 1) := by decide +kernel
theorem dX4_init_19 : decode cX4_init 19 = .ok (.iconst 0, 1) := by decide +kernel
theorem dX4_init_20 : decode cX4_init 20 = .ok (.iastore, 1) := by decide +kernel
theorem dX4_init_21 : decode cX4_init 21 = .ok (.dup, 1) := by decide +kernel
theorem dX4_init_22 : decode cX4_init 22 = .ok (.iconst 3, 1) := by decide +kernel
theorem dX4_init_23 : decode cX4_init 23 = .ok (.iconst 3, 1) := by decide +kernel
theorem dX4_init_24 : decode cX4_init 24 = .ok (.iastore, 1) := by decide +kernel
theorem dX4_init_25 : decode cX4_init 25 = .ok (.dup, 1) := by decide +kernel
theorem dX4_init_26 : decode cX4_init 26 = .ok (.iconst 4, 1) := by decide +kernel
theorem dX4_init_27 : decode cX4_init 27 = .ok (.iconst 0, 1) := by decide +kernel
theorem dX4_init_28 : decode cX4_init 28 = .ok (.iastore, 1) := by decide +kernel
theorem dX4_init_29 : decode cX4_init 29 = .ok (.dup, 1) := by decide +kernel
theorem dX4_init_30 : decode cX4_init 30 = .ok (.iconst 5, 1) := by decide +kernel
theorem dX4_init_31 : decode cX4_init 31 = .ok (.bipush 11, 2) := by decide +kernel
theorem dX4_init_33 : decode cX4_init 33 = .ok (.iastore, 1) := by decide +kernel
theorem dX4_init_34 : decode cX4_init 34 = .ok (.putfield 9, 3) := by decide +kernel
theorem dX4_init_37 : decode cX4_init 37 = .ok (.aload_n 0, 1) := by decide +kernel
theorem dX4_init_38 : decode cX4_init 38 = .ok (.bipush 6, 2) := by decide +kernel
theorem dX4_init_40 : decode cX4_init 40 = .ok (.newarray .int, 2) := by decide +kernel
theorem dX4_init_42 : decode cX4_init 42 = .ok (.dup, 1) := by decide +kernel
theorem dX4_init_43 : decode cX4_init 43 = .ok (.iconst 0, 1) := by decide +kernel
theorem dX4_init_44 : decode cX4_init 44 = .ok (.bipush 9, 2) := by decide +kernel
theorem dX4_init_46 : decode cX4_init 46 = .ok (.iastore, 1) := by decide +kernel
theorem dX4_init_47 : decode cX4_init 47 = .ok (.dup, 1) := by decide +kernel
theorem dX4_init_48 : decode cX4_init 48 = .ok (.iconst 1, 1) := by decide +kernel
theorem dX4_init_49 : decode cX4_init 49 = .ok (.bipush 7, 2) := by decide +kernel
theorem dX4_init_51 : decode cX4_init 51 = .ok (.iastore, 1) := by decide +kernel
theorem dX4_init_52 : decode cX4_init 52 = .ok (.dup, 1) := by decide +kernel
theorem dX4_init_53 : decode cX4_init 53 = .ok (.iconst 2, 1) := by decide +kernel
theorem dX4_init_54 : decode cX4_init 54 = .ok (.iconst 5, 1) := by decide +kernel
theorem dX4_init_55 : decode cX4_init 55 = .ok (.iastore, 1) := by decide +kernel
theorem dX4_init_56 : decode cX4_init 56 = .ok (.dup, 1) := by decide +kernel
theorem dX4_init_57 : decode cX4_init 57 = .ok (.iconst 3, 1) := by decide +kernel
theorem dX4_init_58 : decode cX4_init 58 = .ok (.iconst 3, 1) := by decide +kernel
theorem dX4_init_59 : decode cX4_init 59 = .ok (.iastore, 1) := by decide +kernel
theorem dX4_init_60 : decode cX4_init 60 = .ok (.dup, 1) := by decide +kernel
theorem dX4_init_61 : decode cX4_init 61 = .ok (.iconst 4, 1) := by decide +kernel
theorem dX4_init_62 : decode cX4_init 62 = .ok (.iconst 2, 1) := by decide +kernel
theorem dX4_init_63 : decode cX4_init 63 = .ok (.iastore, 1) := by decide +kernel
theorem dX4_init_64 : decode cX4_init 64 = .ok (.dup, 1) := by decide +kernel
theorem dX4_init_65 : decode cX4_init 65 = .ok (.iconst 5, 1) := by decide +kernel
theorem dX4_init_66 : decode cX4_init 66 = .ok (.iconst 1, 1) := by decide +kernel
theorem dX4_init_67 : decode cX4_init 67 = .ok (.iastore, 1) := by decide +kernel
theorem dX4_init_68 : decode cX4_init 68 = .ok (.putfield 15, 3) := by decide +kernel
theorem dX4_init_71 : decode cX4_init 71 = .ok (.return_, 1) := by decide +kernel
theorem dX4_becomeLike_0 : decode cX4_becomeLike 0 = .ok (.aload_n 1, 1) := by decide +kernel
theorem dX4_becomeLike_1 : decode cX4_becomeLike 1 = .ok (.getfield 9, 3) := by decide +kernel
theorem dX4_becomeLike_4 : decode cX4_becomeLike 4 = .ok (.iconst 0, 1) := by decide +kernel
theorem dX4_becomeLike_5 : decode cX4_becomeLike 5 = .ok (.aload_n 0, 1) := by decide +kernel
theorem dX4_becomeLike_6 : decode cX4_becomeLike 6 = .ok (.getfield 9, 3) := by decide +kernel
theorem dX4_becomeLike_9 : decode cX4_becomeLike 9 = .ok (.iconst 0, 1) := by decide +kernel
theorem dX4_becomeLike_10 : decode cX4_becomeLike 10 = .ok (.bipush 6, 2) := by decide +kernel
theorem dX4_becomeLike_12 : decode cX4_becomeLike 12 = .ok (.invokestatic 18, 3) := by decide +kernel
theorem dX4_becomeLike_15 : decode cX4_becomeLike 15 = .ok (.aload_n 1, 1) := by decide +kernel
theorem dX4_becomeLike_16 : decode cX4_becomeLike 16 = .ok (.getfield 15, 3) := by decide +kernel
theorem dX4_becomeLike_19 : decode cX4_becomeLike 19 = .ok (.iconst 0, 1) := by decide +kernel
theorem dX4_becomeLike_20 : decode cX4_becomeLike 20 = .ok (.aload_n 0, 1) := by decide +kernel
theorem dX4_becomeLike_21 : decode cX4_becomeLike 21 = .ok (.getfield 15, 3) := by decide +kernel
theorem dX4_becomeLike_24 : decode cX4_becomeLike 24 = .ok (.iconst 0, 1) := by decide +kernel
theorem dX4_becomeLike_25 : decode cX4_becomeLike 25 = .ok (.bipush 6, 2) := by decide +kernel
theorem dX4_becomeLike_27 : decode cX4_becomeLike 27 = .ok (.invokestatic 18, 3) := by decide +kernel
theorem dX4_becomeLike_30 : decode cX4_becomeLike 30 = .ok (.aload_n 0, 1) := by decide +kernel
theorem dX4_becomeLike_31 : decode cX4_becomeLike 31 = .ok (.aload_n 1, 1) := by decide +kernel
theorem dX4_becomeLike_32 : decode cX4_becomeLike 32 = .ok (.getfield 24, 3) := by decide +kernel
theorem dX4_becomeLike_35 : decode cX4_becomeLike 35 = .ok (.putfield 24, 3) := by decide +kernel
theorem dX4_becomeLike_38 : decode cX4_becomeLike 38 = .ok (.return_, 1) := by decide +kernel
theorem dX4_near_0 : decode cX4_near 0 = .ok (.aload_n 0, 1) := by decide +kernel
theorem dX4_near_1 : decode cX4_near 1 = .ok (.getfield 9, 3) := by decide +kernel
theorem dX4_near_4 : decode cX4_near 4 = .ok (.iconst 0, 1) := by decide +kernel
theorem dX4_near_5 : decode cX4_near 5 = .ok (.iaload, 1) := by decide +kernel
theorem dX4_near_6 : decode cX4_near 6 = .ok (.ireturn, 1) := by decide +kernel
theorem dX4_wind_0 : decode cX4_wind 0 = .ok (.aload_n 0, 1) := by decide +kernel
theorem dX4_wind_1 : decode cX4_wind 1 = .ok (.getfield 9, 3) := by decide +kernel
theorem dX4_wind_4 : decode cX4_wind 4 = .ok (.iconst 2, 1) := by decide +kernel
theorem dX4_wind_5 : decode cX4_wind 5 = .ok (.iaload, 1) := by decide +kernel
theorem dX4_wind_6 : decode cX4_wind 6 = .ok (.ireturn, 1) := by decide +kernel
theorem dX4_noise_0 : decode cX4_noise 0 = .ok (.aload_n 0, 1) := by decide +kernel
theorem dX4_noise_1 : decode cX4_noise 1 = .ok (.getfield 9, 3) := by decide +kernel
theorem dX4_noise_4 : decode cX4_noise 4 = .ok (.iconst 3, 1) := by decide +kernel
theorem dX4_noise_5 : decode cX4_noise 5 = .ok (.iaload, 1) := by decide +kernel
theorem dX4_noise_6 : decode cX4_noise 6 = .ok (.ireturn, 1) := by decide +kernel
theorem dX4_minutes_0 : decode cX4_minutes 0 = .ok (.aload_n 0, 1) := by decide +kernel
theorem dX4_minutes_1 : decode cX4_minutes 1 = .ok (.getfield 9, 3) := by decide +kernel
theorem dX4_minutes_4 : decode cX4_minutes 4 = .ok (.iconst 5, 1) := by decide +kernel
theorem dX4_minutes_5 : decode cX4_minutes 5 = .ok (.iaload, 1) := by decide +kernel
theorem dX4_minutes_6 : decode cX4_minutes 6 = .ok (.ireturn, 1) := by decide +kernel
theorem dX4_hasMinute_0 : decode cX4_hasMinute 0 = .ok (.iload_n 1, 1) := by decide +kernel
theorem dX4_hasMinute_1 : decode cX4_hasMinute 1 = .ok (.iconst 0, 1) := by decide +kernel
theorem dX4_hasMinute_2 : decode cX4_hasMinute 2 = .ok (.aload_n 0, 1) := by decide +kernel
theorem dX4_hasMinute_3 : decode cX4_hasMinute 3 = .ok (.invokevirtual 28, 3) := by decide +kernel
theorem dX4_hasMinute_6 : decode cX4_hasMinute 6 = .ok (.iconst 1, 1) := by decide +kernel
theorem dX4_hasMinute_7 : decode cX4_hasMinute 7 = .ok (.isub, 1) := by decide +kernel
theorem dX4_hasMinute_8 : decode cX4_hasMinute 8 = .ok (.invokestatic 32, 3) := by decide +kernel
theorem dX4_hasMinute_11 : decode cX4_hasMinute 11 = .ok (.ireturn, 1) := by decide +kernel
theorem dX4_sailIn_0 : decode cX4_sailIn 0 = .ok (.aload_n 0, 1) := by decide +kernel
theorem dX4_sailIn_1 : decode cX4_sailIn 1 = .ok (.getfield 9, 3) := by decide +kernel
theorem dX4_sailIn_4 : decode cX4_sailIn 4 = .ok (.iconst 4, 1) := by decide +kernel
theorem dX4_sailIn_5 : decode cX4_sailIn 5 = .ok (.iaload, 1) := by decide +kernel
theorem dX4_sailIn_6 : decode cX4_sailIn 6 = .ok (.iload_n 1, 1) := by decide +kernel
theorem dX4_sailIn_7 : decode cX4_sailIn 7 = .ok (.ishr, 1) := by decide +kernel
theorem dX4_sailIn_8 : decode cX4_sailIn 8 = .ok (.iconst 1, 1) := by decide +kernel
theorem dX4_sailIn_9 : decode cX4_sailIn 9 = .ok (.iand, 1) := by decide +kernel
theorem dX4_sailIn_10 : decode cX4_sailIn 10 = .ok (.ireturn, 1) := by decide +kernel
theorem dX4_far_0 : decode cX4_far 0 = .ok (.iload_n 1, 1) := by decide +kernel
theorem dX4_far_1 : decode cX4_far 1 = .ok (.aload_n 0, 1) := by decide +kernel
theorem dX4_far_2 : decode cX4_far 2 = .ok (.getfield 9, 3) := by decide +kernel
theorem dX4_far_5 : decode cX4_far 5 = .ok (.iconst 1, 1) := by decide +kernel
theorem dX4_far_6 : decode cX4_far 6 = .ok (.iaload, 1) := by decide +kernel
theorem dX4_far_7 : decode cX4_far 7 = .ok (.iconst 2, 1) := by decide +kernel
theorem dX4_far_8 : decode cX4_far 8 = .ok (.iload_n 2, 1) := by decide +kernel
theorem dX4_far_9 : decode cX4_far 9 = .ok (.imul, 1) := by decide +kernel
theorem dX4_far_10 : decode cX4_far 10 = .ok (.aload_n 0, 1) := by decide +kernel
theorem dX4_far_11 : decode cX4_far 11 = .ok (.invokevirtual 28, 3) := by decide +kernel
theorem dX4_far_14 : decode cX4_far 14 = .ok (.iconst 1, 1) := by decide +kernel
theorem dX4_far_15 : decode cX4_far 15 = .ok (.isub, 1) := by decide +kernel
theorem dX4_far_16 : decode cX4_far 16 = .ok (.isub, 1) := by decide +kernel
theorem dX4_far_17 : decode cX4_far 17 = .ok (.invokestatic 36, 3) := by decide +kernel
theorem dX4_far_20 : decode cX4_far 20 = .ok (.imul, 1) := by decide +kernel
theorem dX4_far_21 : decode cX4_far 21 = .ok (.iconst 2, 1) := by decide +kernel
theorem dX4_far_22 : decode cX4_far 22 = .ok (.idiv, 1) := by decide +kernel
theorem dX4_far_23 : decode cX4_far 23 = .ok (.iadd, 1) := by decide +kernel
theorem dX4_far_24 : decode cX4_far 24 = .ok (.ireturn, 1) := by decide +kernel
theorem dX4_worthOf_0 : decode cX4_worthOf 0 = .ok (.iconst 0, 1) := by decide +kernel
theorem dX4_worthOf_1 : decode cX4_worthOf 1 = .ok (.istore_n 2, 1) := by decide +kernel
theorem dX4_worthOf_2 : decode cX4_worthOf 2 = .ok (.iconst 0, 1) := by decide +kernel
theorem dX4_worthOf_3 : decode cX4_worthOf 3 = .ok (.istore_n 3, 1) := by decide +kernel
theorem dX4_worthOf_4 : decode cX4_worthOf 4 = .ok (.iload_n 3, 1) := by decide +kernel
theorem dX4_worthOf_5 : decode cX4_worthOf 5 = .ok (.bipush 6, 2) := by decide +kernel
theorem dX4_worthOf_7 : decode cX4_worthOf 7 = .ok (.if_icmp .ge 26, 3) := by decide +kernel
theorem dX4_worthOf_10 : decode cX4_worthOf 10 = .ok (.iload_n 1, 1) := by decide +kernel
theorem dX4_worthOf_11 : decode cX4_worthOf 11 = .ok (.iload_n 3, 1) := by decide +kernel
theorem dX4_worthOf_12 : decode cX4_worthOf 12 = .ok (.ishr, 1) := by decide +kernel
theorem dX4_worthOf_13 : decode cX4_worthOf 13 = .ok (.iconst 1, 1) := by decide +kernel
theorem dX4_worthOf_14 : decode cX4_worthOf 14 = .ok (.iand, 1) := by decide +kernel
theorem dX4_worthOf_15 : decode cX4_worthOf 15 = .ok (.ifCond .eq 12, 3) := by decide +kernel
theorem dX4_worthOf_18 : decode cX4_worthOf 18 = .ok (.iload_n 2, 1) := by decide +kernel
theorem dX4_worthOf_19 : decode cX4_worthOf 19 = .ok (.aload_n 0, 1) := by decide +kernel
theorem dX4_worthOf_20 : decode cX4_worthOf 20 = .ok (.getfield 15, 3) := by decide +kernel
theorem dX4_worthOf_23 : decode cX4_worthOf 23 = .ok (.iload_n 3, 1) := by decide +kernel
theorem dX4_worthOf_24 : decode cX4_worthOf 24 = .ok (.iaload, 1) := by decide +kernel
theorem dX4_worthOf_25 : decode cX4_worthOf 25 = .ok (.iadd, 1) := by decide +kernel
theorem dX4_worthOf_26 : decode cX4_worthOf 26 = .ok (.istore_n 2, 1) := by decide +kernel
theorem dX4_worthOf_27 : decode cX4_worthOf 27 = .ok (.iinc 3 1, 3) := by decide +kernel
theorem dX4_worthOf_30 : decode cX4_worthOf 30 = .ok (.goto (-26), 3) := by decide +kernel
theorem dX4_worthOf_33 : decode cX4_worthOf 33 = .ok (.iload_n 2, 1) := by decide +kernel
theorem dX4_worthOf_34 : decode cX4_worthOf 34 = .ok (.ireturn, 1) := by decide +kernel
theorem dX5_init_0 : decode cX5_init 0 = .ok (.aload_n 0, 1) := by decide +kernel
theorem dX5_init_1 : decode cX5_init 1 = .ok (.invokespecial 1, 3) := by decide +kernel
theorem dX5_init_4 : decode cX5_init 4 = .ok (.aload_n 0, 1) := by decide +kernel
theorem dX5_init_5 : decode cX5_init 5 = .ok (.new 7, 3) := by decide +kernel
theorem dX5_init_8 : decode cX5_init 8 = .ok (.dup, 1) := by decide +kernel
theorem dX5_init_9 : decode cX5_init 9 = .ok (.invokespecial 9, 3) := by decide +kernel
theorem dX5_init_12 : decode cX5_init 12 = .ok (.putfield 10, 3) := by decide +kernel
theorem dX5_init_15 : decode cX5_init 15 = .ok (.aload_n 0, 1) := by decide +kernel
theorem dX5_init_16 : decode cX5_init 16 = .ok (.sipush 160, 3) := by decide +kernel
theorem dX5_init_19 : decode cX5_init 19 = .ok (.newarray .int, 2) := by decide +kernel
theorem dX5_init_21 : decode cX5_init 21 = .ok (.putfield 16, 3) := by decide +kernel
theorem dX5_init_24 : decode cX5_init 24 = .ok (.aload_n 0, 1) := by decide +kernel
theorem dX5_init_25 : decode cX5_init 25 = .ok (.iconst 4, 1) := by decide +kernel
theorem dX5_init_26 : decode cX5_init 26 = .ok (.newarray .int, 2) := by decide +kernel
theorem dX5_init_28 : decode cX5_init 28 = .ok (.putfield 22, 3) := by decide +kernel
theorem dX5_init_31 : decode cX5_init 31 = .ok (.return_, 1) := by decide +kernel
theorem dX5_readTape_0 : decode cX5_readTape 0 = .ok (.aload_n 0, 1) := by decide +kernel
theorem dX5_readTape_1 : decode cX5_readTape 1 = .ok (.getfield 10, 3) := by decide +kernel
theorem dX5_readTape_4 : decode cX5_readTape 4 = .ok (.invokevirtual 25, 3) := by decide +kernel
theorem dX5_readTape_7 : decode cX5_readTape 7 = .ok (.aload_n 0, 1) := by decide +kernel
theorem dX5_readTape_8 : decode cX5_readTape 8 = .ok (.iconst 0, 1) := by decide +kernel
theorem dX5_readTape_9 : decode cX5_readTape 9 = .ok (.putfield 28, 3) := by decide +kernel
theorem dX5_readTape_12 : decode cX5_readTape 12 = .ok (.aload_n 0, 1) := by decide +kernel
theorem dX5_readTape_13 : decode cX5_readTape 13 = .ok (.iconst 0, 1) := by decide +kernel
theorem dX5_readTape_14 : decode cX5_readTape 14 = .ok (.putfield 32, 3) := by decide +kernel
theorem dX5_readTape_17 : decode cX5_readTape 17 = .ok (.aload_n 0, 1) := by decide +kernel
theorem dX5_readTape_18 : decode cX5_readTape 18 = .ok (.iconst (-1), 1) := by decide +kernel
theorem dX5_readTape_19 : decode cX5_readTape 19 = .ok (.putfield 35, 3) := by decide +kernel
theorem dX5_readTape_22 : decode cX5_readTape 22 = .ok (.iconst 0, 1) := by decide +kernel
theorem dX5_readTape_23 : decode cX5_readTape 23 = .ok (.istore_n 1, 1) := by decide +kernel
theorem dX5_readTape_24 : decode cX5_readTape 24 = .ok (.iload_n 1, 1) := by decide +kernel
theorem dX5_readTape_25 : decode cX5_readTape 25 = .ok (.iconst 3, 1) := by decide +kernel
theorem dX5_readTape_26 : decode cX5_readTape 26 = .ok (.if_icmp .ge 40, 3) := by decide +kernel
theorem dX5_readTape_29 : decode cX5_readTape 29 = .ok (.aload_n 0, 1) := by decide +kernel
theorem dX5_readTape_30 : decode cX5_readTape 30 = .ok (.getfield 22, 3) := by decide +kernel
theorem dX5_readTape_33 : decode cX5_readTape 33 = .ok (.iload_n 1, 1) := by decide +kernel
theorem dX5_readTape_34 : decode cX5_readTape 34 = .ok (.aload_n 0, 1) := by decide +kernel
theorem dX5_readTape_35 : decode cX5_readTape 35 = .ok (.getfield 28, 3) := by decide +kernel
theorem dX5_readTape_38 : decode cX5_readTape 38 = .ok (.iastore, 1) := by decide +kernel
theorem dX5_readTape_39 : decode cX5_readTape 39 = .ok (.aload_n 0, 1) := by decide +kernel
theorem dX5_readTape_40 : decode cX5_readTape 40 = .ok (.sipush 300, 3) := by decide +kernel
theorem dX5_readTape_43 : decode cX5_readTape 43 = .ok (.iload_n 1, 1) := by decide +kernel
theorem dX5_readTape_44 : decode cX5_readTape 44 = .ok (.iadd, 1) := by decide +kernel
theorem dX5_readTape_45 : decode cX5_readTape 45 = .ok (.invokevirtual 38, 3) := by decide +kernel
theorem dX5_readTape_48 : decode cX5_readTape 48 = .ok (.aload_n 0, 1) := by decide +kernel
theorem dX5_readTape_49 : decode cX5_readTape 49 = .ok (.iconst 0, 1) := by decide +kernel
theorem dX5_readTape_50 : decode cX5_readTape 50 = .ok (.iconst 0, 1) := by decide +kernel
theorem dX5_readTape_51 : decode cX5_readTape 51 = .ok (.invokevirtual 42, 3) := by decide +kernel
theorem dX5_readTape_54 : decode cX5_readTape 54 = .ok (.aload_n 0, 1) := by decide +kernel
theorem dX5_readTape_55 : decode cX5_readTape 55 = .ok (.bipush 59, 2) := by decide +kernel
theorem dX5_readTape_57 : decode cX5_readTape 57 = .ok (.invokevirtual 38, 3) := by decide +kernel
theorem dX5_readTape_60 : decode cX5_readTape 60 = .ok (.iinc 1 1, 3) := by decide +kernel
theorem dX5_readTape_63 : decode cX5_readTape 63 = .ok (.goto (-39), 3) := by decide +kernel
theorem dX5_readTape_66 : decode cX5_readTape 66 = .ok (.aload_n 0, 1) := by decide +kernel
theorem dX5_readTape_67 : decode cX5_readTape 67 = .ok (.getfield 22, 3) := by decide +kernel
theorem dX5_readTape_70 : decode cX5_readTape 70 = .ok (.iconst 3, 1) := by decide +kernel
theorem dX5_readTape_71 : decode cX5_readTape 71 = .ok (.aload_n 0, 1) := by decide +kernel
theorem dX5_readTape_72 : decode cX5_readTape 72 = .ok (.getfield 28, 3) := by decide +kernel
theorem dX5_readTape_75 : decode cX5_readTape 75 = .ok (.iastore, 1) := by decide +kernel
theorem dX5_readTape_76 : decode cX5_readTape 76 = .ok (.aload_n 0, 1) := by decide +kernel
theorem dX5_readTape_77 : decode cX5_readTape 77 = .ok (.iconst 0, 1) := by decide +kernel
theorem dX5_readTape_78 : decode cX5_readTape 78 = .ok (.invokevirtual 38, 3) := by decide +kernel
theorem dX5_readTape_81 : decode cX5_readTape 81 = .ok (.aload_n 0, 1) := by decide +kernel
theorem dX5_readTape_82 : decode cX5_readTape 82 = .ok (.getfield 10, 3) := by decide +kernel
theorem dX5_readTape_85 : decode cX5_readTape 85 = .ok (.iconst 0, 1) := by decide +kernel
theorem dX5_readTape_86 : decode cX5_readTape 86 = .ok (.putfield 46, 3) := by decide +kernel
theorem dX5_readTape_89 : decode cX5_readTape 89 = .ok (.aload_n 0, 1) := by decide +kernel
theorem dX5_readTape_90 : decode cX5_readTape 90 = .ok (.getfield 35, 3) := by decide +kernel
theorem dX5_readTape_93 : decode cX5_readTape 93 = .ok (.ireturn, 1) := by decide +kernel
theorem dX5_token_0 : decode cX5_token 0 = .ok (.aload_n 0, 1) := by decide +kernel
theorem dX5_token_1 : decode cX5_token 1 = .ok (.getfield 10, 3) := by decide +kernel
theorem dX5_token_4 : decode cX5_token 4 = .ok (.getfield 49, 3) := by decide +kernel
theorem dX5_token_7 : decode cX5_token 7 = .ok (.aload_n 0, 1) := by decide +kernel
theorem dX5_token_8 : decode cX5_token 8 = .ok (.getfield 32, 3) := by decide +kernel
theorem dX5_token_11 : decode cX5_token 11 = .ok (.iaload, 1) := by decide +kernel
theorem dX5_token_12 : decode cX5_token 12 = .ok (.ireturn, 1) := by decide +kernel
theorem dX5_next_0 : decode cX5_next 0 = .ok (.aload_n 0, 1) := by decide +kernel
theorem dX5_next_1 : decode cX5_next 1 = .ok (.getfield 32, 3) := by decide +kernel
theorem dX5_next_4 : decode cX5_next 4 = .ok (.aload_n 0, 1) := by decide +kernel
theorem dX5_next_5 : decode cX5_next 5 = .ok (.getfield 10, 3) := by decide +kernel
theorem dX5_next_8 : decode cX5_next 8 = .ok (.getfield 52, 3) := by decide +kernel
theorem dX5_next_11 : decode cX5_next 11 = .ok (.iconst 1, 1) := by decide +kernel
theorem dX5_next_12 : decode cX5_next 12 = .ok (.isub, 1) := by decide +kernel
theorem dX5_next_13 : decode cX5_next 13 = .ok (.if_icmp .ge 13, 3) := by decide +kernel
theorem dX5_next_16 : decode cX5_next 16 = .ok (.aload_n 0, 1) := by decide +kernel
theorem dX5_next_17 : decode cX5_next 17 = .ok (.dup, 1) := by decide +kernel
theorem dX5_next_18 : decode cX5_next 18 = .ok (.getfield 32, 3) := by decide +kernel
theorem dX5_next_21 : decode cX5_next 21 = .ok (.iconst 1, 1) := by decide +kernel
theorem dX5_next_22 : decode cX5_next 22 = .ok (.iadd, 1) := by decide +kernel
theorem dX5_next_23 : decode cX5_next 23 = .ok (.putfield 32, 3) := by decide +kernel
theorem dX5_next_26 : decode cX5_next 26 = .ok (.return_, 1) := by decide +kernel
theorem dX5_fail_0 : decode cX5_fail 0 = .ok (.aload_n 0, 1) := by decide +kernel
theorem dX5_fail_1 : decode cX5_fail 1 = .ok (.getfield 35, 3) := by decide +kernel
theorem dX5_fail_4 : decode cX5_fail 4 = .ok (.ifCond .ge 19, 3) := by decide +kernel
theorem dX5_fail_7 : decode cX5_fail 7 = .ok (.aload_n 0, 1) := by decide +kernel
theorem dX5_fail_8 : decode cX5_fail 8 = .ok (.aload_n 0, 1) := by decide +kernel
theorem dX5_fail_9 : decode cX5_fail 9 = .ok (.getfield 10, 3) := by decide +kernel
theorem dX5_fail_12 : decode cX5_fail 12 = .ok (.getfield 55, 3) := by decide +kernel
theorem dX5_fail_15 : decode cX5_fail 15 = .ok (.aload_n 0, 1) := by decide +kernel
theorem dX5_fail_16 : decode cX5_fail 16 = .ok (.getfield 32, 3) := by decide +kernel
theorem dX5_fail_19 : decode cX5_fail 19 = .ok (.iaload, 1) := by decide +kernel
theorem dX5_fail_20 : decode cX5_fail 20 = .ok (.putfield 35, 3) := by decide +kernel
theorem dX5_fail_23 : decode cX5_fail 23 = .ok (.return_, 1) := by decide +kernel
theorem dX5_expect_0 : decode cX5_expect 0 = .ok (.aload_n 0, 1) := by decide +kernel
theorem dX5_expect_1 : decode cX5_expect 1 = .ok (.getfield 35, 3) := by decide +kernel
theorem dX5_expect_4 : decode cX5_expect 4 = .ok (.ifCond .ge 18, 3) := by decide +kernel
theorem dX5_expect_7 : decode cX5_expect 7 = .ok (.aload_n 0, 1) := by decide +kernel
theorem dX5_expect_8 : decode cX5_expect 8 = .ok (.invokevirtual 58, 3) := by decide +kernel
theorem dX5_expect_11 : decode cX5_expect 11 = .ok (.iload_n 1, 1) := by decide +kernel
theorem dX5_expect_12 : decode cX5_expect 12 = .ok (.if_icmp .ne 10, 3) := by decide +kernel
theorem dX5_expect_15 : decode cX5_expect 15 = .ok (.aload_n 0, 1) := by decide +kernel
theorem dX5_expect_16 : decode cX5_expect 16 = .ok (.invokevirtual 62, 3) := by decide +kernel
theorem dX5_expect_19 : decode cX5_expect 19 = .ok (.goto 7, 3) := by decide +kernel
theorem dX5_expect_22 : decode cX5_expect 22 = .ok (.aload_n 0, 1) := by decide +kernel
theorem dX5_expect_23 : decode cX5_expect 23 = .ok (.invokevirtual 65, 3) := by decide +kernel
theorem dX5_expect_26 : decode cX5_expect 26 = .ok (.return_, 1) := by decide +kernel
theorem dX5_write_0 : decode cX5_write 0 = .ok (.aload_n 0, 1) := by decide +kernel
theorem dX5_write_1 : decode cX5_write 1 = .ok (.getfield 35, 3) := by decide +kernel
theorem dX5_write_4 : decode cX5_write 4 = .ok (.ifCond .ge 35, 3) := by decide +kernel
theorem dX5_write_7 : decode cX5_write 7 = .ok (.aload_n 0, 1) := by decide +kernel
theorem dX5_write_8 : decode cX5_write 8 = .ok (.getfield 28, 3) := by decide +kernel
theorem dX5_write_11 : decode cX5_write 11 = .ok (.aload_n 0, 1) := by decide +kernel
theorem dX5_write_12 : decode cX5_write 12 = .ok (.getfield 16, 3) := by decide +kernel
theorem dX5_write_15 : decode cX5_write 15 = .ok (.arraylength, 1) := by decide +kernel
theorem dX5_write_16 : decode cX5_write 16 = .ok (.if_icmp .ge 23, 3) := by decide +kernel
theorem dX5_write_19 : decode cX5_write 19 = .ok (.aload_n 0, 1) := by decide +kernel
theorem dX5_write_20 : decode cX5_write 20 = .ok (.getfield 16, 3) := by decide +kernel
theorem dX5_write_23 : decode cX5_write 23 = .ok (.aload_n 0, 1) := by decide +kernel
theorem dX5_write_24 : decode cX5_write 24 = .ok (.getfield 28, 3) := by decide +kernel
theorem dX5_write_27 : decode cX5_write 27 = .ok (.iload_n 1, 1) := by decide +kernel
theorem dX5_write_28 : decode cX5_write 28 = .ok (.iastore, 1) := by decide +kernel
theorem dX5_write_29 : decode cX5_write 29 = .ok (.aload_n 0, 1) := by decide +kernel
theorem dX5_write_30 : decode cX5_write 30 = .ok (.dup, 1) := by decide +kernel
theorem dX5_write_31 : decode cX5_write 31 = .ok (.getfield 28, 3) := by decide +kernel
theorem dX5_write_34 : decode cX5_write 34 = .ok (.iconst 1, 1) := by decide +kernel
theorem dX5_write_35 : decode cX5_write 35 = .ok (.iadd, 1) := by decide +kernel
theorem dX5_write_36 : decode cX5_write 36 = .ok (.putfield 28, 3) := by decide +kernel
theorem dX5_write_39 : decode cX5_write 39 = .ok (.return_, 1) := by decide +kernel
theorem dX5_readLevel_0 : decode cX5_readLevel 0 = .ok (.aload_n 0, 1) := by decide +kernel
theorem dX5_readLevel_1 : decode cX5_readLevel 1 = .ok (.getfield 35, 3) := by decide +kernel
theorem dX5_readLevel_4 : decode cX5_readLevel 4 = .ok (.ifCond .lt 4, 3) := by decide +kernel
theorem dX5_readLevel_7 : decode cX5_readLevel 7 = .ok (.return_, 1) := by decide +kernel
theorem dX5_readLevel_8 : decode cX5_readLevel 8 = .ok (.iload_n 1, 1) := by decide +kernel
theorem dX5_readLevel_9 : decode cX5_readLevel 9 = .ok (.iconst 2, 1) := by decide +kernel
theorem dX5_readLevel_10 : decode cX5_readLevel 10 = .ok (.if_icmp .ne 11, 3) := by decide +kernel
theorem dX5_readLevel_13 : decode cX5_readLevel 13 = .ok (.aload_n 0, 1) := by decide +kernel
theorem dX5_readLevel_14 : decode cX5_readLevel 14 = .ok (.iload_n 2, 1) := by decide +kernel
theorem dX5_readLevel_15 : decode cX5_readLevel 15 = .ok (.invokevirtual 68, 3) := by decide +kernel
theorem dX5_readLevel_18 : decode cX5_readLevel 18 = .ok (.goto 22, 3) := by decide +kernel
theorem dX5_readLevel_21 : decode cX5_readLevel 21 = .ok (.iload_n 1, 1) := by decide +kernel
theorem dX5_readLevel_22 : decode cX5_readLevel 22 = .ok (.iconst 5, 1) := by decide +kernel
theorem dX5_readLevel_23 : decode cX5_readLevel 23 = .ok (.if_icmp .ne 11, 3) := by decide +kernel
theorem dX5_readLevel_26 : decode cX5_readLevel 26 = .ok (.aload_n 0, 1) := by decide +kernel
theorem dX5_readLevel_27 : decode cX5_readLevel 27 = .ok (.iload_n 2, 1) := by decide +kernel
theorem dX5_readLevel_28 : decode cX5_readLevel 28 = .ok (.invokevirtual 71, 3) := by decide +kernel
theorem dX5_readLevel_31 : decode cX5_readLevel 31 = .ok (.goto 9, 3) := by decide +kernel
theorem dX5_readLevel_34 : decode cX5_readLevel 34 = .ok (.aload_n 0, 1) := by decide +kernel
theorem dX5_readLevel_35 : decode cX5_readLevel 35 = .ok (.iload_n 1, 1) := by decide +kernel
theorem dX5_readLevel_36 : decode cX5_readLevel 36 = .ok (.iload_n 2, 1) := by decide +kernel
theorem dX5_readLevel_37 : decode cX5_readLevel 37 = .ok (.invokevirtual 74, 3) := by decide +kernel
theorem dX5_readLevel_40 : decode cX5_readLevel 40 = .ok (.return_, 1) := by decide +kernel
theorem dX5_readChain_0 : decode cX5_readChain 0 = .ok (.aload_n 0, 1) := by decide +kernel
theorem dX5_readChain_1 : decode cX5_readChain 1 = .ok (.iload_n 1, 1) := by decide +kernel
theorem dX5_readChain_2 : decode cX5_readChain 2 = .ok (.iconst 1, 1) := by decide +kernel
theorem dX5_readChain_3 : decode cX5_readChain 3 = .ok (.iadd, 1) := by decide +kernel
theorem dX5_readChain_4 : decode cX5_readChain 4 = .ok (.iload_n 2, 1) := by decide +kernel
theorem dX5_readChain_5 : decode cX5_readChain 5 = .ok (.invokevirtual 42, 3) := by decide +kernel
theorem dX5_readChain_8 : decode cX5_readChain 8 = .ok (.iconst 0, 1) := by decide +kernel
theorem dX5_readChain_9 : decode cX5_readChain 9 = .ok (.istore_n 3, 1) := by decide +kernel
theorem dX5_readChain_10 : decode cX5_readChain 10 = .ok (.iload_n 3, 1) := by decide +kernel
theorem dX5_readChain_11 : decode cX5_readChain 11 = .ok (.sipush 160, 3) := by decide +kernel
theorem dX5_readChain_14 : decode cX5_readChain 14 = .ok (.if_icmp .ge 49, 3) := by decide +kernel
theorem dX5_readChain_17 : decode cX5_readChain 17 = .ok (.aload_n 0, 1) := by decide +kernel
theorem dX5_readChain_18 : decode cX5_readChain 18 = .ok (.getfield 35, 3) := by decide +kernel
theorem dX5_readChain_21 : decode cX5_readChain 21 = .ok (.ifCond .ge 42, 3) := by decide +kernel
theorem dX5_readChain_24 : decode cX5_readChain 24 = .ok (.aload_n 0, 1) := by decide +kernel
theorem dX5_readChain_25 : decode cX5_readChain 25 = .ok (.iload_n 1, 1) := by decide +kernel
theorem dX5_readChain_26 : decode cX5_readChain 26 = .ok (.invokevirtual 77, 3) := by decide +kernel
theorem dX5_readChain_29 : decode cX5_readChain 29 = .ok (.ifCond .eq 34, 3) := by decide +kernel
theorem dX5_readChain_32 : decode cX5_readChain 32 = .ok (.aload_n 0, 1) := by decide +kernel
theorem dX5_readChain_33 : decode cX5_readChain 33 = .ok (.iload_n 1, 1) := by decide +kernel
theorem dX5_readChain_34 : decode cX5_readChain 34 = .ok (.invokevirtual 77, 3) := by decide +kernel
theorem dX5_readChain_37 : decode cX5_readChain 37 = .ok (.istore 4, 2) := by decide +kernel
theorem dX5_readChain_39 : decode cX5_readChain 39 = .ok (.aload_n 0, 1) := by decide +kernel
theorem dX5_readChain_40 : decode cX5_readChain 40 = .ok (.invokevirtual 62, 3) := by decide +kernel
theorem dX5_readChain_43 : decode cX5_readChain 43 = .ok (.aload_n 0, 1) := by decide +kernel
theorem dX5_readChain_44 : decode cX5_readChain 44 = .ok (.iload_n 1, 1) := by decide +kernel
theorem dX5_readChain_45 : decode cX5_readChain 45 = .ok (.iconst 1, 1) := by decide +kernel
theorem dX5_readChain_46 : decode cX5_readChain 46 = .ok (.iadd, 1) := by decide +kernel
theorem dX5_readChain_47 : decode cX5_readChain 47 = .ok (.iload_n 2, 1) := by decide +kernel
theorem dX5_readChain_48 : decode cX5_readChain 48 = .ok (.invokevirtual 42, 3) := by decide +kernel
theorem dX5_readChain_51 : decode cX5_readChain 51 = .ok (.aload_n 0, 1) := by decide +kernel
theorem dX5_readChain_52 : decode cX5_readChain 52 = .ok (.iload 4, 2) := by decide +kernel
theorem dX5_readChain_54 : decode cX5_readChain 54 = .ok (.invokevirtual 81, 3) := by decide +kernel
theorem dX5_readChain_57 : decode cX5_readChain 57 = .ok (.iinc 3 1, 3) := by decide +kernel
theorem dX5_readChain_60 : decode cX5_readChain 60 = .ok (.goto (-50), 3) := by decide +kernel
theorem dX5_readChain_63 : decode cX5_readChain 63 = .ok (.return_, 1) := by decide +kernel
theorem dX5_joining_0 : decode cX5_joining 0 = .ok (.aload_n 0, 1) := by decide +kernel
theorem dX5_joining_1 : decode cX5_joining 1 = .ok (.invokevirtual 58, 3) := by decide +kernel
theorem dX5_joining_4 : decode cX5_joining 4 = .ok (.istore_n 2, 1) := by decide +kernel
theorem dX5_joining_5 : decode cX5_joining 5 = .ok (.iload_n 1, 1) := by decide +kernel
theorem dX5_joining_6 : decode cX5_joining 6 = .ok (.ifCond .ne 17, 3) := by decide +kernel
theorem dX5_joining_9 : decode cX5_joining 9 = .ok (.iload_n 2, 1) := by decide +kernel
theorem dX5_joining_10 : decode cX5_joining 10 = .ok (.sipush 303, 3) := by decide +kernel
theorem dX5_joining_13 : decode cX5_joining 13 = .ok (.if_icmp .ne 8, 3) := by decide +kernel
theorem dX5_joining_16 : decode cX5_joining 16 = .ok (.bipush (-11), 2) := by decide +kernel
theorem dX5_joining_18 : decode cX5_joining 18 = .ok (.goto 4, 3) := by decide +kernel
theorem dX5_joining_21 : decode cX5_joining 21 = .ok (.iconst 0, 1) := by decide +kernel
theorem dX5_joining_22 : decode cX5_joining 22 = .ok (.ireturn, 1) := by decide +kernel
theorem dX5_joining_23 : decode cX5_joining 23 = .ok (.iload_n 1, 1) := by decide +kernel
theorem dX5_joining_24 : decode cX5_joining 24 = .ok (.iconst 1, 1) := by decide +kernel
theorem dX5_joining_25 : decode cX5_joining 25 = .ok (.if_icmp .ne 17, 3) := by decide +kernel
theorem dX5_joining_28 : decode cX5_joining 28 = .ok (.iload_n 2, 1) := by decide +kernel
theorem dX5_joining_29 : decode cX5_joining 29 = .ok (.sipush 304, 3) := by decide +kernel
theorem dX5_joining_32 : decode cX5_joining 32 = .ok (.if_icmp .ne 8, 3) := by decide +kernel
theorem dX5_joining_35 : decode cX5_joining 35 = .ok (.bipush (-12), 2) := by decide +kernel
theorem dX5_joining_37 : decode cX5_joining 37 = .ok (.goto 4, 3) := by decide +kernel
theorem dX5_joining_40 : decode cX5_joining 40 = .ok (.iconst 0, 1) := by decide +kernel
theorem dX5_joining_41 : decode cX5_joining 41 = .ok (.ireturn, 1) := by decide +kernel
theorem dX5_joining_42 : decode cX5_joining 42 = .ok (.iload_n 1, 1) := by decide +kernel
theorem dX5_joining_43 : decode cX5_joining 43 = .ok (.iconst 3, 1) := by decide +kernel
theorem dX5_joining_44 : decode cX5_joining 44 = .ok (.if_icmp .ne 27, 3) := by decide +kernel
theorem dX5_joining_47 : decode cX5_joining 47 = .ok (.iload_n 2, 1) := by decide +kernel
theorem dX5_joining_48 : decode cX5_joining 48 = .ok (.bipush 43, 2) := by decide +kernel
theorem dX5_joining_50 : decode cX5_joining 50 = .ok (.if_icmp .ne 8, 3) := by decide +kernel
theorem dX5_joining_53 : decode cX5_joining 53 = .ok (.bipush (-16), 2) := by decide +kernel
theorem dX5_joining_55 : decode cX5_joining 55 = .ok (.goto 15, 3) := by decide +kernel
theorem dX5_joining_58 : decode cX5_joining 58 = .ok (.iload_n 2, 1) := by decide +kernel
theorem dX5_joining_59 : decode cX5_joining 59 = .ok (.bipush 45, 2) := by decide +kernel
theorem dX5_joining_61 : decode cX5_joining 61 = .ok (.if_icmp .ne 8, 3) := by decide +kernel
theorem dX5_joining_64 : decode cX5_joining 64 = .ok (.bipush (-17), 2) := by decide +kernel
theorem dX5_joining_66 : decode cX5_joining 66 = .ok (.goto 4, 3) := by decide +kernel
theorem dX5_joining_69 : decode cX5_joining 69 = .ok (.iconst 0, 1) := by decide +kernel
theorem dX5_joining_70 : decode cX5_joining 70 = .ok (.ireturn, 1) := by decide +kernel
theorem dX5_joining_71 : decode cX5_joining 71 = .ok (.iload_n 2, 1) := by decide +kernel
theorem dX5_joining_72 : decode cX5_joining 72 = .ok (.bipush 42, 2) := by decide +kernel
theorem dX5_joining_74 : decode cX5_joining 74 = .ok (.if_icmp .ne 8, 3) := by decide +kernel
theorem dX5_joining_77 : decode cX5_joining 77 = .ok (.bipush (-18), 2) := by decide +kernel
theorem dX5_joining_79 : decode cX5_joining 79 = .ok (.goto 4, 3) := by decide +kernel
theorem dX5_joining_82 : decode cX5_joining 82 = .ok (.iconst 0, 1) := by decide +kernel
theorem dX5_joining_83 : decode cX5_joining 83 = .ok (.ireturn, 1) := by decide +kernel
theorem dX5_readComparison_0 : decode cX5_readComparison 0 = .ok (.aload_n 0, 1) := by decide +kernel
theorem dX5_readComparison_1 : decode cX5_readComparison 1 = .ok (.invokevirtual 58, 3) := by decide +kernel
theorem dX5_readComparison_4 : decode cX5_readComparison 4 = .ok (.sipush 305, 3) := by decide +kernel
theorem dX5_readComparison_7 : decode cX5_readComparison 7 = .ok (.if_icmp .ne 16, 3) := by decide +kernel
theorem dX5_readComparison_10 : decode cX5_readComparison 10 = .ok (.aload_n 0, 1) := by decide +kernel
theorem dX5_readComparison_11 : decode cX5_readComparison 11 = .ok (.iconst 2, 1) := by decide +kernel
theorem dX5_readComparison_12 : decode cX5_readComparison 12 = .ok (.iload_n 1, 1) := by decide +kernel
theorem dX5_readComparison_13 : decode cX5_readComparison 13 = .ok (.invokevirtual 84, 3) := by decide +kernel
theorem dX5_readComparison_16 : decode cX5_readComparison 16 = .ok (.aload_n 0, 1) := by decide +kernel
theorem dX5_readComparison_17 : decode cX5_readComparison 17 = .ok (.bipush (-13), 2) := by decide +kernel
theorem dX5_readComparison_19 : decode cX5_readComparison 19 = .ok (.invokevirtual 81, 3) := by decide +kernel
theorem dX5_readComparison_22 : decode cX5_readComparison 22 = .ok (.return_, 1) := by decide +kernel
theorem dX5_readComparison_23 : decode cX5_readComparison 23 = .ok (.aload_n 0, 1) := by decide +kernel
theorem dX5_readComparison_24 : decode cX5_readComparison 24 = .ok (.iconst 3, 1) := by decide +kernel
theorem dX5_readComparison_25 : decode cX5_readComparison 25 = .ok (.iload_n 1, 1) := by decide +kernel
theorem dX5_readComparison_26 : decode cX5_readComparison 26 = .ok (.invokevirtual 42, 3) := by decide +kernel
theorem dX5_readComparison_29 : decode cX5_readComparison 29 = .ok (.aload_n 0, 1) := by decide +kernel
theorem dX5_readComparison_30 : decode cX5_readComparison 30 = .ok (.invokevirtual 58, 3) := by decide +kernel
theorem dX5_readComparison_33 : decode cX5_readComparison 33 = .ok (.bipush 60, 2) := by decide +kernel
theorem dX5_readComparison_35 : decode cX5_readComparison 35 = .ok (.if_icmp .ne 8, 3) := by decide +kernel
theorem dX5_readComparison_38 : decode cX5_readComparison 38 = .ok (.bipush (-14), 2) := by decide +kernel
theorem dX5_readComparison_40 : decode cX5_readComparison 40 = .ok (.goto 18, 3) := by decide +kernel
theorem dX5_readComparison_43 : decode cX5_readComparison 43 = .ok (.aload_n 0, 1) := by decide +kernel
theorem dX5_readComparison_44 : decode cX5_readComparison 44 = .ok (.invokevirtual 58, 3) := by decide +kernel
theorem dX5_readComparison_47 : decode cX5_readComparison 47 = .ok (.bipush 61, 2) := by decide +kernel
theorem dX5_readComparison_49 : decode cX5_readComparison 49 = .ok (.if_icmp .ne 8, 3) := by decide +kernel
theorem dX5_readComparison_52 : decode cX5_readComparison 52 = .ok (.bipush (-15), 2) := by decide +kernel
theorem dX5_readComparison_54 : decode cX5_readComparison 54 = .ok (.goto 4, 3) := by decide +kernel
theorem dX5_readComparison_57 : decode cX5_readComparison 57 = .ok (.iconst 0, 1) := by decide +kernel
theorem dX5_readComparison_58 : decode cX5_readComparison 58 = .ok (.istore_n 2, 1) := by decide +kernel
theorem dX5_readComparison_59 : decode cX5_readComparison 59 = .ok (.iload_n 2, 1) := by decide +kernel
theorem dX5_readComparison_60 : decode cX5_readComparison 60 = .ok (.ifCond .eq 18, 3) := by decide +kernel
theorem dX5_readComparison_63 : decode cX5_readComparison 63 = .ok (.aload_n 0, 1) := by decide +kernel
theorem dX5_readComparison_64 : decode cX5_readComparison 64 = .ok (.invokevirtual 62, 3) := by decide +kernel
theorem dX5_readComparison_67 : decode cX5_readComparison 67 = .ok (.aload_n 0, 1) := by decide +kernel
theorem dX5_readComparison_68 : decode cX5_readComparison 68 = .ok (.iconst 3, 1) := by decide +kernel
theorem dX5_readComparison_69 : decode cX5_readComparison 69 = .ok (.iload_n 1, 1) := by decide +kernel
theorem dX5_readComparison_70 : decode cX5_readComparison 70 = .ok (.invokevirtual 42, 3) := by decide +kernel
theorem dX5_readComparison_73 : decode cX5_readComparison 73 = .ok (.aload_n 0, 1) := by decide +kernel
theorem dX5_readComparison_74 : decode cX5_readComparison 74 = .ok (.iload_n 2, 1) := by decide +kernel
theorem dX5_readComparison_75 : decode cX5_readComparison 75 = .ok (.invokevirtual 81, 3) := by decide +kernel
theorem dX5_readComparison_78 : decode cX5_readComparison 78 = .ok (.return_, 1) := by decide +kernel
theorem dX5_readOne_0 : decode cX5_readOne 0 = .ok (.aload_n 0, 1) := by decide +kernel
theorem dX5_readOne_1 : decode cX5_readOne 1 = .ok (.invokevirtual 58, 3) := by decide +kernel
theorem dX5_readOne_4 : decode cX5_readOne 4 = .ok (.istore_n 2, 1) := by decide +kernel
theorem dX5_readOne_5 : decode cX5_readOne 5 = .ok (.iload_n 2, 1) := by decide +kernel
theorem dX5_readOne_6 : decode cX5_readOne 6 = .ok (.sipush 1000, 3) := by decide +kernel
theorem dX5_readOne_9 : decode cX5_readOne 9 = .ok (.if_icmp .lt 19, 3) := by decide +kernel
theorem dX5_readOne_12 : decode cX5_readOne 12 = .ok (.aload_n 0, 1) := by decide +kernel
theorem dX5_readOne_13 : decode cX5_readOne 13 = .ok (.iload_n 2, 1) := by decide +kernel
theorem dX5_readOne_14 : decode cX5_readOne 14 = .ok (.sipush 1000, 3) := by decide +kernel
theorem dX5_readOne_17 : decode cX5_readOne 17 = .ok (.isub, 1) := by decide +kernel
theorem dX5_readOne_18 : decode cX5_readOne 18 = .ok (.invokevirtual 81, 3) := by decide +kernel
theorem dX5_readOne_21 : decode cX5_readOne 21 = .ok (.aload_n 0, 1) := by decide +kernel
theorem dX5_readOne_22 : decode cX5_readOne 22 = .ok (.invokevirtual 62, 3) := by decide +kernel
theorem dX5_readOne_25 : decode cX5_readOne 25 = .ok (.goto 79, 3) := by decide +kernel
theorem dX5_readOne_28 : decode cX5_readOne 28 = .ok (.iload_n 2, 1) := by decide +kernel
theorem dX5_readOne_29 : decode cX5_readOne 29 = .ok (.sipush 200, 3) := by decide +kernel
theorem dX5_readOne_32 : decode cX5_readOne 32 = .ok (.if_icmp .lt 26, 3) := by decide +kernel
theorem dX5_readOne_35 : decode cX5_readOne 35 = .ok (.iload_n 2, 1) := by decide +kernel
theorem dX5_readOne_36 : decode cX5_readOne 36 = .ok (.sipush 300, 3) := by decide +kernel
theorem dX5_readOne_39 : decode cX5_readOne 39 = .ok (.if_icmp .ge 19, 3) := by decide +kernel
theorem dX5_readOne_42 : decode cX5_readOne 42 = .ok (.aload_n 0, 1) := by decide +kernel
theorem dX5_readOne_43 : decode cX5_readOne 43 = .ok (.sipush 199, 3) := by decide +kernel
theorem dX5_readOne_46 : decode cX5_readOne 46 = .ok (.iload_n 2, 1) := by decide +kernel
theorem dX5_readOne_47 : decode cX5_readOne 47 = .ok (.isub, 1) := by decide +kernel
theorem dX5_readOne_48 : decode cX5_readOne 48 = .ok (.invokevirtual 81, 3) := by decide +kernel
theorem dX5_readOne_51 : decode cX5_readOne 51 = .ok (.aload_n 0, 1) := by decide +kernel
theorem dX5_readOne_52 : decode cX5_readOne 52 = .ok (.invokevirtual 62, 3) := by decide +kernel
theorem dX5_readOne_55 : decode cX5_readOne 55 = .ok (.goto 49, 3) := by decide +kernel
theorem dX5_readOne_58 : decode cX5_readOne 58 = .ok (.iload_n 2, 1) := by decide +kernel
theorem dX5_readOne_59 : decode cX5_readOne 59 = .ok (.bipush 45, 2) := by decide +kernel
theorem dX5_readOne_61 : decode cX5_readOne 61 = .ok (.if_icmp .ne 18, 3) := by decide +kernel
theorem dX5_readOne_64 : decode cX5_readOne 64 = .ok (.aload_n 0, 1) := by decide +kernel
theorem dX5_readOne_65 : decode cX5_readOne 65 = .ok (.iconst 5, 1) := by decide +kernel
theorem dX5_readOne_66 : decode cX5_readOne 66 = .ok (.iload_n 1, 1) := by decide +kernel
theorem dX5_readOne_67 : decode cX5_readOne 67 = .ok (.invokevirtual 84, 3) := by decide +kernel
theorem dX5_readOne_70 : decode cX5_readOne 70 = .ok (.aload_n 0, 1) := by decide +kernel
theorem dX5_readOne_71 : decode cX5_readOne 71 = .ok (.bipush (-19), 2) := by decide +kernel
theorem dX5_readOne_73 : decode cX5_readOne 73 = .ok (.invokevirtual 81, 3) := by decide +kernel
theorem dX5_readOne_76 : decode cX5_readOne 76 = .ok (.goto 28, 3) := by decide +kernel
theorem dX5_readOne_79 : decode cX5_readOne 79 = .ok (.iload_n 2, 1) := by decide +kernel
theorem dX5_readOne_80 : decode cX5_readOne 80 = .ok (.bipush 40, 2) := by decide +kernel
theorem dX5_readOne_82 : decode cX5_readOne 82 = .ok (.if_icmp .ne 18, 3) := by decide +kernel
theorem dX5_readOne_85 : decode cX5_readOne 85 = .ok (.aload_n 0, 1) := by decide +kernel
theorem dX5_readOne_86 : decode cX5_readOne 86 = .ok (.iconst 0, 1) := by decide +kernel
theorem dX5_readOne_87 : decode cX5_readOne 87 = .ok (.iload_n 1, 1) := by decide +kernel
theorem dX5_readOne_88 : decode cX5_readOne 88 = .ok (.invokevirtual 84, 3) := by decide +kernel
theorem dX5_readOne_91 : decode cX5_readOne 91 = .ok (.aload_n 0, 1) := by decide +kernel
theorem dX5_readOne_92 : decode cX5_readOne 92 = .ok (.bipush 41, 2) := by decide +kernel
theorem dX5_readOne_94 : decode cX5_readOne 94 = .ok (.invokevirtual 38, 3) := by decide +kernel
theorem dX5_readOne_97 : decode cX5_readOne 97 = .ok (.goto 7, 3) := by decide +kernel
theorem dX5_readOne_100 : decode cX5_readOne 100 = .ok (.aload_n 0, 1) := by decide +kernel
theorem dX5_readOne_101 : decode cX5_readOne 101 = .ok (.invokevirtual 65, 3) := by decide +kernel
theorem dX5_readOne_104 : decode cX5_readOne 104 = .ok (.return_, 1) := by decide +kernel
theorem dX5_readOpened_0 : decode cX5_readOpened 0 = .ok (.iload_n 2, 1) := by decide +kernel
theorem dX5_readOpened_1 : decode cX5_readOpened 1 = .ok (.iconst 5, 1) := by decide +kernel
theorem dX5_readOpened_2 : decode cX5_readOpened 2 = .ok (.if_icmp .lt 10, 3) := by decide +kernel
theorem dX5_readOpened_5 : decode cX5_readOpened 5 = .ok (.aload_n 0, 1) := by decide +kernel
theorem dX5_readOpened_6 : decode cX5_readOpened 6 = .ok (.invokevirtual 65, 3) := by decide +kernel
theorem dX5_readOpened_9 : decode cX5_readOpened 9 = .ok (.goto 15, 3) := by decide +kernel
theorem dX5_readOpened_12 : decode cX5_readOpened 12 = .ok (.aload_n 0, 1) := by decide +kernel
theorem dX5_readOpened_13 : decode cX5_readOpened 13 = .ok (.invokevirtual 62, 3) := by decide +kernel
theorem dX5_readOpened_16 : decode cX5_readOpened 16 = .ok (.aload_n 0, 1) := by decide +kernel
theorem dX5_readOpened_17 : decode cX5_readOpened 17 = .ok (.iload_n 1, 1) := by decide +kernel
theorem dX5_readOpened_18 : decode cX5_readOpened 18 = .ok (.iload_n 2, 1) := by decide +kernel
theorem dX5_readOpened_19 : decode cX5_readOpened 19 = .ok (.iconst 1, 1) := by decide +kernel
theorem dX5_readOpened_20 : decode cX5_readOpened 20 = .ok (.iadd, 1) := by decide +kernel
theorem dX5_readOpened_21 : decode cX5_readOpened 21 = .ok (.invokevirtual 42, 3) := by decide +kernel
theorem dX5_readOpened_24 : decode cX5_readOpened 24 = .ok (.return_, 1) := by decide +kernel
theorem dX6_init_0 : decode cX6_init 0 = .ok (.aload_n 0, 1) := by decide +kernel
theorem dX6_init_1 : decode cX6_init 1 = .ok (.invokespecial 3, 3) := by decide +kernel
theorem dX6_init_4 : decode cX6_init 4 = .ok (.aload_n 0, 1) := by decide +kernel
theorem dX6_init_5 : decode cX6_init 5 = .ok (.new 9, 3) := by decide +kernel
theorem dX6_init_8 : decode cX6_init 8 = .ok (.dup, 1) := by decide +kernel
theorem dX6_init_9 : decode cX6_init 9 = .ok (.invokespecial 11, 3) := by decide +kernel
theorem dX6_init_12 : decode cX6_init 12 = .ok (.putfield 12, 3) := by decide +kernel
theorem dX6_init_15 : decode cX6_init 15 = .ok (.aload_n 0, 1) := by decide +kernel
theorem dX6_init_16 : decode cX6_init 16 = .ok (.new 18, 3) := by decide +kernel
theorem dX6_init_19 : decode cX6_init 19 = .ok (.dup, 1) := by decide +kernel
theorem dX6_init_20 : decode cX6_init 20 = .ok (.invokespecial 20, 3) := by decide +kernel
theorem dX6_init_23 : decode cX6_init 23 = .ok (.putfield 21, 3) := by decide +kernel
theorem dX6_init_26 : decode cX6_init 26 = .ok (.aload_n 0, 1) := by decide +kernel
theorem dX6_init_27 : decode cX6_init 27 = .ok (.bipush 8, 2) := by decide +kernel
theorem dX6_init_29 : decode cX6_init 29 = .ok (.newarray .int, 2) := by decide +kernel
theorem dX6_init_31 : decode cX6_init 31 = .ok (.putfield 25, 3) := by decide +kernel
theorem dX6_init_34 : decode cX6_init 34 = .ok (.aload_n 0, 1) := by decide +kernel
theorem dX6_init_35 : decode cX6_init 35 = .ok (.bipush 8, 2) := by decide +kernel
theorem dX6_init_37 : decode cX6_init 37 = .ok (.newarray .int, 2) := by decide +kernel
theorem dX6_init_39 : decode cX6_init 39 = .ok (.putfield 29, 3) := by decide +kernel
theorem dX6_init_42 : decode cX6_init 42 = .ok (.aload_n 0, 1) := by decide +kernel
theorem dX6_init_43 : decode cX6_init 43 = .ok (.bipush 8, 2) := by decide +kernel
theorem dX6_init_45 : decode cX6_init 45 = .ok (.newarray .int, 2) := by decide +kernel
theorem dX6_init_47 : decode cX6_init 47 = .ok (.putfield 32, 3) := by decide +kernel
theorem dX6_init_50 : decode cX6_init 50 = .ok (.aload_n 0, 1) := by decide +kernel
theorem dX6_init_51 : decode cX6_init 51 = .ok (.bipush 8, 2) := by decide +kernel
theorem dX6_init_53 : decode cX6_init 53 = .ok (.newarray .int, 2) := by decide +kernel
theorem dX6_init_55 : decode cX6_init 55 = .ok (.putfield 35, 3) := by decide +kernel
theorem dX6_init_58 : decode cX6_init 58 = .ok (.aload_n 0, 1) := by decide +kernel
theorem dX6_init_59 : decode cX6_init 59 = .ok (.bipush 8, 2) := by decide +kernel
theorem dX6_init_61 : decode cX6_init 61 = .ok (.newarray .int, 2) := by decide +kernel
theorem dX6_init_63 : decode cX6_init 63 = .ok (.putfield 38, 3) := by decide +kernel
theorem dX6_init_66 : decode cX6_init 66 = .ok (.aload_n 0, 1) := by decide +kernel
theorem dX6_init_67 : decode cX6_init 67 = .ok (.bipush 6, 2) := by decide +kernel
theorem dX6_init_69 : decode cX6_init 69 = .ok (.newarray .int, 2) := by decide +kernel
theorem dX6_init_71 : decode cX6_init 71 = .ok (.putfield 41, 3) := by decide +kernel
theorem dX6_init_74 : decode cX6_init 74 = .ok (.aload_n 0, 1) := by decide +kernel
theorem dX6_init_75 : decode cX6_init 75 = .ok (.bipush 8, 2) := by decide +kernel
theorem dX6_init_77 : decode cX6_init 77 = .ok (.newarray .int, 2) := by decide +kernel
theorem dX6_init_79 : decode cX6_init 79 = .ok (.putfield 44, 3) := by decide +kernel
theorem dX6_init_82 : decode cX6_init 82 = .ok (.aload_n 0, 1) := by decide +kernel
theorem dX6_init_83 : decode cX6_init 83 = .ok (.bipush 8, 2) := by decide +kernel
theorem dX6_init_85 : decode cX6_init 85 = .ok (.newarray .int, 2) := by decide +kernel
theorem dX6_init_87 : decode cX6_init 87 = .ok (.putfield 47, 3) := by decide +kernel
theorem dX6_init_90 : decode cX6_init 90 = .ok (.aload_n 0, 1) := by decide +kernel
theorem dX6_init_91 : decode cX6_init 91 = .ok (.bipush 96, 2) := by decide +kernel
theorem dX6_init_93 : decode cX6_init 93 = .ok (.newarray .int, 2) := by decide +kernel
theorem dX6_init_95 : decode cX6_init 95 = .ok (.putfield 50, 3) := by decide +kernel
theorem dX6_init_98 : decode cX6_init 98 = .ok (.aload_n 0, 1) := by decide +kernel
theorem dX6_init_99 : decode cX6_init 99 = .ok (.bipush 96, 2) := by decide +kernel
theorem dX6_init_101 : decode cX6_init 101 = .ok (.newarray .int, 2) := by decide +kernel
theorem dX6_init_103 : decode cX6_init 103 = .ok (.putfield 53, 3) := by decide +kernel
theorem dX6_init_106 : decode cX6_init 106 = .ok (.return_, 1) := by decide +kernel
theorem dX6_add_0 : decode cX6_add 0 = .ok (.aload_n 0, 1) := by decide +kernel
theorem dX6_add_1 : decode cX6_add 1 = .ok (.getfield 25, 3) := by decide +kernel
theorem dX6_add_4 : decode cX6_add 4 = .ok (.aload_n 0, 1) := by decide +kernel
theorem dX6_add_5 : decode cX6_add 5 = .ok (.getfield 56, 3) := by decide +kernel
theorem dX6_add_8 : decode cX6_add 8 = .ok (.iload_n 1, 1) := by decide +kernel
theorem dX6_add_9 : decode cX6_add 9 = .ok (.iastore, 1) := by decide +kernel
theorem dX6_add_10 : decode cX6_add 10 = .ok (.aload_n 0, 1) := by decide +kernel
theorem dX6_add_11 : decode cX6_add 11 = .ok (.getfield 29, 3) := by decide +kernel
theorem dX6_add_14 : decode cX6_add 14 = .ok (.aload_n 0, 1) := by decide +kernel
theorem dX6_add_15 : decode cX6_add 15 = .ok (.getfield 56, 3) := by decide +kernel
theorem dX6_add_18 : decode cX6_add 18 = .ok (.iload_n 2, 1) := by decide +kernel
theorem dX6_add_19 : decode cX6_add 19 = .ok (.iastore, 1) := by decide +kernel
theorem dX6_add_20 : decode cX6_add 20 = .ok (.aload_n 0, 1) := by decide +kernel
theorem dX6_add_21 : decode cX6_add 21 = .ok (.getfield 32, 3) := by decide +kernel
theorem dX6_add_24 : decode cX6_add 24 = .ok (.aload_n 0, 1) := by decide +kernel
theorem dX6_add_25 : decode cX6_add 25 = .ok (.getfield 56, 3) := by decide +kernel
theorem dX6_add_28 : decode cX6_add 28 = .ok (.iload_n 3, 1) := by decide +kernel
theorem dX6_add_29 : decode cX6_add 29 = .ok (.iastore, 1) := by decide +kernel
theorem dX6_add_30 : decode cX6_add 30 = .ok (.aload_n 0, 1) := by decide +kernel
theorem dX6_add_31 : decode cX6_add 31 = .ok (.dup, 1) := by decide +kernel
theorem dX6_add_32 : decode cX6_add 32 = .ok (.getfield 56, 3) := by decide +kernel
theorem dX6_add_35 : decode cX6_add 35 = .ok (.iconst 1, 1) := by decide +kernel
theorem dX6_add_36 : decode cX6_add 36 = .ok (.iadd, 1) := by decide +kernel
theorem dX6_add_37 : decode cX6_add 37 = .ok (.putfield 56, 3) := by decide +kernel
theorem dX6_add_40 : decode cX6_add 40 = .ok (.aload_n 0, 1) := by decide +kernel
theorem dX6_add_41 : decode cX6_add 41 = .ok (.getfield 56, 3) := by decide +kernel
theorem dX6_add_44 : decode cX6_add 44 = .ok (.iconst 1, 1) := by decide +kernel
theorem dX6_add_45 : decode cX6_add 45 = .ok (.isub, 1) := by decide +kernel
theorem dX6_add_46 : decode cX6_add 46 = .ok (.ireturn, 1) := by decide +kernel
theorem dX6_isOf_0 : decode cX6_isOf 0 = .ok (.iload_n 2, 1) := by decide +kernel
theorem dX6_isOf_1 : decode cX6_isOf 1 = .ok (.ifCond .eq 27, 3) := by decide +kernel
theorem dX6_isOf_4 : decode cX6_isOf 4 = .ok (.aload_n 0, 1) := by decide +kernel
theorem dX6_isOf_5 : decode cX6_isOf 5 = .ok (.getfield 25, 3) := by decide +kernel
theorem dX6_isOf_8 : decode cX6_isOf 8 = .ok (.iload_n 1, 1) := by decide +kernel
theorem dX6_isOf_9 : decode cX6_isOf 9 = .ok (.iaload, 1) := by decide +kernel
theorem dX6_isOf_10 : decode cX6_isOf 10 = .ok (.iload_n 2, 1) := by decide +kernel
theorem dX6_isOf_11 : decode cX6_isOf 11 = .ok (.if_icmp .eq 17, 3) := by decide +kernel
theorem dX6_isOf_14 : decode cX6_isOf 14 = .ok (.getstatic 60, 3) := by decide +kernel
theorem dX6_isOf_17 : decode cX6_isOf 17 = .ok (.aload_n 0, 1) := by decide +kernel
theorem dX6_isOf_18 : decode cX6_isOf 18 = .ok (.getfield 25, 3) := by decide +kernel
theorem dX6_isOf_21 : decode cX6_isOf 21 = .ok (.iload_n 1, 1) := by decide +kernel
theorem dX6_isOf_22 : decode cX6_isOf 22 = .ok (.iaload, 1) := by decide +kernel
theorem dX6_isOf_23 : decode cX6_isOf 23 = .ok (.iaload, 1) := by decide +kernel
theorem dX6_isOf_24 : decode cX6_isOf 24 = .ok (.iload_n 2, 1) := by decide +kernel
theorem dX6_isOf_25 : decode cX6_isOf 25 = .ok (.if_icmp .ne 7, 3) := by decide +kernel
theorem dX6_isOf_28 : decode cX6_isOf 28 = .ok (.iconst 1, 1) := by decide +kernel
theorem dX6_isOf_29 : decode cX6_isOf 29 = .ok (.goto 4, 3) := by decide +kernel
theorem dX6_isOf_32 : decode cX6_isOf 32 = .ok (.iconst 0, 1) := by decide +kernel
theorem dX6_isOf_33 : decode cX6_isOf 33 = .ok (.ireturn, 1) := by decide +kernel
theorem dX6_byMouth_0 : decode cX6_byMouth 0 = .ok (.aload_n 0, 1) := by decide +kernel
theorem dX6_byMouth_1 : decode cX6_byMouth 1 = .ok (.iload_n 1, 1) := by decide +kernel
theorem dX6_byMouth_2 : decode cX6_byMouth 2 = .ok (.iconst 4, 1) := by decide +kernel
theorem dX6_byMouth_3 : decode cX6_byMouth 3 = .ok (.invokevirtual 63, 3) := by decide +kernel
theorem dX6_byMouth_6 : decode cX6_byMouth 6 = .ok (.ifCond .ne 7, 3) := by decide +kernel
theorem dX6_byMouth_9 : decode cX6_byMouth 9 = .ok (.iconst 1, 1) := by decide +kernel
theorem dX6_byMouth_10 : decode cX6_byMouth 10 = .ok (.goto 4, 3) := by decide +kernel
theorem dX6_byMouth_13 : decode cX6_byMouth 13 = .ok (.iconst 0, 1) := by decide +kernel
theorem dX6_byMouth_14 : decode cX6_byMouth 14 = .ok (.ireturn, 1) := by decide +kernel
theorem dX6_sailBy_0 : decode cX6_sailBy 0 = .ok (.aload_n 0, 1) := by decide +kernel
theorem dX6_sailBy_1 : decode cX6_sailBy 1 = .ok (.iload_n 1, 1) := by decide +kernel
theorem dX6_sailBy_2 : decode cX6_sailBy 2 = .ok (.putfield 67, 3) := by decide +kernel
theorem dX6_sailBy_5 : decode cX6_sailBy 5 = .ok (.aload_n 0, 1) := by decide +kernel
theorem dX6_sailBy_6 : decode cX6_sailBy 6 = .ok (.getfield 53, 3) := by decide +kernel
theorem dX6_sailBy_9 : decode cX6_sailBy 9 = .ok (.iconst 0, 1) := by decide +kernel
theorem dX6_sailBy_10 : decode cX6_sailBy 10 = .ok (.invokestatic 70, 3) := by decide +kernel
theorem dX6_sailBy_13 : decode cX6_sailBy 13 = .ok (.return_, 1) := by decide +kernel
theorem dX6_lawSays_0 : decode cX6_lawSays 0 = .ok (.aload_n 0, 1) := by decide +kernel
theorem dX6_lawSays_1 : decode cX6_lawSays 1 = .ok (.getfield 21, 3) := by decide +kernel
theorem dX6_lawSays_4 : decode cX6_lawSays 4 = .ok (.getfield 76, 3) := by decide +kernel
theorem dX6_lawSays_7 : decode cX6_lawSays 7 = .ok (.iconst 0, 1) := by decide +kernel
theorem dX6_lawSays_8 : decode cX6_lawSays 8 = .ok (.aload_n 0, 1) := by decide +kernel
theorem dX6_lawSays_9 : decode cX6_lawSays 9 = .ok (.getfield 12, 3) := by decide +kernel
theorem dX6_lawSays_12 : decode cX6_lawSays 12 = .ok (.aload_n 0, 1) := by decide +kernel
theorem dX6_lawSays_13 : decode cX6_lawSays 13 = .ok (.getfield 67, 3) := by decide +kernel
theorem dX6_lawSays_16 : decode cX6_lawSays 16 = .ok (.iload_n 2, 1) := by decide +kernel
theorem dX6_lawSays_17 : decode cX6_lawSays 17 = .ok (.invokevirtual 79, 3) := by decide +kernel
theorem dX6_lawSays_20 : decode cX6_lawSays 20 = .ok (.iastore, 1) := by decide +kernel
theorem dX6_lawSays_21 : decode cX6_lawSays 21 = .ok (.aload_n 0, 1) := by decide +kernel
theorem dX6_lawSays_22 : decode cX6_lawSays 22 = .ok (.getfield 21, 3) := by decide +kernel
theorem dX6_lawSays_25 : decode cX6_lawSays 25 = .ok (.getfield 76, 3) := by decide +kernel
theorem dX6_lawSays_28 : decode cX6_lawSays 28 = .ok (.iconst 1, 1) := by decide +kernel
theorem dX6_lawSays_29 : decode cX6_lawSays 29 = .ok (.aload_n 0, 1) := by decide +kernel
theorem dX6_lawSays_30 : decode cX6_lawSays 30 = .ok (.getfield 12, 3) := by decide +kernel
theorem dX6_lawSays_33 : decode cX6_lawSays 33 = .ok (.invokevirtual 83, 3) := by decide +kernel
theorem dX6_lawSays_36 : decode cX6_lawSays 36 = .ok (.iastore, 1) := by decide +kernel
theorem dX6_lawSays_37 : decode cX6_lawSays 37 = .ok (.aload_n 0, 1) := by decide +kernel
theorem dX6_lawSays_38 : decode cX6_lawSays 38 = .ok (.getfield 21, 3) := by decide +kernel
theorem dX6_lawSays_41 : decode cX6_lawSays 41 = .ok (.getfield 76, 3) := by decide +kernel
theorem dX6_lawSays_44 : decode cX6_lawSays 44 = .ok (.iconst 2, 1) := by decide +kernel
theorem dX6_lawSays_45 : decode cX6_lawSays 45 = .ok (.aload_n 0, 1) := by decide +kernel
theorem dX6_lawSays_46 : decode cX6_lawSays 46 = .ok (.getfield 12, 3) := by decide +kernel
theorem dX6_lawSays_49 : decode cX6_lawSays 49 = .ok (.invokevirtual 87, 3) := by decide +kernel
theorem dX6_lawSays_52 : decode cX6_lawSays 52 = .ok (.iastore, 1) := by decide +kernel
theorem dX6_lawSays_53 : decode cX6_lawSays 53 = .ok (.aload_n 0, 1) := by decide +kernel
theorem dX6_lawSays_54 : decode cX6_lawSays 54 = .ok (.getfield 21, 3) := by decide +kernel
theorem dX6_lawSays_57 : decode cX6_lawSays 57 = .ok (.getfield 76, 3) := by decide +kernel
theorem dX6_lawSays_60 : decode cX6_lawSays 60 = .ok (.iconst 3, 1) := by decide +kernel
theorem dX6_lawSays_61 : decode cX6_lawSays 61 = .ok (.iload_n 3, 1) := by decide +kernel
theorem dX6_lawSays_62 : decode cX6_lawSays 62 = .ok (.iastore, 1) := by decide +kernel
theorem dX6_lawSays_63 : decode cX6_lawSays 63 = .ok (.aload_n 0, 1) := by decide +kernel
theorem dX6_lawSays_64 : decode cX6_lawSays 64 = .ok (.getfield 21, 3) := by decide +kernel
theorem dX6_lawSays_67 : decode cX6_lawSays 67 = .ok (.getfield 76, 3) := by decide +kernel
theorem dX6_lawSays_70 : decode cX6_lawSays 70 = .ok (.iconst 4, 1) := by decide +kernel
theorem dX6_lawSays_71 : decode cX6_lawSays 71 = .ok (.aload_n 0, 1) := by decide +kernel
theorem dX6_lawSays_72 : decode cX6_lawSays 72 = .ok (.getfield 12, 3) := by decide +kernel
theorem dX6_lawSays_75 : decode cX6_lawSays 75 = .ok (.iload_n 2, 1) := by decide +kernel
theorem dX6_lawSays_76 : decode cX6_lawSays 76 = .ok (.invokevirtual 90, 3) := by decide +kernel
theorem dX6_lawSays_79 : decode cX6_lawSays 79 = .ok (.iastore, 1) := by decide +kernel
theorem dX6_lawSays_80 : decode cX6_lawSays 80 = .ok (.aload_n 0, 1) := by decide +kernel
theorem dX6_lawSays_81 : decode cX6_lawSays 81 = .ok (.getfield 21, 3) := by decide +kernel
theorem dX6_lawSays_84 : decode cX6_lawSays 84 = .ok (.getfield 76, 3) := by decide +kernel
theorem dX6_lawSays_87 : decode cX6_lawSays 87 = .ok (.iconst 5, 1) := by decide +kernel
theorem dX6_lawSays_88 : decode cX6_lawSays 88 = .ok (.iload_n 2, 1) := by decide +kernel
theorem dX6_lawSays_89 : decode cX6_lawSays 89 = .ok (.iastore, 1) := by decide +kernel
theorem dX6_lawSays_90 : decode cX6_lawSays 90 = .ok (.aload_n 0, 1) := by decide +kernel
theorem dX6_lawSays_91 : decode cX6_lawSays 91 = .ok (.getfield 21, 3) := by decide +kernel
theorem dX6_lawSays_94 : decode cX6_lawSays 94 = .ok (.aload_n 0, 1) := by decide +kernel
theorem dX6_lawSays_95 : decode cX6_lawSays 95 = .ok (.getfield 12, 3) := by decide +kernel
theorem dX6_lawSays_98 : decode cX6_lawSays 98 = .ok (.getfield 94, 3) := by decide +kernel
theorem dX6_lawSays_101 : decode cX6_lawSays 101 = .ok (.iload_n 1, 1) := by decide +kernel
theorem dX6_lawSays_102 : decode cX6_lawSays 102 = .ok (.invokevirtual 97, 3) := by decide +kernel
theorem dX6_lawSays_105 : decode cX6_lawSays 105 = .ok (.ireturn, 1) := by decide +kernel
theorem dX6_learn_0 : decode cX6_learn 0 = .ok (.iload_n 1, 1) := by decide +kernel
theorem dX6_learn_1 : decode cX6_learn 1 = .ok (.bipush 12, 2) := by decide +kernel
theorem dX6_learn_3 : decode cX6_learn 3 = .ok (.imul, 1) := by decide +kernel
theorem dX6_learn_4 : decode cX6_learn 4 = .ok (.iload_n 2, 1) := by decide +kernel
theorem dX6_learn_5 : decode cX6_learn 5 = .ok (.iadd, 1) := by decide +kernel
theorem dX6_learn_6 : decode cX6_learn 6 = .ok (.istore_n 3, 1) := by decide +kernel
theorem dX6_learn_7 : decode cX6_learn 7 = .ok (.aload_n 0, 1) := by decide +kernel
theorem dX6_learn_8 : decode cX6_learn 8 = .ok (.getfield 53, 3) := by decide +kernel
theorem dX6_learn_11 : decode cX6_learn 11 = .ok (.iload_n 3, 1) := by decide +kernel
theorem dX6_learn_12 : decode cX6_learn 12 = .ok (.iaload, 1) := by decide +kernel
theorem dX6_learn_13 : decode cX6_learn 13 = .ok (.ifCond .ne 62, 3) := by decide +kernel
theorem dX6_learn_16 : decode cX6_learn 16 = .ok (.aload_n 0, 1) := by decide +kernel
theorem dX6_learn_17 : decode cX6_learn 17 = .ok (.getfield 53, 3) := by decide +kernel
theorem dX6_learn_20 : decode cX6_learn 20 = .ok (.iload_n 3, 1) := by decide +kernel
theorem dX6_learn_21 : decode cX6_learn 21 = .ok (.aload_n 0, 1) := by decide +kernel
theorem dX6_learn_22 : decode cX6_learn 22 = .ok (.aload_n 0, 1) := by decide +kernel
theorem dX6_learn_23 : decode cX6_learn 23 = .ok (.iconst 2, 1) := by decide +kernel
theorem dX6_learn_24 : decode cX6_learn 24 = .ok (.iload_n 2, 1) := by decide +kernel
theorem dX6_learn_25 : decode cX6_learn 25 = .ok (.aload_n 0, 1) := by decide +kernel
theorem dX6_learn_26 : decode cX6_learn 26 = .ok (.getfield 29, 3) := by decide +kernel
theorem dX6_learn_29 : decode cX6_learn 29 = .ok (.iload_n 1, 1) := by decide +kernel
theorem dX6_learn_30 : decode cX6_learn 30 = .ok (.iaload, 1) := by decide +kernel
theorem dX6_learn_31 : decode cX6_learn 31 = .ok (.invokevirtual 100, 3) := by decide +kernel
theorem dX6_learn_34 : decode cX6_learn 34 = .ok (.iload_n 1, 1) := by decide +kernel
theorem dX6_learn_35 : decode cX6_learn 35 = .ok (.invokevirtual 104, 3) := by decide +kernel
theorem dX6_learn_38 : decode cX6_learn 38 = .ok (.iastore, 1) := by decide +kernel
theorem dX6_learn_39 : decode cX6_learn 39 = .ok (.aload_n 0, 1) := by decide +kernel
theorem dX6_learn_40 : decode cX6_learn 40 = .ok (.getfield 50, 3) := by decide +kernel
theorem dX6_learn_43 : decode cX6_learn 43 = .ok (.iload_n 3, 1) := by decide +kernel
theorem dX6_learn_44 : decode cX6_learn 44 = .ok (.aload_n 0, 1) := by decide +kernel
theorem dX6_learn_45 : decode cX6_learn 45 = .ok (.aload_n 0, 1) := by decide +kernel
theorem dX6_learn_46 : decode cX6_learn 46 = .ok (.aload_n 0, 1) := by decide +kernel
theorem dX6_learn_47 : decode cX6_learn 47 = .ok (.iload_n 1, 1) := by decide +kernel
theorem dX6_learn_48 : decode cX6_learn 48 = .ok (.invokevirtual 107, 3) := by decide +kernel
theorem dX6_learn_51 : decode cX6_learn 51 = .ok (.ifCond .eq 7, 3) := by decide +kernel
theorem dX6_learn_54 : decode cX6_learn 54 = .ok (.iconst 0, 1) := by decide +kernel
theorem dX6_learn_55 : decode cX6_learn 55 = .ok (.goto 4, 3) := by decide +kernel
theorem dX6_learn_58 : decode cX6_learn 58 = .ok (.iconst 1, 1) := by decide +kernel
theorem dX6_learn_59 : decode cX6_learn 59 = .ok (.iload_n 2, 1) := by decide +kernel
theorem dX6_learn_60 : decode cX6_learn 60 = .ok (.aload_n 0, 1) := by decide +kernel
theorem dX6_learn_61 : decode cX6_learn 61 = .ok (.getfield 29, 3) := by decide +kernel
theorem dX6_learn_64 : decode cX6_learn 64 = .ok (.iload_n 1, 1) := by decide +kernel
theorem dX6_learn_65 : decode cX6_learn 65 = .ok (.iaload, 1) := by decide +kernel
theorem dX6_learn_66 : decode cX6_learn 66 = .ok (.invokevirtual 100, 3) := by decide +kernel
theorem dX6_learn_69 : decode cX6_learn 69 = .ok (.iload_n 1, 1) := by decide +kernel
theorem dX6_learn_70 : decode cX6_learn 70 = .ok (.iload_n 2, 1) := by decide +kernel
theorem dX6_learn_71 : decode cX6_learn 71 = .ok (.invokevirtual 111, 3) := by decide +kernel
theorem dX6_learn_74 : decode cX6_learn 74 = .ok (.iastore, 1) := by decide +kernel
theorem dX6_learn_75 : decode cX6_learn 75 = .ok (.iload_n 3, 1) := by decide +kernel
theorem dX6_learn_76 : decode cX6_learn 76 = .ok (.ireturn, 1) := by decide +kernel
theorem dX6_likelyBy_0 : decode cX6_likelyBy 0 = .ok (.aload_n 0, 1) := by decide +kernel
theorem dX6_likelyBy_1 : decode cX6_likelyBy 1 = .ok (.getfield 25, 3) := by decide +kernel
theorem dX6_likelyBy_4 : decode cX6_likelyBy 4 = .ok (.iload_n 2, 1) := by decide +kernel
theorem dX6_likelyBy_5 : decode cX6_likelyBy 5 = .ok (.iaload, 1) := by decide +kernel
theorem dX6_likelyBy_6 : decode cX6_likelyBy 6 = .ok (.tableswitch 102 1 5 #[34, 45, 56, 102, 70], 34) := by decide +kernel
theorem dX6_likelyBy_40 : decode cX6_likelyBy 40 = .ok (.iload_n 1, 1) := by decide +kernel
theorem dX6_likelyBy_41 : decode cX6_likelyBy 41 = .ok (.aload_n 0, 1) := by decide +kernel
theorem dX6_likelyBy_42 : decode cX6_likelyBy 42 = .ok (.getfield 32, 3) := by decide +kernel
theorem dX6_likelyBy_45 : decode cX6_likelyBy 45 = .ok (.iload_n 2, 1) := by decide +kernel
theorem dX6_likelyBy_46 : decode cX6_likelyBy 46 = .ok (.iaload, 1) := by decide +kernel
theorem dX6_likelyBy_47 : decode cX6_likelyBy 47 = .ok (.invokestatic 114, 3) := by decide +kernel
theorem dX6_likelyBy_50 : decode cX6_likelyBy 50 = .ok (.ireturn, 1) := by decide +kernel
theorem dX6_likelyBy_51 : decode cX6_likelyBy 51 = .ok (.iload_n 1, 1) := by decide +kernel
theorem dX6_likelyBy_52 : decode cX6_likelyBy 52 = .ok (.aload_n 0, 1) := by decide +kernel
theorem dX6_likelyBy_53 : decode cX6_likelyBy 53 = .ok (.getfield 32, 3) := by decide +kernel
theorem dX6_likelyBy_56 : decode cX6_likelyBy 56 = .ok (.iload_n 2, 1) := by decide +kernel
theorem dX6_likelyBy_57 : decode cX6_likelyBy 57 = .ok (.iaload, 1) := by decide +kernel
theorem dX6_likelyBy_58 : decode cX6_likelyBy 58 = .ok (.invokestatic 117, 3) := by decide +kernel
theorem dX6_likelyBy_61 : decode cX6_likelyBy 61 = .ok (.ireturn, 1) := by decide +kernel
theorem dX6_likelyBy_62 : decode cX6_likelyBy 62 = .ok (.iload_n 1, 1) := by decide +kernel
theorem dX6_likelyBy_63 : decode cX6_likelyBy 63 = .ok (.aload_n 0, 1) := by decide +kernel
theorem dX6_likelyBy_64 : decode cX6_likelyBy 64 = .ok (.getfield 32, 3) := by decide +kernel
theorem dX6_likelyBy_67 : decode cX6_likelyBy 67 = .ok (.iload_n 2, 1) := by decide +kernel
theorem dX6_likelyBy_68 : decode cX6_likelyBy 68 = .ok (.iaload, 1) := by decide +kernel
theorem dX6_likelyBy_69 : decode cX6_likelyBy 69 = .ok (.invokestatic 114, 3) := by decide +kernel
theorem dX6_likelyBy_72 : decode cX6_likelyBy 72 = .ok (.invokestatic 120, 3) := by decide +kernel
theorem dX6_likelyBy_75 : decode cX6_likelyBy 75 = .ok (.ireturn, 1) := by decide +kernel
theorem dX6_likelyBy_76 : decode cX6_likelyBy 76 = .ok (.aload_n 0, 1) := by decide +kernel
theorem dX6_likelyBy_77 : decode cX6_likelyBy 77 = .ok (.getfield 12, 3) := by decide +kernel
theorem dX6_likelyBy_80 : decode cX6_likelyBy 80 = .ok (.aload_n 0, 1) := by decide +kernel
theorem dX6_likelyBy_81 : decode cX6_likelyBy 81 = .ok (.getfield 67, 3) := by decide +kernel
theorem dX6_likelyBy_84 : decode cX6_likelyBy 84 = .ok (.iload_n 3, 1) := by decide +kernel
theorem dX6_likelyBy_85 : decode cX6_likelyBy 85 = .ok (.invokevirtual 79, 3) := by decide +kernel
theorem dX6_likelyBy_88 : decode cX6_likelyBy 88 = .ok (.iconst 2, 1) := by decide +kernel
theorem dX6_likelyBy_89 : decode cX6_likelyBy 89 = .ok (.aload_n 0, 1) := by decide +kernel
theorem dX6_likelyBy_90 : decode cX6_likelyBy 90 = .ok (.getfield 32, 3) := by decide +kernel
theorem dX6_likelyBy_93 : decode cX6_likelyBy 93 = .ok (.iload_n 2, 1) := by decide +kernel
theorem dX6_likelyBy_94 : decode cX6_likelyBy 94 = .ok (.iaload, 1) := by decide +kernel
theorem dX6_likelyBy_95 : decode cX6_likelyBy 95 = .ok (.imul, 1) := by decide +kernel
theorem dX6_likelyBy_96 : decode cX6_likelyBy 96 = .ok (.if_icmp .gt 8, 3) := by decide +kernel
theorem dX6_likelyBy_99 : decode cX6_likelyBy 99 = .ok (.bipush 100, 2) := by decide +kernel
theorem dX6_likelyBy_101 : decode cX6_likelyBy 101 = .ok (.goto 6, 3) := by decide +kernel
theorem dX6_likelyBy_104 : decode cX6_likelyBy 104 = .ok (.iload_n 1, 1) := by decide +kernel
theorem dX6_likelyBy_105 : decode cX6_likelyBy 105 = .ok (.iconst 2, 1) := by decide +kernel
theorem dX6_likelyBy_106 : decode cX6_likelyBy 106 = .ok (.idiv, 1) := by decide +kernel
theorem dX6_likelyBy_107 : decode cX6_likelyBy 107 = .ok (.ireturn, 1) := by decide +kernel
theorem dX6_likelyBy_108 : decode cX6_likelyBy 108 = .ok (.iload_n 1, 1) := by decide +kernel
theorem dX6_likelyBy_109 : decode cX6_likelyBy 109 = .ok (.ireturn, 1) := by decide +kernel
theorem dX6_rowed_0 : decode cX6_rowed 0 = .ok (.bipush 100, 2) := by decide +kernel
theorem dX6_rowed_2 : decode cX6_rowed 2 = .ok (.iload_n 0, 1) := by decide +kernel
theorem dX6_rowed_3 : decode cX6_rowed 3 = .ok (.iconst 3, 1) := by decide +kernel
theorem dX6_rowed_4 : decode cX6_rowed 4 = .ok (.iload_n 1, 1) := by decide +kernel
theorem dX6_rowed_5 : decode cX6_rowed 5 = .ok (.imul, 1) := by decide +kernel
theorem dX6_rowed_6 : decode cX6_rowed 6 = .ok (.iadd, 1) := by decide +kernel
theorem dX6_rowed_7 : decode cX6_rowed 7 = .ok (.invokestatic 123, 3) := by decide +kernel
theorem dX6_rowed_10 : decode cX6_rowed 10 = .ok (.ireturn, 1) := by decide +kernel
theorem dX6_figured_0 : decode cX6_figured 0 = .ok (.bipush 100, 2) := by decide +kernel
theorem dX6_figured_2 : decode cX6_figured 2 = .ok (.iload_n 0, 1) := by decide +kernel
theorem dX6_figured_3 : decode cX6_figured 3 = .ok (.bipush 10, 2) := by decide +kernel
theorem dX6_figured_5 : decode cX6_figured 5 = .ok (.iadd, 1) := by decide +kernel
theorem dX6_figured_6 : decode cX6_figured 6 = .ok (.invokestatic 123, 3) := by decide +kernel
theorem dX6_figured_9 : decode cX6_figured 9 = .ok (.istore_n 2, 1) := by decide +kernel
theorem dX6_figured_10 : decode cX6_figured 10 = .ok (.bipush 100, 2) := by decide +kernel
theorem dX6_figured_12 : decode cX6_figured 12 = .ok (.istore_n 3, 1) := by decide +kernel
theorem dX6_figured_13 : decode cX6_figured 13 = .ok (.iconst 0, 1) := by decide +kernel
theorem dX6_figured_14 : decode cX6_figured 14 = .ok (.istore 4, 2) := by decide +kernel
theorem dX6_figured_16 : decode cX6_figured 16 = .ok (.iload 4, 2) := by decide +kernel
theorem dX6_figured_18 : decode cX6_figured 18 = .ok (.iload_n 1, 1) := by decide +kernel
theorem dX6_figured_19 : decode cX6_figured 19 = .ok (.if_icmp .gt 16, 3) := by decide +kernel
theorem dX6_figured_22 : decode cX6_figured 22 = .ok (.iload_n 3, 1) := by decide +kernel
theorem dX6_figured_23 : decode cX6_figured 23 = .ok (.iload_n 2, 1) := by decide +kernel
theorem dX6_figured_24 : decode cX6_figured 24 = .ok (.imul, 1) := by decide +kernel
theorem dX6_figured_25 : decode cX6_figured 25 = .ok (.bipush 100, 2) := by decide +kernel
theorem dX6_figured_27 : decode cX6_figured 27 = .ok (.idiv, 1) := by decide +kernel
theorem dX6_figured_28 : decode cX6_figured 28 = .ok (.istore_n 3, 1) := by decide +kernel
theorem dX6_figured_29 : decode cX6_figured 29 = .ok (.iinc 4 1, 3) := by decide +kernel
theorem dX6_figured_32 : decode cX6_figured 32 = .ok (.goto (-16), 3) := by decide +kernel
theorem dX6_figured_35 : decode cX6_figured 35 = .ok (.iload_n 3, 1) := by decide +kernel
theorem dX6_figured_36 : decode cX6_figured 36 = .ok (.ireturn, 1) := by decide +kernel
theorem dX6_twice_0 : decode cX6_twice 0 = .ok (.iload_n 0, 1) := by decide +kernel
theorem dX6_twice_1 : decode cX6_twice 1 = .ok (.bipush 100, 2) := by decide +kernel
theorem dX6_twice_3 : decode cX6_twice 3 = .ok (.iload_n 0, 1) := by decide +kernel
theorem dX6_twice_4 : decode cX6_twice 4 = .ok (.isub, 1) := by decide +kernel
theorem dX6_twice_5 : decode cX6_twice 5 = .ok (.iload_n 0, 1) := by decide +kernel
theorem dX6_twice_6 : decode cX6_twice 6 = .ok (.imul, 1) := by decide +kernel
theorem dX6_twice_7 : decode cX6_twice 7 = .ok (.bipush 100, 2) := by decide +kernel
theorem dX6_twice_9 : decode cX6_twice 9 = .ok (.idiv, 1) := by decide +kernel
theorem dX6_twice_10 : decode cX6_twice 10 = .ok (.iadd, 1) := by decide +kernel
theorem dX6_twice_11 : decode cX6_twice 11 = .ok (.ireturn, 1) := by decide +kernel
theorem dX6_takesBy_0 : decode cX6_takesBy 0 = .ok (.aload_n 0, 1) := by decide +kernel
theorem dX6_takesBy_1 : decode cX6_takesBy 1 = .ok (.getfield 25, 3) := by decide +kernel
theorem dX6_takesBy_4 : decode cX6_takesBy 4 = .ok (.iload_n 2, 1) := by decide +kernel
theorem dX6_takesBy_5 : decode cX6_takesBy 5 = .ok (.iaload, 1) := by decide +kernel
theorem dX6_takesBy_6 : decode cX6_takesBy 6 = .ok (.tableswitch 49 2 5 #[30, 41, 49, 45], 30) := by decide +kernel
theorem dX6_takesBy_36 : decode cX6_takesBy 36 = .ok (.iload_n 1, 1) := by decide +kernel
theorem dX6_takesBy_37 : decode cX6_takesBy 37 = .ok (.aload_n 0, 1) := by decide +kernel
theorem dX6_takesBy_38 : decode cX6_takesBy 38 = .ok (.getfield 32, 3) := by decide +kernel
theorem dX6_takesBy_41 : decode cX6_takesBy 41 = .ok (.iload_n 2, 1) := by decide +kernel
theorem dX6_takesBy_42 : decode cX6_takesBy 42 = .ok (.iaload, 1) := by decide +kernel
theorem dX6_takesBy_43 : decode cX6_takesBy 43 = .ok (.iconst 3, 1) := by decide +kernel
theorem dX6_takesBy_44 : decode cX6_takesBy 44 = .ok (.idiv, 1) := by decide +kernel
theorem dX6_takesBy_45 : decode cX6_takesBy 45 = .ok (.iadd, 1) := by decide +kernel
theorem dX6_takesBy_46 : decode cX6_takesBy 46 = .ok (.ireturn, 1) := by decide +kernel
theorem dX6_takesBy_47 : decode cX6_takesBy 47 = .ok (.iconst 2, 1) := by decide +kernel
theorem dX6_takesBy_48 : decode cX6_takesBy 48 = .ok (.iload_n 1, 1) := by decide +kernel
theorem dX6_takesBy_49 : decode cX6_takesBy 49 = .ok (.imul, 1) := by decide +kernel
theorem dX6_takesBy_50 : decode cX6_takesBy 50 = .ok (.ireturn, 1) := by decide +kernel
theorem dX6_takesBy_51 : decode cX6_takesBy 51 = .ok (.iload_n 1, 1) := by decide +kernel
theorem dX6_takesBy_52 : decode cX6_takesBy 52 = .ok (.iconst 1, 1) := by decide +kernel
theorem dX6_takesBy_53 : decode cX6_takesBy 53 = .ok (.iadd, 1) := by decide +kernel
theorem dX6_takesBy_54 : decode cX6_takesBy 54 = .ok (.ireturn, 1) := by decide +kernel
theorem dX6_takesBy_55 : decode cX6_takesBy 55 = .ok (.iload_n 1, 1) := by decide +kernel
theorem dX6_takesBy_56 : decode cX6_takesBy 56 = .ok (.ireturn, 1) := by decide +kernel
theorem dX6_worthAsTheyCame_0 : decode cX6_worthAsTheyCame 0 = .ok (.aload_n 0, 1) := by decide +kernel
theorem dX6_worthAsTheyCame_1 : decode cX6_worthAsTheyCame 1 = .ok (.iload_n 1, 1) := by decide +kernel
theorem dX6_worthAsTheyCame_2 : decode cX6_worthAsTheyCame 2 = .ok (.invokevirtual 128, 3) := by decide +kernel
theorem dX6_worthAsTheyCame_5 : decode cX6_worthAsTheyCame 5 = .ok (.aload_n 0, 1) := by decide +kernel
theorem dX6_worthAsTheyCame_6 : decode cX6_worthAsTheyCame 6 = .ok (.aload_n 0, 1) := by decide +kernel
theorem dX6_worthAsTheyCame_7 : decode cX6_worthAsTheyCame 7 = .ok (.iconst (-1), 1) := by decide +kernel
theorem dX6_worthAsTheyCame_8 : decode cX6_worthAsTheyCame 8 = .ok (.invokevirtual 132, 3) := by decide +kernel
theorem dX6_worthAsTheyCame_11 : decode cX6_worthAsTheyCame 11 = .ok (.invokevirtual 135, 3) := by decide +kernel
theorem dX6_worthAsTheyCame_14 : decode cX6_worthAsTheyCame 14 = .ok (.lreturn, 1) := by decide +kernel
theorem dX6_worthWithout_0 : decode cX6_worthWithout 0 = .ok (.aload_n 0, 1) := by decide +kernel
theorem dX6_worthWithout_1 : decode cX6_worthWithout 1 = .ok (.aload_n 0, 1) := by decide +kernel
theorem dX6_worthWithout_2 : decode cX6_worthWithout 2 = .ok (.iload_n 1, 1) := by decide +kernel
theorem dX6_worthWithout_3 : decode cX6_worthWithout 3 = .ok (.invokevirtual 132, 3) := by decide +kernel
theorem dX6_worthWithout_6 : decode cX6_worthWithout 6 = .ok (.invokevirtual 135, 3) := by decide +kernel
theorem dX6_worthWithout_9 : decode cX6_worthWithout 9 = .ok (.lreturn, 1) := by decide +kernel
theorem dX6_orderWithout_0 : decode cX6_orderWithout 0 = .ok (.iconst 0, 1) := by decide +kernel
theorem dX6_orderWithout_1 : decode cX6_orderWithout 1 = .ok (.istore_n 2, 1) := by decide +kernel
theorem dX6_orderWithout_2 : decode cX6_orderWithout 2 = .ok (.iconst 0, 1) := by decide +kernel
theorem dX6_orderWithout_3 : decode cX6_orderWithout 3 = .ok (.istore_n 3, 1) := by decide +kernel
theorem dX6_orderWithout_4 : decode cX6_orderWithout 4 = .ok (.iload_n 3, 1) := by decide +kernel
theorem dX6_orderWithout_5 : decode cX6_orderWithout 5 = .ok (.aload_n 0, 1) := by decide +kernel
theorem dX6_orderWithout_6 : decode cX6_orderWithout 6 = .ok (.getfield 56, 3) := by decide +kernel
theorem dX6_orderWithout_9 : decode cX6_orderWithout 9 = .ok (.if_icmp .ge 24, 3) := by decide +kernel
theorem dX6_orderWithout_12 : decode cX6_orderWithout 12 = .ok (.iload_n 3, 1) := by decide +kernel
theorem dX6_orderWithout_13 : decode cX6_orderWithout 13 = .ok (.iload_n 1, 1) := by decide +kernel
theorem dX6_orderWithout_14 : decode cX6_orderWithout 14 = .ok (.if_icmp .eq 13, 3) := by decide +kernel
theorem dX6_orderWithout_17 : decode cX6_orderWithout 17 = .ok (.aload_n 0, 1) := by decide +kernel
theorem dX6_orderWithout_18 : decode cX6_orderWithout 18 = .ok (.getfield 44, 3) := by decide +kernel
theorem dX6_orderWithout_21 : decode cX6_orderWithout 21 = .ok (.iload_n 2, 1) := by decide +kernel
theorem dX6_orderWithout_22 : decode cX6_orderWithout 22 = .ok (.iload_n 3, 1) := by decide +kernel
theorem dX6_orderWithout_23 : decode cX6_orderWithout 23 = .ok (.iastore, 1) := by decide +kernel
theorem dX6_orderWithout_24 : decode cX6_orderWithout 24 = .ok (.iinc 2 1, 3) := by decide +kernel
theorem dX6_orderWithout_27 : decode cX6_orderWithout 27 = .ok (.iinc 3 1, 3) := by decide +kernel
theorem dX6_orderWithout_30 : decode cX6_orderWithout 30 = .ok (.goto (-26), 3) := by decide +kernel
theorem dX6_orderWithout_33 : decode cX6_orderWithout 33 = .ok (.iload_n 2, 1) := by decide +kernel
theorem dX6_orderWithout_34 : decode cX6_orderWithout 34 = .ok (.ireturn, 1) := by decide +kernel
theorem dX6_worthByNumbers_0 : decode cX6_worthByNumbers 0 = .ok (.iload_n 2, 1) := by decide +kernel
theorem dX6_worthByNumbers_1 : decode cX6_worthByNumbers 1 = .ok (.aload_n 0, 1) := by decide +kernel
theorem dX6_worthByNumbers_2 : decode cX6_worthByNumbers 2 = .ok (.getfield 56, 3) := by decide +kernel
theorem dX6_worthByNumbers_5 : decode cX6_worthByNumbers 5 = .ok (.if_icmp .le 7, 3) := by decide +kernel
theorem dX6_worthByNumbers_8 : decode cX6_worthByNumbers 8 = .ok (.ldc2_w 139, 3) := by decide +kernel
theorem dX6_worthByNumbers_11 : decode cX6_worthByNumbers 11 = .ok (.lreturn, 1) := by decide +kernel
theorem dX6_worthByNumbers_12 : decode cX6_worthByNumbers 12 = .ok (.iconst 0, 1) := by decide +kernel
theorem dX6_worthByNumbers_13 : decode cX6_worthByNumbers 13 = .ok (.istore_n 3, 1) := by decide +kernel
theorem dX6_worthByNumbers_14 : decode cX6_worthByNumbers 14 = .ok (.iconst 0, 1) := by decide +kernel
theorem dX6_worthByNumbers_15 : decode cX6_worthByNumbers 15 = .ok (.istore 4, 2) := by decide +kernel
theorem dX6_worthByNumbers_17 : decode cX6_worthByNumbers 17 = .ok (.iload 4, 2) := by decide +kernel
theorem dX6_worthByNumbers_19 : decode cX6_worthByNumbers 19 = .ok (.iload_n 2, 1) := by decide +kernel
theorem dX6_worthByNumbers_20 : decode cX6_worthByNumbers 20 = .ok (.if_icmp .ge 59, 3) := by decide +kernel
theorem dX6_worthByNumbers_23 : decode cX6_worthByNumbers 23 = .ok (.aload_n 1, 1) := by decide +kernel
theorem dX6_worthByNumbers_24 : decode cX6_worthByNumbers 24 = .ok (.iload 4, 2) := by decide +kernel
theorem dX6_worthByNumbers_26 : decode cX6_worthByNumbers 26 = .ok (.iaload, 1) := by decide +kernel
theorem dX6_worthByNumbers_27 : decode cX6_worthByNumbers 27 = .ok (.istore 5, 2) := by decide +kernel
theorem dX6_worthByNumbers_29 : decode cX6_worthByNumbers 29 = .ok (.iload 5, 2) := by decide +kernel
theorem dX6_worthByNumbers_31 : decode cX6_worthByNumbers 31 = .ok (.iconst 0, 1) := by decide +kernel
theorem dX6_worthByNumbers_32 : decode cX6_worthByNumbers 32 = .ok (.aload_n 0, 1) := by decide +kernel
theorem dX6_worthByNumbers_33 : decode cX6_worthByNumbers 33 = .ok (.getfield 56, 3) := by decide +kernel
theorem dX6_worthByNumbers_36 : decode cX6_worthByNumbers 36 = .ok (.iconst 1, 1) := by decide +kernel
theorem dX6_worthByNumbers_37 : decode cX6_worthByNumbers 37 = .ok (.isub, 1) := by decide +kernel
theorem dX6_worthByNumbers_38 : decode cX6_worthByNumbers 38 = .ok (.invokestatic 141, 3) := by decide +kernel
theorem dX6_worthByNumbers_41 : decode cX6_worthByNumbers 41 = .ok (.ifCond .eq 12, 3) := by decide +kernel
theorem dX6_worthByNumbers_44 : decode cX6_worthByNumbers 44 = .ok (.iload_n 3, 1) := by decide +kernel
theorem dX6_worthByNumbers_45 : decode cX6_worthByNumbers 45 = .ok (.iload 5, 2) := by decide +kernel
theorem dX6_worthByNumbers_47 : decode cX6_worthByNumbers 47 = .ok (.ishr, 1) := by decide +kernel
theorem dX6_worthByNumbers_48 : decode cX6_worthByNumbers 48 = .ok (.iconst 1, 1) := by decide +kernel
theorem dX6_worthByNumbers_49 : decode cX6_worthByNumbers 49 = .ok (.iand, 1) := by decide +kernel
theorem dX6_worthByNumbers_50 : decode cX6_worthByNumbers 50 = .ok (.ifCond .eq 7, 3) := by decide +kernel
theorem dX6_worthByNumbers_53 : decode cX6_worthByNumbers 53 = .ok (.ldc2_w 139, 3) := by decide +kernel
theorem dX6_worthByNumbers_56 : decode cX6_worthByNumbers 56 = .ok (.lreturn, 1) := by decide +kernel
theorem dX6_worthByNumbers_57 : decode cX6_worthByNumbers 57 = .ok (.iload_n 3, 1) := by decide +kernel
theorem dX6_worthByNumbers_58 : decode cX6_worthByNumbers 58 = .ok (.iconst 1, 1) := by decide +kernel
theorem dX6_worthByNumbers_59 : decode cX6_worthByNumbers 59 = .ok (.iload 5, 2) := by decide +kernel
theorem dX6_worthByNumbers_61 : decode cX6_worthByNumbers 61 = .ok (.ishl, 1) := by decide +kernel
theorem dX6_worthByNumbers_62 : decode cX6_worthByNumbers 62 = .ok (.ior, 1) := by decide +kernel
theorem dX6_worthByNumbers_63 : decode cX6_worthByNumbers 63 = .ok (.istore_n 3, 1) := by decide +kernel
theorem dX6_worthByNumbers_64 : decode cX6_worthByNumbers 64 = .ok (.aload_n 0, 1) := by decide +kernel
theorem dX6_worthByNumbers_65 : decode cX6_worthByNumbers 65 = .ok (.getfield 44, 3) := by decide +kernel
theorem dX6_worthByNumbers_68 : decode cX6_worthByNumbers 68 = .ok (.iload 4, 2) := by decide +kernel
theorem dX6_worthByNumbers_70 : decode cX6_worthByNumbers 70 = .ok (.iload 5, 2) := by decide +kernel
theorem dX6_worthByNumbers_72 : decode cX6_worthByNumbers 72 = .ok (.iastore, 1) := by decide +kernel
theorem dX6_worthByNumbers_73 : decode cX6_worthByNumbers 73 = .ok (.iinc 4 1, 3) := by decide +kernel
theorem dX6_worthByNumbers_76 : decode cX6_worthByNumbers 76 = .ok (.goto (-59), 3) := by decide +kernel
theorem dX6_worthByNumbers_79 : decode cX6_worthByNumbers 79 = .ok (.aload_n 0, 1) := by decide +kernel
theorem dX6_worthByNumbers_80 : decode cX6_worthByNumbers 80 = .ok (.aload_n 0, 1) := by decide +kernel
theorem dX6_worthByNumbers_81 : decode cX6_worthByNumbers 81 = .ok (.getfield 12, 3) := by decide +kernel
theorem dX6_worthByNumbers_84 : decode cX6_worthByNumbers 84 = .ok (.invokevirtual 145, 3) := by decide +kernel
theorem dX6_worthByNumbers_87 : decode cX6_worthByNumbers 87 = .ok (.invokevirtual 128, 3) := by decide +kernel
theorem dX6_worthByNumbers_90 : decode cX6_worthByNumbers 90 = .ok (.aload_n 0, 1) := by decide +kernel
theorem dX6_worthByNumbers_91 : decode cX6_worthByNumbers 91 = .ok (.iload_n 2, 1) := by decide +kernel
theorem dX6_worthByNumbers_92 : decode cX6_worthByNumbers 92 = .ok (.invokevirtual 135, 3) := by decide +kernel
theorem dX6_worthByNumbers_95 : decode cX6_worthByNumbers 95 = .ok (.lreturn, 1) := by decide +kernel
theorem dX6_walk_0 : decode cX6_walk 0 = .ok (.aload_n 0, 1) := by decide +kernel
theorem dX6_walk_1 : decode cX6_walk 1 = .ok (.getfield 35, 3) := by decide +kernel
theorem dX6_walk_4 : decode cX6_walk 4 = .ok (.iconst (-1), 1) := by decide +kernel
theorem dX6_walk_5 : decode cX6_walk 5 = .ok (.invokestatic 70, 3) := by decide +kernel
theorem dX6_walk_8 : decode cX6_walk 8 = .ok (.aload_n 0, 1) := by decide +kernel
theorem dX6_walk_9 : decode cX6_walk 9 = .ok (.getfield 38, 3) := by decide +kernel
theorem dX6_walk_12 : decode cX6_walk 12 = .ok (.iconst 0, 1) := by decide +kernel
theorem dX6_walk_13 : decode cX6_walk 13 = .ok (.invokestatic 70, 3) := by decide +kernel
theorem dX6_walk_16 : decode cX6_walk 16 = .ok (.aload_n 0, 1) := by decide +kernel
theorem dX6_walk_17 : decode cX6_walk 17 = .ok (.getfield 41, 3) := by decide +kernel
theorem dX6_walk_20 : decode cX6_walk 20 = .ok (.ldc 148, 2) := by decide +kernel
theorem dX6_walk_22 : decode cX6_walk 22 = .ok (.invokestatic 70, 3) := by decide +kernel
theorem dX6_walk_25 : decode cX6_walk 25 = .ok (.aload_n 0, 1) := by decide +kernel
theorem dX6_walk_26 : decode cX6_walk 26 = .ok (.iconst 0, 1) := by decide +kernel
theorem dX6_walk_27 : decode cX6_walk 27 = .ok (.putfield 149, 3) := by decide +kernel
theorem dX6_walk_30 : decode cX6_walk 30 = .ok (.aload_n 0, 1) := by decide +kernel
theorem dX6_walk_31 : decode cX6_walk 31 = .ok (.getfield 12, 3) := by decide +kernel
theorem dX6_walk_34 : decode cX6_walk 34 = .ok (.invokevirtual 152, 3) := by decide +kernel
theorem dX6_walk_37 : decode cX6_walk 37 = .ok (.istore_n 2, 1) := by decide +kernel
theorem dX6_walk_38 : decode cX6_walk 38 = .ok (.iconst 0, 1) := by decide +kernel
theorem dX6_walk_39 : decode cX6_walk 39 = .ok (.istore_n 3, 1) := by decide +kernel
theorem dX6_walk_40 : decode cX6_walk 40 = .ok (.iconst 0, 1) := by decide +kernel
theorem dX6_walk_41 : decode cX6_walk 41 = .ok (.istore 4, 2) := by decide +kernel
theorem dX6_walk_43 : decode cX6_walk 43 = .ok (.iload 4, 2) := by decide +kernel
theorem dX6_walk_45 : decode cX6_walk 45 = .ok (.iload_n 1, 1) := by decide +kernel
theorem dX6_walk_46 : decode cX6_walk 46 = .ok (.if_icmp .ge 122, 3) := by decide +kernel
theorem dX6_walk_49 : decode cX6_walk 49 = .ok (.iload_n 3, 1) := by decide +kernel
theorem dX6_walk_50 : decode cX6_walk 50 = .ok (.iload_n 2, 1) := by decide +kernel
theorem dX6_walk_51 : decode cX6_walk 51 = .ok (.if_icmp .ge 117, 3) := by decide +kernel
theorem dX6_walk_54 : decode cX6_walk 54 = .ok (.aload_n 0, 1) := by decide +kernel
theorem dX6_walk_55 : decode cX6_walk 55 = .ok (.getfield 44, 3) := by decide +kernel
theorem dX6_walk_58 : decode cX6_walk 58 = .ok (.iload 4, 2) := by decide +kernel
theorem dX6_walk_60 : decode cX6_walk 60 = .ok (.iaload, 1) := by decide +kernel
theorem dX6_walk_61 : decode cX6_walk 61 = .ok (.istore 5, 2) := by decide +kernel
theorem dX6_walk_63 : decode cX6_walk 63 = .ok (.aload_n 0, 1) := by decide +kernel
theorem dX6_walk_64 : decode cX6_walk 64 = .ok (.getfield 35, 3) := by decide +kernel
theorem dX6_walk_67 : decode cX6_walk 67 = .ok (.iload 5, 2) := by decide +kernel
theorem dX6_walk_69 : decode cX6_walk 69 = .ok (.iload_n 3, 1) := by decide +kernel
theorem dX6_walk_70 : decode cX6_walk 70 = .ok (.iastore, 1) := by decide +kernel
theorem dX6_walk_71 : decode cX6_walk 71 = .ok (.aload_n 0, 1) := by decide +kernel
theorem dX6_walk_72 : decode cX6_walk 72 = .ok (.iload 5, 2) := by decide +kernel
theorem dX6_walk_74 : decode cX6_walk 74 = .ok (.iload_n 3, 1) := by decide +kernel
theorem dX6_walk_75 : decode cX6_walk 75 = .ok (.invokevirtual 155, 3) := by decide +kernel
theorem dX6_walk_78 : decode cX6_walk 78 = .ok (.istore 6, 2) := by decide +kernel
theorem dX6_walk_80 : decode cX6_walk 80 = .ok (.iload_n 3, 1) := by decide +kernel
theorem dX6_walk_81 : decode cX6_walk 81 = .ok (.aload_n 0, 1) := by decide +kernel
theorem dX6_walk_82 : decode cX6_walk 82 = .ok (.getfield 53, 3) := by decide +kernel
theorem dX6_walk_85 : decode cX6_walk 85 = .ok (.iload 6, 2) := by decide +kernel
theorem dX6_walk_87 : decode cX6_walk 87 = .ok (.iaload, 1) := by decide +kernel
theorem dX6_walk_88 : decode cX6_walk 88 = .ok (.iadd, 1) := by decide +kernel
theorem dX6_walk_89 : decode cX6_walk 89 = .ok (.istore 7, 2) := by decide +kernel
theorem dX6_walk_91 : decode cX6_walk 91 = .ok (.iload 7, 2) := by decide +kernel
theorem dX6_walk_93 : decode cX6_walk 93 = .ok (.iload_n 2, 1) := by decide +kernel
theorem dX6_walk_94 : decode cX6_walk 94 = .ok (.if_icmp .gt 65, 3) := by decide +kernel
theorem dX6_walk_97 : decode cX6_walk 97 = .ok (.aload_n 0, 1) := by decide +kernel
theorem dX6_walk_98 : decode cX6_walk 98 = .ok (.getfield 38, 3) := by decide +kernel
theorem dX6_walk_101 : decode cX6_walk 101 = .ok (.iload 5, 2) := by decide +kernel
theorem dX6_walk_103 : decode cX6_walk 103 = .ok (.aload_n 0, 1) := by decide +kernel
theorem dX6_walk_104 : decode cX6_walk 104 = .ok (.getfield 50, 3) := by decide +kernel
theorem dX6_walk_107 : decode cX6_walk 107 = .ok (.iload 6, 2) := by decide +kernel
theorem dX6_walk_109 : decode cX6_walk 109 = .ok (.iaload, 1) := by decide +kernel
theorem dX6_walk_110 : decode cX6_walk 110 = .ok (.iastore, 1) := by decide +kernel
theorem dX6_walk_111 : decode cX6_walk 111 = .ok (.aload_n 0, 1) := by decide +kernel
theorem dX6_walk_112 : decode cX6_walk 112 = .ok (.getfield 41, 3) := by decide +kernel
theorem dX6_walk_115 : decode cX6_walk 115 = .ok (.aload_n 0, 1) := by decide +kernel
theorem dX6_walk_116 : decode cX6_walk 116 = .ok (.getfield 29, 3) := by decide +kernel
theorem dX6_walk_119 : decode cX6_walk 119 = .ok (.iload 5, 2) := by decide +kernel
theorem dX6_walk_121 : decode cX6_walk 121 = .ok (.iaload, 1) := by decide +kernel
theorem dX6_walk_122 : decode cX6_walk 122 = .ok (.aload_n 0, 1) := by decide +kernel
theorem dX6_walk_123 : decode cX6_walk 123 = .ok (.getfield 41, 3) := by decide +kernel
theorem dX6_walk_126 : decode cX6_walk 126 = .ok (.aload_n 0, 1) := by decide +kernel
theorem dX6_walk_127 : decode cX6_walk 127 = .ok (.getfield 29, 3) := by decide +kernel
theorem dX6_walk_130 : decode cX6_walk 130 = .ok (.iload 5, 2) := by decide +kernel
theorem dX6_walk_132 : decode cX6_walk 132 = .ok (.iaload, 1) := by decide +kernel
theorem dX6_walk_133 : decode cX6_walk 133 = .ok (.iaload, 1) := by decide +kernel
theorem dX6_walk_134 : decode cX6_walk 134 = .ok (.bipush 100, 2) := by decide +kernel
theorem dX6_walk_136 : decode cX6_walk 136 = .ok (.aload_n 0, 1) := by decide +kernel
theorem dX6_walk_137 : decode cX6_walk 137 = .ok (.getfield 38, 3) := by decide +kernel
theorem dX6_walk_140 : decode cX6_walk 140 = .ok (.iload 5, 2) := by decide +kernel
