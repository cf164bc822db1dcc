theorem dX5_findLongest_60 : decode cX5_findLongest 60 = .ok (.aload_n 0, 1) := by decide +kernel
theorem dX5_findLongest_61 : decode cX5_findLongest 61 = .ok (.invokevirtual 210, 3) := by decide +kernel
theorem dX5_findLongest_64 : decode cX5_findLongest 64 = .ok (.putfield 228, 3) := by decide +kernel
theorem dX5_findLongest_67 : decode cX5_findLongest 67 = .ok (.iconst 0, 1) := by decide +kernel
theorem dX5_findLongest_68 : decode cX5_findLongest 68 = .ok (.istore_n 1, 1) := by decide +kernel
theorem dX5_findLongest_69 : decode cX5_findLongest 69 = .ok (.iload_n 1, 1) := by decide +kernel
theorem dX5_findLongest_70 : decode cX5_findLongest 70 = .ok (.aload_n 0, 1) := by decide +kernel
theorem dX5_findLongest_71 : decode cX5_findLongest 71 = .ok (.getfield 46, 3) := by decide +kernel
theorem dX5_findLongest_74 : decode cX5_findLongest 74 = .ok (.if_icmp .ge 21, 3) := by decide +kernel
theorem dX5_findLongest_77 : decode cX5_findLongest 77 = .ok (.aload_n 0, 1) := by decide +kernel
theorem dX5_findLongest_78 : decode cX5_findLongest 78 = .ok (.getfield 71, 3) := by decide +kernel
theorem dX5_findLongest_81 : decode cX5_findLongest 81 = .ok (.iload_n 1, 1) := by decide +kernel
theorem dX5_findLongest_82 : decode cX5_findLongest 82 = .ok (.aload_n 0, 1) := by decide +kernel
theorem dX5_findLongest_83 : decode cX5_findLongest 83 = .ok (.getfield 19, 3) := by decide +kernel
theorem dX5_findLongest_86 : decode cX5_findLongest 86 = .ok (.iload_n 1, 1) := by decide +kernel
theorem dX5_findLongest_87 : decode cX5_findLongest 87 = .ok (.iaload, 1) := by decide +kernel
theorem dX5_findLongest_88 : decode cX5_findLongest 88 = .ok (.iastore, 1) := by decide +kernel
theorem dX5_findLongest_89 : decode cX5_findLongest 89 = .ok (.iinc 1 1, 3) := by decide +kernel
theorem dX5_findLongest_92 : decode cX5_findLongest 92 = .ok (.goto (-23), 3) := by decide +kernel
theorem dX5_findLongest_95 : decode cX5_findLongest 95 = .ok (.goto (-64), 3) := by decide +kernel
theorem dX5_findLongest_98 : decode cX5_findLongest 98 = .ok (.aload_n 0, 1) := by decide +kernel
theorem dX5_findLongest_99 : decode cX5_findLongest 99 = .ok (.invokevirtual 225, 3) := by decide +kernel
theorem dX5_findLongest_102 : decode cX5_findLongest 102 = .ok (.return_, 1) := by decide +kernel
theorem dX5_longest_0 : decode cX5_longest 0 = .ok (.iload_n 1, 1) := by decide +kernel
theorem dX5_longest_1 : decode cX5_longest 1 = .ok (.iconst (-1), 1) := by decide +kernel
theorem dX5_longest_2 : decode cX5_longest 2 = .ok (.if_icmp .eq 17, 3) := by decide +kernel
theorem dX5_longest_5 : decode cX5_longest 5 = .ok (.aload_n 0, 1) := by decide +kernel
theorem dX5_longest_6 : decode cX5_longest 6 = .ok (.iload_n 1, 1) := by decide +kernel
theorem dX5_longest_7 : decode cX5_longest 7 = .ok (.invokevirtual 123, 3) := by decide +kernel
theorem dX5_longest_10 : decode cX5_longest 10 = .ok (.ifCond .ne 9, 3) := by decide +kernel
theorem dX5_longest_13 : decode cX5_longest 13 = .ok (.aload_n 0, 1) := by decide +kernel
theorem dX5_longest_14 : decode cX5_longest 14 = .ok (.iconst (-1), 1) := by decide +kernel
theorem dX5_longest_15 : decode cX5_longest 15 = .ok (.invokevirtual 92, 3) := by decide +kernel
theorem dX5_longest_18 : decode cX5_longest 18 = .ok (.ireturn, 1) := by decide +kernel
theorem dX5_longest_19 : decode cX5_longest 19 = .ok (.aload_n 0, 1) := by decide +kernel
theorem dX5_longest_20 : decode cX5_longest 20 = .ok (.invokevirtual 231, 3) := by decide +kernel
theorem dX5_longest_23 : decode cX5_longest 23 = .ok (.iload_n 1, 1) := by decide +kernel
theorem dX5_longest_24 : decode cX5_longest 24 = .ok (.iconst (-1), 1) := by decide +kernel
theorem dX5_longest_25 : decode cX5_longest 25 = .ok (.if_icmp .ne 10, 3) := by decide +kernel
theorem dX5_longest_28 : decode cX5_longest 28 = .ok (.aload_n 0, 1) := by decide +kernel
theorem dX5_longest_29 : decode cX5_longest 29 = .ok (.getfield 228, 3) := by decide +kernel
theorem dX5_longest_32 : decode cX5_longest 32 = .ok (.goto 9, 3) := by decide +kernel
theorem dX5_longest_35 : decode cX5_longest 35 = .ok (.aload_n 0, 1) := by decide +kernel
theorem dX5_longest_36 : decode cX5_longest 36 = .ok (.getfield 71, 3) := by decide +kernel
theorem dX5_longest_39 : decode cX5_longest 39 = .ok (.iload_n 1, 1) := by decide +kernel
theorem dX5_longest_40 : decode cX5_longest 40 = .ok (.iaload, 1) := by decide +kernel
theorem dX5_longest_41 : decode cX5_longest 41 = .ok (.ireturn, 1) := by decide +kernel
theorem dX5_grudgesIn_0 : decode cX5_grudgesIn 0 = .ok (.iconst 0, 1) := by decide +kernel
theorem dX5_grudgesIn_1 : decode cX5_grudgesIn 1 = .ok (.istore_n 1, 1) := by decide +kernel
theorem dX5_grudgesIn_2 : decode cX5_grudgesIn 2 = .ok (.iconst 0, 1) := by decide +kernel
theorem dX5_grudgesIn_3 : decode cX5_grudgesIn 3 = .ok (.istore_n 2, 1) := by decide +kernel
theorem dX5_grudgesIn_4 : decode cX5_grudgesIn 4 = .ok (.iload_n 2, 1) := by decide +kernel
theorem dX5_grudgesIn_5 : decode cX5_grudgesIn 5 = .ok (.aload_n 0, 1) := by decide +kernel
theorem dX5_grudgesIn_6 : decode cX5_grudgesIn 6 = .ok (.getfield 46, 3) := by decide +kernel
theorem dX5_grudgesIn_9 : decode cX5_grudgesIn 9 = .ok (.if_icmp .ge 67, 3) := by decide +kernel
theorem dX5_grudgesIn_12 : decode cX5_grudgesIn 12 = .ok (.aload_n 0, 1) := by decide +kernel
theorem dX5_grudgesIn_13 : decode cX5_grudgesIn 13 = .ok (.getfield 19, 3) := by decide +kernel
theorem dX5_grudgesIn_16 : decode cX5_grudgesIn 16 = .ok (.iload_n 2, 1) := by decide +kernel
theorem dX5_grudgesIn_17 : decode cX5_grudgesIn 17 = .ok (.iaload, 1) := by decide +kernel
theorem dX5_grudgesIn_18 : decode cX5_grudgesIn 18 = .ok (.istore_n 3, 1) := by decide +kernel
theorem dX5_grudgesIn_19 : decode cX5_grudgesIn 19 = .ok (.aload_n 0, 1) := by decide +kernel
theorem dX5_grudgesIn_20 : decode cX5_grudgesIn 20 = .ok (.iload_n 2, 1) := by decide +kernel
theorem dX5_grudgesIn_21 : decode cX5_grudgesIn 21 = .ok (.iload_n 3, 1) := by decide +kernel
theorem dX5_grudgesIn_22 : decode cX5_grudgesIn 22 = .ok (.iconst 0, 1) := by decide +kernel
theorem dX5_grudgesIn_23 : decode cX5_grudgesIn 23 = .ok (.invokevirtual 189, 3) := by decide +kernel
theorem dX5_grudgesIn_26 : decode cX5_grudgesIn 26 = .ok (.ifCond .eq 12, 3) := by decide +kernel
theorem dX5_grudgesIn_29 : decode cX5_grudgesIn 29 = .ok (.aload_n 0, 1) := by decide +kernel
theorem dX5_grudgesIn_30 : decode cX5_grudgesIn 30 = .ok (.iload_n 2, 1) := by decide +kernel
theorem dX5_grudgesIn_31 : decode cX5_grudgesIn 31 = .ok (.iload_n 3, 1) := by decide +kernel
theorem dX5_grudgesIn_32 : decode cX5_grudgesIn 32 = .ok (.invokevirtual 192, 3) := by decide +kernel
theorem dX5_grudgesIn_35 : decode cX5_grudgesIn 35 = .ok (.ifCond .ne 6, 3) := by decide +kernel
theorem dX5_grudgesIn_38 : decode cX5_grudgesIn 38 = .ok (.bipush (-9), 2) := by decide +kernel
theorem dX5_grudgesIn_40 : decode cX5_grudgesIn 40 = .ok (.ireturn, 1) := by decide +kernel
theorem dX5_grudgesIn_41 : decode cX5_grudgesIn 41 = .ok (.iload_n 1, 1) := by decide +kernel
theorem dX5_grudgesIn_42 : decode cX5_grudgesIn 42 = .ok (.iload_n 2, 1) := by decide +kernel
theorem dX5_grudgesIn_43 : decode cX5_grudgesIn 43 = .ok (.ifCond .le 24, 3) := by decide +kernel
theorem dX5_grudgesIn_46 : decode cX5_grudgesIn 46 = .ok (.aload_n 0, 1) := by decide +kernel
theorem dX5_grudgesIn_47 : decode cX5_grudgesIn 47 = .ok (.getfield 40, 3) := by decide +kernel
theorem dX5_grudgesIn_50 : decode cX5_grudgesIn 50 = .ok (.bipush 7, 2) := by decide +kernel
theorem dX5_grudgesIn_52 : decode cX5_grudgesIn 52 = .ok (.iload_n 3, 1) := by decide +kernel
theorem dX5_grudgesIn_53 : decode cX5_grudgesIn 53 = .ok (.imul, 1) := by decide +kernel
theorem dX5_grudgesIn_54 : decode cX5_grudgesIn 54 = .ok (.aload_n 0, 1) := by decide +kernel
theorem dX5_grudgesIn_55 : decode cX5_grudgesIn 55 = .ok (.getfield 19, 3) := by decide +kernel
theorem dX5_grudgesIn_58 : decode cX5_grudgesIn 58 = .ok (.iload_n 2, 1) := by decide +kernel
theorem dX5_grudgesIn_59 : decode cX5_grudgesIn 59 = .ok (.iconst 1, 1) := by decide +kernel
theorem dX5_grudgesIn_60 : decode cX5_grudgesIn 60 = .ok (.isub, 1) := by decide +kernel
theorem dX5_grudgesIn_61 : decode cX5_grudgesIn 61 = .ok (.iaload, 1) := by decide +kernel
theorem dX5_grudgesIn_62 : decode cX5_grudgesIn 62 = .ok (.iadd, 1) := by decide +kernel
theorem dX5_grudgesIn_63 : decode cX5_grudgesIn 63 = .ok (.iaload, 1) := by decide +kernel
theorem dX5_grudgesIn_64 : decode cX5_grudgesIn 64 = .ok (.goto 4, 3) := by decide +kernel
theorem dX5_grudgesIn_67 : decode cX5_grudgesIn 67 = .ok (.iconst 0, 1) := by decide +kernel
theorem dX5_grudgesIn_68 : decode cX5_grudgesIn 68 = .ok (.iadd, 1) := by decide +kernel
theorem dX5_grudgesIn_69 : decode cX5_grudgesIn 69 = .ok (.istore_n 1, 1) := by decide +kernel
theorem dX5_grudgesIn_70 : decode cX5_grudgesIn 70 = .ok (.iinc 2 1, 3) := by decide +kernel
theorem dX5_grudgesIn_73 : decode cX5_grudgesIn 73 = .ok (.goto (-69), 3) := by decide +kernel
theorem dX5_grudgesIn_76 : decode cX5_grudgesIn 76 = .ok (.iload_n 1, 1) := by decide +kernel
theorem dX5_grudgesIn_77 : decode cX5_grudgesIn 77 = .ok (.ireturn, 1) := by decide +kernel
theorem dX5_makeUp_0 : decode cX5_makeUp 0 = .ok (.aload_n 0, 1) := by decide +kernel
theorem dX5_makeUp_1 : decode cX5_makeUp 1 = .ok (.invokevirtual 219, 3) := by decide +kernel
theorem dX5_makeUp_4 : decode cX5_makeUp 4 = .ok (.bipush (-9), 2) := by decide +kernel
theorem dX5_makeUp_6 : decode cX5_makeUp 6 = .ok (.istore_n 1, 1) := by decide +kernel
theorem dX5_makeUp_7 : decode cX5_makeUp 7 = .ok (.aload_n 0, 1) := by decide +kernel
theorem dX5_makeUp_8 : decode cX5_makeUp 8 = .ok (.invokevirtual 222, 3) := by decide +kernel
theorem dX5_makeUp_11 : decode cX5_makeUp 11 = .ok (.ifCond .eq 26, 3) := by decide +kernel
theorem dX5_makeUp_14 : decode cX5_makeUp 14 = .ok (.aload_n 0, 1) := by decide +kernel
theorem dX5_makeUp_15 : decode cX5_makeUp 15 = .ok (.invokevirtual 234, 3) := by decide +kernel
theorem dX5_makeUp_18 : decode cX5_makeUp 18 = .ok (.istore_n 2, 1) := by decide +kernel
theorem dX5_makeUp_19 : decode cX5_makeUp 19 = .ok (.iload_n 2, 1) := by decide +kernel
theorem dX5_makeUp_20 : decode cX5_makeUp 20 = .ok (.ifCond .lt 14, 3) := by decide +kernel
theorem dX5_makeUp_23 : decode cX5_makeUp 23 = .ok (.iload_n 1, 1) := by decide +kernel
theorem dX5_makeUp_24 : decode cX5_makeUp 24 = .ok (.ifCond .lt 8, 3) := by decide +kernel
theorem dX5_makeUp_27 : decode cX5_makeUp 27 = .ok (.iload_n 2, 1) := by decide +kernel
theorem dX5_makeUp_28 : decode cX5_makeUp 28 = .ok (.iload_n 1, 1) := by decide +kernel
theorem dX5_makeUp_29 : decode cX5_makeUp 29 = .ok (.if_icmp .ge 5, 3) := by decide +kernel
theorem dX5_makeUp_32 : decode cX5_makeUp 32 = .ok (.iload_n 2, 1) := by decide +kernel
theorem dX5_makeUp_33 : decode cX5_makeUp 33 = .ok (.istore_n 1, 1) := by decide +kernel
theorem dX5_makeUp_34 : decode cX5_makeUp 34 = .ok (.goto (-27), 3) := by decide +kernel
theorem dX5_makeUp_37 : decode cX5_makeUp 37 = .ok (.aload_n 0, 1) := by decide +kernel
theorem dX5_makeUp_38 : decode cX5_makeUp 38 = .ok (.invokevirtual 225, 3) := by decide +kernel
theorem dX5_makeUp_41 : decode cX5_makeUp 41 = .ok (.iload_n 1, 1) := by decide +kernel
theorem dX5_makeUp_42 : decode cX5_makeUp 42 = .ok (.ireturn, 1) := by decide +kernel
theorem dX5_longestOrNothing_0 : decode cX5_longestOrNothing 0 = .ok (.aload_n 0, 1) := by decide +kernel
theorem dX5_longestOrNothing_1 : decode cX5_longestOrNothing 1 = .ok (.invokevirtual 231, 3) := by decide +kernel
theorem dX5_longestOrNothing_4 : decode cX5_longestOrNothing 4 = .ok (.aload_n 0, 1) := by decide +kernel
theorem dX5_longestOrNothing_5 : decode cX5_longestOrNothing 5 = .ok (.getfield 228, 3) := by decide +kernel
theorem dX5_longestOrNothing_8 : decode cX5_longestOrNothing 8 = .ok (.ifCond .ge 7, 3) := by decide +kernel
theorem dX5_longestOrNothing_11 : decode cX5_longestOrNothing 11 = .ok (.iconst 0, 1) := by decide +kernel
theorem dX5_longestOrNothing_12 : decode cX5_longestOrNothing 12 = .ok (.goto 7, 3) := by decide +kernel
theorem dX5_longestOrNothing_15 : decode cX5_longestOrNothing 15 = .ok (.aload_n 0, 1) := by decide +kernel
theorem dX5_longestOrNothing_16 : decode cX5_longestOrNothing 16 = .ok (.getfield 228, 3) := by decide +kernel
theorem dX5_longestOrNothing_19 : decode cX5_longestOrNothing 19 = .ok (.ireturn, 1) := by decide +kernel
theorem dX5_worth_0 : decode cX5_worth 0 = .ok (.aload_n 0, 1) := by decide +kernel
theorem dX5_worth_1 : decode cX5_worth 1 = .ok (.iload_n 1, 1) := by decide +kernel
theorem dX5_worth_2 : decode cX5_worth 2 = .ok (.iload_n 2, 1) := by decide +kernel
theorem dX5_worth_3 : decode cX5_worth 3 = .ok (.invokevirtual 129, 3) := by decide +kernel
theorem dX5_worth_6 : decode cX5_worth 6 = .ok (.ifCond .ne 9, 3) := by decide +kernel
theorem dX5_worth_9 : decode cX5_worth 9 = .ok (.aload_n 0, 1) := by decide +kernel
theorem dX5_worth_10 : decode cX5_worth 10 = .ok (.iconst (-1), 1) := by decide +kernel
theorem dX5_worth_11 : decode cX5_worth 11 = .ok (.invokevirtual 92, 3) := by decide +kernel
theorem dX5_worth_14 : decode cX5_worth 14 = .ok (.ireturn, 1) := by decide +kernel
theorem dX5_worth_15 : decode cX5_worth 15 = .ok (.aload_n 0, 1) := by decide +kernel
theorem dX5_worth_16 : decode cX5_worth 16 = .ok (.getfield 40, 3) := by decide +kernel
theorem dX5_worth_19 : decode cX5_worth 19 = .ok (.bipush 7, 2) := by decide +kernel
theorem dX5_worth_21 : decode cX5_worth 21 = .ok (.iload_n 1, 1) := by decide +kernel
theorem dX5_worth_22 : decode cX5_worth 22 = .ok (.imul, 1) := by decide +kernel
theorem dX5_worth_23 : decode cX5_worth 23 = .ok (.iload_n 2, 1) := by decide +kernel
theorem dX5_worth_24 : decode cX5_worth 24 = .ok (.iadd, 1) := by decide +kernel
theorem dX5_worth_25 : decode cX5_worth 25 = .ok (.iaload, 1) := by decide +kernel
theorem dX5_worth_26 : decode cX5_worth 26 = .ok (.ifCond .ne 10, 3) := by decide +kernel
theorem dX5_worth_29 : decode cX5_worth 29 = .ok (.aload_n 0, 1) := by decide +kernel
theorem dX5_worth_30 : decode cX5_worth 30 = .ok (.bipush (-3), 2) := by decide +kernel
theorem dX5_worth_32 : decode cX5_worth 32 = .ok (.invokevirtual 92, 3) := by decide +kernel
theorem dX5_worth_35 : decode cX5_worth 35 = .ok (.ireturn, 1) := by decide +kernel
theorem dX5_worth_36 : decode cX5_worth 36 = .ok (.aload_n 0, 1) := by decide +kernel
theorem dX5_worth_37 : decode cX5_worth 37 = .ok (.invokevirtual 237, 3) := by decide +kernel
theorem dX5_worth_40 : decode cX5_worth 40 = .ok (.istore_n 3, 1) := by decide +kernel
theorem dX5_worth_41 : decode cX5_worth 41 = .ok (.aload_n 0, 1) := by decide +kernel
theorem dX5_worth_42 : decode cX5_worth 42 = .ok (.getfield 40, 3) := by decide +kernel
theorem dX5_worth_45 : decode cX5_worth 45 = .ok (.bipush 7, 2) := by decide +kernel
theorem dX5_worth_47 : decode cX5_worth 47 = .ok (.iload_n 1, 1) := by decide +kernel
theorem dX5_worth_48 : decode cX5_worth 48 = .ok (.imul, 1) := by decide +kernel
theorem dX5_worth_49 : decode cX5_worth 49 = .ok (.iload_n 2, 1) := by decide +kernel
theorem dX5_worth_50 : decode cX5_worth 50 = .ok (.iadd, 1) := by decide +kernel
theorem dX5_worth_51 : decode cX5_worth 51 = .ok (.iconst 0, 1) := by decide +kernel
theorem dX5_worth_52 : decode cX5_worth 52 = .ok (.iastore, 1) := by decide +kernel
theorem dX5_worth_53 : decode cX5_worth 53 = .ok (.aload_n 0, 1) := by decide +kernel
theorem dX5_worth_54 : decode cX5_worth 54 = .ok (.getfield 40, 3) := by decide +kernel
theorem dX5_worth_57 : decode cX5_worth 57 = .ok (.bipush 7, 2) := by decide +kernel
theorem dX5_worth_59 : decode cX5_worth 59 = .ok (.iload_n 2, 1) := by decide +kernel
theorem dX5_worth_60 : decode cX5_worth 60 = .ok (.imul, 1) := by decide +kernel
theorem dX5_worth_61 : decode cX5_worth 61 = .ok (.iload_n 1, 1) := by decide +kernel
theorem dX5_worth_62 : decode cX5_worth 62 = .ok (.iadd, 1) := by decide +kernel
theorem dX5_worth_63 : decode cX5_worth 63 = .ok (.iconst 0, 1) := by decide +kernel
theorem dX5_worth_64 : decode cX5_worth 64 = .ok (.iastore, 1) := by decide +kernel
theorem dX5_worth_65 : decode cX5_worth 65 = .ok (.aload_n 0, 1) := by decide +kernel
theorem dX5_worth_66 : decode cX5_worth 66 = .ok (.invokevirtual 237, 3) := by decide +kernel
theorem dX5_worth_69 : decode cX5_worth 69 = .ok (.istore 4, 2) := by decide +kernel
theorem dX5_worth_71 : decode cX5_worth 71 = .ok (.aload_n 0, 1) := by decide +kernel
theorem dX5_worth_72 : decode cX5_worth 72 = .ok (.getfield 40, 3) := by decide +kernel
theorem dX5_worth_75 : decode cX5_worth 75 = .ok (.bipush 7, 2) := by decide +kernel
theorem dX5_worth_77 : decode cX5_worth 77 = .ok (.iload_n 1, 1) := by decide +kernel
theorem dX5_worth_78 : decode cX5_worth 78 = .ok (.imul, 1) := by decide +kernel
theorem dX5_worth_79 : decode cX5_worth 79 = .ok (.iload_n 2, 1) := by decide +kernel
theorem dX5_worth_80 : decode cX5_worth 80 = .ok (.iadd, 1) := by decide +kernel
theorem dX5_worth_81 : decode cX5_worth 81 = .ok (.iconst 1, 1) := by decide +kernel
theorem dX5_worth_82 : decode cX5_worth 82 = .ok (.iastore, 1) := by decide +kernel
theorem dX5_worth_83 : decode cX5_worth 83 = .ok (.aload_n 0, 1) := by decide +kernel
theorem dX5_worth_84 : decode cX5_worth 84 = .ok (.getfield 40, 3) := by decide +kernel
theorem dX5_worth_87 : decode cX5_worth 87 = .ok (.bipush 7, 2) := by decide +kernel
theorem dX5_worth_89 : decode cX5_worth 89 = .ok (.iload_n 2, 1) := by decide +kernel
theorem dX5_worth_90 : decode cX5_worth 90 = .ok (.imul, 1) := by decide +kernel
theorem dX5_worth_91 : decode cX5_worth 91 = .ok (.iload_n 1, 1) := by decide +kernel
theorem dX5_worth_92 : decode cX5_worth 92 = .ok (.iadd, 1) := by decide +kernel
theorem dX5_worth_93 : decode cX5_worth 93 = .ok (.iconst 1, 1) := by decide +kernel
theorem dX5_worth_94 : decode cX5_worth 94 = .ok (.iastore, 1) := by decide +kernel
theorem dX5_worth_95 : decode cX5_worth 95 = .ok (.iload 4, 2) := by decide +kernel
theorem dX5_worth_97 : decode cX5_worth 97 = .ok (.iload_n 3, 1) := by decide +kernel
theorem dX5_worth_98 : decode cX5_worth 98 = .ok (.isub, 1) := by decide +kernel
theorem dX5_worth_99 : decode cX5_worth 99 = .ok (.ireturn, 1) := by decide +kernel
theorem dX5_change_0 : decode cX5_change 0 = .ok (.aload_n 0, 1) := by decide +kernel
theorem dX5_change_1 : decode cX5_change 1 = .ok (.invokevirtual 207, 3) := by decide +kernel
theorem dX5_change_4 : decode cX5_change 4 = .ok (.ifCond .eq 10, 3) := by decide +kernel
theorem dX5_change_7 : decode cX5_change 7 = .ok (.aload_n 0, 1) := by decide +kernel
theorem dX5_change_8 : decode cX5_change 8 = .ok (.invokevirtual 210, 3) := by decide +kernel
theorem dX5_change_11 : decode cX5_change 11 = .ok (.goto 4, 3) := by decide +kernel
theorem dX5_change_14 : decode cX5_change 14 = .ok (.iconst 0, 1) := by decide +kernel
theorem dX5_change_15 : decode cX5_change 15 = .ok (.istore_n 1, 1) := by decide +kernel
theorem dX5_change_16 : decode cX5_change 16 = .ok (.bipush (-9), 2) := by decide +kernel
theorem dX5_change_18 : decode cX5_change 18 = .ok (.istore_n 2, 1) := by decide +kernel
theorem dX5_change_19 : decode cX5_change 19 = .ok (.iconst 0, 1) := by decide +kernel
theorem dX5_change_20 : decode cX5_change 20 = .ok (.istore_n 3, 1) := by decide +kernel
theorem dX5_change_21 : decode cX5_change 21 = .ok (.iload_n 3, 1) := by decide +kernel
theorem dX5_change_22 : decode cX5_change 22 = .ok (.aload_n 0, 1) := by decide +kernel
theorem dX5_change_23 : decode cX5_change 23 = .ok (.getfield 46, 3) := by decide +kernel
theorem dX5_change_26 : decode cX5_change 26 = .ok (.if_icmp .ge 109, 3) := by decide +kernel
theorem dX5_change_29 : decode cX5_change 29 = .ok (.aload_n 0, 1) := by decide +kernel
theorem dX5_change_30 : decode cX5_change 30 = .ok (.getfield 19, 3) := by decide +kernel
theorem dX5_change_33 : decode cX5_change 33 = .ok (.iload_n 3, 1) := by decide +kernel
theorem dX5_change_34 : decode cX5_change 34 = .ok (.iaload, 1) := by decide +kernel
theorem dX5_change_35 : decode cX5_change 35 = .ok (.istore 4, 2) := by decide +kernel
theorem dX5_change_37 : decode cX5_change 37 = .ok (.iconst 0, 1) := by decide +kernel
theorem dX5_change_38 : decode cX5_change 38 = .ok (.istore 5, 2) := by decide +kernel
theorem dX5_change_40 : decode cX5_change 40 = .ok (.iload 5, 2) := by decide +kernel
theorem dX5_change_42 : decode cX5_change 42 = .ok (.aload_n 0, 1) := by decide +kernel
theorem dX5_change_43 : decode cX5_change 43 = .ok (.getfield 78, 3) := by decide +kernel
theorem dX5_change_46 : decode cX5_change 46 = .ok (.if_icmp .ge 75, 3) := by decide +kernel
theorem dX5_change_49 : decode cX5_change 49 = .ok (.iload 4, 2) := by decide +kernel
theorem dX5_change_51 : decode cX5_change 51 = .ok (.ifCond .lt 70, 3) := by decide +kernel
theorem dX5_change_54 : decode cX5_change 54 = .ok (.aload_n 0, 1) := by decide +kernel
theorem dX5_change_55 : decode cX5_change 55 = .ok (.getfield 19, 3) := by decide +kernel
theorem dX5_change_58 : decode cX5_change 58 = .ok (.iload_n 3, 1) := by decide +kernel
theorem dX5_change_59 : decode cX5_change 59 = .ok (.iload 4, 2) := by decide +kernel
theorem dX5_change_61 : decode cX5_change 61 = .ok (.iastore, 1) := by decide +kernel
theorem dX5_change_62 : decode cX5_change 62 = .ok (.aload_n 0, 1) := by decide +kernel
theorem dX5_change_63 : decode cX5_change 63 = .ok (.iload 5, 2) := by decide +kernel
theorem dX5_change_65 : decode cX5_change 65 = .ok (.invokevirtual 117, 3) := by decide +kernel
theorem dX5_change_68 : decode cX5_change 68 = .ok (.bipush (-9), 2) := by decide +kernel
theorem dX5_change_70 : decode cX5_change 70 = .ok (.if_icmp .eq 6, 3) := by decide +kernel
theorem dX5_change_73 : decode cX5_change 73 = .ok (.goto 42, 3) := by decide +kernel
theorem dX5_change_76 : decode cX5_change 76 = .ok (.aload_n 0, 1) := by decide +kernel
theorem dX5_change_77 : decode cX5_change 77 = .ok (.getfield 19, 3) := by decide +kernel
theorem dX5_change_80 : decode cX5_change 80 = .ok (.iload_n 3, 1) := by decide +kernel
theorem dX5_change_81 : decode cX5_change 81 = .ok (.iload 5, 2) := by decide +kernel
theorem dX5_change_83 : decode cX5_change 83 = .ok (.iastore, 1) := by decide +kernel
theorem dX5_change_84 : decode cX5_change 84 = .ok (.aload_n 0, 1) := by decide +kernel
theorem dX5_change_85 : decode cX5_change 85 = .ok (.invokevirtual 207, 3) := by decide +kernel
theorem dX5_change_88 : decode cX5_change 88 = .ok (.ifCond .eq 27, 3) := by decide +kernel
theorem dX5_change_91 : decode cX5_change 91 = .ok (.aload_n 0, 1) := by decide +kernel
theorem dX5_change_92 : decode cX5_change 92 = .ok (.invokevirtual 210, 3) := by decide +kernel
theorem dX5_change_95 : decode cX5_change 95 = .ok (.iload_n 1, 1) := by decide +kernel
theorem dX5_change_96 : decode cX5_change 96 = .ok (.if_icmp .gt 6, 3) := by decide +kernel
theorem dX5_change_99 : decode cX5_change 99 = .ok (.goto 16, 3) := by decide +kernel
theorem dX5_change_102 : decode cX5_change 102 = .ok (.aload_n 0, 1) := by decide +kernel
theorem dX5_change_103 : decode cX5_change 103 = .ok (.invokevirtual 210, 3) := by decide +kernel
theorem dX5_change_106 : decode cX5_change 106 = .ok (.istore_n 1, 1) := by decide +kernel
theorem dX5_change_107 : decode cX5_change 107 = .ok (.bipush 10, 2) := by decide +kernel
theorem dX5_change_109 : decode cX5_change 109 = .ok (.iload_n 3, 1) := by decide +kernel
theorem dX5_change_110 : decode cX5_change 110 = .ok (.imul, 1) := by decide +kernel
theorem dX5_change_111 : decode cX5_change 111 = .ok (.iload 5, 2) := by decide +kernel
theorem dX5_change_113 : decode cX5_change 113 = .ok (.iadd, 1) := by decide +kernel
theorem dX5_change_114 : decode cX5_change 114 = .ok (.istore_n 2, 1) := by decide +kernel
theorem dX5_change_115 : decode cX5_change 115 = .ok (.iinc 5 1, 3) := by decide +kernel
theorem dX5_change_118 : decode cX5_change 118 = .ok (.goto (-78), 3) := by decide +kernel
theorem dX5_change_121 : decode cX5_change 121 = .ok (.aload_n 0, 1) := by decide +kernel
theorem dX5_change_122 : decode cX5_change 122 = .ok (.getfield 19, 3) := by decide +kernel
theorem dX5_change_125 : decode cX5_change 125 = .ok (.iload_n 3, 1) := by decide +kernel
theorem dX5_change_126 : decode cX5_change 126 = .ok (.iload 4, 2) := by decide +kernel
theorem dX5_change_128 : decode cX5_change 128 = .ok (.iastore, 1) := by decide +kernel
theorem dX5_change_129 : decode cX5_change 129 = .ok (.iinc 3 1, 3) := by decide +kernel
theorem dX5_change_132 : decode cX5_change 132 = .ok (.goto (-111), 3) := by decide +kernel
theorem dX5_change_135 : decode cX5_change 135 = .ok (.iload_n 2, 1) := by decide +kernel
theorem dX5_change_136 : decode cX5_change 136 = .ok (.ireturn, 1) := by decide +kernel
theorem dX5_flood_0 : decode cX5_flood 0 = .ok (.aload_n 0, 1) := by decide +kernel
theorem dX5_flood_1 : decode cX5_flood 1 = .ok (.invokevirtual 207, 3) := by decide +kernel
theorem dX5_flood_4 : decode cX5_flood 4 = .ok (.ifCond .ne 6, 3) := by decide +kernel
theorem dX5_flood_7 : decode cX5_flood 7 = .ok (.bipush (-9), 2) := by decide +kernel
theorem dX5_flood_9 : decode cX5_flood 9 = .ok (.ireturn, 1) := by decide +kernel
theorem dX5_flood_10 : decode cX5_flood 10 = .ok (.iconst 0, 1) := by decide +kernel
theorem dX5_flood_11 : decode cX5_flood 11 = .ok (.istore_n 1, 1) := by decide +kernel
theorem dX5_flood_12 : decode cX5_flood 12 = .ok (.iconst 1, 1) := by decide +kernel
theorem dX5_flood_13 : decode cX5_flood 13 = .ok (.istore_n 2, 1) := by decide +kernel
theorem dX5_flood_14 : decode cX5_flood 14 = .ok (.iload_n 2, 1) := by decide +kernel
theorem dX5_flood_15 : decode cX5_flood 15 = .ok (.ifCond .eq 56, 3) := by decide +kernel
theorem dX5_flood_18 : decode cX5_flood 18 = .ok (.iload_n 1, 1) := by decide +kernel
theorem dX5_flood_19 : decode cX5_flood 19 = .ok (.bipush 10, 2) := by decide +kernel
theorem dX5_flood_21 : decode cX5_flood 21 = .ok (.if_icmp .ge 50, 3) := by decide +kernel
theorem dX5_flood_24 : decode cX5_flood 24 = .ok (.iconst 0, 1) := by decide +kernel
theorem dX5_flood_25 : decode cX5_flood 25 = .ok (.istore_n 3, 1) := by decide +kernel
theorem dX5_flood_26 : decode cX5_flood 26 = .ok (.iload_n 3, 1) := by decide +kernel
theorem dX5_flood_27 : decode cX5_flood 27 = .ok (.aload_n 0, 1) := by decide +kernel
theorem dX5_flood_28 : decode cX5_flood 28 = .ok (.getfield 46, 3) := by decide +kernel
theorem dX5_flood_31 : decode cX5_flood 31 = .ok (.if_icmp .ge 34, 3) := by decide +kernel
theorem dX5_flood_34 : decode cX5_flood 34 = .ok (.iload_n 2, 1) := by decide +kernel
theorem dX5_flood_35 : decode cX5_flood 35 = .ok (.ifCond .eq 22, 3) := by decide +kernel
theorem dX5_flood_38 : decode cX5_flood 38 = .ok (.aload_n 0, 1) := by decide +kernel
theorem dX5_flood_39 : decode cX5_flood 39 = .ok (.iload_n 3, 1) := by decide +kernel
theorem dX5_flood_40 : decode cX5_flood 40 = .ok (.aload_n 0, 1) := by decide +kernel
theorem dX5_flood_41 : decode cX5_flood 41 = .ok (.getfield 19, 3) := by decide +kernel
theorem dX5_flood_44 : decode cX5_flood 44 = .ok (.iload_n 3, 1) := by decide +kernel
theorem dX5_flood_45 : decode cX5_flood 45 = .ok (.iaload, 1) := by decide +kernel
theorem dX5_flood_46 : decode cX5_flood 46 = .ok (.iload_n 1, 1) := by decide +kernel
theorem dX5_flood_47 : decode cX5_flood 47 = .ok (.invokevirtual 189, 3) := by decide +kernel
theorem dX5_flood_50 : decode cX5_flood 50 = .ok (.ifCond .eq 7, 3) := by decide +kernel
theorem dX5_flood_53 : decode cX5_flood 53 = .ok (.iconst 1, 1) := by decide +kernel
theorem dX5_flood_54 : decode cX5_flood 54 = .ok (.goto 4, 3) := by decide +kernel
theorem dX5_flood_57 : decode cX5_flood 57 = .ok (.iconst 0, 1) := by decide +kernel
theorem dX5_flood_58 : decode cX5_flood 58 = .ok (.istore_n 2, 1) := by decide +kernel
theorem dX5_flood_59 : decode cX5_flood 59 = .ok (.iinc 3 1, 3) := by decide +kernel
theorem dX5_flood_62 : decode cX5_flood 62 = .ok (.goto (-36), 3) := by decide +kernel
theorem dX5_flood_65 : decode cX5_flood 65 = .ok (.iinc 1 1, 3) := by decide +kernel
theorem dX5_flood_68 : decode cX5_flood 68 = .ok (.goto (-54), 3) := by decide +kernel
theorem dX5_flood_71 : decode cX5_flood 71 = .ok (.iload_n 2, 1) := by decide +kernel
theorem dX5_flood_72 : decode cX5_flood 72 = .ok (.ifCond .eq 8, 3) := by decide +kernel
theorem dX5_flood_75 : decode cX5_flood 75 = .ok (.bipush 9, 2) := by decide +kernel
theorem dX5_flood_77 : decode cX5_flood 77 = .ok (.goto 6, 3) := by decide +kernel
theorem dX5_flood_80 : decode cX5_flood 80 = .ok (.iload_n 1, 1) := by decide +kernel
theorem dX5_flood_81 : decode cX5_flood 81 = .ok (.iconst 2, 1) := by decide +kernel
theorem dX5_flood_82 : decode cX5_flood 82 = .ok (.isub, 1) := by decide +kernel
theorem dX5_flood_83 : decode cX5_flood 83 = .ok (.ireturn, 1) := by decide +kernel
theorem dX5_overs_0 : decode cX5_overs 0 = .ok (.aload_n 0, 1) := by decide +kernel
theorem dX5_overs_1 : decode cX5_overs 1 = .ok (.invokevirtual 207, 3) := by decide +kernel
theorem dX5_overs_4 : decode cX5_overs 4 = .ok (.ifCond .eq 27, 3) := by decide +kernel
theorem dX5_overs_7 : decode cX5_overs 7 = .ok (.aload_n 0, 1) := by decide +kernel
theorem dX5_overs_8 : decode cX5_overs 8 = .ok (.invokevirtual 210, 3) := by decide +kernel
theorem dX5_overs_11 : decode cX5_overs 11 = .ok (.aload_n 0, 1) := by decide +kernel
theorem dX5_overs_12 : decode cX5_overs 12 = .ok (.getfield 78, 3) := by decide +kernel
theorem dX5_overs_15 : decode cX5_overs 15 = .ok (.aload_n 0, 1) := by decide +kernel
theorem dX5_overs_16 : decode cX5_overs 16 = .ok (.invokevirtual 179, 3) := by decide +kernel
theorem dX5_overs_19 : decode cX5_overs 19 = .ok (.isub, 1) := by decide +kernel
theorem dX5_overs_20 : decode cX5_overs 20 = .ok (.aload_n 0, 1) := by decide +kernel
theorem dX5_overs_21 : decode cX5_overs 21 = .ok (.getfield 46, 3) := by decide +kernel
theorem dX5_overs_24 : decode cX5_overs 24 = .ok (.isub, 1) := by decide +kernel
theorem dX5_overs_25 : decode cX5_overs 25 = .ok (.invokestatic 182, 3) := by decide +kernel
theorem dX5_overs_28 : decode cX5_overs 28 = .ok (.goto 4, 3) := by decide +kernel
theorem dX5_overs_31 : decode cX5_overs 31 = .ok (.iconst 0, 1) := by decide +kernel
theorem dX5_overs_32 : decode cX5_overs 32 = .ok (.ireturn, 1) := by decide +kernel
theorem dX5_owes_0 : decode cX5_owes 0 = .ok (.aload_n 0, 1) := by decide +kernel
theorem dX5_owes_1 : decode cX5_owes 1 = .ok (.iload_n 1, 1) := by decide +kernel
theorem dX5_owes_2 : decode cX5_owes 2 = .ok (.iload_n 2, 1) := by decide +kernel
theorem dX5_owes_3 : decode cX5_owes 3 = .ok (.invokevirtual 129, 3) := by decide +kernel
theorem dX5_owes_6 : decode cX5_owes 6 = .ok (.ifCond .eq 17, 3) := by decide +kernel
theorem dX5_owes_9 : decode cX5_owes 9 = .ok (.aload_n 0, 1) := by decide +kernel
theorem dX5_owes_10 : decode cX5_owes 10 = .ok (.getfield 43, 3) := by decide +kernel
theorem dX5_owes_13 : decode cX5_owes 13 = .ok (.bipush 7, 2) := by decide +kernel
theorem dX5_owes_15 : decode cX5_owes 15 = .ok (.iload_n 1, 1) := by decide +kernel
theorem dX5_owes_16 : decode cX5_owes 16 = .ok (.imul, 1) := by decide +kernel
theorem dX5_owes_17 : decode cX5_owes 17 = .ok (.iload_n 2, 1) := by decide +kernel
theorem dX5_owes_18 : decode cX5_owes 18 = .ok (.iadd, 1) := by decide +kernel
theorem dX5_owes_19 : decode cX5_owes 19 = .ok (.iaload, 1) := by decide +kernel
theorem dX5_owes_20 : decode cX5_owes 20 = .ok (.goto 8, 3) := by decide +kernel
theorem dX5_owes_23 : decode cX5_owes 23 = .ok (.aload_n 0, 1) := by decide +kernel
theorem dX5_owes_24 : decode cX5_owes 24 = .ok (.iconst (-1), 1) := by decide +kernel
theorem dX5_owes_25 : decode cX5_owes 25 = .ok (.invokevirtual 92, 3) := by decide +kernel
theorem dX5_owes_28 : decode cX5_owes 28 = .ok (.ireturn, 1) := by decide +kernel
theorem dX5_owed_0 : decode cX5_owed 0 = .ok (.aload_n 0, 1) := by decide +kernel
theorem dX5_owed_1 : decode cX5_owed 1 = .ok (.iload_n 1, 1) := by decide +kernel
theorem dX5_owed_2 : decode cX5_owed 2 = .ok (.invokevirtual 81, 3) := by decide +kernel
theorem dX5_owed_5 : decode cX5_owed 5 = .ok (.ifCond .ne 9, 3) := by decide +kernel
theorem dX5_owed_8 : decode cX5_owed 8 = .ok (.aload_n 0, 1) := by decide +kernel
theorem dX5_owed_9 : decode cX5_owed 9 = .ok (.iconst (-1), 1) := by decide +kernel
theorem dX5_owed_10 : decode cX5_owed 10 = .ok (.invokevirtual 240, 3) := by decide +kernel
theorem dX5_owed_13 : decode cX5_owed 13 = .ok (.ireturn, 1) := by decide +kernel
theorem dX5_owed_14 : decode cX5_owed 14 = .ok (.iconst 0, 1) := by decide +kernel
theorem dX5_owed_15 : decode cX5_owed 15 = .ok (.istore_n 2, 1) := by decide +kernel
theorem dX5_owed_16 : decode cX5_owed 16 = .ok (.iconst 0, 1) := by decide +kernel
theorem dX5_owed_17 : decode cX5_owed 17 = .ok (.istore_n 3, 1) := by decide +kernel
theorem dX5_owed_18 : decode cX5_owed 18 = .ok (.iload_n 3, 1) := by decide +kernel
theorem dX5_owed_19 : decode cX5_owed 19 = .ok (.aload_n 0, 1) := by decide +kernel
theorem dX5_owed_20 : decode cX5_owed 20 = .ok (.getfield 78, 3) := by decide +kernel
theorem dX5_owed_23 : decode cX5_owed 23 = .ok (.if_icmp .ge 35, 3) := by decide +kernel
theorem dX5_owed_26 : decode cX5_owed 26 = .ok (.iload_n 2, 1) := by decide +kernel
theorem dX5_owed_27 : decode cX5_owed 27 = .ok (.aload_n 0, 1) := by decide +kernel
theorem dX5_owed_28 : decode cX5_owed 28 = .ok (.getfield 43, 3) := by decide +kernel
theorem dX5_owed_31 : decode cX5_owed 31 = .ok (.bipush 7, 2) := by decide +kernel
theorem dX5_owed_33 : decode cX5_owed 33 = .ok (.iload_n 3, 1) := by decide +kernel
theorem dX5_owed_34 : decode cX5_owed 34 = .ok (.imul, 1) := by decide +kernel
theorem dX5_owed_35 : decode cX5_owed 35 = .ok (.iload_n 1, 1) := by decide +kernel
theorem dX5_owed_36 : decode cX5_owed 36 = .ok (.iadd, 1) := by decide +kernel
theorem dX5_owed_37 : decode cX5_owed 37 = .ok (.iaload, 1) := by decide +kernel
theorem dX5_owed_38 : decode cX5_owed 38 = .ok (.aload_n 0, 1) := by decide +kernel
theorem dX5_owed_39 : decode cX5_owed 39 = .ok (.getfield 43, 3) := by decide +kernel
theorem dX5_owed_42 : decode cX5_owed 42 = .ok (.bipush 7, 2) := by decide +kernel
theorem dX5_owed_44 : decode cX5_owed 44 = .ok (.iload_n 1, 1) := by decide +kernel
theorem dX5_owed_45 : decode cX5_owed 45 = .ok (.imul, 1) := by decide +kernel
theorem dX5_owed_46 : decode cX5_owed 46 = .ok (.iload_n 3, 1) := by decide +kernel
theorem dX5_owed_47 : decode cX5_owed 47 = .ok (.iadd, 1) := by decide +kernel
theorem dX5_owed_48 : decode cX5_owed 48 = .ok (.iaload, 1) := by decide +kernel
theorem dX5_owed_49 : decode cX5_owed 49 = .ok (.isub, 1) := by decide +kernel
theorem dX5_owed_50 : decode cX5_owed 50 = .ok (.iadd, 1) := by decide +kernel
theorem dX5_owed_51 : decode cX5_owed 51 = .ok (.istore_n 2, 1) := by decide +kernel
theorem dX5_owed_52 : decode cX5_owed 52 = .ok (.iinc 3 1, 3) := by decide +kernel
theorem dX5_owed_55 : decode cX5_owed 55 = .ok (.goto (-37), 3) := by decide +kernel
theorem dX5_owed_58 : decode cX5_owed 58 = .ok (.iload_n 2, 1) := by decide +kernel
theorem dX5_owed_59 : decode cX5_owed 59 = .ok (.ireturn, 1) := by decide +kernel
theorem dX5_doesOwe_0 : decode cX5_doesOwe 0 = .ok (.aload_n 0, 1) := by decide +kernel
theorem dX5_doesOwe_1 : decode cX5_doesOwe 1 = .ok (.getfield 43, 3) := by decide +kernel
theorem dX5_doesOwe_4 : decode cX5_doesOwe 4 = .ok (.bipush 7, 2) := by decide +kernel
theorem dX5_doesOwe_6 : decode cX5_doesOwe 6 = .ok (.iload_n 1, 1) := by decide +kernel
theorem dX5_doesOwe_7 : decode cX5_doesOwe 7 = .ok (.imul, 1) := by decide +kernel
theorem dX5_doesOwe_8 : decode cX5_doesOwe 8 = .ok (.iload_n 2, 1) := by decide +kernel
theorem dX5_doesOwe_9 : decode cX5_doesOwe 9 = .ok (.iadd, 1) := by decide +kernel
theorem dX5_doesOwe_10 : decode cX5_doesOwe 10 = .ok (.iaload, 1) := by decide +kernel
theorem dX5_doesOwe_11 : decode cX5_doesOwe 11 = .ok (.ifCond .le 7, 3) := by decide +kernel
theorem dX5_doesOwe_14 : decode cX5_doesOwe 14 = .ok (.iconst 1, 1) := by decide +kernel
theorem dX5_doesOwe_15 : decode cX5_doesOwe 15 = .ok (.goto 4, 3) := by decide +kernel
theorem dX5_doesOwe_18 : decode cX5_doesOwe 18 = .ok (.iconst 0, 1) := by decide +kernel
theorem dX5_doesOwe_19 : decode cX5_doesOwe 19 = .ok (.ireturn, 1) := by decide +kernel
theorem dX5_strikesTwo_0 : decode cX5_strikesTwo 0 = .ok (.iconst 0, 1) := by decide +kernel
theorem dX5_strikesTwo_1 : decode cX5_strikesTwo 1 = .ok (.istore_n 1, 1) := by decide +kernel
theorem dX5_strikesTwo_2 : decode cX5_strikesTwo 2 = .ok (.iload_n 1, 1) := by decide +kernel
theorem dX5_strikesTwo_3 : decode cX5_strikesTwo 3 = .ok (.aload_n 0, 1) := by decide +kernel
theorem dX5_strikesTwo_4 : decode cX5_strikesTwo 4 = .ok (.getfield 78, 3) := by decide +kernel
theorem dX5_strikesTwo_7 : decode cX5_strikesTwo 7 = .ok (.if_icmp .ge 106, 3) := by decide +kernel
theorem dX5_strikesTwo_10 : decode cX5_strikesTwo 10 = .ok (.iload_n 1, 1) := by decide +kernel
theorem dX5_strikesTwo_11 : decode cX5_strikesTwo 11 = .ok (.iconst 1, 1) := by decide +kernel
theorem dX5_strikesTwo_12 : decode cX5_strikesTwo 12 = .ok (.iadd, 1) := by decide +kernel
theorem dX5_strikesTwo_13 : decode cX5_strikesTwo 13 = .ok (.istore_n 2, 1) := by decide +kernel
theorem dX5_strikesTwo_14 : decode cX5_strikesTwo 14 = .ok (.iload_n 2, 1) := by decide +kernel
theorem dX5_strikesTwo_15 : decode cX5_strikesTwo 15 = .ok (.aload_n 0, 1) := by decide +kernel
theorem dX5_strikesTwo_16 : decode cX5_strikesTwo 16 = .ok (.getfield 78, 3) := by decide +kernel
theorem dX5_strikesTwo_19 : decode cX5_strikesTwo 19 = .ok (.if_icmp .ge 88, 3) := by decide +kernel
theorem dX5_strikesTwo_22 : decode cX5_strikesTwo 22 = .ok (.aload_n 0, 1) := by decide +kernel
theorem dX5_strikesTwo_23 : decode cX5_strikesTwo 23 = .ok (.iload_n 1, 1) := by decide +kernel
theorem dX5_strikesTwo_24 : decode cX5_strikesTwo 24 = .ok (.iload_n 2, 1) := by decide +kernel
theorem dX5_strikesTwo_25 : decode cX5_strikesTwo 25 = .ok (.invokevirtual 243, 3) := by decide +kernel
theorem dX5_strikesTwo_28 : decode cX5_strikesTwo 28 = .ok (.ifCond .eq 73, 3) := by decide +kernel
theorem dX5_strikesTwo_31 : decode cX5_strikesTwo 31 = .ok (.aload_n 0, 1) := by decide +kernel
theorem dX5_strikesTwo_32 : decode cX5_strikesTwo 32 = .ok (.iload_n 2, 1) := by decide +kernel
theorem dX5_strikesTwo_33 : decode cX5_strikesTwo 33 = .ok (.iload_n 1, 1) := by decide +kernel
theorem dX5_strikesTwo_34 : decode cX5_strikesTwo 34 = .ok (.invokevirtual 243, 3) := by decide +kernel
theorem dX5_strikesTwo_37 : decode cX5_strikesTwo 37 = .ok (.ifCond .ne 6, 3) := by decide +kernel
theorem dX5_strikesTwo_40 : decode cX5_strikesTwo 40 = .ok (.goto 61, 3) := by decide +kernel
theorem dX5_strikesTwo_43 : decode cX5_strikesTwo 43 = .ok (.aload_n 0, 1) := by decide +kernel
theorem dX5_strikesTwo_44 : decode cX5_strikesTwo 44 = .ok (.getfield 43, 3) := by decide +kernel
theorem dX5_strikesTwo_47 : decode cX5_strikesTwo 47 = .ok (.bipush 7, 2) := by decide +kernel
theorem dX5_strikesTwo_49 : decode cX5_strikesTwo 49 = .ok (.iload_n 1, 1) := by decide +kernel
theorem dX5_strikesTwo_50 : decode cX5_strikesTwo 50 = .ok (.imul, 1) := by decide +kernel
theorem dX5_strikesTwo_51 : decode cX5_strikesTwo 51 = .ok (.iload_n 2, 1) := by decide +kernel
theorem dX5_strikesTwo_52 : decode cX5_strikesTwo 52 = .ok (.iadd, 1) := by decide +kernel
theorem dX5_strikesTwo_53 : decode cX5_strikesTwo 53 = .ok (.iaload, 1) := by decide +kernel
theorem dX5_strikesTwo_54 : decode cX5_strikesTwo 54 = .ok (.aload_n 0, 1) := by decide +kernel
theorem dX5_strikesTwo_55 : decode cX5_strikesTwo 55 = .ok (.getfield 43, 3) := by decide +kernel
theorem dX5_strikesTwo_58 : decode cX5_strikesTwo 58 = .ok (.bipush 7, 2) := by decide +kernel
theorem dX5_strikesTwo_60 : decode cX5_strikesTwo 60 = .ok (.iload_n 2, 1) := by decide +kernel
theorem dX5_strikesTwo_61 : decode cX5_strikesTwo 61 = .ok (.imul, 1) := by decide +kernel
theorem dX5_strikesTwo_62 : decode cX5_strikesTwo 62 = .ok (.iload_n 1, 1) := by decide +kernel
theorem dX5_strikesTwo_63 : decode cX5_strikesTwo 63 = .ok (.iadd, 1) := by decide +kernel
theorem dX5_strikesTwo_64 : decode cX5_strikesTwo 64 = .ok (.iaload, 1) := by decide +kernel
theorem dX5_strikesTwo_65 : decode cX5_strikesTwo 65 = .ok (.invokestatic 182, 3) := by decide +kernel
theorem dX5_strikesTwo_68 : decode cX5_strikesTwo 68 = .ok (.istore_n 3, 1) := by decide +kernel
theorem dX5_strikesTwo_69 : decode cX5_strikesTwo 69 = .ok (.aload_n 0, 1) := by decide +kernel
theorem dX5_strikesTwo_70 : decode cX5_strikesTwo 70 = .ok (.getfield 43, 3) := by decide +kernel
theorem dX5_strikesTwo_73 : decode cX5_strikesTwo 73 = .ok (.bipush 7, 2) := by decide +kernel
theorem dX5_strikesTwo_75 : decode cX5_strikesTwo 75 = .ok (.iload_n 1, 1) := by decide +kernel
theorem dX5_strikesTwo_76 : decode cX5_strikesTwo 76 = .ok (.imul, 1) := by decide +kernel
theorem dX5_strikesTwo_77 : decode cX5_strikesTwo 77 = .ok (.iload_n 2, 1) := by decide +kernel
theorem dX5_strikesTwo_78 : decode cX5_strikesTwo 78 = .ok (.iadd, 1) := by decide +kernel
theorem dX5_strikesTwo_79 : decode cX5_strikesTwo 79 = .ok (.dup2, 1) := by decide +kernel
theorem dX5_strikesTwo_80 : decode cX5_strikesTwo 80 = .ok (.iaload, 1) := by decide +kernel
theorem dX5_strikesTwo_81 : decode cX5_strikesTwo 81 = .ok (.iload_n 3, 1) := by decide +kernel
theorem dX5_strikesTwo_82 : decode cX5_strikesTwo 82 = .ok (.isub, 1) := by decide +kernel
theorem dX5_strikesTwo_83 : decode cX5_strikesTwo 83 = .ok (.iastore, 1) := by decide +kernel
theorem dX5_strikesTwo_84 : decode cX5_strikesTwo 84 = .ok (.aload_n 0, 1) := by decide +kernel
theorem dX5_strikesTwo_85 : decode cX5_strikesTwo 85 = .ok (.getfield 43, 3) := by decide +kernel
theorem dX5_strikesTwo_88 : decode cX5_strikesTwo 88 = .ok (.bipush 7, 2) := by decide +kernel
theorem dX5_strikesTwo_90 : decode cX5_strikesTwo 90 = .ok (.iload_n 2, 1) := by decide +kernel
theorem dX5_strikesTwo_91 : decode cX5_strikesTwo 91 = .ok (.imul, 1) := by decide +kernel
theorem dX5_strikesTwo_92 : decode cX5_strikesTwo 92 = .ok (.iload_n 1, 1) := by decide +kernel
theorem dX5_strikesTwo_93 : decode cX5_strikesTwo 93 = .ok (.iadd, 1) := by decide +kernel
theorem dX5_strikesTwo_94 : decode cX5_strikesTwo 94 = .ok (.dup2, 1) := by decide +kernel
theorem dX5_strikesTwo_95 : decode cX5_strikesTwo 95 = .ok (.iaload, 1) := by decide +kernel
theorem dX5_strikesTwo_96 : decode cX5_strikesTwo 96 = .ok (.iload_n 3, 1) := by decide +kernel
theorem dX5_strikesTwo_97 : decode cX5_strikesTwo 97 = .ok (.isub, 1) := by decide +kernel
theorem dX5_strikesTwo_98 : decode cX5_strikesTwo 98 = .ok (.iastore, 1) := by decide +kernel
theorem dX5_strikesTwo_99 : decode cX5_strikesTwo 99 = .ok (.iconst 1, 1) := by decide +kernel
theorem dX5_strikesTwo_100 : decode cX5_strikesTwo 100 = .ok (.ireturn, 1) := by decide +kernel
theorem dX5_strikesTwo_101 : decode cX5_strikesTwo 101 = .ok (.iinc 2 1, 3) := by decide +kernel
theorem dX5_strikesTwo_104 : decode cX5_strikesTwo 104 = .ok (.goto (-90), 3) := by decide +kernel
theorem dX5_strikesTwo_107 : decode cX5_strikesTwo 107 = .ok (.iinc 1 1, 3) := by decide +kernel
theorem dX5_strikesTwo_110 : decode cX5_strikesTwo 110 = .ok (.goto (-108), 3) := by decide +kernel
theorem dX5_strikesTwo_113 : decode cX5_strikesTwo 113 = .ok (.iconst 0, 1) := by decide +kernel
theorem dX5_strikesTwo_114 : decode cX5_strikesTwo 114 = .ok (.ireturn, 1) := by decide +kernel
theorem dX5_strikesThree_0 : decode cX5_strikesThree 0 = .ok (.iconst 0, 1) := by decide +kernel
theorem dX5_strikesThree_1 : decode cX5_strikesThree 1 = .ok (.istore_n 1, 1) := by decide +kernel
theorem dX5_strikesThree_2 : decode cX5_strikesThree 2 = .ok (.iload_n 1, 1) := by decide +kernel
theorem dX5_strikesThree_3 : decode cX5_strikesThree 3 = .ok (.sipush 343, 3) := by decide +kernel
theorem dX5_strikesThree_6 : decode cX5_strikesThree 6 = .ok (.if_icmp .ge 172, 3) := by decide +kernel
theorem dX5_strikesThree_9 : decode cX5_strikesThree 9 = .ok (.iload_n 1, 1) := by decide +kernel
theorem dX5_strikesThree_10 : decode cX5_strikesThree 10 = .ok (.bipush 49, 2) := by decide +kernel
theorem dX5_strikesThree_12 : decode cX5_strikesThree 12 = .ok (.idiv, 1) := by decide +kernel
theorem dX5_strikesThree_13 : decode cX5_strikesThree 13 = .ok (.istore_n 2, 1) := by decide +kernel
theorem dX5_strikesThree_14 : decode cX5_strikesThree 14 = .ok (.iload_n 1, 1) := by decide +kernel
theorem dX5_strikesThree_15 : decode cX5_strikesThree 15 = .ok (.bipush 7, 2) := by decide +kernel
theorem dX5_strikesThree_17 : decode cX5_strikesThree 17 = .ok (.idiv, 1) := by decide +kernel
theorem dX5_strikesThree_18 : decode cX5_strikesThree 18 = .ok (.bipush 7, 2) := by decide +kernel
theorem dX5_strikesThree_20 : decode cX5_strikesThree 20 = .ok (.irem, 1) := by decide +kernel
theorem dX5_strikesThree_21 : decode cX5_strikesThree 21 = .ok (.istore_n 3, 1) := by decide +kernel
theorem dX5_strikesThree_22 : decode cX5_strikesThree 22 = .ok (.iload_n 1, 1) := by decide +kernel
theorem dX5_strikesThree_23 : decode cX5_strikesThree 23 = .ok (.bipush 7, 2) := by decide +kernel
theorem dX5_strikesThree_25 : decode cX5_strikesThree 25 = .ok (.irem, 1) := by decide +kernel
theorem dX5_strikesThree_26 : decode cX5_strikesThree 26 = .ok (.istore 4, 2) := by decide +kernel
theorem dX5_strikesThree_28 : decode cX5_strikesThree 28 = .ok (.iload_n 3, 1) := by decide +kernel
theorem dX5_strikesThree_29 : decode cX5_strikesThree 29 = .ok (.iload_n 2, 1) := by decide +kernel
theorem dX5_strikesThree_30 : decode cX5_strikesThree 30 = .ok (.if_icmp .le 142, 3) := by decide +kernel
theorem dX5_strikesThree_33 : decode cX5_strikesThree 33 = .ok (.iload 4, 2) := by decide +kernel
theorem dX5_strikesThree_35 : decode cX5_strikesThree 35 = .ok (.iload_n 2, 1) := by decide +kernel
theorem dX5_strikesThree_36 : decode cX5_strikesThree 36 = .ok (.if_icmp .le 136, 3) := by decide +kernel
theorem dX5_strikesThree_39 : decode cX5_strikesThree 39 = .ok (.iload_n 3, 1) := by decide +kernel
theorem dX5_strikesThree_40 : decode cX5_strikesThree 40 = .ok (.iload 4, 2) := by decide +kernel
theorem dX5_strikesThree_42 : decode cX5_strikesThree 42 = .ok (.if_icmp .eq 130, 3) := by decide +kernel
theorem dX5_strikesThree_45 : decode cX5_strikesThree 45 = .ok (.aload_n 0, 1) := by decide +kernel
theorem dX5_strikesThree_46 : decode cX5_strikesThree 46 = .ok (.iload_n 2, 1) := by decide +kernel
theorem dX5_strikesThree_47 : decode cX5_strikesThree 47 = .ok (.iload_n 3, 1) := by decide +kernel
theorem dX5_strikesThree_48 : decode cX5_strikesThree 48 = .ok (.invokevirtual 243, 3) := by decide +kernel
theorem dX5_strikesThree_51 : decode cX5_strikesThree 51 = .ok (.ifCond .eq 121, 3) := by decide +kernel
theorem dX5_strikesThree_54 : decode cX5_strikesThree 54 = .ok (.aload_n 0, 1) := by decide +kernel
theorem dX5_strikesThree_55 : decode cX5_strikesThree 55 = .ok (.iload_n 3, 1) := by decide +kernel
theorem dX5_strikesThree_56 : decode cX5_strikesThree 56 = .ok (.iload 4, 2) := by decide +kernel
theorem dX5_strikesThree_58 : decode cX5_strikesThree 58 = .ok (.invokevirtual 243, 3) := by decide +kernel
theorem dX5_strikesThree_61 : decode cX5_strikesThree 61 = .ok (.ifCond .eq 111, 3) := by decide +kernel
theorem dX5_strikesThree_64 : decode cX5_strikesThree 64 = .ok (.aload_n 0, 1) := by decide +kernel
theorem dX5_strikesThree_65 : decode cX5_strikesThree 65 = .ok (.iload 4, 2) := by decide +kernel
theorem dX5_strikesThree_67 : decode cX5_strikesThree 67 = .ok (.iload_n 2, 1) := by decide +kernel
theorem dX5_strikesThree_68 : decode cX5_strikesThree 68 = .ok (.invokevirtual 243, 3) := by decide +kernel
theorem dX5_strikesThree_71 : decode cX5_strikesThree 71 = .ok (.ifCond .ne 6, 3) := by decide +kernel
theorem dX5_strikesThree_74 : decode cX5_strikesThree 74 = .ok (.goto 98, 3) := by decide +kernel
theorem dX5_strikesThree_77 : decode cX5_strikesThree 77 = .ok (.aload_n 0, 1) := by decide +kernel
theorem dX5_strikesThree_78 : decode cX5_strikesThree 78 = .ok (.getfield 43, 3) := by decide +kernel
theorem dX5_strikesThree_81 : decode cX5_strikesThree 81 = .ok (.bipush 7, 2) := by decide +kernel
theorem dX5_strikesThree_83 : decode cX5_strikesThree 83 = .ok (.iload_n 2, 1) := by decide +kernel
theorem dX5_strikesThree_84 : decode cX5_strikesThree 84 = .ok (.imul, 1) := by decide +kernel
theorem dX5_strikesThree_85 : decode cX5_strikesThree 85 = .ok (.iload_n 3, 1) := by decide +kernel
theorem dX5_strikesThree_86 : decode cX5_strikesThree 86 = .ok (.iadd, 1) := by decide +kernel
theorem dX5_strikesThree_87 : decode cX5_strikesThree 87 = .ok (.iaload, 1) := by decide +kernel
theorem dX5_strikesThree_88 : decode cX5_strikesThree 88 = .ok (.aload_n 0, 1) := by decide +kernel
theorem dX5_strikesThree_89 : decode cX5_strikesThree 89 = .ok (.getfield 43, 3) := by decide +kernel
theorem dX5_strikesThree_92 : decode cX5_strikesThree 92 = .ok (.bipush 7, 2) := by decide +kernel
theorem dX5_strikesThree_94 : decode cX5_strikesThree 94 = .ok (.iload_n 3, 1) := by decide +kernel
theorem dX5_strikesThree_95 : decode cX5_strikesThree 95 = .ok (.imul, 1) := by decide +kernel
theorem dX5_strikesThree_96 : decode cX5_strikesThree 96 = .ok (.iload 4, 2) := by decide +kernel
theorem dX5_strikesThree_98 : decode cX5_strikesThree 98 = .ok (.iadd, 1) := by decide +kernel
theorem dX5_strikesThree_99 : decode cX5_strikesThree 99 = .ok (.iaload, 1) := by decide +kernel
theorem dX5_strikesThree_100 : decode cX5_strikesThree 100 = .ok (.aload_n 0, 1) := by decide +kernel
theorem dX5_strikesThree_101 : decode cX5_strikesThree 101 = .ok (.getfield 43, 3) := by decide +kernel
theorem dX5_strikesThree_104 : decode cX5_strikesThree 104 = .ok (.bipush 7, 2) := by decide +kernel
theorem dX5_strikesThree_106 : decode cX5_strikesThree 106 = .ok (.iload 4, 2) := by decide +kernel
theorem dX5_strikesThree_108 : decode cX5_strikesThree 108 = .ok (.imul, 1) := by decide +kernel
theorem dX5_strikesThree_109 : decode cX5_strikesThree 109 = .ok (.iload_n 2, 1) := by decide +kernel
theorem dX5_strikesThree_110 : decode cX5_strikesThree 110 = .ok (.iadd, 1) := by decide +kernel
theorem dX5_strikesThree_111 : decode cX5_strikesThree 111 = .ok (.iaload, 1) := by decide +kernel
theorem dX5_strikesThree_112 : decode cX5_strikesThree 112 = .ok (.invokestatic 182, 3) := by decide +kernel
theorem dX5_strikesThree_115 : decode cX5_strikesThree 115 = .ok (.invokestatic 182, 3) := by decide +kernel
theorem dX5_strikesThree_118 : decode cX5_strikesThree 118 = .ok (.istore 5, 2) := by decide +kernel
theorem dX5_strikesThree_120 : decode cX5_strikesThree 120 = .ok (.aload_n 0, 1) := by decide +kernel
theorem dX5_strikesThree_121 : decode cX5_strikesThree 121 = .ok (.getfield 43, 3) := by decide +kernel
theorem dX5_strikesThree_124 : decode cX5_strikesThree 124 = .ok (.bipush 7, 2) := by decide +kernel
theorem dX5_strikesThree_126 : decode cX5_strikesThree 126 = .ok (.iload_n 2, 1) := by decide +kernel
theorem dX5_strikesThree_127 : decode cX5_strikesThree 127 = .ok (.imul, 1) := by decide +kernel
theorem dX5_strikesThree_128 : decode cX5_strikesThree 128 = .ok (.iload_n 3, 1) := by decide +kernel
theorem dX5_strikesThree_129 : decode cX5_strikesThree 129 = .ok (.iadd, 1) := by decide +kernel
theorem dX5_strikesThree_130 : decode cX5_strikesThree 130 = .ok (.dup2, 1) := by decide +kernel
theorem dX5_strikesThree_131 : decode cX5_strikesThree 131 = .ok (.iaload, 1) := by decide +kernel
theorem dX5_strikesThree_132 : decode cX5_strikesThree 132 = .ok (.iload 5, 2) := by decide +kernel
theorem dX5_strikesThree_134 : decode cX5_strikesThree 134 = .ok (.isub, 1) := by decide +kernel
theorem dX5_strikesThree_135 : decode cX5_strikesThree 135 = .ok (.iastore, 1) := by decide +kernel
theorem dX5_strikesThree_136 : decode cX5_strikesThree 136 = .ok (.aload_n 0, 1) := by decide +kernel
theorem dX5_strikesThree_137 : decode cX5_strikesThree 137 = .ok (.getfield 43, 3) := by decide +kernel
theorem dX5_strikesThree_140 : decode cX5_strikesThree 140 = .ok (.bipush 7, 2) := by decide +kernel
theorem dX5_strikesThree_142 : decode cX5_strikesThree 142 = .ok (.iload_n 3, 1) := by decide +kernel
theorem dX5_strikesThree_143 : decode cX5_strikesThree 143 = .ok (.imul, 1) := by decide +kernel
theorem dX5_strikesThree_144 : decode cX5_strikesThree 144 = .ok (.iload 4, 2) := by decide +kernel
theorem dX5_strikesThree_146 : decode cX5_strikesThree 146 = .ok (.iadd, 1) := by decide +kernel
theorem dX5_strikesThree_147 : decode cX5_strikesThree 147 = .ok (.dup2, 1) := by decide +kernel
theorem dX5_strikesThree_148 : decode cX5_strikesThree 148 = .ok (.iaload, 1) := by decide +kernel
theorem dX5_strikesThree_149 : decode cX5_strikesThree 149 = .ok (.iload 5, 2) := by decide +kernel
theorem dX5_strikesThree_151 : decode cX5_strikesThree 151 = .ok (.isub, 1) := by decide +kernel
theorem dX5_strikesThree_152 : decode cX5_strikesThree 152 = .ok (.iastore, 1) := by decide +kernel
theorem dX5_strikesThree_153 : decode cX5_strikesThree 153 = .ok (.aload_n 0, 1) := by decide +kernel
theorem dX5_strikesThree_154 : decode cX5_strikesThree 154 = .ok (.getfield 43, 3) := by decide +kernel
theorem dX5_strikesThree_157 : decode cX5_strikesThree 157 = .ok (.bipush 7, 2) := by decide +kernel
theorem dX5_strikesThree_159 : decode cX5_strikesThree 159 = .ok (.iload 4, 2) := by decide +kernel
theorem dX5_strikesThree_161 : decode cX5_strikesThree 161 = .ok (.imul, 1) := by decide +kernel
theorem dX5_strikesThree_162 : decode cX5_strikesThree 162 = .ok (.iload_n 2, 1) := by decide +kernel
theorem dX5_strikesThree_163 : decode cX5_strikesThree 163 = .ok (.iadd, 1) := by decide +kernel
theorem dX5_strikesThree_164 : decode cX5_strikesThree 164 = .ok (.dup2, 1) := by decide +kernel
theorem dX5_strikesThree_165 : decode cX5_strikesThree 165 = .ok (.iaload, 1) := by decide +kernel
theorem dX5_strikesThree_166 : decode cX5_strikesThree 166 = .ok (.iload 5, 2) := by decide +kernel
theorem dX5_strikesThree_168 : decode cX5_strikesThree 168 = .ok (.isub, 1) := by decide +kernel
theorem dX5_strikesThree_169 : decode cX5_strikesThree 169 = .ok (.iastore, 1) := by decide +kernel
theorem dX5_strikesThree_170 : decode cX5_strikesThree 170 = .ok (.iconst 1, 1) := by decide +kernel
theorem dX5_strikesThree_171 : decode cX5_strikesThree 171 = .ok (.ireturn, 1) := by decide +kernel
theorem dX5_strikesThree_172 : decode cX5_strikesThree 172 = .ok (.iinc 1 1, 3) := by decide +kernel
theorem dX5_strikesThree_175 : decode cX5_strikesThree 175 = .ok (.goto (-173), 3) := by decide +kernel
theorem dX5_strikesThree_178 : decode cX5_strikesThree 178 = .ok (.iconst 0, 1) := by decide +kernel
theorem dX5_strikesThree_179 : decode cX5_strikesThree 179 = .ok (.ireturn, 1) := by decide +kernel
theorem dX5_strike_0 : decode cX5_strike 0 = .ok (.iconst 0, 1) := by decide +kernel
theorem dX5_strike_1 : decode cX5_strike 1 = .ok (.istore_n 1, 1) := by decide +kernel
theorem dX5_strike_2 : decode cX5_strike 2 = .ok (.aload_n 0, 1) := by decide +kernel
theorem dX5_strike_3 : decode cX5_strike 3 = .ok (.invokevirtual 246, 3) := by decide +kernel
theorem dX5_strike_6 : decode cX5_strike 6 = .ok (.ifCond .ne 10, 3) := by decide +kernel
theorem dX5_strike_9 : decode cX5_strike 9 = .ok (.aload_n 0, 1) := by decide +kernel
theorem dX5_strike_10 : decode cX5_strike 10 = .ok (.invokevirtual 249, 3) := by decide +kernel
theorem dX5_strike_13 : decode cX5_strike 13 = .ok (.ifCond .eq 9, 3) := by decide +kernel
theorem dX5_strike_16 : decode cX5_strike 16 = .ok (.iinc 1 1, 3) := by decide +kernel
theorem dX5_strike_19 : decode cX5_strike 19 = .ok (.goto (-17), 3) := by decide +kernel
theorem dX5_strike_22 : decode cX5_strike 22 = .ok (.iload_n 1, 1) := by decide +kernel
theorem dX5_strike_23 : decode cX5_strike 23 = .ok (.ireturn, 1) := by decide +kernel
theorem dX5_areDry_0 : decode cX5_areDry 0 = .ok (.iload_n 1, 1) := by decide +kernel
theorem dX5_areDry_1 : decode cX5_areDry 1 = .ok (.ifCond .lt 12, 3) := by decide +kernel
theorem dX5_areDry_4 : decode cX5_areDry 4 = .ok (.iload_n 1, 1) := by decide +kernel
theorem dX5_areDry_5 : decode cX5_areDry 5 = .ok (.aload_n 0, 1) := by decide +kernel
theorem dX5_areDry_6 : decode cX5_areDry 6 = .ok (.getfield 78, 3) := by decide +kernel
theorem dX5_areDry_9 : decode cX5_areDry 9 = .ok (.ishr, 1) := by decide +kernel
theorem dX5_areDry_10 : decode cX5_areDry 10 = .ok (.ifCond .eq 5, 3) := by decide +kernel
theorem dX5_areDry_13 : decode cX5_areDry 13 = .ok (.iconst 0, 1) := by decide +kernel
theorem dX5_areDry_14 : decode cX5_areDry 14 = .ok (.ireturn, 1) := by decide +kernel
theorem dX5_areDry_15 : decode cX5_areDry 15 = .ok (.iconst 0, 1) := by decide +kernel
theorem dX5_areDry_16 : decode cX5_areDry 16 = .ok (.istore_n 2, 1) := by decide +kernel
theorem dX5_areDry_17 : decode cX5_areDry 17 = .ok (.iload_n 2, 1) := by decide +kernel
theorem dX5_areDry_18 : decode cX5_areDry 18 = .ok (.aload_n 0, 1) := by decide +kernel
theorem dX5_areDry_19 : decode cX5_areDry 19 = .ok (.getfield 78, 3) := by decide +kernel
theorem dX5_areDry_22 : decode cX5_areDry 22 = .ok (.if_icmp .ge 30, 3) := by decide +kernel
theorem dX5_areDry_25 : decode cX5_areDry 25 = .ok (.iload_n 1, 1) := by decide +kernel
theorem dX5_areDry_26 : decode cX5_areDry 26 = .ok (.iload_n 2, 1) := by decide +kernel
theorem dX5_areDry_27 : decode cX5_areDry 27 = .ok (.ishr, 1) := by decide +kernel
theorem dX5_areDry_28 : decode cX5_areDry 28 = .ok (.iconst 1, 1) := by decide +kernel
theorem dX5_areDry_29 : decode cX5_areDry 29 = .ok (.iand, 1) := by decide +kernel
theorem dX5_areDry_30 : decode cX5_areDry 30 = .ok (.iconst 1, 1) := by decide +kernel
theorem dX5_areDry_31 : decode cX5_areDry 31 = .ok (.if_icmp .ne 15, 3) := by decide +kernel
theorem dX5_areDry_34 : decode cX5_areDry 34 = .ok (.aload_n 0, 1) := by decide +kernel
theorem dX5_areDry_35 : decode cX5_areDry 35 = .ok (.getfield 37, 3) := by decide +kernel
theorem dX5_areDry_38 : decode cX5_areDry 38 = .ok (.iload_n 2, 1) := by decide +kernel
theorem dX5_areDry_39 : decode cX5_areDry 39 = .ok (.iaload, 1) := by decide +kernel
theorem dX5_areDry_40 : decode cX5_areDry 40 = .ok (.iconst 1, 1) := by decide +kernel
theorem dX5_areDry_41 : decode cX5_areDry 41 = .ok (.if_icmp .ne 5, 3) := by decide +kernel
theorem dX5_areDry_44 : decode cX5_areDry 44 = .ok (.iconst 0, 1) := by decide +kernel
theorem dX5_areDry_45 : decode cX5_areDry 45 = .ok (.ireturn, 1) := by decide +kernel
theorem dX5_areDry_46 : decode cX5_areDry 46 = .ok (.iinc 2 1, 3) := by decide +kernel
theorem dX5_areDry_49 : decode cX5_areDry 49 = .ok (.goto (-32), 3) := by decide +kernel
theorem dX5_areDry_52 : decode cX5_areDry 52 = .ok (.iconst 1, 1) := by decide +kernel
theorem dX5_areDry_53 : decode cX5_areDry 53 = .ok (.ireturn, 1) := by decide +kernel
theorem dX5_wet_0 : decode cX5_wet 0 = .ok (.aload_n 0, 1) := by decide +kernel
theorem dX5_wet_1 : decode cX5_wet 1 = .ok (.iload_n 1, 1) := by decide +kernel
theorem dX5_wet_2 : decode cX5_wet 2 = .ok (.invokevirtual 252, 3) := by decide +kernel
theorem dX5_wet_5 : decode cX5_wet 5 = .ok (.ifCond .eq 24, 3) := by decide +kernel
theorem dX5_wet_8 : decode cX5_wet 8 = .ok (.iload_n 2, 1) := by decide +kernel
theorem dX5_wet_9 : decode cX5_wet 9 = .ok (.iconst (-1), 1) := by decide +kernel
theorem dX5_wet_10 : decode cX5_wet 10 = .ok (.if_icmp .eq 25, 3) := by decide +kernel
theorem dX5_wet_13 : decode cX5_wet 13 = .ok (.aload_n 0, 1) := by decide +kernel
theorem dX5_wet_14 : decode cX5_wet 14 = .ok (.iload_n 2, 1) := by decide +kernel
theorem dX5_wet_15 : decode cX5_wet 15 = .ok (.invokevirtual 81, 3) := by decide +kernel
theorem dX5_wet_18 : decode cX5_wet 18 = .ok (.ifCond .eq 11, 3) := by decide +kernel
theorem dX5_wet_21 : decode cX5_wet 21 = .ok (.iload_n 1, 1) := by decide +kernel
theorem dX5_wet_22 : decode cX5_wet 22 = .ok (.iload_n 2, 1) := by decide +kernel
theorem dX5_wet_23 : decode cX5_wet 23 = .ok (.ishr, 1) := by decide +kernel
theorem dX5_wet_24 : decode cX5_wet 24 = .ok (.iconst 1, 1) := by decide +kernel
theorem dX5_wet_25 : decode cX5_wet 25 = .ok (.iand, 1) := by decide +kernel
theorem dX5_wet_26 : decode cX5_wet 26 = .ok (.ifCond .ne 9, 3) := by decide +kernel
theorem dX5_wet_29 : decode cX5_wet 29 = .ok (.aload_n 0, 1) := by decide +kernel
theorem dX5_wet_30 : decode cX5_wet 30 = .ok (.iconst (-1), 1) := by decide +kernel
theorem dX5_wet_31 : decode cX5_wet 31 = .ok (.invokevirtual 92, 3) := by decide +kernel
theorem dX5_wet_34 : decode cX5_wet 34 = .ok (.ireturn, 1) := by decide +kernel
theorem dX5_wet_35 : decode cX5_wet 35 = .ok (.aload_n 0, 1) := by decide +kernel
theorem dX5_wet_36 : decode cX5_wet 36 = .ok (.invokevirtual 219, 3) := by decide +kernel
theorem dX5_wet_39 : decode cX5_wet 39 = .ok (.iconst 0, 1) := by decide +kernel
theorem dX5_wet_40 : decode cX5_wet 40 = .ok (.istore_n 3, 1) := by decide +kernel
theorem dX5_wet_41 : decode cX5_wet 41 = .ok (.iconst 0, 1) := by decide +kernel
theorem dX5_wet_42 : decode cX5_wet 42 = .ok (.istore 4, 2) := by decide +kernel
theorem dX5_wet_44 : decode cX5_wet 44 = .ok (.aload_n 0, 1) := by decide +kernel
theorem dX5_wet_45 : decode cX5_wet 45 = .ok (.invokevirtual 222, 3) := by decide +kernel
theorem dX5_wet_48 : decode cX5_wet 48 = .ok (.ifCond .eq 102, 3) := by decide +kernel
theorem dX5_wet_51 : decode cX5_wet 51 = .ok (.iconst 0, 1) := by decide +kernel
theorem dX5_wet_52 : decode cX5_wet 52 = .ok (.istore 5, 2) := by decide +kernel
theorem dX5_wet_54 : decode cX5_wet 54 = .ok (.iconst 0, 1) := by decide +kernel
theorem dX5_wet_55 : decode cX5_wet 55 = .ok (.istore 6, 2) := by decide +kernel
theorem dX5_wet_57 : decode cX5_wet 57 = .ok (.iload 6, 2) := by decide +kernel
theorem dX5_wet_59 : decode cX5_wet 59 = .ok (.aload_n 0, 1) := by decide +kernel
theorem dX5_wet_60 : decode cX5_wet 60 = .ok (.getfield 46, 3) := by decide +kernel
theorem dX5_wet_63 : decode cX5_wet 63 = .ok (.if_icmp .ge 23, 3) := by decide +kernel
theorem dX5_wet_66 : decode cX5_wet 66 = .ok (.iload 5, 2) := by decide +kernel
theorem dX5_wet_68 : decode cX5_wet 68 = .ok (.iconst 1, 1) := by decide +kernel
theorem dX5_wet_69 : decode cX5_wet 69 = .ok (.aload_n 0, 1) := by decide +kernel
theorem dX5_wet_70 : decode cX5_wet 70 = .ok (.getfield 19, 3) := by decide +kernel
theorem dX5_wet_73 : decode cX5_wet 73 = .ok (.iload 6, 2) := by decide +kernel
theorem dX5_wet_75 : decode cX5_wet 75 = .ok (.iaload, 1) := by decide +kernel
theorem dX5_wet_76 : decode cX5_wet 76 = .ok (.ishl, 1) := by decide +kernel
theorem dX5_wet_77 : decode cX5_wet 77 = .ok (.ior, 1) := by decide +kernel
theorem dX5_wet_78 : decode cX5_wet 78 = .ok (.istore 5, 2) := by decide +kernel
theorem dX5_wet_80 : decode cX5_wet 80 = .ok (.iinc 6 1, 3) := by decide +kernel
theorem dX5_wet_83 : decode cX5_wet 83 = .ok (.goto (-26), 3) := by decide +kernel
theorem dX5_wet_86 : decode cX5_wet 86 = .ok (.iload 5, 2) := by decide +kernel
theorem dX5_wet_88 : decode cX5_wet 88 = .ok (.iload_n 1, 1) := by decide +kernel
theorem dX5_wet_89 : decode cX5_wet 89 = .ok (.if_icmp .ne (-45), 3) := by decide +kernel
theorem dX5_wet_92 : decode cX5_wet 92 = .ok (.aload_n 0, 1) := by decide +kernel
theorem dX5_wet_93 : decode cX5_wet 93 = .ok (.invokevirtual 207, 3) := by decide +kernel
theorem dX5_wet_96 : decode cX5_wet 96 = .ok (.ifCond .ne 6, 3) := by decide +kernel
theorem dX5_wet_99 : decode cX5_wet 99 = .ok (.goto (-55), 3) := by decide +kernel
theorem dX5_wet_102 : decode cX5_wet 102 = .ok (.iinc 3 1, 3) := by decide +kernel
theorem dX5_wet_105 : decode cX5_wet 105 = .ok (.iconst 0, 1) := by decide +kernel
theorem dX5_wet_106 : decode cX5_wet 106 = .ok (.istore 6, 2) := by decide +kernel
theorem dX5_wet_108 : decode cX5_wet 108 = .ok (.iload 6, 2) := by decide +kernel
theorem dX5_wet_110 : decode cX5_wet 110 = .ok (.aload_n 0, 1) := by decide +kernel
theorem dX5_wet_111 : decode cX5_wet 111 = .ok (.getfield 46, 3) := by decide +kernel
theorem dX5_wet_114 : decode cX5_wet 114 = .ok (.if_icmp .ge 33, 3) := by decide +kernel
theorem dX5_wet_117 : decode cX5_wet 117 = .ok (.iload 4, 2) := by decide +kernel
theorem dX5_wet_119 : decode cX5_wet 119 = .ok (.aload_n 0, 1) := by decide +kernel
theorem dX5_wet_120 : decode cX5_wet 120 = .ok (.getfield 19, 3) := by decide +kernel
theorem dX5_wet_123 : decode cX5_wet 123 = .ok (.iload 6, 2) := by decide +kernel
theorem dX5_wet_125 : decode cX5_wet 125 = .ok (.iaload, 1) := by decide +kernel
theorem dX5_wet_126 : decode cX5_wet 126 = .ok (.iload_n 2, 1) := by decide +kernel
theorem dX5_wet_127 : decode cX5_wet 127 = .ok (.if_icmp .ne 10, 3) := by decide +kernel
theorem dX5_wet_130 : decode cX5_wet 130 = .ok (.iconst 1, 1) := by decide +kernel
theorem dX5_wet_131 : decode cX5_wet 131 = .ok (.iload 6, 2) := by decide +kernel
theorem dX5_wet_133 : decode cX5_wet 133 = .ok (.ishl, 1) := by decide +kernel
theorem dX5_wet_134 : decode cX5_wet 134 = .ok (.goto 4, 3) := by decide +kernel
theorem dX5_wet_137 : decode cX5_wet 137 = .ok (.iconst 0, 1) := by decide +kernel
theorem dX5_wet_138 : decode cX5_wet 138 = .ok (.ior, 1) := by decide +kernel
theorem dX5_wet_139 : decode cX5_wet 139 = .ok (.istore 4, 2) := by decide +kernel
theorem dX5_wet_141 : decode cX5_wet 141 = .ok (.iinc 6 1, 3) := by decide +kernel
theorem dX5_wet_144 : decode cX5_wet 144 = .ok (.goto (-36), 3) := by decide +kernel
theorem dX5_wet_147 : decode cX5_wet 147 = .ok (.goto (-103), 3) := by decide +kernel
theorem dX5_wet_150 : decode cX5_wet 150 = .ok (.aload_n 0, 1) := by decide +kernel
theorem dX5_wet_151 : decode cX5_wet 151 = .ok (.invokevirtual 225, 3) := by decide +kernel
theorem dX5_wet_154 : decode cX5_wet 154 = .ok (.iload_n 2, 1) := by decide +kernel
theorem dX5_wet_155 : decode cX5_wet 155 = .ok (.iconst (-1), 1) := by decide +kernel
theorem dX5_wet_156 : decode cX5_wet 156 = .ok (.if_icmp .ne 7, 3) := by decide +kernel
theorem dX5_wet_159 : decode cX5_wet 159 = .ok (.iload_n 3, 1) := by decide +kernel
theorem dX5_wet_160 : decode cX5_wet 160 = .ok (.goto 5, 3) := by decide +kernel
theorem dX5_wet_163 : decode cX5_wet 163 = .ok (.iload 4, 2) := by decide +kernel
theorem dX5_wet_165 : decode cX5_wet 165 = .ok (.ireturn, 1) := by decide +kernel
theorem dX5_row_0 : decode cX5_row 0 = .ok (.iload_n 1, 1) := by decide +kernel
theorem dX5_row_1 : decode cX5_row 1 = .ok (.iconst 0, 1) := by decide +kernel
theorem dX5_row_2 : decode cX5_row 2 = .ok (.bipush 6, 2) := by decide +kernel
theorem dX5_row_4 : decode cX5_row 4 = .ok (.invokestatic 85, 3) := by decide +kernel
theorem dX5_row_7 : decode cX5_row 7 = .ok (.istore_n 2, 1) := by decide +kernel
theorem dX5_row_8 : decode cX5_row 8 = .ok (.iload_n 2, 1) := by decide +kernel
theorem dX5_row_9 : decode cX5_row 9 = .ok (.ifCond .ne 14, 3) := by decide +kernel
theorem dX5_row_12 : decode cX5_row 12 = .ok (.aload_n 0, 1) := by decide +kernel
theorem dX5_row_13 : decode cX5_row 13 = .ok (.getfield 255, 3) := by decide +kernel
theorem dX5_row_16 : decode cX5_row 16 = .ok (.iconst 5, 1) := by decide +kernel
theorem dX5_row_17 : decode cX5_row 17 = .ok (.if_icmp .ne 6, 3) := by decide +kernel
theorem dX5_row_20 : decode cX5_row 20 = .ok (.bipush (-6), 2) := by decide +kernel
theorem dX5_row_22 : decode cX5_row 22 = .ok (.istore_n 2, 1) := by decide +kernel
theorem dX5_row_23 : decode cX5_row 23 = .ok (.iload_n 2, 1) := by decide +kernel
theorem dX5_row_24 : decode cX5_row 24 = .ok (.ifCond .eq 9, 3) := by decide +kernel
theorem dX5_row_27 : decode cX5_row 27 = .ok (.aload_n 0, 1) := by decide +kernel
theorem dX5_row_28 : decode cX5_row 28 = .ok (.iload_n 2, 1) := by decide +kernel
theorem dX5_row_29 : decode cX5_row 29 = .ok (.invokevirtual 92, 3) := by decide +kernel
theorem dX5_row_32 : decode cX5_row 32 = .ok (.ireturn, 1) := by decide +kernel
theorem dX5_row_33 : decode cX5_row 33 = .ok (.aload_n 0, 1) := by decide +kernel
theorem dX5_row_34 : decode cX5_row 34 = .ok (.getfield 74, 3) := by decide +kernel
theorem dX5_row_37 : decode cX5_row 37 = .ok (.aload_n 0, 1) := by decide +kernel
theorem dX5_row_38 : decode cX5_row 38 = .ok (.getfield 255, 3) := by decide +kernel
theorem dX5_row_41 : decode cX5_row 41 = .ok (.iload_n 1, 1) := by decide +kernel
theorem dX5_row_42 : decode cX5_row 42 = .ok (.iastore, 1) := by decide +kernel
theorem dX5_row_43 : decode cX5_row 43 = .ok (.aload_n 0, 1) := by decide +kernel
theorem dX5_row_44 : decode cX5_row 44 = .ok (.dup, 1) := by decide +kernel
theorem dX5_row_45 : decode cX5_row 45 = .ok (.getfield 255, 3) := by decide +kernel
theorem dX5_row_48 : decode cX5_row 48 = .ok (.iconst 1, 1) := by decide +kernel
theorem dX5_row_49 : decode cX5_row 49 = .ok (.iadd, 1) := by decide +kernel
theorem dX5_row_50 : decode cX5_row 50 = .ok (.putfield 255, 3) := by decide +kernel
theorem dX5_row_53 : decode cX5_row 53 = .ok (.aload_n 0, 1) := by decide +kernel
theorem dX5_row_54 : decode cX5_row 54 = .ok (.getfield 255, 3) := by decide +kernel
theorem dX5_row_57 : decode cX5_row 57 = .ok (.ireturn, 1) := by decide +kernel
theorem dX5_judge_0 : decode cX5_judge 0 = .ok (.aload_n 0, 1) := by decide +kernel
theorem dX5_judge_1 : decode cX5_judge 1 = .ok (.getfield 255, 3) := by decide +kernel
theorem dX5_judge_4 : decode cX5_judge 4 = .ok (.istore_n 1, 1) := by decide +kernel
theorem dX5_judge_5 : decode cX5_judge 5 = .ok (.aload_n 0, 1) := by decide +kernel
theorem dX5_judge_6 : decode cX5_judge 6 = .ok (.iconst 0, 1) := by decide +kernel
theorem dX5_judge_7 : decode cX5_judge 7 = .ok (.putfield 255, 3) := by decide +kernel
theorem dX5_judge_10 : decode cX5_judge 10 = .ok (.iconst 0, 1) := by decide +kernel
theorem dX5_judge_11 : decode cX5_judge 11 = .ok (.istore_n 2, 1) := by decide +kernel
theorem dX5_judge_12 : decode cX5_judge 12 = .ok (.iconst 0, 1) := by decide +kernel
theorem dX5_judge_13 : decode cX5_judge 13 = .ok (.istore_n 3, 1) := by decide +kernel
theorem dX5_judge_14 : decode cX5_judge 14 = .ok (.iload_n 3, 1) := by decide +kernel
theorem dX5_judge_15 : decode cX5_judge 15 = .ok (.iload_n 1, 1) := by decide +kernel
theorem dX5_judge_16 : decode cX5_judge 16 = .ok (.if_icmp .ge 97, 3) := by decide +kernel
theorem dX5_judge_19 : decode cX5_judge 19 = .ok (.aload_n 0, 1) := by decide +kernel
theorem dX5_judge_20 : decode cX5_judge 20 = .ok (.getfield 74, 3) := by decide +kernel
theorem dX5_judge_23 : decode cX5_judge 23 = .ok (.iload_n 3, 1) := by decide +kernel
theorem dX5_judge_24 : decode cX5_judge 24 = .ok (.iaload, 1) := by decide +kernel
theorem dX5_judge_25 : decode cX5_judge 25 = .ok (.istore 4, 2) := by decide +kernel
theorem dX5_judge_27 : decode cX5_judge 27 = .ok (.iload_n 3, 1) := by decide +kernel
theorem dX5_judge_28 : decode cX5_judge 28 = .ok (.aload_n 0, 1) := by decide +kernel
theorem dX5_judge_29 : decode cX5_judge 29 = .ok (.getfield 46, 3) := by decide +kernel
theorem dX5_judge_32 : decode cX5_judge 32 = .ok (.if_icmp .ne 8, 3) := by decide +kernel
theorem dX5_judge_35 : decode cX5_judge 35 = .ok (.aload_n 0, 1) := by decide +kernel
theorem dX5_judge_36 : decode cX5_judge 36 = .ok (.getfield 46, 3) := by decide +kernel
theorem dX5_judge_39 : decode cX5_judge 39 = .ok (.ireturn, 1) := by decide +kernel
theorem dX5_judge_40 : decode cX5_judge 40 = .ok (.aload_n 0, 1) := by decide +kernel
theorem dX5_judge_41 : decode cX5_judge 41 = .ok (.iload 4, 2) := by decide +kernel
theorem dX5_judge_43 : decode cX5_judge 43 = .ok (.invokevirtual 81, 3) := by decide +kernel
theorem dX5_judge_46 : decode cX5_judge 46 = .ok (.ifCond .eq 52, 3) := by decide +kernel
theorem dX5_judge_49 : decode cX5_judge 49 = .ok (.aload_n 0, 1) := by decide +kernel
theorem dX5_judge_50 : decode cX5_judge 50 = .ok (.getfield 37, 3) := by decide +kernel
theorem dX5_judge_53 : decode cX5_judge 53 = .ok (.iload 4, 2) := by decide +kernel
theorem dX5_judge_55 : decode cX5_judge 55 = .ok (.iaload, 1) := by decide +kernel
theorem dX5_judge_56 : decode cX5_judge 56 = .ok (.iconst 1, 1) := by decide +kernel
theorem dX5_judge_57 : decode cX5_judge 57 = .ok (.if_icmp .eq 41, 3) := by decide +kernel
theorem dX5_judge_60 : decode cX5_judge 60 = .ok (.iload_n 2, 1) := by decide +kernel
theorem dX5_judge_61 : decode cX5_judge 61 = .ok (.iload 4, 2) := by decide +kernel
theorem dX5_judge_63 : decode cX5_judge 63 = .ok (.ishr, 1) := by decide +kernel
theorem dX5_judge_64 : decode cX5_judge 64 = .ok (.iconst 1, 1) := by decide +kernel
theorem dX5_judge_65 : decode cX5_judge 65 = .ok (.iand, 1) := by decide +kernel
theorem dX5_judge_66 : decode cX5_judge 66 = .ok (.iconst 1, 1) := by decide +kernel
theorem dX5_judge_67 : decode cX5_judge 67 = .ok (.if_icmp .eq 31, 3) := by decide +kernel
theorem dX5_judge_70 : decode cX5_judge 70 = .ok (.aload_n 0, 1) := by decide +kernel
theorem dX5_judge_71 : decode cX5_judge 71 = .ok (.iload_n 3, 1) := by decide +kernel
theorem dX5_judge_72 : decode cX5_judge 72 = .ok (.iload 4, 2) := by decide +kernel
theorem dX5_judge_74 : decode cX5_judge 74 = .ok (.iload_n 3, 1) := by decide +kernel
theorem dX5_judge_75 : decode cX5_judge 75 = .ok (.ifCond .le 14, 3) := by decide +kernel
theorem dX5_judge_78 : decode cX5_judge 78 = .ok (.aload_n 0, 1) := by decide +kernel
theorem dX5_judge_79 : decode cX5_judge 79 = .ok (.getfield 74, 3) := by decide +kernel
theorem dX5_judge_82 : decode cX5_judge 82 = .ok (.iload_n 3, 1) := by decide +kernel
theorem dX5_judge_83 : decode cX5_judge 83 = .ok (.iconst 1, 1) := by decide +kernel
theorem dX5_judge_84 : decode cX5_judge 84 = .ok (.isub, 1) := by decide +kernel
theorem dX5_judge_85 : decode cX5_judge 85 = .ok (.iaload, 1) := by decide +kernel
theorem dX5_judge_86 : decode cX5_judge 86 = .ok (.goto 5, 3) := by decide +kernel
theorem dX5_judge_89 : decode cX5_judge 89 = .ok (.bipush (-9), 2) := by decide +kernel
theorem dX5_judge_91 : decode cX5_judge 91 = .ok (.invokevirtual 201, 3) := by decide +kernel
theorem dX5_judge_94 : decode cX5_judge 94 = .ok (.iconst (-1), 1) := by decide +kernel
theorem dX5_judge_95 : decode cX5_judge 95 = .ok (.if_icmp .eq 5, 3) := by decide +kernel
theorem dX5_judge_98 : decode cX5_judge 98 = .ok (.iload_n 3, 1) := by decide +kernel
theorem dX5_judge_99 : decode cX5_judge 99 = .ok (.ireturn, 1) := by decide +kernel
theorem dX5_judge_100 : decode cX5_judge 100 = .ok (.iload_n 2, 1) := by decide +kernel
theorem dX5_judge_101 : decode cX5_judge 101 = .ok (.iconst 1, 1) := by decide +kernel
theorem dX5_judge_102 : decode cX5_judge 102 = .ok (.iload 4, 2) := by decide +kernel
theorem dX5_judge_104 : decode cX5_judge 104 = .ok (.ishl, 1) := by decide +kernel
theorem dX5_judge_105 : decode cX5_judge 105 = .ok (.ior, 1) := by decide +kernel
theorem dX5_judge_106 : decode cX5_judge 106 = .ok (.istore_n 2, 1) := by decide +kernel
theorem dX5_judge_107 : decode cX5_judge 107 = .ok (.iinc 3 1, 3) := by decide +kernel
theorem dX5_judge_110 : decode cX5_judge 110 = .ok (.goto (-96), 3) := by decide +kernel
theorem dX5_judge_113 : decode cX5_judge 113 = .ok (.iload_n 1, 1) := by decide +kernel
theorem dX5_judge_114 : decode cX5_judge 114 = .ok (.aload_n 0, 1) := by decide +kernel
theorem dX5_judge_115 : decode cX5_judge 115 = .ok (.getfield 46, 3) := by decide +kernel
theorem dX5_judge_118 : decode cX5_judge 118 = .ok (.if_icmp .ge 7, 3) := by decide +kernel
theorem dX5_judge_121 : decode cX5_judge 121 = .ok (.iload_n 1, 1) := by decide +kernel
theorem dX5_judge_122 : decode cX5_judge 122 = .ok (.goto 5, 3) := by decide +kernel
theorem dX5_judge_125 : decode cX5_judge 125 = .ok (.bipush (-9), 2) := by decide +kernel
theorem dX5_judge_127 : decode cX5_judge 127 = .ok (.ireturn, 1) := by decide +kernel
theorem dX5_seeds_0 : decode cX5_seeds 0 = .ok (.iload_n 1, 1) := by decide +kernel
theorem dX5_seeds_1 : decode cX5_seeds 1 = .ok (.iconst 1, 1) := by decide +kernel
theorem dX5_seeds_2 : decode cX5_seeds 2 = .ok (.bipush 60, 2) := by decide +kernel
theorem dX5_seeds_4 : decode cX5_seeds 4 = .ok (.invokestatic 85, 3) := by decide +kernel
theorem dX5_seeds_7 : decode cX5_seeds 7 = .ok (.istore_n 3, 1) := by decide +kernel
theorem dX5_seeds_8 : decode cX5_seeds 8 = .ok (.iload_n 3, 1) := by decide +kernel
theorem dX5_seeds_9 : decode cX5_seeds 9 = .ok (.ifCond .ne 13, 3) := by decide +kernel
theorem dX5_seeds_12 : decode cX5_seeds 12 = .ok (.aload_n 0, 1) := by decide +kernel
theorem dX5_seeds_13 : decode cX5_seeds 13 = .ok (.getfield 78, 3) := by decide +kernel
theorem dX5_seeds_16 : decode cX5_seeds 16 = .ok (.ifCond .ne 6, 3) := by decide +kernel
theorem dX5_seeds_19 : decode cX5_seeds 19 = .ok (.bipush (-3), 2) := by decide +kernel
theorem dX5_seeds_21 : decode cX5_seeds 21 = .ok (.istore_n 3, 1) := by decide +kernel
theorem dX5_seeds_22 : decode cX5_seeds 22 = .ok (.iload_n 3, 1) := by decide +kernel
theorem dX5_seeds_23 : decode cX5_seeds 23 = .ok (.ifCond .eq 9, 3) := by decide +kernel
theorem dX5_seeds_26 : decode cX5_seeds 26 = .ok (.aload_n 0, 1) := by decide +kernel
theorem dX5_seeds_27 : decode cX5_seeds 27 = .ok (.iload_n 3, 1) := by decide +kernel
theorem dX5_seeds_28 : decode cX5_seeds 28 = .ok (.invokevirtual 92, 3) := by decide +kernel
theorem dX5_seeds_31 : decode cX5_seeds 31 = .ok (.ireturn, 1) := by decide +kernel
theorem dX5_seeds_32 : decode cX5_seeds 32 = .ok (.aload_n 0, 1) := by decide +kernel
theorem dX5_seeds_33 : decode cX5_seeds 33 = .ok (.invokevirtual 219, 3) := by decide +kernel
theorem dX5_seeds_36 : decode cX5_seeds 36 = .ok (.iload_n 2, 1) := by decide +kernel
theorem dX5_seeds_37 : decode cX5_seeds 37 = .ok (.istore 4, 2) := by decide +kernel
theorem dX5_seeds_39 : decode cX5_seeds 39 = .ok (.iconst 0, 1) := by decide +kernel
theorem dX5_seeds_40 : decode cX5_seeds 40 = .ok (.istore 5, 2) := by decide +kernel
theorem dX5_seeds_42 : decode cX5_seeds 42 = .ok (.iconst 0, 1) := by decide +kernel
theorem dX5_seeds_43 : decode cX5_seeds 43 = .ok (.istore 6, 2) := by decide +kernel
theorem dX5_seeds_45 : decode cX5_seeds 45 = .ok (.iload 6, 2) := by decide +kernel
theorem dX5_seeds_47 : decode cX5_seeds 47 = .ok (.iload_n 1, 1) := by decide +kernel
theorem dX5_seeds_48 : decode cX5_seeds 48 = .ok (.if_icmp .ge 85, 3) := by decide +kernel
theorem dX5_seeds_51 : decode cX5_seeds 51 = .ok (.iconst 0, 1) := by decide +kernel
theorem dX5_seeds_52 : decode cX5_seeds 52 = .ok (.istore 7, 2) := by decide +kernel
theorem dX5_seeds_54 : decode cX5_seeds 54 = .ok (.iload 7, 2) := by decide +kernel
theorem dX5_seeds_56 : decode cX5_seeds 56 = .ok (.aload_n 0, 1) := by decide +kernel
theorem dX5_seeds_57 : decode cX5_seeds 57 = .ok (.getfield 46, 3) := by decide +kernel
theorem dX5_seeds_60 : decode cX5_seeds 60 = .ok (.if_icmp .ge 43, 3) := by decide +kernel
theorem dX5_seeds_63 : decode cX5_seeds 63 = .ok (.iload 4, 2) := by decide +kernel
theorem dX5_seeds_65 : decode cX5_seeds 65 = .ok (.ldc_w 258, 3) := by decide +kernel
theorem dX5_seeds_68 : decode cX5_seeds 68 = .ok (.imul, 1) := by decide +kernel
theorem dX5_seeds_69 : decode cX5_seeds 69 = .ok (.sipush 12345, 3) := by decide +kernel
theorem dX5_seeds_72 : decode cX5_seeds 72 = .ok (.iadd, 1) := by decide +kernel
theorem dX5_seeds_73 : decode cX5_seeds 73 = .ok (.istore 4, 2) := by decide +kernel
theorem dX5_seeds_75 : decode cX5_seeds 75 = .ok (.aload_n 0, 1) := by decide +kernel
theorem dX5_seeds_76 : decode cX5_seeds 76 = .ok (.getfield 19, 3) := by decide +kernel
theorem dX5_seeds_79 : decode cX5_seeds 79 = .ok (.iload 7, 2) := by decide +kernel
theorem dX5_seeds_81 : decode cX5_seeds 81 = .ok (.iload 4, 2) := by decide +kernel
theorem dX5_seeds_83 : decode cX5_seeds 83 = .ok (.ldc_w 259, 3) := by decide +kernel
theorem dX5_seeds_86 : decode cX5_seeds 86 = .ok (.iand, 1) := by decide +kernel
theorem dX5_seeds_87 : decode cX5_seeds 87 = .ok (.ldc_w 260, 3) := by decide +kernel
theorem dX5_seeds_90 : decode cX5_seeds 90 = .ok (.idiv, 1) := by decide +kernel
theorem dX5_seeds_91 : decode cX5_seeds 91 = .ok (.aload_n 0, 1) := by decide +kernel
theorem dX5_seeds_92 : decode cX5_seeds 92 = .ok (.getfield 78, 3) := by decide +kernel
theorem dX5_seeds_95 : decode cX5_seeds 95 = .ok (.irem, 1) := by decide +kernel
theorem dX5_seeds_96 : decode cX5_seeds 96 = .ok (.iastore, 1) := by decide +kernel
theorem dX5_seeds_97 : decode cX5_seeds 97 = .ok (.iinc 7 1, 3) := by decide +kernel
theorem dX5_seeds_100 : decode cX5_seeds 100 = .ok (.goto (-46), 3) := by decide +kernel
theorem dX5_seeds_103 : decode cX5_seeds 103 = .ok (.iload 5, 2) := by decide +kernel
theorem dX5_seeds_105 : decode cX5_seeds 105 = .ok (.aload_n 0, 1) := by decide +kernel
theorem dX5_seeds_106 : decode cX5_seeds 106 = .ok (.invokevirtual 216, 3) := by decide +kernel
theorem dX5_seeds_109 : decode cX5_seeds 109 = .ok (.ifCond .eq 14, 3) := by decide +kernel
theorem dX5_seeds_112 : decode cX5_seeds 112 = .ok (.aload_n 0, 1) := by decide +kernel
theorem dX5_seeds_113 : decode cX5_seeds 113 = .ok (.invokevirtual 207, 3) := by decide +kernel
theorem dX5_seeds_116 : decode cX5_seeds 116 = .ok (.ifCond .eq 7, 3) := by decide +kernel
theorem dX5_seeds_119 : decode cX5_seeds 119 = .ok (.iconst 1, 1) := by decide +kernel
theorem dX5_seeds_120 : decode cX5_seeds 120 = .ok (.goto 4, 3) := by decide +kernel
theorem dX5_seeds_123 : decode cX5_seeds 123 = .ok (.iconst 0, 1) := by decide +kernel
theorem dX5_seeds_124 : decode cX5_seeds 124 = .ok (.iadd, 1) := by decide +kernel
theorem dX5_seeds_125 : decode cX5_seeds 125 = .ok (.istore 5, 2) := by decide +kernel
theorem dX5_seeds_127 : decode cX5_seeds 127 = .ok (.iinc 6 1, 3) := by decide +kernel
theorem dX5_seeds_130 : decode cX5_seeds 130 = .ok (.goto (-85), 3) := by decide +kernel
theorem dX5_seeds_133 : decode cX5_seeds 133 = .ok (.aload_n 0, 1) := by decide +kernel
theorem dX5_seeds_134 : decode cX5_seeds 134 = .ok (.invokevirtual 225, 3) := by decide +kernel
theorem dX5_seeds_137 : decode cX5_seeds 137 = .ok (.iload 5, 2) := by decide +kernel
theorem dX5_seeds_139 : decode cX5_seeds 139 = .ok (.ireturn, 1) := by decide +kernel
theorem dX5_sumOf_0 : decode cX5_sumOf 0 = .ok (.iconst 0, 1) := by decide +kernel
theorem dX5_sumOf_1 : decode cX5_sumOf 1 = .ok (.istore_n 2, 1) := by decide +kernel
theorem dX5_sumOf_2 : decode cX5_sumOf 2 = .ok (.iconst 0, 1) := by decide +kernel
theorem dX5_sumOf_3 : decode cX5_sumOf 3 = .ok (.istore_n 3, 1) := by decide +kernel
theorem dX5_sumOf_4 : decode cX5_sumOf 4 = .ok (.iload_n 3, 1) := by decide +kernel
theorem dX5_sumOf_5 : decode cX5_sumOf 5 = .ok (.aload_n 1, 1) := by decide +kernel
theorem dX5_sumOf_6 : decode cX5_sumOf 6 = .ok (.arraylength, 1) := by decide +kernel
theorem dX5_sumOf_7 : decode cX5_sumOf 7 = .ok (.if_icmp .ge 15, 3) := by decide +kernel
theorem dX5_sumOf_10 : decode cX5_sumOf 10 = .ok (.iload_n 2, 1) := by decide +kernel
theorem dX5_sumOf_11 : decode cX5_sumOf 11 = .ok (.aload_n 1, 1) := by decide +kernel
theorem dX5_sumOf_12 : decode cX5_sumOf 12 = .ok (.iload_n 3, 1) := by decide +kernel
theorem dX5_sumOf_13 : decode cX5_sumOf 13 = .ok (.iaload, 1) := by decide +kernel
theorem dX5_sumOf_14 : decode cX5_sumOf 14 = .ok (.iadd, 1) := by decide +kernel
theorem dX5_sumOf_15 : decode cX5_sumOf 15 = .ok (.istore_n 2, 1) := by decide +kernel
theorem dX5_sumOf_16 : decode cX5_sumOf 16 = .ok (.iinc 3 1, 3) := by decide +kernel
theorem dX5_sumOf_19 : decode cX5_sumOf 19 = .ok (.goto (-15), 3) := by decide +kernel
theorem dX5_sumOf_22 : decode cX5_sumOf 22 = .ok (.iload_n 2, 1) := by decide +kernel
theorem dX5_sumOf_23 : decode cX5_sumOf 23 = .ok (.ireturn, 1) := by decide +kernel
theorem dX5_count_0 : decode cX5_count 0 = .ok (.iload_n 1, 1) := by decide +kernel
theorem dX5_count_1 : decode cX5_count 1 = .ok (.bipush 11, 2) := by decide +kernel
theorem dX5_count_3 : decode cX5_count 3 = .ok (.bipush 16, 2) := by decide +kernel
theorem dX5_count_5 : decode cX5_count 5 = .ok (.invokestatic 103, 3) := by decide +kernel
theorem dX5_count_8 : decode cX5_count 8 = .ok (.ifCond .eq 13, 3) := by decide +kernel
theorem dX5_count_11 : decode cX5_count 11 = .ok (.aload_n 0, 1) := by decide +kernel
theorem dX5_count_12 : decode cX5_count 12 = .ok (.getfield 7, 3) := by decide +kernel
theorem dX5_count_15 : decode cX5_count 15 = .ok (.iload_n 1, 1) := by decide +kernel
theorem dX5_count_16 : decode cX5_count 16 = .ok (.bipush 10, 2) := by decide +kernel
theorem dX5_count_18 : decode cX5_count 18 = .ok (.isub, 1) := by decide +kernel
theorem dX5_count_19 : decode cX5_count 19 = .ok (.iaload, 1) := by decide +kernel
theorem dX5_count_20 : decode cX5_count 20 = .ok (.ireturn, 1) := by decide +kernel
theorem dX5_count_21 : decode cX5_count 21 = .ok (.iload_n 1, 1) := by decide +kernel
theorem dX5_count_22 : decode cX5_count 22 = .ok (.tableswitch 114 0 9 #[54, 59, 64, 69, 74, 79, 84, 95, 104, 109], 54) := by decide +kernel
theorem dX5_count_76 : decode cX5_count 76 = .ok (.aload_n 0, 1) := by decide +kernel
theorem dX5_count_77 : decode cX5_count 77 = .ok (.getfield 46, 3) := by decide +kernel
theorem dX5_count_80 : decode cX5_count 80 = .ok (.ireturn, 1) := by decide +kernel
theorem dX5_count_81 : decode cX5_count 81 = .ok (.aload_n 0, 1) := by decide +kernel
theorem dX5_count_82 : decode cX5_count 82 = .ok (.getfield 78, 3) := by decide +kernel
theorem dX5_count_85 : decode cX5_count 85 = .ok (.ireturn, 1) := by decide +kernel
theorem dX5_count_86 : decode cX5_count 86 = .ok (.aload_n 0, 1) := by decide +kernel
theorem dX5_count_87 : decode cX5_count 87 = .ok (.getfield 50, 3) := by decide +kernel
theorem dX5_count_90 : decode cX5_count 90 = .ok (.ireturn, 1) := by decide +kernel
theorem dX5_count_91 : decode cX5_count 91 = .ok (.aload_n 0, 1) := by decide +kernel
theorem dX5_count_92 : decode cX5_count 92 = .ok (.getfield 161, 3) := by decide +kernel
theorem dX5_count_95 : decode cX5_count 95 = .ok (.ireturn, 1) := by decide +kernel
theorem dX5_count_96 : decode cX5_count 96 = .ok (.aload_n 0, 1) := by decide +kernel
theorem dX5_count_97 : decode cX5_count 97 = .ok (.invokevirtual 176, 3) := by decide +kernel
theorem dX5_count_100 : decode cX5_count 100 = .ok (.ireturn, 1) := by decide +kernel
theorem dX5_count_101 : decode cX5_count 101 = .ok (.aload_n 0, 1) := by decide +kernel
theorem dX5_count_102 : decode cX5_count 102 = .ok (.invokevirtual 179, 3) := by decide +kernel
theorem dX5_count_105 : decode cX5_count 105 = .ok (.ireturn, 1) := by decide +kernel
theorem dX5_count_106 : decode cX5_count 106 = .ok (.aload_n 0, 1) := by decide +kernel
theorem dX5_count_107 : decode cX5_count 107 = .ok (.aload_n 0, 1) := by decide +kernel
theorem dX5_count_108 : decode cX5_count 108 = .ok (.getfield 40, 3) := by decide +kernel
theorem dX5_count_111 : decode cX5_count 111 = .ok (.invokevirtual 261, 3) := by decide +kernel
theorem dX5_count_114 : decode cX5_count 114 = .ok (.iconst 2, 1) := by decide +kernel
theorem dX5_count_115 : decode cX5_count 115 = .ok (.idiv, 1) := by decide +kernel
theorem dX5_count_116 : decode cX5_count 116 = .ok (.ireturn, 1) := by decide +kernel
theorem dX5_count_117 : decode cX5_count 117 = .ok (.aload_n 0, 1) := by decide +kernel
theorem dX5_count_118 : decode cX5_count 118 = .ok (.aload_n 0, 1) := by decide +kernel
theorem dX5_count_119 : decode cX5_count 119 = .ok (.getfield 43, 3) := by decide +kernel
theorem dX5_count_122 : decode cX5_count 122 = .ok (.invokevirtual 261, 3) := by decide +kernel
theorem dX5_count_125 : decode cX5_count 125 = .ok (.ireturn, 1) := by decide +kernel
theorem dX5_count_126 : decode cX5_count 126 = .ok (.aload_n 0, 1) := by decide +kernel
theorem dX5_count_127 : decode cX5_count 127 = .ok (.getfield 89, 3) := by decide +kernel
theorem dX5_count_130 : decode cX5_count 130 = .ok (.ireturn, 1) := by decide +kernel
theorem dX5_count_131 : decode cX5_count 131 = .ok (.aload_n 0, 1) := by decide +kernel
theorem dX5_count_132 : decode cX5_count 132 = .ok (.getfield 255, 3) := by decide +kernel
theorem dX5_count_135 : decode cX5_count 135 = .ok (.ireturn, 1) := by decide +kernel
theorem dX5_count_136 : decode cX5_count 136 = .ok (.bipush (-9), 2) := by decide +kernel
theorem dX5_count_138 : decode cX5_count 138 = .ok (.ireturn, 1) := by decide +kernel
theorem dJ6_bitCount_0f7a4_0 : decode cJ6_bitCount_0f7a4 0 = .ok (.iload_n 0, 1) := by decide +kernel
theorem dJ6_bitCount_0f7a4_1 : decode cJ6_bitCount_0f7a4 1 = .ok (.iload_n 0, 1) := by decide +kernel
theorem dJ6_bitCount_0f7a4_2 : decode cJ6_bitCount_0f7a4 2 = .ok (.iconst 1, 1) := by decide +kernel
theorem dJ6_bitCount_0f7a4_3 : decode cJ6_bitCount_0f7a4 3 = .ok (.iushr, 1) := by decide +kernel
theorem dJ6_bitCount_0f7a4_4 : decode cJ6_bitCount_0f7a4 4 = .ok (.ldc_w 265, 3) := by decide +kernel
theorem dJ6_bitCount_0f7a4_7 : decode cJ6_bitCount_0f7a4 7 = .ok (.iand, 1) := by decide +kernel
theorem dJ6_bitCount_0f7a4_8 : decode cJ6_bitCount_0f7a4 8 = .ok (.isub, 1) := by decide +kernel
theorem dJ6_bitCount_0f7a4_9 : decode cJ6_bitCount_0f7a4 9 = .ok (.istore_n 0, 1) := by decide +kernel
theorem dJ6_bitCount_0f7a4_10 : decode cJ6_bitCount_0f7a4 10 = .ok (.iload_n 0, 1) := by decide +kernel
theorem dJ6_bitCount_0f7a4_11 : decode cJ6_bitCount_0f7a4 11 = .ok (.ldc_w 266, 3) := by decide +kernel
theorem dJ6_bitCount_0f7a4_14 : decode cJ6_bitCount_0f7a4 14 = .ok (.iand, 1) := by decide +kernel
theorem dJ6_bitCount_0f7a4_15 : decode cJ6_bitCount_0f7a4 15 = .ok (.iload_n 0, 1) := by decide +kernel
theorem dJ6_bitCount_0f7a4_16 : decode cJ6_bitCount_0f7a4 16 = .ok (.iconst 2, 1) := by decide +kernel
theorem dJ6_bitCount_0f7a4_17 : decode cJ6_bitCount_0f7a4 17 = .ok (.iushr, 1) := by decide +kernel
theorem dJ6_bitCount_0f7a4_18 : decode cJ6_bitCount_0f7a4 18 = .ok (.ldc_w 266, 3) := by decide +kernel
theorem dJ6_bitCount_0f7a4_21 : decode cJ6_bitCount_0f7a4 21 = .ok (.iand, 1) := by decide +kernel
theorem dJ6_bitCount_0f7a4_22 : decode cJ6_bitCount_0f7a4 22 = .ok (.iadd, 1) := by decide +kernel
theorem dJ6_bitCount_0f7a4_23 : decode cJ6_bitCount_0f7a4 23 = .ok (.istore_n 0, 1) := by decide +kernel
theorem dJ6_bitCount_0f7a4_24 : decode cJ6_bitCount_0f7a4 24 = .ok (.iload_n 0, 1) := by decide +kernel
theorem dJ6_bitCount_0f7a4_25 : decode cJ6_bitCount_0f7a4 25 = .ok (.iload_n 0, 1) := by decide +kernel
theorem dJ6_bitCount_0f7a4_26 : decode cJ6_bitCount_0f7a4 26 = .ok (.iconst 4, 1) := by decide +kernel
theorem dJ6_bitCount_0f7a4_27 : decode cJ6_bitCount_0f7a4 27 = .ok (.iushr, 1) := by decide +kernel
theorem dJ6_bitCount_0f7a4_28 : decode cJ6_bitCount_0f7a4 28 = .ok (.iadd, 1) := by decide +kernel
theorem dJ6_bitCount_0f7a4_29 : decode cJ6_bitCount_0f7a4 29 = .ok (.ldc_w 267, 3) := by decide +kernel
theorem dJ6_bitCount_0f7a4_32 : decode cJ6_bitCount_0f7a4 32 = .ok (.iand, 1) := by decide +kernel
theorem dJ6_bitCount_0f7a4_33 : decode cJ6_bitCount_0f7a4 33 = .ok (.istore_n 0, 1) := by decide +kernel
theorem dJ6_bitCount_0f7a4_34 : decode cJ6_bitCount_0f7a4 34 = .ok (.iload_n 0, 1) := by decide +kernel
theorem dJ6_bitCount_0f7a4_35 : decode cJ6_bitCount_0f7a4 35 = .ok (.iload_n 0, 1) := by decide +kernel
theorem dJ6_bitCount_0f7a4_36 : decode cJ6_bitCount_0f7a4 36 = .ok (.bipush 8, 2) := by decide +kernel
theorem dJ6_bitCount_0f7a4_38 : decode cJ6_bitCount_0f7a4 38 = .ok (.iushr, 1) := by decide +kernel
theorem dJ6_bitCount_0f7a4_39 : decode cJ6_bitCount_0f7a4 39 = .ok (.iadd, 1) := by decide +kernel
theorem dJ6_bitCount_0f7a4_40 : decode cJ6_bitCount_0f7a4 40 = .ok (.istore_n 0, 1) := by decide +kernel
theorem dJ6_bitCount_0f7a4_41 : decode cJ6_bitCount_0f7a4 41 = .ok (.iload_n 0, 1) := by decide +kernel
theorem dJ6_bitCount_0f7a4_42 : decode cJ6_bitCount_0f7a4 42 = .ok (.iload_n 0, 1) := by decide +kernel
theorem dJ6_bitCount_0f7a4_43 : decode cJ6_bitCount_0f7a4 43 = .ok (.bipush 16, 2) := by decide +kernel
theorem dJ6_bitCount_0f7a4_45 : decode cJ6_bitCount_0f7a4 45 = .ok (.iushr, 1) := by decide +kernel
theorem dJ6_bitCount_0f7a4_46 : decode cJ6_bitCount_0f7a4 46 = .ok (.iadd, 1) := by decide +kernel
theorem dJ6_bitCount_0f7a4_47 : decode cJ6_bitCount_0f7a4 47 = .ok (.istore_n 0, 1) := by decide +kernel
theorem dJ6_bitCount_0f7a4_48 : decode cJ6_bitCount_0f7a4 48 = .ok (.iload_n 0, 1) := by decide +kernel
theorem dJ6_bitCount_0f7a4_49 : decode cJ6_bitCount_0f7a4 49 = .ok (.bipush 63, 2) := by decide +kernel
theorem dJ6_bitCount_0f7a4_51 : decode cJ6_bitCount_0f7a4 51 = .ok (.iand, 1) := by decide +kernel
theorem dJ6_bitCount_0f7a4_52 : decode cJ6_bitCount_0f7a4 52 = .ok (.ireturn, 1) := by decide +kernel
theorem dJ9_max_7cf53_0 : decode cJ9_max_7cf53 0 = .ok (.iload_n 0, 1) := by decide +kernel
theorem dJ9_max_7cf53_1 : decode cJ9_max_7cf53 1 = .ok (.iload_n 1, 1) := by decide +kernel
theorem dJ9_max_7cf53_2 : decode cJ9_max_7cf53 2 = .ok (.if_icmp .lt 7, 3) := by decide +kernel
theorem dJ9_max_7cf53_5 : decode cJ9_max_7cf53 5 = .ok (.iload_n 0, 1) := by decide +kernel
theorem dJ9_max_7cf53_6 : decode cJ9_max_7cf53 6 = .ok (.goto 4, 3) := by decide +kernel
theorem dJ9_max_7cf53_9 : decode cJ9_max_7cf53 9 = .ok (.iload_n 1, 1) := by decide +kernel
theorem dJ9_max_7cf53_10 : decode cJ9_max_7cf53 10 = .ok (.ireturn, 1) := by decide +kernel
theorem dJ9_min_7cf53_0 : decode cJ9_min_7cf53 0 = .ok (.iload_n 0, 1) := by decide +kernel
theorem dJ9_min_7cf53_1 : decode cJ9_min_7cf53 1 = .ok (.iload_n 1, 1) := by decide +kernel
theorem dJ9_min_7cf53_2 : decode cJ9_min_7cf53 2 = .ok (.if_icmp .gt 7, 3) := by decide +kernel
theorem dJ9_min_7cf53_5 : decode cJ9_min_7cf53 5 = .ok (.iload_n 0, 1) := by decide +kernel
theorem dJ9_min_7cf53_6 : decode cJ9_min_7cf53 6 = .ok (.goto 4, 3) := by decide +kernel
theorem dJ9_min_7cf53_9 : decode cJ9_min_7cf53 9 = .ok (.iload_n 1, 1) := by decide +kernel
theorem dJ9_min_7cf53_10 : decode cJ9_min_7cf53 10 = .ok (.ireturn, 1) := by decide +kernel
theorem dL_law_0 : decode cL_law 0 = .ok (.new 7, 3) := by decide +kernel
theorem dL_law_3 : decode cL_law 3 = .ok (.dup, 1) := by decide +kernel
theorem dL_law_4 : decode cL_law 4 = .ok (.invokespecial 9, 3) := by decide +kernel
theorem dL_law_7 : decode cL_law 7 = .ok (.astore_n 1, 1) := by decide +kernel
theorem dL_law_8 : decode cL_law 8 = .ok (.new 10, 3) := by decide +kernel
theorem dL_law_11 : decode cL_law 11 = .ok (.dup, 1) := by decide +kernel
theorem dL_law_12 : decode cL_law 12 = .ok (.invokespecial 12, 3) := by decide +kernel
theorem dL_law_15 : decode cL_law 15 = .ok (.astore_n 2, 1) := by decide +kernel
theorem dL_law_16 : decode cL_law 16 = .ok (.iconst 0, 1) := by decide +kernel
theorem dL_law_17 : decode cL_law 17 = .ok (.istore_n 3, 1) := by decide +kernel
theorem dL_law_18 : decode cL_law 18 = .ok (.iload_n 3, 1) := by decide +kernel
theorem dL_law_19 : decode cL_law 19 = .ok (.aload_n 0, 1) := by decide +kernel
theorem dL_law_20 : decode cL_law 20 = .ok (.arraylength, 1) := by decide +kernel
theorem dL_law_21 : decode cL_law 21 = .ok (.iconst 4, 1) := by decide +kernel
theorem dL_law_22 : decode cL_law 22 = .ok (.isub, 1) := by decide +kernel
theorem dL_law_23 : decode cL_law 23 = .ok (.if_icmp .gt 821, 3) := by decide +kernel
theorem dL_law_26 : decode cL_law 26 = .ok (.aload_n 0, 1) := by decide +kernel
theorem dL_law_27 : decode cL_law 27 = .ok (.iload_n 3, 1) := by decide +kernel
theorem dL_law_28 : decode cL_law 28 = .ok (.iaload, 1) := by decide +kernel
theorem dL_law_29 : decode cL_law 29 = .ok (.bipush 31, 2) := by decide +kernel
theorem dL_law_31 : decode cL_law 31 = .ok (.iand, 1) := by decide +kernel
theorem dL_law_32 : decode cL_law 32 = .ok (.tableswitch 806 0 29 #[136, 159, 172, 205, 238, 271, 314, 337, 370, 383, 406, 429, 442, 465, 478, 501, 514, 547, 560, 573, 586, 619, 642, 655, 688, 711, 724, 757, 770, 783], 136) := by decide +kernel
theorem dL_law_168 : decode cL_law 168 = .ok (.aload_n 1, 1) := by decide +kernel
theorem dL_law_169 : decode cL_law 169 = .ok (.aload_n 0, 1) := by decide +kernel
theorem dL_law_170 : decode cL_law 170 = .ok (.iload_n 3, 1) := by decide +kernel
theorem dL_law_171 : decode cL_law 171 = .ok (.iconst 1, 1) := by decide +kernel
theorem dL_law_172 : decode cL_law 172 = .ok (.iadd, 1) := by decide +kernel
theorem dL_law_173 : decode cL_law 173 = .ok (.iaload, 1) := by decide +kernel
theorem dL_law_174 : decode cL_law 174 = .ok (.invokevirtual 13, 3) := by decide +kernel
theorem dL_law_177 : decode cL_law 177 = .ok (.aload_n 2, 1) := by decide +kernel
theorem dL_law_178 : decode cL_law 178 = .ok (.aload_n 0, 1) := by decide +kernel
theorem dL_law_179 : decode cL_law 179 = .ok (.iload_n 3, 1) := by decide +kernel
theorem dL_law_180 : decode cL_law 180 = .ok (.iconst 1, 1) := by decide +kernel
theorem dL_law_181 : decode cL_law 181 = .ok (.iadd, 1) := by decide +kernel
theorem dL_law_182 : decode cL_law 182 = .ok (.iaload, 1) := by decide +kernel
theorem dL_law_183 : decode cL_law 183 = .ok (.invokevirtual 17, 3) := by decide +kernel
theorem dL_law_186 : decode cL_law 186 = .ok (.if_icmp .eq 652, 3) := by decide +kernel
theorem dL_law_189 : decode cL_law 189 = .ok (.iconst 0, 1) := by decide +kernel
theorem dL_law_190 : decode cL_law 190 = .ok (.ireturn, 1) := by decide +kernel
theorem dL_law_191 : decode cL_law 191 = .ok (.aload_n 1, 1) := by decide +kernel
theorem dL_law_192 : decode cL_law 192 = .ok (.invokevirtual 18, 3) := by decide +kernel
theorem dL_law_195 : decode cL_law 195 = .ok (.aload_n 2, 1) := by decide +kernel
theorem dL_law_196 : decode cL_law 196 = .ok (.invokevirtual 22, 3) := by decide +kernel
theorem dL_law_199 : decode cL_law 199 = .ok (.if_icmp .eq 639, 3) := by decide +kernel
theorem dL_law_202 : decode cL_law 202 = .ok (.iconst 0, 1) := by decide +kernel
theorem dL_law_203 : decode cL_law 203 = .ok (.ireturn, 1) := by decide +kernel
theorem dL_law_204 : decode cL_law 204 = .ok (.aload_n 1, 1) := by decide +kernel
theorem dL_law_205 : decode cL_law 205 = .ok (.aload_n 0, 1) := by decide +kernel
theorem dL_law_206 : decode cL_law 206 = .ok (.iload_n 3, 1) := by decide +kernel
theorem dL_law_207 : decode cL_law 207 = .ok (.iconst 1, 1) := by decide +kernel
theorem dL_law_208 : decode cL_law 208 = .ok (.iadd, 1) := by decide +kernel
theorem dL_law_209 : decode cL_law 209 = .ok (.iaload, 1) := by decide +kernel
theorem dL_law_210 : decode cL_law 210 = .ok (.aload_n 0, 1) := by decide +kernel
theorem dL_law_211 : decode cL_law 211 = .ok (.iload_n 3, 1) := by decide +kernel
theorem dL_law_212 : decode cL_law 212 = .ok (.iconst 2, 1) := by decide +kernel
theorem dL_law_213 : decode cL_law 213 = .ok (.iadd, 1) := by decide +kernel
theorem dL_law_214 : decode cL_law 214 = .ok (.iaload, 1) := by decide +kernel
theorem dL_law_215 : decode cL_law 215 = .ok (.invokevirtual 23, 3) := by decide +kernel
theorem dL_law_218 : decode cL_law 218 = .ok (.aload_n 2, 1) := by decide +kernel
theorem dL_law_219 : decode cL_law 219 = .ok (.aload_n 0, 1) := by decide +kernel
theorem dL_law_220 : decode cL_law 220 = .ok (.iload_n 3, 1) := by decide +kernel
theorem dL_law_221 : decode cL_law 221 = .ok (.iconst 1, 1) := by decide +kernel
theorem dL_law_222 : decode cL_law 222 = .ok (.iadd, 1) := by decide +kernel
theorem dL_law_223 : decode cL_law 223 = .ok (.iaload, 1) := by decide +kernel
theorem dL_law_224 : decode cL_law 224 = .ok (.aload_n 0, 1) := by decide +kernel
theorem dL_law_225 : decode cL_law 225 = .ok (.iload_n 3, 1) := by decide +kernel
theorem dL_law_226 : decode cL_law 226 = .ok (.iconst 2, 1) := by decide +kernel
theorem dL_law_227 : decode cL_law 227 = .ok (.iadd, 1) := by decide +kernel
theorem dL_law_228 : decode cL_law 228 = .ok (.iaload, 1) := by decide +kernel
theorem dL_law_229 : decode cL_law 229 = .ok (.invokevirtual 27, 3) := by decide +kernel
theorem dL_law_232 : decode cL_law 232 = .ok (.if_icmp .eq 606, 3) := by decide +kernel
theorem dL_law_235 : decode cL_law 235 = .ok (.iconst 0, 1) := by decide +kernel
theorem dL_law_236 : decode cL_law 236 = .ok (.ireturn, 1) := by decide +kernel
theorem dL_law_237 : decode cL_law 237 = .ok (.aload_n 1, 1) := by decide +kernel
theorem dL_law_238 : decode cL_law 238 = .ok (.aload_n 0, 1) := by decide +kernel
theorem dL_law_239 : decode cL_law 239 = .ok (.iload_n 3, 1) := by decide +kernel
theorem dL_law_240 : decode cL_law 240 = .ok (.iconst 1, 1) := by decide +kernel
theorem dL_law_241 : decode cL_law 241 = .ok (.iadd, 1) := by decide +kernel
theorem dL_law_242 : decode cL_law 242 = .ok (.iaload, 1) := by decide +kernel
theorem dL_law_243 : decode cL_law 243 = .ok (.aload_n 0, 1) := by decide +kernel
theorem dL_law_244 : decode cL_law 244 = .ok (.iload_n 3, 1) := by decide +kernel
theorem dL_law_245 : decode cL_law 245 = .ok (.iconst 2, 1) := by decide +kernel
theorem dL_law_246 : decode cL_law 246 = .ok (.iadd, 1) := by decide +kernel
theorem dL_law_247 : decode cL_law 247 = .ok (.iaload, 1) := by decide +kernel
theorem dL_law_248 : decode cL_law 248 = .ok (.invokevirtual 28, 3) := by decide +kernel
theorem dL_law_251 : decode cL_law 251 = .ok (.aload_n 2, 1) := by decide +kernel
theorem dL_law_252 : decode cL_law 252 = .ok (.aload_n 0, 1) := by decide +kernel
theorem dL_law_253 : decode cL_law 253 = .ok (.iload_n 3, 1) := by decide +kernel
theorem dL_law_254 : decode cL_law 254 = .ok (.iconst 1, 1) := by decide +kernel
theorem dL_law_255 : decode cL_law 255 = .ok (.iadd, 1) := by decide +kernel
theorem dL_law_256 : decode cL_law 256 = .ok (.iaload, 1) := by decide +kernel
theorem dL_law_257 : decode cL_law 257 = .ok (.aload_n 0, 1) := by decide +kernel
theorem dL_law_258 : decode cL_law 258 = .ok (.iload_n 3, 1) := by decide +kernel
theorem dL_law_259 : decode cL_law 259 = .ok (.iconst 2, 1) := by decide +kernel
theorem dL_law_260 : decode cL_law 260 = .ok (.iadd, 1) := by decide +kernel
theorem dL_law_261 : decode cL_law 261 = .ok (.iaload, 1) := by decide +kernel
theorem dL_law_262 : decode cL_law 262 = .ok (.invokevirtual 31, 3) := by decide +kernel
theorem dL_law_265 : decode cL_law 265 = .ok (.if_icmp .eq 573, 3) := by decide +kernel
theorem dL_law_268 : decode cL_law 268 = .ok (.iconst 0, 1) := by decide +kernel
theorem dL_law_269 : decode cL_law 269 = .ok (.ireturn, 1) := by decide +kernel
theorem dL_law_270 : decode cL_law 270 = .ok (.aload_n 1, 1) := by decide +kernel
theorem dL_law_271 : decode cL_law 271 = .ok (.aload_n 0, 1) := by decide +kernel
theorem dL_law_272 : decode cL_law 272 = .ok (.iload_n 3, 1) := by decide +kernel
theorem dL_law_273 : decode cL_law 273 = .ok (.iconst 1, 1) := by decide +kernel
theorem dL_law_274 : decode cL_law 274 = .ok (.iadd, 1) := by decide +kernel
theorem dL_law_275 : decode cL_law 275 = .ok (.iaload, 1) := by decide +kernel
theorem dL_law_276 : decode cL_law 276 = .ok (.aload_n 0, 1) := by decide +kernel
theorem dL_law_277 : decode cL_law 277 = .ok (.iload_n 3, 1) := by decide +kernel
theorem dL_law_278 : decode cL_law 278 = .ok (.iconst 2, 1) := by decide +kernel
theorem dL_law_279 : decode cL_law 279 = .ok (.iadd, 1) := by decide +kernel
theorem dL_law_280 : decode cL_law 280 = .ok (.iaload, 1) := by decide +kernel
theorem dL_law_281 : decode cL_law 281 = .ok (.invokevirtual 32, 3) := by decide +kernel
theorem dL_law_284 : decode cL_law 284 = .ok (.aload_n 2, 1) := by decide +kernel
theorem dL_law_285 : decode cL_law 285 = .ok (.aload_n 0, 1) := by decide +kernel
theorem dL_law_286 : decode cL_law 286 = .ok (.iload_n 3, 1) := by decide +kernel
theorem dL_law_287 : decode cL_law 287 = .ok (.iconst 1, 1) := by decide +kernel
theorem dL_law_288 : decode cL_law 288 = .ok (.iadd, 1) := by decide +kernel
theorem dL_law_289 : decode cL_law 289 = .ok (.iaload, 1) := by decide +kernel
theorem dL_law_290 : decode cL_law 290 = .ok (.aload_n 0, 1) := by decide +kernel
theorem dL_law_291 : decode cL_law 291 = .ok (.iload_n 3, 1) := by decide +kernel
theorem dL_law_292 : decode cL_law 292 = .ok (.iconst 2, 1) := by decide +kernel
theorem dL_law_293 : decode cL_law 293 = .ok (.iadd, 1) := by decide +kernel
theorem dL_law_294 : decode cL_law 294 = .ok (.iaload, 1) := by decide +kernel
theorem dL_law_295 : decode cL_law 295 = .ok (.invokevirtual 35, 3) := by decide +kernel
theorem dL_law_298 : decode cL_law 298 = .ok (.if_icmp .eq 540, 3) := by decide +kernel
theorem dL_law_301 : decode cL_law 301 = .ok (.iconst 0, 1) := by decide +kernel
theorem dL_law_302 : decode cL_law 302 = .ok (.ireturn, 1) := by decide +kernel
theorem dL_law_303 : decode cL_law 303 = .ok (.aload_n 1, 1) := by decide +kernel
theorem dL_law_304 : decode cL_law 304 = .ok (.aload_n 0, 1) := by decide +kernel
theorem dL_law_305 : decode cL_law 305 = .ok (.iload_n 3, 1) := by decide +kernel
theorem dL_law_306 : decode cL_law 306 = .ok (.iconst 1, 1) := by decide +kernel
theorem dL_law_307 : decode cL_law 307 = .ok (.iadd, 1) := by decide +kernel
theorem dL_law_308 : decode cL_law 308 = .ok (.iaload, 1) := by decide +kernel
theorem dL_law_309 : decode cL_law 309 = .ok (.aload_n 0, 1) := by decide +kernel
theorem dL_law_310 : decode cL_law 310 = .ok (.iload_n 3, 1) := by decide +kernel
theorem dL_law_311 : decode cL_law 311 = .ok (.iconst 2, 1) := by decide +kernel
theorem dL_law_312 : decode cL_law 312 = .ok (.iadd, 1) := by decide +kernel
theorem dL_law_313 : decode cL_law 313 = .ok (.iaload, 1) := by decide +kernel
theorem dL_law_314 : decode cL_law 314 = .ok (.aload_n 0, 1) := by decide +kernel
theorem dL_law_315 : decode cL_law 315 = .ok (.iload_n 3, 1) := by decide +kernel
theorem dL_law_316 : decode cL_law 316 = .ok (.iconst 3, 1) := by decide +kernel
theorem dL_law_317 : decode cL_law 317 = .ok (.iadd, 1) := by decide +kernel
theorem dL_law_318 : decode cL_law 318 = .ok (.iaload, 1) := by decide +kernel
theorem dL_law_319 : decode cL_law 319 = .ok (.invokevirtual 36, 3) := by decide +kernel
theorem dL_law_322 : decode cL_law 322 = .ok (.aload_n 2, 1) := by decide +kernel
theorem dL_law_323 : decode cL_law 323 = .ok (.aload_n 0, 1) := by decide +kernel
theorem dL_law_324 : decode cL_law 324 = .ok (.iload_n 3, 1) := by decide +kernel
theorem dL_law_325 : decode cL_law 325 = .ok (.iconst 1, 1) := by decide +kernel
theorem dL_law_326 : decode cL_law 326 = .ok (.iadd, 1) := by decide +kernel
theorem dL_law_327 : decode cL_law 327 = .ok (.iaload, 1) := by decide +kernel
theorem dL_law_328 : decode cL_law 328 = .ok (.aload_n 0, 1) := by decide +kernel
theorem dL_law_329 : decode cL_law 329 = .ok (.iload_n 3, 1) := by decide +kernel
theorem dL_law_330 : decode cL_law 330 = .ok (.iconst 2, 1) := by decide +kernel
theorem dL_law_331 : decode cL_law 331 = .ok (.iadd, 1) := by decide +kernel
theorem dL_law_332 : decode cL_law 332 = .ok (.iaload, 1) := by decide +kernel
theorem dL_law_333 : decode cL_law 333 = .ok (.aload_n 0, 1) := by decide +kernel
theorem dL_law_334 : decode cL_law 334 = .ok (.iload_n 3, 1) := by decide +kernel
theorem dL_law_335 : decode cL_law 335 = .ok (.iconst 3, 1) := by decide +kernel
theorem dL_law_336 : decode cL_law 336 = .ok (.iadd, 1) := by decide +kernel
theorem dL_law_337 : decode cL_law 337 = .ok (.iaload, 1) := by decide +kernel
theorem dL_law_338 : decode cL_law 338 = .ok (.invokevirtual 40, 3) := by decide +kernel
theorem dL_law_341 : decode cL_law 341 = .ok (.if_icmp .eq 497, 3) := by decide +kernel
theorem dL_law_344 : decode cL_law 344 = .ok (.iconst 0, 1) := by decide +kernel
theorem dL_law_345 : decode cL_law 345 = .ok (.ireturn, 1) := by decide +kernel
theorem dL_law_346 : decode cL_law 346 = .ok (.aload_n 1, 1) := by decide +kernel
theorem dL_law_347 : decode cL_law 347 = .ok (.aload_n 0, 1) := by decide +kernel
theorem dL_law_348 : decode cL_law 348 = .ok (.iload_n 3, 1) := by decide +kernel
theorem dL_law_349 : decode cL_law 349 = .ok (.iconst 1, 1) := by decide +kernel
theorem dL_law_350 : decode cL_law 350 = .ok (.iadd, 1) := by decide +kernel
theorem dL_law_351 : decode cL_law 351 = .ok (.iaload, 1) := by decide +kernel
theorem dL_law_352 : decode cL_law 352 = .ok (.invokevirtual 41, 3) := by decide +kernel
theorem dL_law_355 : decode cL_law 355 = .ok (.aload_n 2, 1) := by decide +kernel
theorem dL_law_356 : decode cL_law 356 = .ok (.aload_n 0, 1) := by decide +kernel
theorem dL_law_357 : decode cL_law 357 = .ok (.iload_n 3, 1) := by decide +kernel
theorem dL_law_358 : decode cL_law 358 = .ok (.iconst 1, 1) := by decide +kernel
theorem dL_law_359 : decode cL_law 359 = .ok (.iadd, 1) := by decide +kernel
theorem dL_law_360 : decode cL_law 360 = .ok (.iaload, 1) := by decide +kernel
theorem dL_law_361 : decode cL_law 361 = .ok (.invokevirtual 44, 3) := by decide +kernel
theorem dL_law_364 : decode cL_law 364 = .ok (.if_icmp .eq 474, 3) := by decide +kernel
theorem dL_law_367 : decode cL_law 367 = .ok (.iconst 0, 1) := by decide +kernel
theorem dL_law_368 : decode cL_law 368 = .ok (.ireturn, 1) := by decide +kernel
theorem dL_law_369 : decode cL_law 369 = .ok (.aload_n 1, 1) := by decide +kernel
theorem dL_law_370 : decode cL_law 370 = .ok (.aload_n 0, 1) := by decide +kernel
theorem dL_law_371 : decode cL_law 371 = .ok (.iload_n 3, 1) := by decide +kernel
theorem dL_law_372 : decode cL_law 372 = .ok (.iconst 1, 1) := by decide +kernel
theorem dL_law_373 : decode cL_law 373 = .ok (.iadd, 1) := by decide +kernel
theorem dL_law_374 : decode cL_law 374 = .ok (.iaload, 1) := by decide +kernel
theorem dL_law_375 : decode cL_law 375 = .ok (.aload_n 0, 1) := by decide +kernel
theorem dL_law_376 : decode cL_law 376 = .ok (.iload_n 3, 1) := by decide +kernel
theorem dL_law_377 : decode cL_law 377 = .ok (.iconst 2, 1) := by decide +kernel
theorem dL_law_378 : decode cL_law 378 = .ok (.iadd, 1) := by decide +kernel
theorem dL_law_379 : decode cL_law 379 = .ok (.iaload, 1) := by decide +kernel
theorem dL_law_380 : decode cL_law 380 = .ok (.invokevirtual 45, 3) := by decide +kernel
theorem dL_law_383 : decode cL_law 383 = .ok (.aload_n 2, 1) := by decide +kernel
theorem dL_law_384 : decode cL_law 384 = .ok (.aload_n 0, 1) := by decide +kernel
theorem dL_law_385 : decode cL_law 385 = .ok (.iload_n 3, 1) := by decide +kernel
theorem dL_law_386 : decode cL_law 386 = .ok (.iconst 1, 1) := by decide +kernel
theorem dL_law_387 : decode cL_law 387 = .ok (.iadd, 1) := by decide +kernel
theorem dL_law_388 : decode cL_law 388 = .ok (.iaload, 1) := by decide +kernel
theorem dL_law_389 : decode cL_law 389 = .ok (.aload_n 0, 1) := by decide +kernel
theorem dL_law_390 : decode cL_law 390 = .ok (.iload_n 3, 1) := by decide +kernel
theorem dL_law_391 : decode cL_law 391 = .ok (.iconst 2, 1) := by decide +kernel
theorem dL_law_392 : decode cL_law 392 = .ok (.iadd, 1) := by decide +kernel
theorem dL_law_393 : decode cL_law 393 = .ok (.iaload, 1) := by decide +kernel
theorem dL_law_394 : decode cL_law 394 = .ok (.invokevirtual 48, 3) := by decide +kernel
theorem dL_law_397 : decode cL_law 397 = .ok (.if_icmp .eq 441, 3) := by decide +kernel
theorem dL_law_400 : decode cL_law 400 = .ok (.iconst 0, 1) := by decide +kernel
theorem dL_law_401 : decode cL_law 401 = .ok (.ireturn, 1) := by decide +kernel
theorem dL_law_402 : decode cL_law 402 = .ok (.aload_n 1, 1) := by decide +kernel
theorem dL_law_403 : decode cL_law 403 = .ok (.invokevirtual 49, 3) := by decide +kernel
theorem dL_law_406 : decode cL_law 406 = .ok (.aload_n 2, 1) := by decide +kernel
theorem dL_law_407 : decode cL_law 407 = .ok (.invokevirtual 52, 3) := by decide +kernel
theorem dL_law_410 : decode cL_law 410 = .ok (.if_icmp .eq 428, 3) := by decide +kernel
theorem dL_law_413 : decode cL_law 413 = .ok (.iconst 0, 1) := by decide +kernel
theorem dL_law_414 : decode cL_law 414 = .ok (.ireturn, 1) := by decide +kernel
theorem dL_law_415 : decode cL_law 415 = .ok (.aload_n 1, 1) := by decide +kernel
theorem dL_law_416 : decode cL_law 416 = .ok (.aload_n 0, 1) := by decide +kernel
theorem dL_law_417 : decode cL_law 417 = .ok (.iload_n 3, 1) := by decide +kernel
theorem dL_law_418 : decode cL_law 418 = .ok (.iconst 1, 1) := by decide +kernel
theorem dL_law_419 : decode cL_law 419 = .ok (.iadd, 1) := by decide +kernel
theorem dL_law_420 : decode cL_law 420 = .ok (.iaload, 1) := by decide +kernel
theorem dL_law_421 : decode cL_law 421 = .ok (.invokevirtual 53, 3) := by decide +kernel
theorem dL_law_424 : decode cL_law 424 = .ok (.aload_n 2, 1) := by decide +kernel
theorem dL_law_425 : decode cL_law 425 = .ok (.aload_n 0, 1) := by decide +kernel
theorem dL_law_426 : decode cL_law 426 = .ok (.iload_n 3, 1) := by decide +kernel
theorem dL_law_427 : decode cL_law 427 = .ok (.iconst 1, 1) := by decide +kernel
theorem dL_law_428 : decode cL_law 428 = .ok (.iadd, 1) := by decide +kernel
theorem dL_law_429 : decode cL_law 429 = .ok (.iaload, 1) := by decide +kernel
theorem dL_law_430 : decode cL_law 430 = .ok (.invokevirtual 56, 3) := by decide +kernel
theorem dL_law_433 : decode cL_law 433 = .ok (.if_icmp .eq 405, 3) := by decide +kernel
theorem dL_law_436 : decode cL_law 436 = .ok (.iconst 0, 1) := by decide +kernel
theorem dL_law_437 : decode cL_law 437 = .ok (.ireturn, 1) := by decide +kernel
theorem dL_law_438 : decode cL_law 438 = .ok (.aload_n 1, 1) := by decide +kernel
theorem dL_law_439 : decode cL_law 439 = .ok (.aload_n 0, 1) := by decide +kernel
theorem dL_law_440 : decode cL_law 440 = .ok (.iload_n 3, 1) := by decide +kernel
theorem dL_law_441 : decode cL_law 441 = .ok (.iconst 1, 1) := by decide +kernel
theorem dL_law_442 : decode cL_law 442 = .ok (.iadd, 1) := by decide +kernel
theorem dL_law_443 : decode cL_law 443 = .ok (.iaload, 1) := by decide +kernel
theorem dL_law_444 : decode cL_law 444 = .ok (.invokevirtual 57, 3) := by decide +kernel
theorem dL_law_447 : decode cL_law 447 = .ok (.aload_n 2, 1) := by decide +kernel
theorem dL_law_448 : decode cL_law 448 = .ok (.aload_n 0, 1) := by decide +kernel
theorem dL_law_449 : decode cL_law 449 = .ok (.iload_n 3, 1) := by decide +kernel
theorem dL_law_450 : decode cL_law 450 = .ok (.iconst 1, 1) := by decide +kernel
theorem dL_law_451 : decode cL_law 451 = .ok (.iadd, 1) := by decide +kernel
theorem dL_law_452 : decode cL_law 452 = .ok (.iaload, 1) := by decide +kernel
theorem dL_law_453 : decode cL_law 453 = .ok (.invokevirtual 60, 3) := by decide +kernel
theorem dL_law_456 : decode cL_law 456 = .ok (.if_icmp .eq 382, 3) := by decide +kernel
theorem dL_law_459 : decode cL_law 459 = .ok (.iconst 0, 1) := by decide +kernel
theorem dL_law_460 : decode cL_law 460 = .ok (.ireturn, 1) := by decide +kernel
theorem dL_law_461 : decode cL_law 461 = .ok (.aload_n 1, 1) := by decide +kernel
theorem dL_law_462 : decode cL_law 462 = .ok (.invokevirtual 61, 3) := by decide +kernel
theorem dL_law_465 : decode cL_law 465 = .ok (.aload_n 2, 1) := by decide +kernel
theorem dL_law_466 : decode cL_law 466 = .ok (.invokevirtual 64, 3) := by decide +kernel
theorem dL_law_469 : decode cL_law 469 = .ok (.if_icmp .eq 369, 3) := by decide +kernel
theorem dL_law_472 : decode cL_law 472 = .ok (.iconst 0, 1) := by decide +kernel
theorem dL_law_473 : decode cL_law 473 = .ok (.ireturn, 1) := by decide +kernel
theorem dL_law_474 : decode cL_law 474 = .ok (.aload_n 1, 1) := by decide +kernel
theorem dL_law_475 : decode cL_law 475 = .ok (.aload_n 0, 1) := by decide +kernel
theorem dL_law_476 : decode cL_law 476 = .ok (.iload_n 3, 1) := by decide +kernel
theorem dL_law_477 : decode cL_law 477 = .ok (.iconst 1, 1) := by decide +kernel
theorem dL_law_478 : decode cL_law 478 = .ok (.iadd, 1) := by decide +kernel
theorem dL_law_479 : decode cL_law 479 = .ok (.iaload, 1) := by decide +kernel
theorem dL_law_480 : decode cL_law 480 = .ok (.invokevirtual 65, 3) := by decide +kernel
theorem dL_law_483 : decode cL_law 483 = .ok (.aload_n 2, 1) := by decide +kernel
theorem dL_law_484 : decode cL_law 484 = .ok (.aload_n 0, 1) := by decide +kernel
theorem dL_law_485 : decode cL_law 485 = .ok (.iload_n 3, 1) := by decide +kernel
theorem dL_law_486 : decode cL_law 486 = .ok (.iconst 1, 1) := by decide +kernel
theorem dL_law_487 : decode cL_law 487 = .ok (.iadd, 1) := by decide +kernel
theorem dL_law_488 : decode cL_law 488 = .ok (.iaload, 1) := by decide +kernel
theorem dL_law_489 : decode cL_law 489 = .ok (.invokevirtual 68, 3) := by decide +kernel
theorem dL_law_492 : decode cL_law 492 = .ok (.if_icmp .eq 346, 3) := by decide +kernel
theorem dL_law_495 : decode cL_law 495 = .ok (.iconst 0, 1) := by decide +kernel
theorem dL_law_496 : decode cL_law 496 = .ok (.ireturn, 1) := by decide +kernel
theorem dL_law_497 : decode cL_law 497 = .ok (.aload_n 1, 1) := by decide +kernel
theorem dL_law_498 : decode cL_law 498 = .ok (.invokevirtual 69, 3) := by decide +kernel
theorem dL_law_501 : decode cL_law 501 = .ok (.aload_n 2, 1) := by decide +kernel
theorem dL_law_502 : decode cL_law 502 = .ok (.invokevirtual 72, 3) := by decide +kernel
theorem dL_law_505 : decode cL_law 505 = .ok (.if_icmp .eq 333, 3) := by decide +kernel
theorem dL_law_508 : decode cL_law 508 = .ok (.iconst 0, 1) := by decide +kernel
theorem dL_law_509 : decode cL_law 509 = .ok (.ireturn, 1) := by decide +kernel
theorem dL_law_510 : decode cL_law 510 = .ok (.aload_n 1, 1) := by decide +kernel
theorem dL_law_511 : decode cL_law 511 = .ok (.aload_n 0, 1) := by decide +kernel
theorem dL_law_512 : decode cL_law 512 = .ok (.iload_n 3, 1) := by decide +kernel
theorem dL_law_513 : decode cL_law 513 = .ok (.iconst 1, 1) := by decide +kernel
theorem dL_law_514 : decode cL_law 514 = .ok (.iadd, 1) := by decide +kernel
theorem dL_law_515 : decode cL_law 515 = .ok (.iaload, 1) := by decide +kernel
theorem dL_law_516 : decode cL_law 516 = .ok (.invokevirtual 73, 3) := by decide +kernel
theorem dL_law_519 : decode cL_law 519 = .ok (.aload_n 2, 1) := by decide +kernel
theorem dL_law_520 : decode cL_law 520 = .ok (.aload_n 0, 1) := by decide +kernel
theorem dL_law_521 : decode cL_law 521 = .ok (.iload_n 3, 1) := by decide +kernel
theorem dL_law_522 : decode cL_law 522 = .ok (.iconst 1, 1) := by decide +kernel
theorem dL_law_523 : decode cL_law 523 = .ok (.iadd, 1) := by decide +kernel
theorem dL_law_524 : decode cL_law 524 = .ok (.iaload, 1) := by decide +kernel
theorem dL_law_525 : decode cL_law 525 = .ok (.invokevirtual 76, 3) := by decide +kernel
theorem dL_law_528 : decode cL_law 528 = .ok (.if_icmp .eq 310, 3) := by decide +kernel
theorem dL_law_531 : decode cL_law 531 = .ok (.iconst 0, 1) := by decide +kernel
theorem dL_law_532 : decode cL_law 532 = .ok (.ireturn, 1) := by decide +kernel
theorem dL_law_533 : decode cL_law 533 = .ok (.aload_n 1, 1) := by decide +kernel
theorem dL_law_534 : decode cL_law 534 = .ok (.invokevirtual 77, 3) := by decide +kernel
theorem dL_law_537 : decode cL_law 537 = .ok (.aload_n 2, 1) := by decide +kernel
theorem dL_law_538 : decode cL_law 538 = .ok (.invokevirtual 80, 3) := by decide +kernel
theorem dL_law_541 : decode cL_law 541 = .ok (.if_icmp .eq 297, 3) := by decide +kernel
theorem dL_law_544 : decode cL_law 544 = .ok (.iconst 0, 1) := by decide +kernel
theorem dL_law_545 : decode cL_law 545 = .ok (.ireturn, 1) := by decide +kernel
theorem dL_law_546 : decode cL_law 546 = .ok (.aload_n 1, 1) := by decide +kernel
theorem dL_law_547 : decode cL_law 547 = .ok (.aload_n 0, 1) := by decide +kernel
theorem dL_law_548 : decode cL_law 548 = .ok (.iload_n 3, 1) := by decide +kernel
theorem dL_law_549 : decode cL_law 549 = .ok (.iconst 1, 1) := by decide +kernel
theorem dL_law_550 : decode cL_law 550 = .ok (.iadd, 1) := by decide +kernel
theorem dL_law_551 : decode cL_law 551 = .ok (.iaload, 1) := by decide +kernel
theorem dL_law_552 : decode cL_law 552 = .ok (.aload_n 0, 1) := by decide +kernel
theorem dL_law_553 : decode cL_law 553 = .ok (.iload_n 3, 1) := by decide +kernel
theorem dL_law_554 : decode cL_law 554 = .ok (.iconst 2, 1) := by decide +kernel
theorem dL_law_555 : decode cL_law 555 = .ok (.iadd, 1) := by decide +kernel
theorem dL_law_556 : decode cL_law 556 = .ok (.iaload, 1) := by decide +kernel
theorem dL_law_557 : decode cL_law 557 = .ok (.invokevirtual 81, 3) := by decide +kernel
theorem dL_law_560 : decode cL_law 560 = .ok (.aload_n 2, 1) := by decide +kernel
theorem dL_law_561 : decode cL_law 561 = .ok (.aload_n 0, 1) := by decide +kernel
theorem dL_law_562 : decode cL_law 562 = .ok (.iload_n 3, 1) := by decide +kernel
theorem dL_law_563 : decode cL_law 563 = .ok (.iconst 1, 1) := by decide +kernel
theorem dL_law_564 : decode cL_law 564 = .ok (.iadd, 1) := by decide +kernel
theorem dL_law_565 : decode cL_law 565 = .ok (.iaload, 1) := by decide +kernel
theorem dL_law_566 : decode cL_law 566 = .ok (.aload_n 0, 1) := by decide +kernel
theorem dL_law_567 : decode cL_law 567 = .ok (.iload_n 3, 1) := by decide +kernel
theorem dL_law_568 : decode cL_law 568 = .ok (.iconst 2, 1) := by decide +kernel
theorem dL_law_569 : decode cL_law 569 = .ok (.iadd, 1) := by decide +kernel
theorem dL_law_570 : decode cL_law 570 = .ok (.iaload, 1) := by decide +kernel
theorem dL_law_571 : decode cL_law 571 = .ok (.invokevirtual 84, 3) := by decide +kernel
theorem dL_law_574 : decode cL_law 574 = .ok (.if_icmp .eq 264, 3) := by decide +kernel
theorem dL_law_577 : decode cL_law 577 = .ok (.iconst 0, 1) := by decide +kernel
theorem dL_law_578 : decode cL_law 578 = .ok (.ireturn, 1) := by decide +kernel
theorem dL_law_579 : decode cL_law 579 = .ok (.aload_n 1, 1) := by decide +kernel
theorem dL_law_580 : decode cL_law 580 = .ok (.invokevirtual 85, 3) := by decide +kernel
theorem dL_law_583 : decode cL_law 583 = .ok (.aload_n 2, 1) := by decide +kernel
theorem dL_law_584 : decode cL_law 584 = .ok (.invokevirtual 88, 3) := by decide +kernel
theorem dL_law_587 : decode cL_law 587 = .ok (.if_icmp .eq 251, 3) := by decide +kernel
theorem dL_law_590 : decode cL_law 590 = .ok (.iconst 0, 1) := by decide +kernel
theorem dL_law_591 : decode cL_law 591 = .ok (.ireturn, 1) := by decide +kernel
theorem dL_law_592 : decode cL_law 592 = .ok (.aload_n 1, 1) := by decide +kernel
theorem dL_law_593 : decode cL_law 593 = .ok (.invokevirtual 89, 3) := by decide +kernel
theorem dL_law_596 : decode cL_law 596 = .ok (.aload_n 2, 1) := by decide +kernel
theorem dL_law_597 : decode cL_law 597 = .ok (.invokevirtual 92, 3) := by decide +kernel
theorem dL_law_600 : decode cL_law 600 = .ok (.if_icmp .eq 238, 3) := by decide +kernel
theorem dL_law_603 : decode cL_law 603 = .ok (.iconst 0, 1) := by decide +kernel
theorem dL_law_604 : decode cL_law 604 = .ok (.ireturn, 1) := by decide +kernel
theorem dL_law_605 : decode cL_law 605 = .ok (.aload_n 1, 1) := by decide +kernel
theorem dL_law_606 : decode cL_law 606 = .ok (.invokevirtual 93, 3) := by decide +kernel
theorem dL_law_609 : decode cL_law 609 = .ok (.aload_n 2, 1) := by decide +kernel
theorem dL_law_610 : decode cL_law 610 = .ok (.invokevirtual 96, 3) := by decide +kernel
theorem dL_law_613 : decode cL_law 613 = .ok (.if_icmp .eq 225, 3) := by decide +kernel
theorem dL_law_616 : decode cL_law 616 = .ok (.iconst 0, 1) := by decide +kernel
theorem dL_law_617 : decode cL_law 617 = .ok (.ireturn, 1) := by decide +kernel
theorem dL_law_618 : decode cL_law 618 = .ok (.aload_n 1, 1) := by decide +kernel
theorem dL_law_619 : decode cL_law 619 = .ok (.aload_n 0, 1) := by decide +kernel
theorem dL_law_620 : decode cL_law 620 = .ok (.iload_n 3, 1) := by decide +kernel
theorem dL_law_621 : decode cL_law 621 = .ok (.iconst 1, 1) := by decide +kernel
theorem dL_law_622 : decode cL_law 622 = .ok (.iadd, 1) := by decide +kernel
theorem dL_law_623 : decode cL_law 623 = .ok (.iaload, 1) := by decide +kernel
theorem dL_law_624 : decode cL_law 624 = .ok (.aload_n 0, 1) := by decide +kernel
theorem dL_law_625 : decode cL_law 625 = .ok (.iload_n 3, 1) := by decide +kernel
theorem dL_law_626 : decode cL_law 626 = .ok (.iconst 2, 1) := by decide +kernel
theorem dL_law_627 : decode cL_law 627 = .ok (.iadd, 1) := by decide +kernel
theorem dL_law_628 : decode cL_law 628 = .ok (.iaload, 1) := by decide +kernel
theorem dL_law_629 : decode cL_law 629 = .ok (.invokevirtual 97, 3) := by decide +kernel
theorem dL_law_632 : decode cL_law 632 = .ok (.aload_n 2, 1) := by decide +kernel
theorem dL_law_633 : decode cL_law 633 = .ok (.aload_n 0, 1) := by decide +kernel
theorem dL_law_634 : decode cL_law 634 = .ok (.iload_n 3, 1) := by decide +kernel
theorem dL_law_635 : decode cL_law 635 = .ok (.iconst 1, 1) := by decide +kernel
theorem dL_law_636 : decode cL_law 636 = .ok (.iadd, 1) := by decide +kernel
theorem dL_law_637 : decode cL_law 637 = .ok (.iaload, 1) := by decide +kernel
theorem dL_law_638 : decode cL_law 638 = .ok (.aload_n 0, 1) := by decide +kernel
theorem dL_law_639 : decode cL_law 639 = .ok (.iload_n 3, 1) := by decide +kernel
theorem dL_law_640 : decode cL_law 640 = .ok (.iconst 2, 1) := by decide +kernel
theorem dL_law_641 : decode cL_law 641 = .ok (.iadd, 1) := by decide +kernel
theorem dL_law_642 : decode cL_law 642 = .ok (.iaload, 1) := by decide +kernel
theorem dL_law_643 : decode cL_law 643 = .ok (.invokevirtual 100, 3) := by decide +kernel
theorem dL_law_646 : decode cL_law 646 = .ok (.if_icmp .eq 192, 3) := by decide +kernel
theorem dL_law_649 : decode cL_law 649 = .ok (.iconst 0, 1) := by decide +kernel
theorem dL_law_650 : decode cL_law 650 = .ok (.ireturn, 1) := by decide +kernel
theorem dL_law_651 : decode cL_law 651 = .ok (.aload_n 1, 1) := by decide +kernel
theorem dL_law_652 : decode cL_law 652 = .ok (.aload_n 0, 1) := by decide +kernel
theorem dL_law_653 : decode cL_law 653 = .ok (.iload_n 3, 1) := by decide +kernel
theorem dL_law_654 : decode cL_law 654 = .ok (.iconst 1, 1) := by decide +kernel
theorem dL_law_655 : decode cL_law 655 = .ok (.iadd, 1) := by decide +kernel
theorem dL_law_656 : decode cL_law 656 = .ok (.iaload, 1) := by decide +kernel
theorem dL_law_657 : decode cL_law 657 = .ok (.invokevirtual 101, 3) := by decide +kernel
theorem dL_law_660 : decode cL_law 660 = .ok (.aload_n 2, 1) := by decide +kernel
theorem dL_law_661 : decode cL_law 661 = .ok (.aload_n 0, 1) := by decide +kernel
theorem dL_law_662 : decode cL_law 662 = .ok (.iload_n 3, 1) := by decide +kernel
theorem dL_law_663 : decode cL_law 663 = .ok (.iconst 1, 1) := by decide +kernel
theorem dL_law_664 : decode cL_law 664 = .ok (.iadd, 1) := by decide +kernel
theorem dL_law_665 : decode cL_law 665 = .ok (.iaload, 1) := by decide +kernel
theorem dL_law_666 : decode cL_law 666 = .ok (.invokevirtual 104, 3) := by decide +kernel
theorem dL_law_669 : decode cL_law 669 = .ok (.if_icmp .eq 169, 3) := by decide +kernel
theorem dL_law_672 : decode cL_law 672 = .ok (.iconst 0, 1) := by decide +kernel
theorem dL_law_673 : decode cL_law 673 = .ok (.ireturn, 1) := by decide +kernel
theorem dL_law_674 : decode cL_law 674 = .ok (.aload_n 1, 1) := by decide +kernel
theorem dL_law_675 : decode cL_law 675 = .ok (.invokevirtual 105, 3) := by decide +kernel
theorem dL_law_678 : decode cL_law 678 = .ok (.aload_n 2, 1) := by decide +kernel
theorem dL_law_679 : decode cL_law 679 = .ok (.invokevirtual 108, 3) := by decide +kernel
theorem dL_law_682 : decode cL_law 682 = .ok (.if_icmp .eq 156, 3) := by decide +kernel
theorem dL_law_685 : decode cL_law 685 = .ok (.iconst 0, 1) := by decide +kernel
theorem dL_law_686 : decode cL_law 686 = .ok (.ireturn, 1) := by decide +kernel
theorem dL_law_687 : decode cL_law 687 = .ok (.aload_n 1, 1) := by decide +kernel
theorem dL_law_688 : decode cL_law 688 = .ok (.aload_n 0, 1) := by decide +kernel
theorem dL_law_689 : decode cL_law 689 = .ok (.iload_n 3, 1) := by decide +kernel
theorem dL_law_690 : decode cL_law 690 = .ok (.iconst 1, 1) := by decide +kernel
theorem dL_law_691 : decode cL_law 691 = .ok (.iadd, 1) := by decide +kernel
theorem dL_law_692 : decode cL_law 692 = .ok (.iaload, 1) := by decide +kernel
theorem dL_law_693 : decode cL_law 693 = .ok (.aload_n 0, 1) := by decide +kernel
theorem dL_law_694 : decode cL_law 694 = .ok (.iload_n 3, 1) := by decide +kernel
theorem dL_law_695 : decode cL_law 695 = .ok (.iconst 2, 1) := by decide +kernel
theorem dL_law_696 : decode cL_law 696 = .ok (.iadd, 1) := by decide +kernel
theorem dL_law_697 : decode cL_law 697 = .ok (.iaload, 1) := by decide +kernel
theorem dL_law_698 : decode cL_law 698 = .ok (.invokevirtual 109, 3) := by decide +kernel
theorem dL_law_701 : decode cL_law 701 = .ok (.aload_n 2, 1) := by decide +kernel
theorem dL_law_702 : decode cL_law 702 = .ok (.aload_n 0, 1) := by decide +kernel
theorem dL_law_703 : decode cL_law 703 = .ok (.iload_n 3, 1) := by decide +kernel
theorem dL_law_704 : decode cL_law 704 = .ok (.iconst 1, 1) := by decide +kernel
theorem dL_law_705 : decode cL_law 705 = .ok (.iadd, 1) := by decide +kernel
theorem dL_law_706 : decode cL_law 706 = .ok (.iaload, 1) := by decide +kernel
theorem dL_law_707 : decode cL_law 707 = .ok (.aload_n 0, 1) := by decide +kernel
theorem dL_law_708 : decode cL_law 708 = .ok (.iload_n 3, 1) := by decide +kernel
theorem dL_law_709 : decode cL_law 709 = .ok (.iconst 2, 1) := by decide +kernel
theorem dL_law_710 : decode cL_law 710 = .ok (.iadd, 1) := by decide +kernel
theorem dL_law_711 : decode cL_law 711 = .ok (.iaload, 1) := by decide +kernel
theorem dL_law_712 : decode cL_law 712 = .ok (.invokevirtual 112, 3) := by decide +kernel
theorem dL_law_715 : decode cL_law 715 = .ok (.if_icmp .eq 123, 3) := by decide +kernel
theorem dL_law_718 : decode cL_law 718 = .ok (.iconst 0, 1) := by decide +kernel
theorem dL_law_719 : decode cL_law 719 = .ok (.ireturn, 1) := by decide +kernel
theorem dL_law_720 : decode cL_law 720 = .ok (.aload_n 1, 1) := by decide +kernel
theorem dL_law_721 : decode cL_law 721 = .ok (.aload_n 0, 1) := by decide +kernel
theorem dL_law_722 : decode cL_law 722 = .ok (.iload_n 3, 1) := by decide +kernel
theorem dL_law_723 : decode cL_law 723 = .ok (.iconst 1, 1) := by decide +kernel
theorem dL_law_724 : decode cL_law 724 = .ok (.iadd, 1) := by decide +kernel
theorem dL_law_725 : decode cL_law 725 = .ok (.iaload, 1) := by decide +kernel
theorem dL_law_726 : decode cL_law 726 = .ok (.invokevirtual 113, 3) := by decide +kernel
theorem dL_law_729 : decode cL_law 729 = .ok (.aload_n 2, 1) := by decide +kernel
theorem dL_law_730 : decode cL_law 730 = .ok (.aload_n 0, 1) := by decide +kernel
theorem dL_law_731 : decode cL_law 731 = .ok (.iload_n 3, 1) := by decide +kernel
theorem dL_law_732 : decode cL_law 732 = .ok (.iconst 1, 1) := by decide +kernel
theorem dL_law_733 : decode cL_law 733 = .ok (.iadd, 1) := by decide +kernel
theorem dL_law_734 : decode cL_law 734 = .ok (.iaload, 1) := by decide +kernel
theorem dL_law_735 : decode cL_law 735 = .ok (.invokevirtual 116, 3) := by decide +kernel
theorem dL_law_738 : decode cL_law 738 = .ok (.if_icmp .eq 100, 3) := by decide +kernel
theorem dL_law_741 : decode cL_law 741 = .ok (.iconst 0, 1) := by decide +kernel
theorem dL_law_742 : decode cL_law 742 = .ok (.ireturn, 1) := by decide +kernel
theorem dL_law_743 : decode cL_law 743 = .ok (.aload_n 1, 1) := by decide +kernel
theorem dL_law_744 : decode cL_law 744 = .ok (.invokevirtual 117, 3) := by decide +kernel
theorem dL_law_747 : decode cL_law 747 = .ok (.aload_n 2, 1) := by decide +kernel
theorem dL_law_748 : decode cL_law 748 = .ok (.invokevirtual 120, 3) := by decide +kernel
theorem dL_law_751 : decode cL_law 751 = .ok (.if_icmp .eq 87, 3) := by decide +kernel
theorem dL_law_754 : decode cL_law 754 = .ok (.iconst 0, 1) := by decide +kernel
theorem dL_law_755 : decode cL_law 755 = .ok (.ireturn, 1) := by decide +kernel
theorem dL_law_756 : decode cL_law 756 = .ok (.aload_n 1, 1) := by decide +kernel
theorem dL_law_757 : decode cL_law 757 = .ok (.aload_n 0, 1) := by decide +kernel
theorem dL_law_758 : decode cL_law 758 = .ok (.iload_n 3, 1) := by decide +kernel
theorem dL_law_759 : decode cL_law 759 = .ok (.iconst 1, 1) := by decide +kernel
theorem dL_law_760 : decode cL_law 760 = .ok (.iadd, 1) := by decide +kernel
theorem dL_law_761 : decode cL_law 761 = .ok (.iaload, 1) := by decide +kernel
theorem dL_law_762 : decode cL_law 762 = .ok (.aload_n 0, 1) := by decide +kernel
