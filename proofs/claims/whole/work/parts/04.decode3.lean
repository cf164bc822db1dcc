theorem dX5_onesOf_1 : decode cX5_onesOf 1 = .ok (.lookupswitch 67 #[(99, 59), (100, 63), (103, 61), (105, 61), (112, 65), (121, 59)], 59) := by decide +kernel
theorem dX5_onesOf_60 : decode cX5_onesOf 60 = .ok (.iconst 1, 1) := by decide +kernel
theorem dX5_onesOf_61 : decode cX5_onesOf 61 = .ok (.ireturn, 1) := by decide +kernel
theorem dX5_onesOf_62 : decode cX5_onesOf 62 = .ok (.iconst 2, 1) := by decide +kernel
theorem dX5_onesOf_63 : decode cX5_onesOf 63 = .ok (.ireturn, 1) := by decide +kernel
theorem dX5_onesOf_64 : decode cX5_onesOf 64 = .ok (.iconst 3, 1) := by decide +kernel
theorem dX5_onesOf_65 : decode cX5_onesOf 65 = .ok (.ireturn, 1) := by decide +kernel
theorem dX5_onesOf_66 : decode cX5_onesOf 66 = .ok (.iconst 4, 1) := by decide +kernel
theorem dX5_onesOf_67 : decode cX5_onesOf 67 = .ok (.ireturn, 1) := by decide +kernel
theorem dX5_onesOf_68 : decode cX5_onesOf 68 = .ok (.iconst 0, 1) := by decide +kernel
theorem dX5_onesOf_69 : decode cX5_onesOf 69 = .ok (.ireturn, 1) := by decide +kernel
theorem dX5_statement_0 : decode cX5_statement 0 = .ok (.aload_n 0, 1) := by decide +kernel
theorem dX5_statement_1 : decode cX5_statement 1 = .ok (.invokevirtual 99, 3) := by decide +kernel
theorem dX5_statement_4 : decode cX5_statement 4 = .ok (.istore_n 1, 1) := by decide +kernel
theorem dX5_statement_5 : decode cX5_statement 5 = .ok (.iload_n 1, 1) := by decide +kernel
theorem dX5_statement_6 : decode cX5_statement 6 = .ok (.invokestatic 107, 3) := by decide +kernel
theorem dX5_statement_9 : decode cX5_statement 9 = .ok (.istore_n 2, 1) := by decide +kernel
theorem dX5_statement_10 : decode cX5_statement 10 = .ok (.iload_n 2, 1) := by decide +kernel
theorem dX5_statement_11 : decode cX5_statement 11 = .ok (.ifCond .ne 5, 3) := by decide +kernel
theorem dX5_statement_14 : decode cX5_statement 14 = .ok (.iconst 0, 1) := by decide +kernel
theorem dX5_statement_15 : decode cX5_statement 15 = .ok (.ireturn, 1) := by decide +kernel
theorem dX5_statement_16 : decode cX5_statement 16 = .ok (.aload_n 0, 1) := by decide +kernel
theorem dX5_statement_17 : decode cX5_statement 17 = .ok (.getfield 56, 3) := by decide +kernel
theorem dX5_statement_20 : decode cX5_statement 20 = .ok (.aload_n 0, 1) := by decide +kernel
theorem dX5_statement_21 : decode cX5_statement 21 = .ok (.getfield 110, 3) := by decide +kernel
theorem dX5_statement_24 : decode cX5_statement 24 = .ok (.iload_n 1, 1) := by decide +kernel
theorem dX5_statement_25 : decode cX5_statement 25 = .ok (.iastore, 1) := by decide +kernel
theorem dX5_statement_26 : decode cX5_statement 26 = .ok (.aload_n 0, 1) := by decide +kernel
theorem dX5_statement_27 : decode cX5_statement 27 = .ok (.getfield 59, 3) := by decide +kernel
theorem dX5_statement_30 : decode cX5_statement 30 = .ok (.aload_n 0, 1) := by decide +kernel
theorem dX5_statement_31 : decode cX5_statement 31 = .ok (.getfield 110, 3) := by decide +kernel
theorem dX5_statement_34 : decode cX5_statement 34 = .ok (.aload_n 0, 1) := by decide +kernel
theorem dX5_statement_35 : decode cX5_statement 35 = .ok (.getfield 96, 3) := by decide +kernel
theorem dX5_statement_38 : decode cX5_statement 38 = .ok (.iastore, 1) := by decide +kernel
theorem dX5_statement_39 : decode cX5_statement 39 = .ok (.aload_n 0, 1) := by decide +kernel
theorem dX5_statement_40 : decode cX5_statement 40 = .ok (.dup, 1) := by decide +kernel
theorem dX5_statement_41 : decode cX5_statement 41 = .ok (.getfield 96, 3) := by decide +kernel
theorem dX5_statement_44 : decode cX5_statement 44 = .ok (.iconst 1, 1) := by decide +kernel
theorem dX5_statement_45 : decode cX5_statement 45 = .ok (.iadd, 1) := by decide +kernel
theorem dX5_statement_46 : decode cX5_statement 46 = .ok (.putfield 96, 3) := by decide +kernel
theorem dX5_statement_49 : decode cX5_statement 49 = .ok (.iconst 5, 1) := by decide +kernel
theorem dX5_statement_50 : decode cX5_statement 50 = .ok (.aload_n 0, 1) := by decide +kernel
theorem dX5_statement_51 : decode cX5_statement 51 = .ok (.getfield 110, 3) := by decide +kernel
theorem dX5_statement_54 : decode cX5_statement 54 = .ok (.imul, 1) := by decide +kernel
theorem dX5_statement_55 : decode cX5_statement 55 = .ok (.istore_n 3, 1) := by decide +kernel
theorem dX5_statement_56 : decode cX5_statement 56 = .ok (.iconst 0, 1) := by decide +kernel
theorem dX5_statement_57 : decode cX5_statement 57 = .ok (.istore 4, 2) := by decide +kernel
theorem dX5_statement_59 : decode cX5_statement 59 = .ok (.iload 4, 2) := by decide +kernel
theorem dX5_statement_61 : decode cX5_statement 61 = .ok (.iload_n 2, 1) := by decide +kernel
theorem dX5_statement_62 : decode cX5_statement 62 = .ok (.if_icmp .ge 23, 3) := by decide +kernel
theorem dX5_statement_65 : decode cX5_statement 65 = .ok (.aload_n 0, 1) := by decide +kernel
theorem dX5_statement_66 : decode cX5_statement 66 = .ok (.iload_n 3, 1) := by decide +kernel
theorem dX5_statement_67 : decode cX5_statement 67 = .ok (.iload 4, 2) := by decide +kernel
theorem dX5_statement_69 : decode cX5_statement 69 = .ok (.iadd, 1) := by decide +kernel
theorem dX5_statement_70 : decode cX5_statement 70 = .ok (.iconst 1, 1) := by decide +kernel
theorem dX5_statement_71 : decode cX5_statement 71 = .ok (.invokevirtual 113, 3) := by decide +kernel
theorem dX5_statement_74 : decode cX5_statement 74 = .ok (.ifCond .ne 5, 3) := by decide +kernel
theorem dX5_statement_77 : decode cX5_statement 77 = .ok (.iconst 0, 1) := by decide +kernel
theorem dX5_statement_78 : decode cX5_statement 78 = .ok (.ireturn, 1) := by decide +kernel
theorem dX5_statement_79 : decode cX5_statement 79 = .ok (.iinc 4 1, 3) := by decide +kernel
theorem dX5_statement_82 : decode cX5_statement 82 = .ok (.goto (-23), 3) := by decide +kernel
theorem dX5_statement_85 : decode cX5_statement 85 = .ok (.iload_n 1, 1) := by decide +kernel
theorem dX5_statement_86 : decode cX5_statement 86 = .ok (.bipush 112, 2) := by decide +kernel
theorem dX5_statement_88 : decode cX5_statement 88 = .ok (.if_icmp .ne 14, 3) := by decide +kernel
theorem dX5_statement_91 : decode cX5_statement 91 = .ok (.aload_n 0, 1) := by decide +kernel
theorem dX5_statement_92 : decode cX5_statement 92 = .ok (.iload_n 3, 1) := by decide +kernel
theorem dX5_statement_93 : decode cX5_statement 93 = .ok (.iconst 4, 1) := by decide +kernel
theorem dX5_statement_94 : decode cX5_statement 94 = .ok (.iadd, 1) := by decide +kernel
theorem dX5_statement_95 : decode cX5_statement 95 = .ok (.iconst 2, 1) := by decide +kernel
theorem dX5_statement_96 : decode cX5_statement 96 = .ok (.invokevirtual 113, 3) := by decide +kernel
theorem dX5_statement_99 : decode cX5_statement 99 = .ok (.ifCond .eq 12, 3) := by decide +kernel
theorem dX5_statement_102 : decode cX5_statement 102 = .ok (.aload_n 0, 1) := by decide +kernel
theorem dX5_statement_103 : decode cX5_statement 103 = .ok (.invokevirtual 99, 3) := by decide +kernel
theorem dX5_statement_106 : decode cX5_statement 106 = .ok (.bipush 59, 2) := by decide +kernel
theorem dX5_statement_108 : decode cX5_statement 108 = .ok (.if_icmp .eq 5, 3) := by decide +kernel
theorem dX5_statement_111 : decode cX5_statement 111 = .ok (.iconst 0, 1) := by decide +kernel
theorem dX5_statement_112 : decode cX5_statement 112 = .ok (.ireturn, 1) := by decide +kernel
theorem dX5_statement_113 : decode cX5_statement 113 = .ok (.aload_n 0, 1) := by decide +kernel
theorem dX5_statement_114 : decode cX5_statement 114 = .ok (.dup, 1) := by decide +kernel
theorem dX5_statement_115 : decode cX5_statement 115 = .ok (.getfield 96, 3) := by decide +kernel
theorem dX5_statement_118 : decode cX5_statement 118 = .ok (.iconst 1, 1) := by decide +kernel
theorem dX5_statement_119 : decode cX5_statement 119 = .ok (.iadd, 1) := by decide +kernel
theorem dX5_statement_120 : decode cX5_statement 120 = .ok (.putfield 96, 3) := by decide +kernel
theorem dX5_statement_123 : decode cX5_statement 123 = .ok (.iconst 1, 1) := by decide +kernel
theorem dX5_statement_124 : decode cX5_statement 124 = .ok (.ireturn, 1) := by decide +kernel
theorem dX5_begins_0 : decode cX5_begins 0 = .ok (.iload_n 1, 1) := by decide +kernel
theorem dX5_begins_1 : decode cX5_begins 1 = .ok (.iconst 1, 1) := by decide +kernel
theorem dX5_begins_2 : decode cX5_begins 2 = .ok (.iconst 5, 1) := by decide +kernel
theorem dX5_begins_3 : decode cX5_begins 3 = .ok (.invokestatic 103, 3) := by decide +kernel
theorem dX5_begins_6 : decode cX5_begins 6 = .ok (.ifCond .ne 5, 3) := by decide +kernel
theorem dX5_begins_9 : decode cX5_begins 9 = .ok (.iconst 0, 1) := by decide +kernel
theorem dX5_begins_10 : decode cX5_begins 10 = .ok (.ireturn, 1) := by decide +kernel
theorem dX5_begins_11 : decode cX5_begins 11 = .ok (.aload_n 0, 1) := by decide +kernel
theorem dX5_begins_12 : decode cX5_begins 12 = .ok (.iload_n 1, 1) := by decide +kernel
theorem dX5_begins_13 : decode cX5_begins 13 = .ok (.putfield 46, 3) := by decide +kernel
theorem dX5_begins_16 : decode cX5_begins 16 = .ok (.iconst 0, 1) := by decide +kernel
theorem dX5_begins_17 : decode cX5_begins 17 = .ok (.istore_n 2, 1) := by decide +kernel
theorem dX5_begins_18 : decode cX5_begins 18 = .ok (.iload_n 2, 1) := by decide +kernel
theorem dX5_begins_19 : decode cX5_begins 19 = .ok (.iconst 5, 1) := by decide +kernel
theorem dX5_begins_20 : decode cX5_begins 20 = .ok (.if_icmp .ge 31, 3) := by decide +kernel
theorem dX5_begins_23 : decode cX5_begins 23 = .ok (.aload_n 0, 1) := by decide +kernel
theorem dX5_begins_24 : decode cX5_begins 24 = .ok (.getfield 13, 3) := by decide +kernel
theorem dX5_begins_27 : decode cX5_begins 27 = .ok (.iload_n 2, 1) := by decide +kernel
theorem dX5_begins_28 : decode cX5_begins 28 = .ok (.iconst 2, 1) := by decide +kernel
theorem dX5_begins_29 : decode cX5_begins 29 = .ok (.iastore, 1) := by decide +kernel
theorem dX5_begins_30 : decode cX5_begins 30 = .ok (.aload_n 0, 1) := by decide +kernel
theorem dX5_begins_31 : decode cX5_begins 31 = .ok (.getfield 16, 3) := by decide +kernel
theorem dX5_begins_34 : decode cX5_begins 34 = .ok (.iload_n 2, 1) := by decide +kernel
theorem dX5_begins_35 : decode cX5_begins 35 = .ok (.iconst 2, 1) := by decide +kernel
theorem dX5_begins_36 : decode cX5_begins 36 = .ok (.iastore, 1) := by decide +kernel
theorem dX5_begins_37 : decode cX5_begins 37 = .ok (.aload_n 0, 1) := by decide +kernel
theorem dX5_begins_38 : decode cX5_begins 38 = .ok (.getfield 19, 3) := by decide +kernel
theorem dX5_begins_41 : decode cX5_begins 41 = .ok (.iload_n 2, 1) := by decide +kernel
theorem dX5_begins_42 : decode cX5_begins 42 = .ok (.bipush (-9), 2) := by decide +kernel
theorem dX5_begins_44 : decode cX5_begins 44 = .ok (.iastore, 1) := by decide +kernel
theorem dX5_begins_45 : decode cX5_begins 45 = .ok (.iinc 2 1, 3) := by decide +kernel
theorem dX5_begins_48 : decode cX5_begins 48 = .ok (.goto (-30), 3) := by decide +kernel
theorem dX5_begins_51 : decode cX5_begins 51 = .ok (.iconst 1, 1) := by decide +kernel
theorem dX5_begins_52 : decode cX5_begins 52 = .ok (.ireturn, 1) := by decide +kernel
theorem dX5_comesOne_0 : decode cX5_comesOne 0 = .ok (.aload_n 0, 1) := by decide +kernel
theorem dX5_comesOne_1 : decode cX5_comesOne 1 = .ok (.getfield 62, 3) := by decide +kernel
theorem dX5_comesOne_4 : decode cX5_comesOne 4 = .ok (.iload_n 1, 1) := by decide +kernel
theorem dX5_comesOne_5 : decode cX5_comesOne 5 = .ok (.iaload, 1) := by decide +kernel
theorem dX5_comesOne_6 : decode cX5_comesOne 6 = .ok (.iconst 5, 1) := by decide +kernel
theorem dX5_comesOne_7 : decode cX5_comesOne 7 = .ok (.if_icmp .gt 12, 3) := by decide +kernel
theorem dX5_comesOne_10 : decode cX5_comesOne 10 = .ok (.aload_n 0, 1) := by decide +kernel
theorem dX5_comesOne_11 : decode cX5_comesOne 11 = .ok (.getfield 78, 3) := by decide +kernel
theorem dX5_comesOne_14 : decode cX5_comesOne 14 = .ok (.bipush 7, 2) := by decide +kernel
theorem dX5_comesOne_16 : decode cX5_comesOne 16 = .ok (.if_icmp .ne 5, 3) := by decide +kernel
theorem dX5_comesOne_19 : decode cX5_comesOne 19 = .ok (.iconst 0, 1) := by decide +kernel
theorem dX5_comesOne_20 : decode cX5_comesOne 20 = .ok (.ireturn, 1) := by decide +kernel
theorem dX5_comesOne_21 : decode cX5_comesOne 21 = .ok (.aload_n 0, 1) := by decide +kernel
theorem dX5_comesOne_22 : decode cX5_comesOne 22 = .ok (.getfield 22, 3) := by decide +kernel
theorem dX5_comesOne_25 : decode cX5_comesOne 25 = .ok (.aload_n 0, 1) := by decide +kernel
theorem dX5_comesOne_26 : decode cX5_comesOne 26 = .ok (.getfield 78, 3) := by decide +kernel
theorem dX5_comesOne_29 : decode cX5_comesOne 29 = .ok (.aload_n 0, 1) := by decide +kernel
theorem dX5_comesOne_30 : decode cX5_comesOne 30 = .ok (.getfield 62, 3) := by decide +kernel
theorem dX5_comesOne_33 : decode cX5_comesOne 33 = .ok (.iload_n 1, 1) := by decide +kernel
theorem dX5_comesOne_34 : decode cX5_comesOne 34 = .ok (.iaload, 1) := by decide +kernel
theorem dX5_comesOne_35 : decode cX5_comesOne 35 = .ok (.iastore, 1) := by decide +kernel
theorem dX5_comesOne_36 : decode cX5_comesOne 36 = .ok (.aload_n 0, 1) := by decide +kernel
theorem dX5_comesOne_37 : decode cX5_comesOne 37 = .ok (.getfield 25, 3) := by decide +kernel
theorem dX5_comesOne_40 : decode cX5_comesOne 40 = .ok (.aload_n 0, 1) := by decide +kernel
theorem dX5_comesOne_41 : decode cX5_comesOne 41 = .ok (.getfield 78, 3) := by decide +kernel
theorem dX5_comesOne_44 : decode cX5_comesOne 44 = .ok (.aload_n 0, 1) := by decide +kernel
theorem dX5_comesOne_45 : decode cX5_comesOne 45 = .ok (.getfield 62, 3) := by decide +kernel
theorem dX5_comesOne_48 : decode cX5_comesOne 48 = .ok (.iload_n 1, 1) := by decide +kernel
theorem dX5_comesOne_49 : decode cX5_comesOne 49 = .ok (.iconst 1, 1) := by decide +kernel
theorem dX5_comesOne_50 : decode cX5_comesOne 50 = .ok (.iadd, 1) := by decide +kernel
theorem dX5_comesOne_51 : decode cX5_comesOne 51 = .ok (.iaload, 1) := by decide +kernel
theorem dX5_comesOne_52 : decode cX5_comesOne 52 = .ok (.iastore, 1) := by decide +kernel
theorem dX5_comesOne_53 : decode cX5_comesOne 53 = .ok (.aload_n 0, 1) := by decide +kernel
theorem dX5_comesOne_54 : decode cX5_comesOne 54 = .ok (.getfield 28, 3) := by decide +kernel
theorem dX5_comesOne_57 : decode cX5_comesOne 57 = .ok (.aload_n 0, 1) := by decide +kernel
theorem dX5_comesOne_58 : decode cX5_comesOne 58 = .ok (.getfield 78, 3) := by decide +kernel
theorem dX5_comesOne_61 : decode cX5_comesOne 61 = .ok (.aload_n 0, 1) := by decide +kernel
theorem dX5_comesOne_62 : decode cX5_comesOne 62 = .ok (.getfield 62, 3) := by decide +kernel
theorem dX5_comesOne_65 : decode cX5_comesOne 65 = .ok (.iload_n 1, 1) := by decide +kernel
theorem dX5_comesOne_66 : decode cX5_comesOne 66 = .ok (.iconst 2, 1) := by decide +kernel
theorem dX5_comesOne_67 : decode cX5_comesOne 67 = .ok (.iadd, 1) := by decide +kernel
theorem dX5_comesOne_68 : decode cX5_comesOne 68 = .ok (.iaload, 1) := by decide +kernel
theorem dX5_comesOne_69 : decode cX5_comesOne 69 = .ok (.iastore, 1) := by decide +kernel
theorem dX5_comesOne_70 : decode cX5_comesOne 70 = .ok (.aload_n 0, 1) := by decide +kernel
theorem dX5_comesOne_71 : decode cX5_comesOne 71 = .ok (.getfield 31, 3) := by decide +kernel
theorem dX5_comesOne_74 : decode cX5_comesOne 74 = .ok (.aload_n 0, 1) := by decide +kernel
theorem dX5_comesOne_75 : decode cX5_comesOne 75 = .ok (.getfield 78, 3) := by decide +kernel
theorem dX5_comesOne_78 : decode cX5_comesOne 78 = .ok (.aload_n 0, 1) := by decide +kernel
theorem dX5_comesOne_79 : decode cX5_comesOne 79 = .ok (.getfield 62, 3) := by decide +kernel
theorem dX5_comesOne_82 : decode cX5_comesOne 82 = .ok (.iload_n 1, 1) := by decide +kernel
theorem dX5_comesOne_83 : decode cX5_comesOne 83 = .ok (.iconst 3, 1) := by decide +kernel
theorem dX5_comesOne_84 : decode cX5_comesOne 84 = .ok (.iadd, 1) := by decide +kernel
theorem dX5_comesOne_85 : decode cX5_comesOne 85 = .ok (.iaload, 1) := by decide +kernel
theorem dX5_comesOne_86 : decode cX5_comesOne 86 = .ok (.iastore, 1) := by decide +kernel
theorem dX5_comesOne_87 : decode cX5_comesOne 87 = .ok (.aload_n 0, 1) := by decide +kernel
theorem dX5_comesOne_88 : decode cX5_comesOne 88 = .ok (.getfield 34, 3) := by decide +kernel
theorem dX5_comesOne_91 : decode cX5_comesOne 91 = .ok (.aload_n 0, 1) := by decide +kernel
theorem dX5_comesOne_92 : decode cX5_comesOne 92 = .ok (.getfield 78, 3) := by decide +kernel
theorem dX5_comesOne_95 : decode cX5_comesOne 95 = .ok (.aload_n 0, 1) := by decide +kernel
theorem dX5_comesOne_96 : decode cX5_comesOne 96 = .ok (.getfield 62, 3) := by decide +kernel
theorem dX5_comesOne_99 : decode cX5_comesOne 99 = .ok (.iload_n 1, 1) := by decide +kernel
theorem dX5_comesOne_100 : decode cX5_comesOne 100 = .ok (.iconst 4, 1) := by decide +kernel
theorem dX5_comesOne_101 : decode cX5_comesOne 101 = .ok (.iadd, 1) := by decide +kernel
theorem dX5_comesOne_102 : decode cX5_comesOne 102 = .ok (.iaload, 1) := by decide +kernel
theorem dX5_comesOne_103 : decode cX5_comesOne 103 = .ok (.iastore, 1) := by decide +kernel
theorem dX5_comesOne_104 : decode cX5_comesOne 104 = .ok (.aload_n 0, 1) := by decide +kernel
theorem dX5_comesOne_105 : decode cX5_comesOne 105 = .ok (.getfield 37, 3) := by decide +kernel
theorem dX5_comesOne_108 : decode cX5_comesOne 108 = .ok (.aload_n 0, 1) := by decide +kernel
theorem dX5_comesOne_109 : decode cX5_comesOne 109 = .ok (.getfield 78, 3) := by decide +kernel
theorem dX5_comesOne_112 : decode cX5_comesOne 112 = .ok (.iconst 0, 1) := by decide +kernel
theorem dX5_comesOne_113 : decode cX5_comesOne 113 = .ok (.iastore, 1) := by decide +kernel
theorem dX5_comesOne_114 : decode cX5_comesOne 114 = .ok (.iconst 0, 1) := by decide +kernel
theorem dX5_comesOne_115 : decode cX5_comesOne 115 = .ok (.istore_n 2, 1) := by decide +kernel
theorem dX5_comesOne_116 : decode cX5_comesOne 116 = .ok (.iload_n 2, 1) := by decide +kernel
theorem dX5_comesOne_117 : decode cX5_comesOne 117 = .ok (.bipush 7, 2) := by decide +kernel
theorem dX5_comesOne_119 : decode cX5_comesOne 119 = .ok (.if_icmp .ge 69, 3) := by decide +kernel
theorem dX5_comesOne_122 : decode cX5_comesOne 122 = .ok (.aload_n 0, 1) := by decide +kernel
theorem dX5_comesOne_123 : decode cX5_comesOne 123 = .ok (.getfield 40, 3) := by decide +kernel
theorem dX5_comesOne_126 : decode cX5_comesOne 126 = .ok (.bipush 7, 2) := by decide +kernel
theorem dX5_comesOne_128 : decode cX5_comesOne 128 = .ok (.aload_n 0, 1) := by decide +kernel
theorem dX5_comesOne_129 : decode cX5_comesOne 129 = .ok (.getfield 78, 3) := by decide +kernel
theorem dX5_comesOne_132 : decode cX5_comesOne 132 = .ok (.imul, 1) := by decide +kernel
theorem dX5_comesOne_133 : decode cX5_comesOne 133 = .ok (.iload_n 2, 1) := by decide +kernel
theorem dX5_comesOne_134 : decode cX5_comesOne 134 = .ok (.iadd, 1) := by decide +kernel
theorem dX5_comesOne_135 : decode cX5_comesOne 135 = .ok (.iconst 0, 1) := by decide +kernel
theorem dX5_comesOne_136 : decode cX5_comesOne 136 = .ok (.iastore, 1) := by decide +kernel
theorem dX5_comesOne_137 : decode cX5_comesOne 137 = .ok (.aload_n 0, 1) := by decide +kernel
theorem dX5_comesOne_138 : decode cX5_comesOne 138 = .ok (.getfield 40, 3) := by decide +kernel
theorem dX5_comesOne_141 : decode cX5_comesOne 141 = .ok (.bipush 7, 2) := by decide +kernel
theorem dX5_comesOne_143 : decode cX5_comesOne 143 = .ok (.iload_n 2, 1) := by decide +kernel
theorem dX5_comesOne_144 : decode cX5_comesOne 144 = .ok (.imul, 1) := by decide +kernel
theorem dX5_comesOne_145 : decode cX5_comesOne 145 = .ok (.aload_n 0, 1) := by decide +kernel
theorem dX5_comesOne_146 : decode cX5_comesOne 146 = .ok (.getfield 78, 3) := by decide +kernel
theorem dX5_comesOne_149 : decode cX5_comesOne 149 = .ok (.iadd, 1) := by decide +kernel
theorem dX5_comesOne_150 : decode cX5_comesOne 150 = .ok (.iconst 0, 1) := by decide +kernel
theorem dX5_comesOne_151 : decode cX5_comesOne 151 = .ok (.iastore, 1) := by decide +kernel
theorem dX5_comesOne_152 : decode cX5_comesOne 152 = .ok (.aload_n 0, 1) := by decide +kernel
theorem dX5_comesOne_153 : decode cX5_comesOne 153 = .ok (.getfield 43, 3) := by decide +kernel
theorem dX5_comesOne_156 : decode cX5_comesOne 156 = .ok (.bipush 7, 2) := by decide +kernel
theorem dX5_comesOne_158 : decode cX5_comesOne 158 = .ok (.aload_n 0, 1) := by decide +kernel
theorem dX5_comesOne_159 : decode cX5_comesOne 159 = .ok (.getfield 78, 3) := by decide +kernel
theorem dX5_comesOne_162 : decode cX5_comesOne 162 = .ok (.imul, 1) := by decide +kernel
theorem dX5_comesOne_163 : decode cX5_comesOne 163 = .ok (.iload_n 2, 1) := by decide +kernel
theorem dX5_comesOne_164 : decode cX5_comesOne 164 = .ok (.iadd, 1) := by decide +kernel
theorem dX5_comesOne_165 : decode cX5_comesOne 165 = .ok (.iconst 0, 1) := by decide +kernel
theorem dX5_comesOne_166 : decode cX5_comesOne 166 = .ok (.iastore, 1) := by decide +kernel
theorem dX5_comesOne_167 : decode cX5_comesOne 167 = .ok (.aload_n 0, 1) := by decide +kernel
theorem dX5_comesOne_168 : decode cX5_comesOne 168 = .ok (.getfield 43, 3) := by decide +kernel
theorem dX5_comesOne_171 : decode cX5_comesOne 171 = .ok (.bipush 7, 2) := by decide +kernel
theorem dX5_comesOne_173 : decode cX5_comesOne 173 = .ok (.iload_n 2, 1) := by decide +kernel
theorem dX5_comesOne_174 : decode cX5_comesOne 174 = .ok (.imul, 1) := by decide +kernel
theorem dX5_comesOne_175 : decode cX5_comesOne 175 = .ok (.aload_n 0, 1) := by decide +kernel
theorem dX5_comesOne_176 : decode cX5_comesOne 176 = .ok (.getfield 78, 3) := by decide +kernel
theorem dX5_comesOne_179 : decode cX5_comesOne 179 = .ok (.iadd, 1) := by decide +kernel
theorem dX5_comesOne_180 : decode cX5_comesOne 180 = .ok (.iconst 0, 1) := by decide +kernel
theorem dX5_comesOne_181 : decode cX5_comesOne 181 = .ok (.iastore, 1) := by decide +kernel
theorem dX5_comesOne_182 : decode cX5_comesOne 182 = .ok (.iinc 2 1, 3) := by decide +kernel
theorem dX5_comesOne_185 : decode cX5_comesOne 185 = .ok (.goto (-69), 3) := by decide +kernel
theorem dX5_comesOne_188 : decode cX5_comesOne 188 = .ok (.aload_n 0, 1) := by decide +kernel
theorem dX5_comesOne_189 : decode cX5_comesOne 189 = .ok (.dup, 1) := by decide +kernel
theorem dX5_comesOne_190 : decode cX5_comesOne 190 = .ok (.getfield 78, 3) := by decide +kernel
theorem dX5_comesOne_193 : decode cX5_comesOne 193 = .ok (.iconst 1, 1) := by decide +kernel
theorem dX5_comesOne_194 : decode cX5_comesOne 194 = .ok (.iadd, 1) := by decide +kernel
theorem dX5_comesOne_195 : decode cX5_comesOne 195 = .ok (.putfield 78, 3) := by decide +kernel
theorem dX5_comesOne_198 : decode cX5_comesOne 198 = .ok (.iconst 1, 1) := by decide +kernel
theorem dX5_comesOne_199 : decode cX5_comesOne 199 = .ok (.ireturn, 1) := by decide +kernel
theorem dX5_sets_0 : decode cX5_sets 0 = .ok (.aload_n 0, 1) := by decide +kernel
theorem dX5_sets_1 : decode cX5_sets 1 = .ok (.iload_n 2, 1) := by decide +kernel
theorem dX5_sets_2 : decode cX5_sets 2 = .ok (.invokevirtual 117, 3) := by decide +kernel
theorem dX5_sets_5 : decode cX5_sets 5 = .ok (.istore_n 3, 1) := by decide +kernel
theorem dX5_sets_6 : decode cX5_sets 6 = .ok (.iload_n 3, 1) := by decide +kernel
theorem dX5_sets_7 : decode cX5_sets 7 = .ok (.ifCond .lt 11, 3) := by decide +kernel
theorem dX5_sets_10 : decode cX5_sets 10 = .ok (.aload_n 0, 1) := by decide +kernel
theorem dX5_sets_11 : decode cX5_sets 11 = .ok (.getfield 19, 3) := by decide +kernel
theorem dX5_sets_14 : decode cX5_sets 14 = .ok (.iload_n 3, 1) := by decide +kernel
theorem dX5_sets_15 : decode cX5_sets 15 = .ok (.bipush (-9), 2) := by decide +kernel
theorem dX5_sets_17 : decode cX5_sets 17 = .ok (.iastore, 1) := by decide +kernel
theorem dX5_sets_18 : decode cX5_sets 18 = .ok (.aload_n 0, 1) := by decide +kernel
theorem dX5_sets_19 : decode cX5_sets 19 = .ok (.getfield 19, 3) := by decide +kernel
theorem dX5_sets_22 : decode cX5_sets 22 = .ok (.iload_n 1, 1) := by decide +kernel
theorem dX5_sets_23 : decode cX5_sets 23 = .ok (.iload_n 2, 1) := by decide +kernel
theorem dX5_sets_24 : decode cX5_sets 24 = .ok (.iastore, 1) := by decide +kernel
theorem dX5_sets_25 : decode cX5_sets 25 = .ok (.return_, 1) := by decide +kernel
theorem dX5_comes_0 : decode cX5_comes 0 = .ok (.iconst 5, 1) := by decide +kernel
theorem dX5_comes_1 : decode cX5_comes 1 = .ok (.iload_n 1, 1) := by decide +kernel
theorem dX5_comes_2 : decode cX5_comes 2 = .ok (.imul, 1) := by decide +kernel
theorem dX5_comes_3 : decode cX5_comes 3 = .ok (.istore_n 2, 1) := by decide +kernel
theorem dX5_comes_4 : decode cX5_comes 4 = .ok (.aload_n 0, 1) := by decide +kernel
theorem dX5_comes_5 : decode cX5_comes 5 = .ok (.getfield 62, 3) := by decide +kernel
theorem dX5_comes_8 : decode cX5_comes 8 = .ok (.iload_n 2, 1) := by decide +kernel
theorem dX5_comes_9 : decode cX5_comes 9 = .ok (.iaload, 1) := by decide +kernel
theorem dX5_comes_10 : decode cX5_comes 10 = .ok (.istore_n 3, 1) := by decide +kernel
theorem dX5_comes_11 : decode cX5_comes 11 = .ok (.aload_n 0, 1) := by decide +kernel
theorem dX5_comes_12 : decode cX5_comes 12 = .ok (.getfield 62, 3) := by decide +kernel
theorem dX5_comes_15 : decode cX5_comes 15 = .ok (.iload_n 2, 1) := by decide +kernel
theorem dX5_comes_16 : decode cX5_comes 16 = .ok (.iconst 1, 1) := by decide +kernel
theorem dX5_comes_17 : decode cX5_comes 17 = .ok (.iadd, 1) := by decide +kernel
theorem dX5_comes_18 : decode cX5_comes 18 = .ok (.iaload, 1) := by decide +kernel
theorem dX5_comes_19 : decode cX5_comes 19 = .ok (.istore 4, 2) := by decide +kernel
theorem dX5_comes_21 : decode cX5_comes 21 = .ok (.aload_n 0, 1) := by decide +kernel
theorem dX5_comes_22 : decode cX5_comes 22 = .ok (.getfield 56, 3) := by decide +kernel
theorem dX5_comes_25 : decode cX5_comes 25 = .ok (.iload_n 1, 1) := by decide +kernel
theorem dX5_comes_26 : decode cX5_comes 26 = .ok (.iaload, 1) := by decide +kernel
theorem dX5_comes_27 : decode cX5_comes 27 = .ok (.lookupswitch 166 #[(99, 89), (100, 55), (103, 102), (112, 96), (121, 49)], 49) := by decide +kernel
theorem dX5_comes_76 : decode cX5_comes 76 = .ok (.aload_n 0, 1) := by decide +kernel
theorem dX5_comes_77 : decode cX5_comes 77 = .ok (.iload_n 3, 1) := by decide +kernel
theorem dX5_comes_78 : decode cX5_comes 78 = .ok (.invokevirtual 120, 3) := by decide +kernel
theorem dX5_comes_81 : decode cX5_comes 81 = .ok (.ireturn, 1) := by decide +kernel
theorem dX5_comes_82 : decode cX5_comes 82 = .ok (.aload_n 0, 1) := by decide +kernel
theorem dX5_comes_83 : decode cX5_comes 83 = .ok (.iload_n 3, 1) := by decide +kernel
theorem dX5_comes_84 : decode cX5_comes 84 = .ok (.invokevirtual 123, 3) := by decide +kernel
theorem dX5_comes_87 : decode cX5_comes 87 = .ok (.ifCond .ne 5, 3) := by decide +kernel
theorem dX5_comes_90 : decode cX5_comes 90 = .ok (.iconst 0, 1) := by decide +kernel
theorem dX5_comes_91 : decode cX5_comes 91 = .ok (.ireturn, 1) := by decide +kernel
theorem dX5_comes_92 : decode cX5_comes 92 = .ok (.aload_n 0, 1) := by decide +kernel
theorem dX5_comes_93 : decode cX5_comes 93 = .ok (.getfield 13, 3) := by decide +kernel
theorem dX5_comes_96 : decode cX5_comes 96 = .ok (.iload_n 3, 1) := by decide +kernel
theorem dX5_comes_97 : decode cX5_comes 97 = .ok (.iload 4, 2) := by decide +kernel
theorem dX5_comes_99 : decode cX5_comes 99 = .ok (.iastore, 1) := by decide +kernel
theorem dX5_comes_100 : decode cX5_comes 100 = .ok (.aload_n 0, 1) := by decide +kernel
theorem dX5_comes_101 : decode cX5_comes 101 = .ok (.getfield 16, 3) := by decide +kernel
theorem dX5_comes_104 : decode cX5_comes 104 = .ok (.iload_n 3, 1) := by decide +kernel
theorem dX5_comes_105 : decode cX5_comes 105 = .ok (.aload_n 0, 1) := by decide +kernel
theorem dX5_comes_106 : decode cX5_comes 106 = .ok (.getfield 62, 3) := by decide +kernel
theorem dX5_comes_109 : decode cX5_comes 109 = .ok (.iload_n 2, 1) := by decide +kernel
theorem dX5_comes_110 : decode cX5_comes 110 = .ok (.iconst 2, 1) := by decide +kernel
theorem dX5_comes_111 : decode cX5_comes 111 = .ok (.iadd, 1) := by decide +kernel
theorem dX5_comes_112 : decode cX5_comes 112 = .ok (.iaload, 1) := by decide +kernel
theorem dX5_comes_113 : decode cX5_comes 113 = .ok (.iastore, 1) := by decide +kernel
theorem dX5_comes_114 : decode cX5_comes 114 = .ok (.iconst 1, 1) := by decide +kernel
theorem dX5_comes_115 : decode cX5_comes 115 = .ok (.ireturn, 1) := by decide +kernel
theorem dX5_comes_116 : decode cX5_comes 116 = .ok (.aload_n 0, 1) := by decide +kernel
theorem dX5_comes_117 : decode cX5_comes 117 = .ok (.iload_n 3, 1) := by decide +kernel
theorem dX5_comes_118 : decode cX5_comes 118 = .ok (.putfield 50, 3) := by decide +kernel
theorem dX5_comes_121 : decode cX5_comes 121 = .ok (.iconst 1, 1) := by decide +kernel
theorem dX5_comes_122 : decode cX5_comes 122 = .ok (.ireturn, 1) := by decide +kernel
theorem dX5_comes_123 : decode cX5_comes 123 = .ok (.aload_n 0, 1) := by decide +kernel
theorem dX5_comes_124 : decode cX5_comes 124 = .ok (.iload_n 2, 1) := by decide +kernel
theorem dX5_comes_125 : decode cX5_comes 125 = .ok (.invokevirtual 126, 3) := by decide +kernel
theorem dX5_comes_128 : decode cX5_comes 128 = .ok (.ireturn, 1) := by decide +kernel
theorem dX5_comes_129 : decode cX5_comes 129 = .ok (.aload_n 0, 1) := by decide +kernel
theorem dX5_comes_130 : decode cX5_comes 130 = .ok (.iload_n 3, 1) := by decide +kernel
theorem dX5_comes_131 : decode cX5_comes 131 = .ok (.iload 4, 2) := by decide +kernel
theorem dX5_comes_133 : decode cX5_comes 133 = .ok (.invokevirtual 129, 3) := by decide +kernel
theorem dX5_comes_136 : decode cX5_comes 136 = .ok (.ifCond .ne 5, 3) := by decide +kernel
theorem dX5_comes_139 : decode cX5_comes 139 = .ok (.iconst 0, 1) := by decide +kernel
theorem dX5_comes_140 : decode cX5_comes 140 = .ok (.ireturn, 1) := by decide +kernel
theorem dX5_comes_141 : decode cX5_comes 141 = .ok (.aload_n 0, 1) := by decide +kernel
theorem dX5_comes_142 : decode cX5_comes 142 = .ok (.getfield 40, 3) := by decide +kernel
theorem dX5_comes_145 : decode cX5_comes 145 = .ok (.bipush 7, 2) := by decide +kernel
theorem dX5_comes_147 : decode cX5_comes 147 = .ok (.iload_n 3, 1) := by decide +kernel
theorem dX5_comes_148 : decode cX5_comes 148 = .ok (.imul, 1) := by decide +kernel
theorem dX5_comes_149 : decode cX5_comes 149 = .ok (.iload 4, 2) := by decide +kernel
theorem dX5_comes_151 : decode cX5_comes 151 = .ok (.iadd, 1) := by decide +kernel
theorem dX5_comes_152 : decode cX5_comes 152 = .ok (.iconst 1, 1) := by decide +kernel
theorem dX5_comes_153 : decode cX5_comes 153 = .ok (.aload_n 0, 1) := by decide +kernel
theorem dX5_comes_154 : decode cX5_comes 154 = .ok (.getfield 40, 3) := by decide +kernel
theorem dX5_comes_157 : decode cX5_comes 157 = .ok (.bipush 7, 2) := by decide +kernel
theorem dX5_comes_159 : decode cX5_comes 159 = .ok (.iload_n 3, 1) := by decide +kernel
theorem dX5_comes_160 : decode cX5_comes 160 = .ok (.imul, 1) := by decide +kernel
theorem dX5_comes_161 : decode cX5_comes 161 = .ok (.iload 4, 2) := by decide +kernel
theorem dX5_comes_163 : decode cX5_comes 163 = .ok (.iadd, 1) := by decide +kernel
theorem dX5_comes_164 : decode cX5_comes 164 = .ok (.iaload, 1) := by decide +kernel
theorem dX5_comes_165 : decode cX5_comes 165 = .ok (.isub, 1) := by decide +kernel
theorem dX5_comes_166 : decode cX5_comes 166 = .ok (.iastore, 1) := by decide +kernel
theorem dX5_comes_167 : decode cX5_comes 167 = .ok (.aload_n 0, 1) := by decide +kernel
theorem dX5_comes_168 : decode cX5_comes 168 = .ok (.getfield 40, 3) := by decide +kernel
theorem dX5_comes_171 : decode cX5_comes 171 = .ok (.bipush 7, 2) := by decide +kernel
theorem dX5_comes_173 : decode cX5_comes 173 = .ok (.iload 4, 2) := by decide +kernel
theorem dX5_comes_175 : decode cX5_comes 175 = .ok (.imul, 1) := by decide +kernel
theorem dX5_comes_176 : decode cX5_comes 176 = .ok (.iload_n 3, 1) := by decide +kernel
theorem dX5_comes_177 : decode cX5_comes 177 = .ok (.iadd, 1) := by decide +kernel
theorem dX5_comes_178 : decode cX5_comes 178 = .ok (.aload_n 0, 1) := by decide +kernel
theorem dX5_comes_179 : decode cX5_comes 179 = .ok (.getfield 40, 3) := by decide +kernel
theorem dX5_comes_182 : decode cX5_comes 182 = .ok (.bipush 7, 2) := by decide +kernel
theorem dX5_comes_184 : decode cX5_comes 184 = .ok (.iload_n 3, 1) := by decide +kernel
theorem dX5_comes_185 : decode cX5_comes 185 = .ok (.imul, 1) := by decide +kernel
theorem dX5_comes_186 : decode cX5_comes 186 = .ok (.iload 4, 2) := by decide +kernel
theorem dX5_comes_188 : decode cX5_comes 188 = .ok (.iadd, 1) := by decide +kernel
theorem dX5_comes_189 : decode cX5_comes 189 = .ok (.iaload, 1) := by decide +kernel
theorem dX5_comes_190 : decode cX5_comes 190 = .ok (.iastore, 1) := by decide +kernel
theorem dX5_comes_191 : decode cX5_comes 191 = .ok (.iconst 1, 1) := by decide +kernel
theorem dX5_comes_192 : decode cX5_comes 192 = .ok (.ireturn, 1) := by decide +kernel
theorem dX5_comes_193 : decode cX5_comes 193 = .ok (.aload_n 0, 1) := by decide +kernel
theorem dX5_comes_194 : decode cX5_comes 194 = .ok (.iload_n 3, 1) := by decide +kernel
theorem dX5_comes_195 : decode cX5_comes 195 = .ok (.invokevirtual 123, 3) := by decide +kernel
theorem dX5_comes_198 : decode cX5_comes 198 = .ok (.ifCond .eq 23, 3) := by decide +kernel
theorem dX5_comes_201 : decode cX5_comes 201 = .ok (.aload_n 0, 1) := by decide +kernel
theorem dX5_comes_202 : decode cX5_comes 202 = .ok (.iload 4, 2) := by decide +kernel
theorem dX5_comes_204 : decode cX5_comes 204 = .ok (.invokevirtual 81, 3) := by decide +kernel
theorem dX5_comes_207 : decode cX5_comes 207 = .ok (.ifCond .eq 14, 3) := by decide +kernel
theorem dX5_comes_210 : decode cX5_comes 210 = .ok (.aload_n 0, 1) := by decide +kernel
theorem dX5_comes_211 : decode cX5_comes 211 = .ok (.getfield 37, 3) := by decide +kernel
theorem dX5_comes_214 : decode cX5_comes 214 = .ok (.iload 4, 2) := by decide +kernel
theorem dX5_comes_216 : decode cX5_comes 216 = .ok (.iaload, 1) := by decide +kernel
theorem dX5_comes_217 : decode cX5_comes 217 = .ok (.iconst 1, 1) := by decide +kernel
theorem dX5_comes_218 : decode cX5_comes 218 = .ok (.if_icmp .ne 5, 3) := by decide +kernel
theorem dX5_comes_221 : decode cX5_comes 221 = .ok (.iconst 0, 1) := by decide +kernel
theorem dX5_comes_222 : decode cX5_comes 222 = .ok (.ireturn, 1) := by decide +kernel
theorem dX5_comes_223 : decode cX5_comes 223 = .ok (.aload_n 0, 1) := by decide +kernel
theorem dX5_comes_224 : decode cX5_comes 224 = .ok (.iload_n 3, 1) := by decide +kernel
theorem dX5_comes_225 : decode cX5_comes 225 = .ok (.iload 4, 2) := by decide +kernel
theorem dX5_comes_227 : decode cX5_comes 227 = .ok (.invokevirtual 132, 3) := by decide +kernel
theorem dX5_comes_230 : decode cX5_comes 230 = .ok (.iconst 1, 1) := by decide +kernel
theorem dX5_comes_231 : decode cX5_comes 231 = .ok (.ireturn, 1) := by decide +kernel
theorem dX5_river_0 : decode cX5_river 0 = .ok (.aload_n 0, 1) := by decide +kernel
theorem dX5_river_1 : decode cX5_river 1 = .ok (.iconst 0, 1) := by decide +kernel
theorem dX5_river_2 : decode cX5_river 2 = .ok (.putfield 96, 3) := by decide +kernel
theorem dX5_river_5 : decode cX5_river 5 = .ok (.aload_n 0, 1) := by decide +kernel
theorem dX5_river_6 : decode cX5_river 6 = .ok (.iconst 0, 1) := by decide +kernel
theorem dX5_river_7 : decode cX5_river 7 = .ok (.putfield 110, 3) := by decide +kernel
theorem dX5_river_10 : decode cX5_river 10 = .ok (.iconst 1, 1) := by decide +kernel
theorem dX5_river_11 : decode cX5_river 11 = .ok (.istore_n 1, 1) := by decide +kernel
theorem dX5_river_12 : decode cX5_river 12 = .ok (.iload_n 1, 1) := by decide +kernel
theorem dX5_river_13 : decode cX5_river 13 = .ok (.ifCond .eq 47, 3) := by decide +kernel
theorem dX5_river_16 : decode cX5_river 16 = .ok (.aload_n 0, 1) := by decide +kernel
theorem dX5_river_17 : decode cX5_river 17 = .ok (.getfield 96, 3) := by decide +kernel
theorem dX5_river_20 : decode cX5_river 20 = .ok (.aload_n 0, 1) := by decide +kernel
theorem dX5_river_21 : decode cX5_river 21 = .ok (.getfield 89, 3) := by decide +kernel
theorem dX5_river_24 : decode cX5_river 24 = .ok (.if_icmp .lt 10, 3) := by decide +kernel
theorem dX5_river_27 : decode cX5_river 27 = .ok (.aload_n 0, 1) := by decide +kernel
theorem dX5_river_28 : decode cX5_river 28 = .ok (.getfield 110, 3) := by decide +kernel
theorem dX5_river_31 : decode cX5_river 31 = .ok (.ifCond .ne 29, 3) := by decide +kernel
theorem dX5_river_34 : decode cX5_river 34 = .ok (.aload_n 0, 1) := by decide +kernel
theorem dX5_river_35 : decode cX5_river 35 = .ok (.invokevirtual 136, 3) := by decide +kernel
theorem dX5_river_38 : decode cX5_river 38 = .ok (.istore_n 1, 1) := by decide +kernel
theorem dX5_river_39 : decode cX5_river 39 = .ok (.aload_n 0, 1) := by decide +kernel
theorem dX5_river_40 : decode cX5_river 40 = .ok (.dup, 1) := by decide +kernel
theorem dX5_river_41 : decode cX5_river 41 = .ok (.getfield 110, 3) := by decide +kernel
theorem dX5_river_44 : decode cX5_river 44 = .ok (.iload_n 1, 1) := by decide +kernel
theorem dX5_river_45 : decode cX5_river 45 = .ok (.ifCond .eq 7, 3) := by decide +kernel
theorem dX5_river_48 : decode cX5_river 48 = .ok (.iconst 1, 1) := by decide +kernel
theorem dX5_river_49 : decode cX5_river 49 = .ok (.goto 4, 3) := by decide +kernel
theorem dX5_river_52 : decode cX5_river 52 = .ok (.iconst 0, 1) := by decide +kernel
theorem dX5_river_53 : decode cX5_river 53 = .ok (.iadd, 1) := by decide +kernel
theorem dX5_river_54 : decode cX5_river 54 = .ok (.putfield 110, 3) := by decide +kernel
theorem dX5_river_57 : decode cX5_river 57 = .ok (.goto (-45), 3) := by decide +kernel
theorem dX5_river_60 : decode cX5_river 60 = .ok (.aload_n 0, 1) := by decide +kernel
theorem dX5_river_61 : decode cX5_river 61 = .ok (.iconst 0, 1) := by decide +kernel
theorem dX5_river_62 : decode cX5_river 62 = .ok (.putfield 89, 3) := by decide +kernel
theorem dX5_river_65 : decode cX5_river 65 = .ok (.iload_n 1, 1) := by decide +kernel
theorem dX5_river_66 : decode cX5_river 66 = .ok (.ifCond .ne 12, 3) := by decide +kernel
theorem dX5_river_69 : decode cX5_river 69 = .ok (.sipush (-1000), 3) := by decide +kernel
theorem dX5_river_72 : decode cX5_river 72 = .ok (.aload_n 0, 1) := by decide +kernel
theorem dX5_river_73 : decode cX5_river 73 = .ok (.getfield 96, 3) := by decide +kernel
theorem dX5_river_76 : decode cX5_river 76 = .ok (.isub, 1) := by decide +kernel
theorem dX5_river_77 : decode cX5_river 77 = .ok (.ireturn, 1) := by decide +kernel
theorem dX5_river_78 : decode cX5_river 78 = .ok (.aload_n 0, 1) := by decide +kernel
theorem dX5_river_79 : decode cX5_river 79 = .ok (.iconst 1, 1) := by decide +kernel
theorem dX5_river_80 : decode cX5_river 80 = .ok (.iconst 1, 1) := by decide +kernel
theorem dX5_river_81 : decode cX5_river 81 = .ok (.invokevirtual 140, 3) := by decide +kernel
theorem dX5_river_84 : decode cX5_river 84 = .ok (.iconst 0, 1) := by decide +kernel
theorem dX5_river_85 : decode cX5_river 85 = .ok (.istore_n 2, 1) := by decide +kernel
theorem dX5_river_86 : decode cX5_river 86 = .ok (.iload_n 2, 1) := by decide +kernel
theorem dX5_river_87 : decode cX5_river 87 = .ok (.aload_n 0, 1) := by decide +kernel
theorem dX5_river_88 : decode cX5_river 88 = .ok (.getfield 110, 3) := by decide +kernel
theorem dX5_river_91 : decode cX5_river 91 = .ok (.if_icmp .ge 37, 3) := by decide +kernel
theorem dX5_river_94 : decode cX5_river 94 = .ok (.aload_n 0, 1) := by decide +kernel
theorem dX5_river_95 : decode cX5_river 95 = .ok (.iload_n 2, 1) := by decide +kernel
theorem dX5_river_96 : decode cX5_river 96 = .ok (.invokevirtual 144, 3) := by decide +kernel
theorem dX5_river_99 : decode cX5_river 99 = .ok (.ifCond .eq 6, 3) := by decide +kernel
theorem dX5_river_102 : decode cX5_river 102 = .ok (.goto 20, 3) := by decide +kernel
theorem dX5_river_105 : decode cX5_river 105 = .ok (.aload_n 0, 1) := by decide +kernel
theorem dX5_river_106 : decode cX5_river 106 = .ok (.iconst 1, 1) := by decide +kernel
theorem dX5_river_107 : decode cX5_river 107 = .ok (.iconst 0, 1) := by decide +kernel
theorem dX5_river_108 : decode cX5_river 108 = .ok (.invokevirtual 140, 3) := by decide +kernel
theorem dX5_river_111 : decode cX5_river 111 = .ok (.sipush (-2000), 3) := by decide +kernel
theorem dX5_river_114 : decode cX5_river 114 = .ok (.aload_n 0, 1) := by decide +kernel
theorem dX5_river_115 : decode cX5_river 115 = .ok (.getfield 59, 3) := by decide +kernel
theorem dX5_river_118 : decode cX5_river 118 = .ok (.iload_n 2, 1) := by decide +kernel
theorem dX5_river_119 : decode cX5_river 119 = .ok (.iaload, 1) := by decide +kernel
theorem dX5_river_120 : decode cX5_river 120 = .ok (.isub, 1) := by decide +kernel
theorem dX5_river_121 : decode cX5_river 121 = .ok (.ireturn, 1) := by decide +kernel
theorem dX5_river_122 : decode cX5_river 122 = .ok (.iinc 2 1, 3) := by decide +kernel
theorem dX5_river_125 : decode cX5_river 125 = .ok (.goto (-39), 3) := by decide +kernel
theorem dX5_river_128 : decode cX5_river 128 = .ok (.aload_n 0, 1) := by decide +kernel
theorem dX5_river_129 : decode cX5_river 129 = .ok (.getfield 110, 3) := by decide +kernel
theorem dX5_river_132 : decode cX5_river 132 = .ok (.ireturn, 1) := by decide +kernel
theorem dX5_passes_0 : decode cX5_passes 0 = .ok (.iconst 0, 1) := by decide +kernel
theorem dX5_passes_1 : decode cX5_passes 1 = .ok (.istore_n 2, 1) := by decide +kernel
theorem dX5_passes_2 : decode cX5_passes 2 = .ok (.iload_n 2, 1) := by decide +kernel
theorem dX5_passes_3 : decode cX5_passes 3 = .ok (.aload_n 1, 1) := by decide +kernel
theorem dX5_passes_4 : decode cX5_passes 4 = .ok (.arraylength, 1) := by decide +kernel
theorem dX5_passes_5 : decode cX5_passes 5 = .ok (.if_icmp .ge 53, 3) := by decide +kernel
theorem dX5_passes_8 : decode cX5_passes 8 = .ok (.aload_n 0, 1) := by decide +kernel
theorem dX5_passes_9 : decode cX5_passes 9 = .ok (.getfield 147, 3) := by decide +kernel
theorem dX5_passes_12 : decode cX5_passes 12 = .ok (.ifCond .eq 18, 3) := by decide +kernel
theorem dX5_passes_15 : decode cX5_passes 15 = .ok (.aload_n 0, 1) := by decide +kernel
theorem dX5_passes_16 : decode cX5_passes 16 = .ok (.getfield 65, 3) := by decide +kernel
theorem dX5_passes_19 : decode cX5_passes 19 = .ok (.aload_n 0, 1) := by decide +kernel
theorem dX5_passes_20 : decode cX5_passes 20 = .ok (.getfield 151, 3) := by decide +kernel
theorem dX5_passes_23 : decode cX5_passes 23 = .ok (.aload_n 1, 1) := by decide +kernel
theorem dX5_passes_24 : decode cX5_passes 24 = .ok (.iload_n 2, 1) := by decide +kernel
theorem dX5_passes_25 : decode cX5_passes 25 = .ok (.iaload, 1) := by decide +kernel
theorem dX5_passes_26 : decode cX5_passes 26 = .ok (.iastore, 1) := by decide +kernel
theorem dX5_passes_27 : decode cX5_passes 27 = .ok (.goto 15, 3) := by decide +kernel
theorem dX5_passes_30 : decode cX5_passes 30 = .ok (.aload_n 1, 1) := by decide +kernel
theorem dX5_passes_31 : decode cX5_passes 31 = .ok (.iload_n 2, 1) := by decide +kernel
theorem dX5_passes_32 : decode cX5_passes 32 = .ok (.aload_n 0, 1) := by decide +kernel
theorem dX5_passes_33 : decode cX5_passes 33 = .ok (.getfield 65, 3) := by decide +kernel
theorem dX5_passes_36 : decode cX5_passes 36 = .ok (.aload_n 0, 1) := by decide +kernel
theorem dX5_passes_37 : decode cX5_passes 37 = .ok (.getfield 151, 3) := by decide +kernel
theorem dX5_passes_40 : decode cX5_passes 40 = .ok (.iaload, 1) := by decide +kernel
theorem dX5_passes_41 : decode cX5_passes 41 = .ok (.iastore, 1) := by decide +kernel
theorem dX5_passes_42 : decode cX5_passes 42 = .ok (.aload_n 0, 1) := by decide +kernel
theorem dX5_passes_43 : decode cX5_passes 43 = .ok (.dup, 1) := by decide +kernel
theorem dX5_passes_44 : decode cX5_passes 44 = .ok (.getfield 151, 3) := by decide +kernel
theorem dX5_passes_47 : decode cX5_passes 47 = .ok (.iconst 1, 1) := by decide +kernel
theorem dX5_passes_48 : decode cX5_passes 48 = .ok (.iadd, 1) := by decide +kernel
theorem dX5_passes_49 : decode cX5_passes 49 = .ok (.putfield 151, 3) := by decide +kernel
theorem dX5_passes_52 : decode cX5_passes 52 = .ok (.iinc 2 1, 3) := by decide +kernel
theorem dX5_passes_55 : decode cX5_passes 55 = .ok (.goto (-53), 3) := by decide +kernel
theorem dX5_passes_58 : decode cX5_passes 58 = .ok (.return_, 1) := by decide +kernel
theorem dX5_passOne_0 : decode cX5_passOne 0 = .ok (.aload_n 0, 1) := by decide +kernel
theorem dX5_passOne_1 : decode cX5_passOne 1 = .ok (.getfield 147, 3) := by decide +kernel
theorem dX5_passOne_4 : decode cX5_passOne 4 = .ok (.ifCond .eq 7, 3) := by decide +kernel
theorem dX5_passOne_7 : decode cX5_passOne 7 = .ok (.iload_n 1, 1) := by decide +kernel
theorem dX5_passOne_8 : decode cX5_passOne 8 = .ok (.goto 12, 3) := by decide +kernel
theorem dX5_passOne_11 : decode cX5_passOne 11 = .ok (.aload_n 0, 1) := by decide +kernel
theorem dX5_passOne_12 : decode cX5_passOne 12 = .ok (.getfield 65, 3) := by decide +kernel
theorem dX5_passOne_15 : decode cX5_passOne 15 = .ok (.aload_n 0, 1) := by decide +kernel
theorem dX5_passOne_16 : decode cX5_passOne 16 = .ok (.getfield 151, 3) := by decide +kernel
theorem dX5_passOne_19 : decode cX5_passOne 19 = .ok (.iaload, 1) := by decide +kernel
theorem dX5_passOne_20 : decode cX5_passOne 20 = .ok (.istore_n 2, 1) := by decide +kernel
theorem dX5_passOne_21 : decode cX5_passOne 21 = .ok (.aload_n 0, 1) := by decide +kernel
theorem dX5_passOne_22 : decode cX5_passOne 22 = .ok (.getfield 147, 3) := by decide +kernel
theorem dX5_passOne_25 : decode cX5_passOne 25 = .ok (.ifCond .eq 13, 3) := by decide +kernel
theorem dX5_passOne_28 : decode cX5_passOne 28 = .ok (.aload_n 0, 1) := by decide +kernel
theorem dX5_passOne_29 : decode cX5_passOne 29 = .ok (.getfield 65, 3) := by decide +kernel
theorem dX5_passOne_32 : decode cX5_passOne 32 = .ok (.aload_n 0, 1) := by decide +kernel
theorem dX5_passOne_33 : decode cX5_passOne 33 = .ok (.getfield 151, 3) := by decide +kernel
theorem dX5_passOne_36 : decode cX5_passOne 36 = .ok (.iload_n 1, 1) := by decide +kernel
theorem dX5_passOne_37 : decode cX5_passOne 37 = .ok (.iastore, 1) := by decide +kernel
theorem dX5_passOne_38 : decode cX5_passOne 38 = .ok (.aload_n 0, 1) := by decide +kernel
theorem dX5_passOne_39 : decode cX5_passOne 39 = .ok (.dup, 1) := by decide +kernel
theorem dX5_passOne_40 : decode cX5_passOne 40 = .ok (.getfield 151, 3) := by decide +kernel
theorem dX5_passOne_43 : decode cX5_passOne 43 = .ok (.iconst 1, 1) := by decide +kernel
theorem dX5_passOne_44 : decode cX5_passOne 44 = .ok (.iadd, 1) := by decide +kernel
theorem dX5_passOne_45 : decode cX5_passOne 45 = .ok (.putfield 151, 3) := by decide +kernel
theorem dX5_passOne_48 : decode cX5_passOne 48 = .ok (.iload_n 2, 1) := by decide +kernel
theorem dX5_passOne_49 : decode cX5_passOne 49 = .ok (.ireturn, 1) := by decide +kernel
theorem dX5_passesAll_0 : decode cX5_passesAll 0 = .ok (.aload_n 0, 1) := by decide +kernel
theorem dX5_passesAll_1 : decode cX5_passesAll 1 = .ok (.sipush 170, 3) := by decide +kernel
theorem dX5_passesAll_4 : decode cX5_passesAll 4 = .ok (.iload_n 1, 1) := by decide +kernel
theorem dX5_passesAll_5 : decode cX5_passesAll 5 = .ok (.imul, 1) := by decide +kernel
theorem dX5_passesAll_6 : decode cX5_passesAll 6 = .ok (.putfield 151, 3) := by decide +kernel
theorem dX5_passesAll_9 : decode cX5_passesAll 9 = .ok (.aload_n 0, 1) := by decide +kernel
theorem dX5_passesAll_10 : decode cX5_passesAll 10 = .ok (.iload_n 2, 1) := by decide +kernel
theorem dX5_passesAll_11 : decode cX5_passesAll 11 = .ok (.putfield 147, 3) := by decide +kernel
theorem dX5_passesAll_14 : decode cX5_passesAll 14 = .ok (.aload_n 0, 1) := by decide +kernel
theorem dX5_passesAll_15 : decode cX5_passesAll 15 = .ok (.aload_n 0, 1) := by decide +kernel
theorem dX5_passesAll_16 : decode cX5_passesAll 16 = .ok (.getfield 13, 3) := by decide +kernel
theorem dX5_passesAll_19 : decode cX5_passesAll 19 = .ok (.invokevirtual 154, 3) := by decide +kernel
theorem dX5_passesAll_22 : decode cX5_passesAll 22 = .ok (.aload_n 0, 1) := by decide +kernel
theorem dX5_passesAll_23 : decode cX5_passesAll 23 = .ok (.aload_n 0, 1) := by decide +kernel
theorem dX5_passesAll_24 : decode cX5_passesAll 24 = .ok (.getfield 16, 3) := by decide +kernel
theorem dX5_passesAll_27 : decode cX5_passesAll 27 = .ok (.invokevirtual 154, 3) := by decide +kernel
theorem dX5_passesAll_30 : decode cX5_passesAll 30 = .ok (.aload_n 0, 1) := by decide +kernel
theorem dX5_passesAll_31 : decode cX5_passesAll 31 = .ok (.aload_n 0, 1) := by decide +kernel
theorem dX5_passesAll_32 : decode cX5_passesAll 32 = .ok (.getfield 19, 3) := by decide +kernel
theorem dX5_passesAll_35 : decode cX5_passesAll 35 = .ok (.invokevirtual 154, 3) := by decide +kernel
theorem dX5_passesAll_38 : decode cX5_passesAll 38 = .ok (.aload_n 0, 1) := by decide +kernel
theorem dX5_passesAll_39 : decode cX5_passesAll 39 = .ok (.aload_n 0, 1) := by decide +kernel
theorem dX5_passesAll_40 : decode cX5_passesAll 40 = .ok (.getfield 22, 3) := by decide +kernel
theorem dX5_passesAll_43 : decode cX5_passesAll 43 = .ok (.invokevirtual 154, 3) := by decide +kernel
theorem dX5_passesAll_46 : decode cX5_passesAll 46 = .ok (.aload_n 0, 1) := by decide +kernel
theorem dX5_passesAll_47 : decode cX5_passesAll 47 = .ok (.aload_n 0, 1) := by decide +kernel
theorem dX5_passesAll_48 : decode cX5_passesAll 48 = .ok (.getfield 25, 3) := by decide +kernel
theorem dX5_passesAll_51 : decode cX5_passesAll 51 = .ok (.invokevirtual 154, 3) := by decide +kernel
theorem dX5_passesAll_54 : decode cX5_passesAll 54 = .ok (.aload_n 0, 1) := by decide +kernel
theorem dX5_passesAll_55 : decode cX5_passesAll 55 = .ok (.aload_n 0, 1) := by decide +kernel
theorem dX5_passesAll_56 : decode cX5_passesAll 56 = .ok (.getfield 28, 3) := by decide +kernel
theorem dX5_passesAll_59 : decode cX5_passesAll 59 = .ok (.invokevirtual 154, 3) := by decide +kernel
theorem dX5_passesAll_62 : decode cX5_passesAll 62 = .ok (.aload_n 0, 1) := by decide +kernel
theorem dX5_passesAll_63 : decode cX5_passesAll 63 = .ok (.aload_n 0, 1) := by decide +kernel
theorem dX5_passesAll_64 : decode cX5_passesAll 64 = .ok (.getfield 31, 3) := by decide +kernel
theorem dX5_passesAll_67 : decode cX5_passesAll 67 = .ok (.invokevirtual 154, 3) := by decide +kernel
theorem dX5_passesAll_70 : decode cX5_passesAll 70 = .ok (.aload_n 0, 1) := by decide +kernel
theorem dX5_passesAll_71 : decode cX5_passesAll 71 = .ok (.aload_n 0, 1) := by decide +kernel
theorem dX5_passesAll_72 : decode cX5_passesAll 72 = .ok (.getfield 34, 3) := by decide +kernel
theorem dX5_passesAll_75 : decode cX5_passesAll 75 = .ok (.invokevirtual 154, 3) := by decide +kernel
theorem dX5_passesAll_78 : decode cX5_passesAll 78 = .ok (.aload_n 0, 1) := by decide +kernel
theorem dX5_passesAll_79 : decode cX5_passesAll 79 = .ok (.aload_n 0, 1) := by decide +kernel
theorem dX5_passesAll_80 : decode cX5_passesAll 80 = .ok (.getfield 37, 3) := by decide +kernel
theorem dX5_passesAll_83 : decode cX5_passesAll 83 = .ok (.invokevirtual 154, 3) := by decide +kernel
theorem dX5_passesAll_86 : decode cX5_passesAll 86 = .ok (.aload_n 0, 1) := by decide +kernel
theorem dX5_passesAll_87 : decode cX5_passesAll 87 = .ok (.aload_n 0, 1) := by decide +kernel
theorem dX5_passesAll_88 : decode cX5_passesAll 88 = .ok (.getfield 40, 3) := by decide +kernel
theorem dX5_passesAll_91 : decode cX5_passesAll 91 = .ok (.invokevirtual 154, 3) := by decide +kernel
theorem dX5_passesAll_94 : decode cX5_passesAll 94 = .ok (.aload_n 0, 1) := by decide +kernel
theorem dX5_passesAll_95 : decode cX5_passesAll 95 = .ok (.aload_n 0, 1) := by decide +kernel
theorem dX5_passesAll_96 : decode cX5_passesAll 96 = .ok (.getfield 43, 3) := by decide +kernel
theorem dX5_passesAll_99 : decode cX5_passesAll 99 = .ok (.invokevirtual 154, 3) := by decide +kernel
theorem dX5_passesAll_102 : decode cX5_passesAll 102 = .ok (.aload_n 0, 1) := by decide +kernel
theorem dX5_passesAll_103 : decode cX5_passesAll 103 = .ok (.aload_n 0, 1) := by decide +kernel
theorem dX5_passesAll_104 : decode cX5_passesAll 104 = .ok (.aload_n 0, 1) := by decide +kernel
theorem dX5_passesAll_105 : decode cX5_passesAll 105 = .ok (.getfield 46, 3) := by decide +kernel
theorem dX5_passesAll_108 : decode cX5_passesAll 108 = .ok (.invokevirtual 158, 3) := by decide +kernel
theorem dX5_passesAll_111 : decode cX5_passesAll 111 = .ok (.putfield 46, 3) := by decide +kernel
theorem dX5_passesAll_114 : decode cX5_passesAll 114 = .ok (.aload_n 0, 1) := by decide +kernel
theorem dX5_passesAll_115 : decode cX5_passesAll 115 = .ok (.aload_n 0, 1) := by decide +kernel
theorem dX5_passesAll_116 : decode cX5_passesAll 116 = .ok (.aload_n 0, 1) := by decide +kernel
theorem dX5_passesAll_117 : decode cX5_passesAll 117 = .ok (.getfield 78, 3) := by decide +kernel
theorem dX5_passesAll_120 : decode cX5_passesAll 120 = .ok (.invokevirtual 158, 3) := by decide +kernel
theorem dX5_passesAll_123 : decode cX5_passesAll 123 = .ok (.putfield 78, 3) := by decide +kernel
theorem dX5_passesAll_126 : decode cX5_passesAll 126 = .ok (.aload_n 0, 1) := by decide +kernel
theorem dX5_passesAll_127 : decode cX5_passesAll 127 = .ok (.aload_n 0, 1) := by decide +kernel
theorem dX5_passesAll_128 : decode cX5_passesAll 128 = .ok (.aload_n 0, 1) := by decide +kernel
theorem dX5_passesAll_129 : decode cX5_passesAll 129 = .ok (.getfield 50, 3) := by decide +kernel
theorem dX5_passesAll_132 : decode cX5_passesAll 132 = .ok (.invokevirtual 158, 3) := by decide +kernel
theorem dX5_passesAll_135 : decode cX5_passesAll 135 = .ok (.putfield 50, 3) := by decide +kernel
theorem dX5_passesAll_138 : decode cX5_passesAll 138 = .ok (.aload_n 0, 1) := by decide +kernel
theorem dX5_passesAll_139 : decode cX5_passesAll 139 = .ok (.aload_n 0, 1) := by decide +kernel
theorem dX5_passesAll_140 : decode cX5_passesAll 140 = .ok (.aload_n 0, 1) := by decide +kernel
theorem dX5_passesAll_141 : decode cX5_passesAll 141 = .ok (.getfield 161, 3) := by decide +kernel
theorem dX5_passesAll_144 : decode cX5_passesAll 144 = .ok (.invokevirtual 158, 3) := by decide +kernel
theorem dX5_passesAll_147 : decode cX5_passesAll 147 = .ok (.putfield 161, 3) := by decide +kernel
theorem dX5_passesAll_150 : decode cX5_passesAll 150 = .ok (.return_, 1) := by decide +kernel
theorem dX5_image_0 : decode cX5_image 0 = .ok (.aload_n 0, 1) := by decide +kernel
theorem dX5_image_1 : decode cX5_image 1 = .ok (.iconst 1, 1) := by decide +kernel
theorem dX5_image_2 : decode cX5_image 2 = .ok (.putfield 164, 3) := by decide +kernel
theorem dX5_image_5 : decode cX5_image 5 = .ok (.aload_n 0, 1) := by decide +kernel
theorem dX5_image_6 : decode cX5_image 6 = .ok (.iconst 0, 1) := by decide +kernel
theorem dX5_image_7 : decode cX5_image 7 = .ok (.iconst 1, 1) := by decide +kernel
theorem dX5_image_8 : decode cX5_image 8 = .ok (.invokevirtual 140, 3) := by decide +kernel
theorem dX5_image_11 : decode cX5_image 11 = .ok (.aload_n 0, 1) := by decide +kernel
theorem dX5_image_12 : decode cX5_image 12 = .ok (.getfield 161, 3) := by decide +kernel
theorem dX5_image_15 : decode cX5_image 15 = .ok (.ireturn, 1) := by decide +kernel
theorem dX5_restore_0 : decode cX5_restore 0 = .ok (.aload_n 0, 1) := by decide +kernel
theorem dX5_restore_1 : decode cX5_restore 1 = .ok (.getfield 164, 3) := by decide +kernel
theorem dX5_restore_4 : decode cX5_restore 4 = .ok (.ifCond .ne 10, 3) := by decide +kernel
theorem dX5_restore_7 : decode cX5_restore 7 = .ok (.aload_n 0, 1) := by decide +kernel
theorem dX5_restore_8 : decode cX5_restore 8 = .ok (.bipush (-3), 2) := by decide +kernel
theorem dX5_restore_10 : decode cX5_restore 10 = .ok (.invokevirtual 92, 3) := by decide +kernel
theorem dX5_restore_13 : decode cX5_restore 13 = .ok (.ireturn, 1) := by decide +kernel
theorem dX5_restore_14 : decode cX5_restore 14 = .ok (.aload_n 0, 1) := by decide +kernel
theorem dX5_restore_15 : decode cX5_restore 15 = .ok (.iconst 0, 1) := by decide +kernel
theorem dX5_restore_16 : decode cX5_restore 16 = .ok (.iconst 0, 1) := by decide +kernel
theorem dX5_restore_17 : decode cX5_restore 17 = .ok (.invokevirtual 140, 3) := by decide +kernel
theorem dX5_restore_20 : decode cX5_restore 20 = .ok (.aload_n 0, 1) := by decide +kernel
theorem dX5_restore_21 : decode cX5_restore 21 = .ok (.getfield 161, 3) := by decide +kernel
theorem dX5_restore_24 : decode cX5_restore 24 = .ok (.ireturn, 1) := by decide +kernel
theorem dX5_reachOf_0 : decode cX5_reachOf 0 = .ok (.aload_n 0, 1) := by decide +kernel
theorem dX5_reachOf_1 : decode cX5_reachOf 1 = .ok (.getfield 22, 3) := by decide +kernel
theorem dX5_reachOf_4 : decode cX5_reachOf 4 = .ok (.iload_n 1, 1) := by decide +kernel
theorem dX5_reachOf_5 : decode cX5_reachOf 5 = .ok (.iaload, 1) := by decide +kernel
theorem dX5_reachOf_6 : decode cX5_reachOf 6 = .ok (.tableswitch 49 0 3 #[30, 49, 37, 46], 30) := by decide +kernel
theorem dX5_reachOf_36 : decode cX5_reachOf 36 = .ok (.aload_n 0, 1) := by decide +kernel
theorem dX5_reachOf_37 : decode cX5_reachOf 37 = .ok (.getfield 28, 3) := by decide +kernel
theorem dX5_reachOf_40 : decode cX5_reachOf 40 = .ok (.iload_n 1, 1) := by decide +kernel
theorem dX5_reachOf_41 : decode cX5_reachOf 41 = .ok (.iaload, 1) := by decide +kernel
theorem dX5_reachOf_42 : decode cX5_reachOf 42 = .ok (.ireturn, 1) := by decide +kernel
theorem dX5_reachOf_43 : decode cX5_reachOf 43 = .ok (.aload_n 0, 1) := by decide +kernel
theorem dX5_reachOf_44 : decode cX5_reachOf 44 = .ok (.getfield 28, 3) := by decide +kernel
theorem dX5_reachOf_47 : decode cX5_reachOf 47 = .ok (.iload_n 1, 1) := by decide +kernel
theorem dX5_reachOf_48 : decode cX5_reachOf 48 = .ok (.iaload, 1) := by decide +kernel
theorem dX5_reachOf_49 : decode cX5_reachOf 49 = .ok (.iconst 2, 1) := by decide +kernel
theorem dX5_reachOf_50 : decode cX5_reachOf 50 = .ok (.idiv, 1) := by decide +kernel
theorem dX5_reachOf_51 : decode cX5_reachOf 51 = .ok (.ireturn, 1) := by decide +kernel
theorem dX5_reachOf_52 : decode cX5_reachOf 52 = .ok (.bipush 99, 2) := by decide +kernel
theorem dX5_reachOf_54 : decode cX5_reachOf 54 = .ok (.ireturn, 1) := by decide +kernel
theorem dX5_reachOf_55 : decode cX5_reachOf 55 = .ok (.aload_n 0, 1) := by decide +kernel
theorem dX5_reachOf_56 : decode cX5_reachOf 56 = .ok (.getfield 28, 3) := by decide +kernel
theorem dX5_reachOf_59 : decode cX5_reachOf 59 = .ok (.iload_n 1, 1) := by decide +kernel
theorem dX5_reachOf_60 : decode cX5_reachOf 60 = .ok (.iaload, 1) := by decide +kernel
theorem dX5_reachOf_61 : decode cX5_reachOf 61 = .ok (.iconst 2, 1) := by decide +kernel
theorem dX5_reachOf_62 : decode cX5_reachOf 62 = .ok (.iadd, 1) := by decide +kernel
theorem dX5_reachOf_63 : decode cX5_reachOf 63 = .ok (.ireturn, 1) := by decide +kernel
theorem dX5_holdOf_0 : decode cX5_holdOf 0 = .ok (.aload_n 0, 1) := by decide +kernel
theorem dX5_holdOf_1 : decode cX5_holdOf 1 = .ok (.getfield 22, 3) := by decide +kernel
theorem dX5_holdOf_4 : decode cX5_holdOf 4 = .ok (.iload_n 1, 1) := by decide +kernel
theorem dX5_holdOf_5 : decode cX5_holdOf 5 = .ok (.iaload, 1) := by decide +kernel
theorem dX5_holdOf_6 : decode cX5_holdOf 6 = .ok (.tableswitch 76 2 5 #[30, 53, 62, 62], 30) := by decide +kernel
theorem dX5_holdOf_36 : decode cX5_holdOf 36 = .ok (.aload_n 0, 1) := by decide +kernel
theorem dX5_holdOf_37 : decode cX5_holdOf 37 = .ok (.getfield 31, 3) := by decide +kernel
theorem dX5_holdOf_40 : decode cX5_holdOf 40 = .ok (.iload_n 1, 1) := by decide +kernel
theorem dX5_holdOf_41 : decode cX5_holdOf 41 = .ok (.iaload, 1) := by decide +kernel
theorem dX5_holdOf_42 : decode cX5_holdOf 42 = .ok (.iconst 2, 1) := by decide +kernel
theorem dX5_holdOf_43 : decode cX5_holdOf 43 = .ok (.if_icmp .le 14, 3) := by decide +kernel
theorem dX5_holdOf_46 : decode cX5_holdOf 46 = .ok (.aload_n 0, 1) := by decide +kernel
theorem dX5_holdOf_47 : decode cX5_holdOf 47 = .ok (.getfield 31, 3) := by decide +kernel
theorem dX5_holdOf_50 : decode cX5_holdOf 50 = .ok (.iload_n 1, 1) := by decide +kernel
theorem dX5_holdOf_51 : decode cX5_holdOf 51 = .ok (.iaload, 1) := by decide +kernel
theorem dX5_holdOf_52 : decode cX5_holdOf 52 = .ok (.iconst 2, 1) := by decide +kernel
theorem dX5_holdOf_53 : decode cX5_holdOf 53 = .ok (.isub, 1) := by decide +kernel
theorem dX5_holdOf_54 : decode cX5_holdOf 54 = .ok (.goto 4, 3) := by decide +kernel
theorem dX5_holdOf_57 : decode cX5_holdOf 57 = .ok (.iconst 0, 1) := by decide +kernel
theorem dX5_holdOf_58 : decode cX5_holdOf 58 = .ok (.ireturn, 1) := by decide +kernel
theorem dX5_holdOf_59 : decode cX5_holdOf 59 = .ok (.aload_n 0, 1) := by decide +kernel
theorem dX5_holdOf_60 : decode cX5_holdOf 60 = .ok (.getfield 31, 3) := by decide +kernel
theorem dX5_holdOf_63 : decode cX5_holdOf 63 = .ok (.iload_n 1, 1) := by decide +kernel
theorem dX5_holdOf_64 : decode cX5_holdOf 64 = .ok (.iaload, 1) := by decide +kernel
theorem dX5_holdOf_65 : decode cX5_holdOf 65 = .ok (.iconst 2, 1) := by decide +kernel
theorem dX5_holdOf_66 : decode cX5_holdOf 66 = .ok (.idiv, 1) := by decide +kernel
theorem dX5_holdOf_67 : decode cX5_holdOf 67 = .ok (.ireturn, 1) := by decide +kernel
theorem dX5_holdOf_68 : decode cX5_holdOf 68 = .ok (.aload_n 0, 1) := by decide +kernel
theorem dX5_holdOf_69 : decode cX5_holdOf 69 = .ok (.getfield 31, 3) := by decide +kernel
theorem dX5_holdOf_72 : decode cX5_holdOf 72 = .ok (.iload_n 1, 1) := by decide +kernel
theorem dX5_holdOf_73 : decode cX5_holdOf 73 = .ok (.iaload, 1) := by decide +kernel
theorem dX5_holdOf_74 : decode cX5_holdOf 74 = .ok (.aload_n 0, 1) := by decide +kernel
theorem dX5_holdOf_75 : decode cX5_holdOf 75 = .ok (.getfield 25, 3) := by decide +kernel
theorem dX5_holdOf_78 : decode cX5_holdOf 78 = .ok (.iload_n 1, 1) := by decide +kernel
theorem dX5_holdOf_79 : decode cX5_holdOf 79 = .ok (.iaload, 1) := by decide +kernel
theorem dX5_holdOf_80 : decode cX5_holdOf 80 = .ok (.iadd, 1) := by decide +kernel
theorem dX5_holdOf_81 : decode cX5_holdOf 81 = .ok (.ireturn, 1) := by decide +kernel
theorem dX5_holdOf_82 : decode cX5_holdOf 82 = .ok (.aload_n 0, 1) := by decide +kernel
theorem dX5_holdOf_83 : decode cX5_holdOf 83 = .ok (.getfield 31, 3) := by decide +kernel
theorem dX5_holdOf_86 : decode cX5_holdOf 86 = .ok (.iload_n 1, 1) := by decide +kernel
theorem dX5_holdOf_87 : decode cX5_holdOf 87 = .ok (.iaload, 1) := by decide +kernel
theorem dX5_holdOf_88 : decode cX5_holdOf 88 = .ok (.ireturn, 1) := by decide +kernel
theorem dX5_coolOf_0 : decode cX5_coolOf 0 = .ok (.aload_n 0, 1) := by decide +kernel
theorem dX5_coolOf_1 : decode cX5_coolOf 1 = .ok (.getfield 22, 3) := by decide +kernel
theorem dX5_coolOf_4 : decode cX5_coolOf 4 = .ok (.iload_n 1, 1) := by decide +kernel
theorem dX5_coolOf_5 : decode cX5_coolOf 5 = .ok (.iaload, 1) := by decide +kernel
theorem dX5_coolOf_6 : decode cX5_coolOf 6 = .ok (.tableswitch 58 2 5 #[30, 58, 39, 56], 30) := by decide +kernel
theorem dX5_coolOf_36 : decode cX5_coolOf 36 = .ok (.iconst 2, 1) := by decide +kernel
theorem dX5_coolOf_37 : decode cX5_coolOf 37 = .ok (.aload_n 0, 1) := by decide +kernel
theorem dX5_coolOf_38 : decode cX5_coolOf 38 = .ok (.getfield 50, 3) := by decide +kernel
theorem dX5_coolOf_41 : decode cX5_coolOf 41 = .ok (.iconst 1, 1) := by decide +kernel
theorem dX5_coolOf_42 : decode cX5_coolOf 42 = .ok (.iadd, 1) := by decide +kernel
theorem dX5_coolOf_43 : decode cX5_coolOf 43 = .ok (.imul, 1) := by decide +kernel
theorem dX5_coolOf_44 : decode cX5_coolOf 44 = .ok (.ireturn, 1) := by decide +kernel
theorem dX5_coolOf_45 : decode cX5_coolOf 45 = .ok (.aload_n 0, 1) := by decide +kernel
theorem dX5_coolOf_46 : decode cX5_coolOf 46 = .ok (.getfield 50, 3) := by decide +kernel
theorem dX5_coolOf_49 : decode cX5_coolOf 49 = .ok (.iconst 1, 1) := by decide +kernel
theorem dX5_coolOf_50 : decode cX5_coolOf 50 = .ok (.if_icmp .le 10, 3) := by decide +kernel
theorem dX5_coolOf_53 : decode cX5_coolOf 53 = .ok (.aload_n 0, 1) := by decide +kernel
theorem dX5_coolOf_54 : decode cX5_coolOf 54 = .ok (.getfield 50, 3) := by decide +kernel
theorem dX5_coolOf_57 : decode cX5_coolOf 57 = .ok (.goto 4, 3) := by decide +kernel
theorem dX5_coolOf_60 : decode cX5_coolOf 60 = .ok (.iconst 1, 1) := by decide +kernel
theorem dX5_coolOf_61 : decode cX5_coolOf 61 = .ok (.ireturn, 1) := by decide +kernel
theorem dX5_coolOf_62 : decode cX5_coolOf 62 = .ok (.iconst 1, 1) := by decide +kernel
theorem dX5_coolOf_63 : decode cX5_coolOf 63 = .ok (.ireturn, 1) := by decide +kernel
theorem dX5_coolOf_64 : decode cX5_coolOf 64 = .ok (.aload_n 0, 1) := by decide +kernel
theorem dX5_coolOf_65 : decode cX5_coolOf 65 = .ok (.getfield 50, 3) := by decide +kernel
theorem dX5_coolOf_68 : decode cX5_coolOf 68 = .ok (.iconst 1, 1) := by decide +kernel
theorem dX5_coolOf_69 : decode cX5_coolOf 69 = .ok (.iadd, 1) := by decide +kernel
theorem dX5_coolOf_70 : decode cX5_coolOf 70 = .ok (.ireturn, 1) := by decide +kernel
theorem dX5_yard_0 : decode cX5_yard 0 = .ok (.aload_n 0, 1) := by decide +kernel
theorem dX5_yard_1 : decode cX5_yard 1 = .ok (.iload_n 1, 1) := by decide +kernel
theorem dX5_yard_2 : decode cX5_yard 2 = .ok (.invokevirtual 123, 3) := by decide +kernel
theorem dX5_yard_5 : decode cX5_yard 5 = .ok (.ifCond .ne 9, 3) := by decide +kernel
theorem dX5_yard_8 : decode cX5_yard 8 = .ok (.aload_n 0, 1) := by decide +kernel
theorem dX5_yard_9 : decode cX5_yard 9 = .ok (.iconst (-1), 1) := by decide +kernel
theorem dX5_yard_10 : decode cX5_yard 10 = .ok (.invokevirtual 92, 3) := by decide +kernel
theorem dX5_yard_13 : decode cX5_yard 13 = .ok (.ireturn, 1) := by decide +kernel
theorem dX5_yard_14 : decode cX5_yard 14 = .ok (.iload_n 2, 1) := by decide +kernel
theorem dX5_yard_15 : decode cX5_yard 15 = .ok (.tableswitch 46 0 2 #[25, 32, 39], 25) := by decide +kernel
theorem dX5_yard_40 : decode cX5_yard 40 = .ok (.aload_n 0, 1) := by decide +kernel
theorem dX5_yard_41 : decode cX5_yard 41 = .ok (.getfield 13, 3) := by decide +kernel
theorem dX5_yard_44 : decode cX5_yard 44 = .ok (.iload_n 1, 1) := by decide +kernel
theorem dX5_yard_45 : decode cX5_yard 45 = .ok (.iaload, 1) := by decide +kernel
theorem dX5_yard_46 : decode cX5_yard 46 = .ok (.ireturn, 1) := by decide +kernel
theorem dX5_yard_47 : decode cX5_yard 47 = .ok (.aload_n 0, 1) := by decide +kernel
theorem dX5_yard_48 : decode cX5_yard 48 = .ok (.getfield 16, 3) := by decide +kernel
theorem dX5_yard_51 : decode cX5_yard 51 = .ok (.iload_n 1, 1) := by decide +kernel
theorem dX5_yard_52 : decode cX5_yard 52 = .ok (.iaload, 1) := by decide +kernel
theorem dX5_yard_53 : decode cX5_yard 53 = .ok (.ireturn, 1) := by decide +kernel
theorem dX5_yard_54 : decode cX5_yard 54 = .ok (.aload_n 0, 1) := by decide +kernel
theorem dX5_yard_55 : decode cX5_yard 55 = .ok (.getfield 19, 3) := by decide +kernel
theorem dX5_yard_58 : decode cX5_yard 58 = .ok (.iload_n 1, 1) := by decide +kernel
theorem dX5_yard_59 : decode cX5_yard 59 = .ok (.iaload, 1) := by decide +kernel
theorem dX5_yard_60 : decode cX5_yard 60 = .ok (.ireturn, 1) := by decide +kernel
theorem dX5_yard_61 : decode cX5_yard 61 = .ok (.aload_n 0, 1) := by decide +kernel
theorem dX5_yard_62 : decode cX5_yard 62 = .ok (.bipush (-2), 2) := by decide +kernel
theorem dX5_yard_64 : decode cX5_yard 64 = .ok (.invokevirtual 92, 3) := by decide +kernel
theorem dX5_yard_67 : decode cX5_yard 67 = .ok (.ireturn, 1) := by decide +kernel
theorem dX5_person_0 : decode cX5_person 0 = .ok (.aload_n 0, 1) := by decide +kernel
theorem dX5_person_1 : decode cX5_person 1 = .ok (.iload_n 1, 1) := by decide +kernel
theorem dX5_person_2 : decode cX5_person 2 = .ok (.invokevirtual 81, 3) := by decide +kernel
theorem dX5_person_5 : decode cX5_person 5 = .ok (.ifCond .ne 9, 3) := by decide +kernel
theorem dX5_person_8 : decode cX5_person 8 = .ok (.aload_n 0, 1) := by decide +kernel
theorem dX5_person_9 : decode cX5_person 9 = .ok (.iconst (-1), 1) := by decide +kernel
theorem dX5_person_10 : decode cX5_person 10 = .ok (.invokevirtual 92, 3) := by decide +kernel
theorem dX5_person_13 : decode cX5_person 13 = .ok (.ireturn, 1) := by decide +kernel
theorem dX5_person_14 : decode cX5_person 14 = .ok (.iload_n 2, 1) := by decide +kernel
theorem dX5_person_15 : decode cX5_person 15 = .ok (.tableswitch 108 0 8 #[49, 56, 63, 70, 77, 84, 90, 96, 102], 49) := by decide +kernel
theorem dX5_person_64 : decode cX5_person 64 = .ok (.aload_n 0, 1) := by decide +kernel
theorem dX5_person_65 : decode cX5_person 65 = .ok (.getfield 22, 3) := by decide +kernel
theorem dX5_person_68 : decode cX5_person 68 = .ok (.iload_n 1, 1) := by decide +kernel
theorem dX5_person_69 : decode cX5_person 69 = .ok (.iaload, 1) := by decide +kernel
theorem dX5_person_70 : decode cX5_person 70 = .ok (.ireturn, 1) := by decide +kernel
theorem dX5_person_71 : decode cX5_person 71 = .ok (.aload_n 0, 1) := by decide +kernel
theorem dX5_person_72 : decode cX5_person 72 = .ok (.getfield 25, 3) := by decide +kernel
theorem dX5_person_75 : decode cX5_person 75 = .ok (.iload_n 1, 1) := by decide +kernel
theorem dX5_person_76 : decode cX5_person 76 = .ok (.iaload, 1) := by decide +kernel
theorem dX5_person_77 : decode cX5_person 77 = .ok (.ireturn, 1) := by decide +kernel
theorem dX5_person_78 : decode cX5_person 78 = .ok (.aload_n 0, 1) := by decide +kernel
theorem dX5_person_79 : decode cX5_person 79 = .ok (.getfield 28, 3) := by decide +kernel
theorem dX5_person_82 : decode cX5_person 82 = .ok (.iload_n 1, 1) := by decide +kernel
theorem dX5_person_83 : decode cX5_person 83 = .ok (.iaload, 1) := by decide +kernel
theorem dX5_person_84 : decode cX5_person 84 = .ok (.ireturn, 1) := by decide +kernel
theorem dX5_person_85 : decode cX5_person 85 = .ok (.aload_n 0, 1) := by decide +kernel
theorem dX5_person_86 : decode cX5_person 86 = .ok (.getfield 31, 3) := by decide +kernel
theorem dX5_person_89 : decode cX5_person 89 = .ok (.iload_n 1, 1) := by decide +kernel
theorem dX5_person_90 : decode cX5_person 90 = .ok (.iaload, 1) := by decide +kernel
theorem dX5_person_91 : decode cX5_person 91 = .ok (.ireturn, 1) := by decide +kernel
theorem dX5_person_92 : decode cX5_person 92 = .ok (.aload_n 0, 1) := by decide +kernel
theorem dX5_person_93 : decode cX5_person 93 = .ok (.getfield 34, 3) := by decide +kernel
theorem dX5_person_96 : decode cX5_person 96 = .ok (.iload_n 1, 1) := by decide +kernel
theorem dX5_person_97 : decode cX5_person 97 = .ok (.iaload, 1) := by decide +kernel
theorem dX5_person_98 : decode cX5_person 98 = .ok (.ireturn, 1) := by decide +kernel
theorem dX5_person_99 : decode cX5_person 99 = .ok (.aload_n 0, 1) := by decide +kernel
theorem dX5_person_100 : decode cX5_person 100 = .ok (.iload_n 1, 1) := by decide +kernel
theorem dX5_person_101 : decode cX5_person 101 = .ok (.invokevirtual 167, 3) := by decide +kernel
theorem dX5_person_104 : decode cX5_person 104 = .ok (.ireturn, 1) := by decide +kernel
theorem dX5_person_105 : decode cX5_person 105 = .ok (.aload_n 0, 1) := by decide +kernel
theorem dX5_person_106 : decode cX5_person 106 = .ok (.iload_n 1, 1) := by decide +kernel
theorem dX5_person_107 : decode cX5_person 107 = .ok (.invokevirtual 170, 3) := by decide +kernel
theorem dX5_person_110 : decode cX5_person 110 = .ok (.ireturn, 1) := by decide +kernel
theorem dX5_person_111 : decode cX5_person 111 = .ok (.aload_n 0, 1) := by decide +kernel
theorem dX5_person_112 : decode cX5_person 112 = .ok (.iload_n 1, 1) := by decide +kernel
theorem dX5_person_113 : decode cX5_person 113 = .ok (.invokevirtual 173, 3) := by decide +kernel
theorem dX5_person_116 : decode cX5_person 116 = .ok (.ireturn, 1) := by decide +kernel
theorem dX5_person_117 : decode cX5_person 117 = .ok (.aload_n 0, 1) := by decide +kernel
theorem dX5_person_118 : decode cX5_person 118 = .ok (.iload_n 1, 1) := by decide +kernel
theorem dX5_person_119 : decode cX5_person 119 = .ok (.invokevirtual 117, 3) := by decide +kernel
theorem dX5_person_122 : decode cX5_person 122 = .ok (.ireturn, 1) := by decide +kernel
theorem dX5_person_123 : decode cX5_person 123 = .ok (.aload_n 0, 1) := by decide +kernel
theorem dX5_person_124 : decode cX5_person 124 = .ok (.bipush (-2), 2) := by decide +kernel
theorem dX5_person_126 : decode cX5_person 126 = .ok (.invokevirtual 92, 3) := by decide +kernel
theorem dX5_person_129 : decode cX5_person 129 = .ok (.ireturn, 1) := by decide +kernel
theorem dX5_grudge_0 : decode cX5_grudge 0 = .ok (.aload_n 0, 1) := by decide +kernel
theorem dX5_grudge_1 : decode cX5_grudge 1 = .ok (.iload_n 1, 1) := by decide +kernel
theorem dX5_grudge_2 : decode cX5_grudge 2 = .ok (.iload_n 2, 1) := by decide +kernel
theorem dX5_grudge_3 : decode cX5_grudge 3 = .ok (.invokevirtual 129, 3) := by decide +kernel
theorem dX5_grudge_6 : decode cX5_grudge 6 = .ok (.ifCond .eq 17, 3) := by decide +kernel
theorem dX5_grudge_9 : decode cX5_grudge 9 = .ok (.aload_n 0, 1) := by decide +kernel
theorem dX5_grudge_10 : decode cX5_grudge 10 = .ok (.getfield 40, 3) := by decide +kernel
theorem dX5_grudge_13 : decode cX5_grudge 13 = .ok (.bipush 7, 2) := by decide +kernel
theorem dX5_grudge_15 : decode cX5_grudge 15 = .ok (.iload_n 1, 1) := by decide +kernel
theorem dX5_grudge_16 : decode cX5_grudge 16 = .ok (.imul, 1) := by decide +kernel
theorem dX5_grudge_17 : decode cX5_grudge 17 = .ok (.iload_n 2, 1) := by decide +kernel
theorem dX5_grudge_18 : decode cX5_grudge 18 = .ok (.iadd, 1) := by decide +kernel
theorem dX5_grudge_19 : decode cX5_grudge 19 = .ok (.iaload, 1) := by decide +kernel
theorem dX5_grudge_20 : decode cX5_grudge 20 = .ok (.goto 8, 3) := by decide +kernel
theorem dX5_grudge_23 : decode cX5_grudge 23 = .ok (.aload_n 0, 1) := by decide +kernel
theorem dX5_grudge_24 : decode cX5_grudge 24 = .ok (.iconst (-1), 1) := by decide +kernel
theorem dX5_grudge_25 : decode cX5_grudge 25 = .ok (.invokevirtual 92, 3) := by decide +kernel
theorem dX5_grudge_28 : decode cX5_grudge 28 = .ok (.ireturn, 1) := by decide +kernel
theorem dX5_quarrel_0 : decode cX5_quarrel 0 = .ok (.aload_n 0, 1) := by decide +kernel
theorem dX5_quarrel_1 : decode cX5_quarrel 1 = .ok (.iload_n 1, 1) := by decide +kernel
theorem dX5_quarrel_2 : decode cX5_quarrel 2 = .ok (.iload_n 2, 1) := by decide +kernel
theorem dX5_quarrel_3 : decode cX5_quarrel 3 = .ok (.invokevirtual 129, 3) := by decide +kernel
theorem dX5_quarrel_6 : decode cX5_quarrel 6 = .ok (.ifCond .ne 9, 3) := by decide +kernel
theorem dX5_quarrel_9 : decode cX5_quarrel 9 = .ok (.aload_n 0, 1) := by decide +kernel
theorem dX5_quarrel_10 : decode cX5_quarrel 10 = .ok (.iconst (-1), 1) := by decide +kernel
theorem dX5_quarrel_11 : decode cX5_quarrel 11 = .ok (.invokevirtual 92, 3) := by decide +kernel
theorem dX5_quarrel_14 : decode cX5_quarrel 14 = .ok (.ireturn, 1) := by decide +kernel
theorem dX5_quarrel_15 : decode cX5_quarrel 15 = .ok (.iload_n 3, 1) := by decide +kernel
theorem dX5_quarrel_16 : decode cX5_quarrel 16 = .ok (.iconst 0, 1) := by decide +kernel
theorem dX5_quarrel_17 : decode cX5_quarrel 17 = .ok (.iconst 1, 1) := by decide +kernel
theorem dX5_quarrel_18 : decode cX5_quarrel 18 = .ok (.invokestatic 103, 3) := by decide +kernel
theorem dX5_quarrel_21 : decode cX5_quarrel 21 = .ok (.ifCond .ne 10, 3) := by decide +kernel
theorem dX5_quarrel_24 : decode cX5_quarrel 24 = .ok (.aload_n 0, 1) := by decide +kernel
theorem dX5_quarrel_25 : decode cX5_quarrel 25 = .ok (.bipush (-2), 2) := by decide +kernel
theorem dX5_quarrel_27 : decode cX5_quarrel 27 = .ok (.invokevirtual 92, 3) := by decide +kernel
theorem dX5_quarrel_30 : decode cX5_quarrel 30 = .ok (.ireturn, 1) := by decide +kernel
theorem dX5_quarrel_31 : decode cX5_quarrel 31 = .ok (.aload_n 0, 1) := by decide +kernel
theorem dX5_quarrel_32 : decode cX5_quarrel 32 = .ok (.getfield 40, 3) := by decide +kernel
theorem dX5_quarrel_35 : decode cX5_quarrel 35 = .ok (.bipush 7, 2) := by decide +kernel
theorem dX5_quarrel_37 : decode cX5_quarrel 37 = .ok (.iload_n 1, 1) := by decide +kernel
theorem dX5_quarrel_38 : decode cX5_quarrel 38 = .ok (.imul, 1) := by decide +kernel
theorem dX5_quarrel_39 : decode cX5_quarrel 39 = .ok (.iload_n 2, 1) := by decide +kernel
theorem dX5_quarrel_40 : decode cX5_quarrel 40 = .ok (.iadd, 1) := by decide +kernel
theorem dX5_quarrel_41 : decode cX5_quarrel 41 = .ok (.iaload, 1) := by decide +kernel
theorem dX5_quarrel_42 : decode cX5_quarrel 42 = .ok (.istore 4, 2) := by decide +kernel
theorem dX5_quarrel_44 : decode cX5_quarrel 44 = .ok (.aload_n 0, 1) := by decide +kernel
theorem dX5_quarrel_45 : decode cX5_quarrel 45 = .ok (.getfield 40, 3) := by decide +kernel
theorem dX5_quarrel_48 : decode cX5_quarrel 48 = .ok (.bipush 7, 2) := by decide +kernel
theorem dX5_quarrel_50 : decode cX5_quarrel 50 = .ok (.iload_n 1, 1) := by decide +kernel
theorem dX5_quarrel_51 : decode cX5_quarrel 51 = .ok (.imul, 1) := by decide +kernel
theorem dX5_quarrel_52 : decode cX5_quarrel 52 = .ok (.iload_n 2, 1) := by decide +kernel
theorem dX5_quarrel_53 : decode cX5_quarrel 53 = .ok (.iadd, 1) := by decide +kernel
theorem dX5_quarrel_54 : decode cX5_quarrel 54 = .ok (.iload_n 3, 1) := by decide +kernel
theorem dX5_quarrel_55 : decode cX5_quarrel 55 = .ok (.iastore, 1) := by decide +kernel
theorem dX5_quarrel_56 : decode cX5_quarrel 56 = .ok (.aload_n 0, 1) := by decide +kernel
theorem dX5_quarrel_57 : decode cX5_quarrel 57 = .ok (.getfield 40, 3) := by decide +kernel
theorem dX5_quarrel_60 : decode cX5_quarrel 60 = .ok (.bipush 7, 2) := by decide +kernel
theorem dX5_quarrel_62 : decode cX5_quarrel 62 = .ok (.iload_n 2, 1) := by decide +kernel
theorem dX5_quarrel_63 : decode cX5_quarrel 63 = .ok (.imul, 1) := by decide +kernel
theorem dX5_quarrel_64 : decode cX5_quarrel 64 = .ok (.iload_n 1, 1) := by decide +kernel
theorem dX5_quarrel_65 : decode cX5_quarrel 65 = .ok (.iadd, 1) := by decide +kernel
theorem dX5_quarrel_66 : decode cX5_quarrel 66 = .ok (.iload_n 3, 1) := by decide +kernel
theorem dX5_quarrel_67 : decode cX5_quarrel 67 = .ok (.iastore, 1) := by decide +kernel
theorem dX5_quarrel_68 : decode cX5_quarrel 68 = .ok (.iload 4, 2) := by decide +kernel
theorem dX5_quarrel_70 : decode cX5_quarrel 70 = .ok (.ireturn, 1) := by decide +kernel
theorem dX5_cold_0 : decode cX5_cold 0 = .ok (.iload_n 1, 1) := by decide +kernel
theorem dX5_cold_1 : decode cX5_cold 1 = .ok (.iconst 0, 1) := by decide +kernel
theorem dX5_cold_2 : decode cX5_cold 2 = .ok (.bipush 9, 2) := by decide +kernel
theorem dX5_cold_4 : decode cX5_cold 4 = .ok (.invokestatic 85, 3) := by decide +kernel
theorem dX5_cold_7 : decode cX5_cold 7 = .ok (.istore_n 2, 1) := by decide +kernel
theorem dX5_cold_8 : decode cX5_cold 8 = .ok (.iload_n 2, 1) := by decide +kernel
theorem dX5_cold_9 : decode cX5_cold 9 = .ok (.ifCond .eq 9, 3) := by decide +kernel
theorem dX5_cold_12 : decode cX5_cold 12 = .ok (.aload_n 0, 1) := by decide +kernel
theorem dX5_cold_13 : decode cX5_cold 13 = .ok (.iload_n 2, 1) := by decide +kernel
theorem dX5_cold_14 : decode cX5_cold 14 = .ok (.invokevirtual 92, 3) := by decide +kernel
theorem dX5_cold_17 : decode cX5_cold 17 = .ok (.ireturn, 1) := by decide +kernel
theorem dX5_cold_18 : decode cX5_cold 18 = .ok (.aload_n 0, 1) := by decide +kernel
theorem dX5_cold_19 : decode cX5_cold 19 = .ok (.getfield 50, 3) := by decide +kernel
theorem dX5_cold_22 : decode cX5_cold 22 = .ok (.istore_n 3, 1) := by decide +kernel
theorem dX5_cold_23 : decode cX5_cold 23 = .ok (.aload_n 0, 1) := by decide +kernel
theorem dX5_cold_24 : decode cX5_cold 24 = .ok (.iload_n 1, 1) := by decide +kernel
theorem dX5_cold_25 : decode cX5_cold 25 = .ok (.putfield 50, 3) := by decide +kernel
theorem dX5_cold_28 : decode cX5_cold 28 = .ok (.iload_n 3, 1) := by decide +kernel
theorem dX5_cold_29 : decode cX5_cold 29 = .ok (.ireturn, 1) := by decide +kernel
theorem dX5_put_0 : decode cX5_put 0 = .ok (.aload_n 0, 1) := by decide +kernel
theorem dX5_put_1 : decode cX5_put 1 = .ok (.iload_n 1, 1) := by decide +kernel
theorem dX5_put_2 : decode cX5_put 2 = .ok (.invokevirtual 123, 3) := by decide +kernel
theorem dX5_put_5 : decode cX5_put 5 = .ok (.ifCond .eq 11, 3) := by decide +kernel
theorem dX5_put_8 : decode cX5_put 8 = .ok (.aload_n 0, 1) := by decide +kernel
theorem dX5_put_9 : decode cX5_put 9 = .ok (.iload_n 2, 1) := by decide +kernel
theorem dX5_put_10 : decode cX5_put 10 = .ok (.invokevirtual 81, 3) := by decide +kernel
theorem dX5_put_13 : decode cX5_put 13 = .ok (.ifCond .ne 9, 3) := by decide +kernel
theorem dX5_put_16 : decode cX5_put 16 = .ok (.aload_n 0, 1) := by decide +kernel
theorem dX5_put_17 : decode cX5_put 17 = .ok (.iconst (-1), 1) := by decide +kernel
theorem dX5_put_18 : decode cX5_put 18 = .ok (.invokevirtual 92, 3) := by decide +kernel
theorem dX5_put_21 : decode cX5_put 21 = .ok (.ireturn, 1) := by decide +kernel
theorem dX5_put_22 : decode cX5_put 22 = .ok (.aload_n 0, 1) := by decide +kernel
theorem dX5_put_23 : decode cX5_put 23 = .ok (.getfield 37, 3) := by decide +kernel
theorem dX5_put_26 : decode cX5_put 26 = .ok (.iload_n 2, 1) := by decide +kernel
theorem dX5_put_27 : decode cX5_put 27 = .ok (.iaload, 1) := by decide +kernel
theorem dX5_put_28 : decode cX5_put 28 = .ok (.iconst 1, 1) := by decide +kernel
theorem dX5_put_29 : decode cX5_put 29 = .ok (.if_icmp .ne 10, 3) := by decide +kernel
theorem dX5_put_32 : decode cX5_put 32 = .ok (.aload_n 0, 1) := by decide +kernel
theorem dX5_put_33 : decode cX5_put 33 = .ok (.bipush (-3), 2) := by decide +kernel
theorem dX5_put_35 : decode cX5_put 35 = .ok (.invokevirtual 92, 3) := by decide +kernel
theorem dX5_put_38 : decode cX5_put 38 = .ok (.ireturn, 1) := by decide +kernel
theorem dX5_put_39 : decode cX5_put 39 = .ok (.aload_n 0, 1) := by decide +kernel
theorem dX5_put_40 : decode cX5_put 40 = .ok (.getfield 19, 3) := by decide +kernel
theorem dX5_put_43 : decode cX5_put 43 = .ok (.iload_n 1, 1) := by decide +kernel
theorem dX5_put_44 : decode cX5_put 44 = .ok (.iaload, 1) := by decide +kernel
theorem dX5_put_45 : decode cX5_put 45 = .ok (.istore_n 3, 1) := by decide +kernel
theorem dX5_put_46 : decode cX5_put 46 = .ok (.aload_n 0, 1) := by decide +kernel
theorem dX5_put_47 : decode cX5_put 47 = .ok (.iload_n 1, 1) := by decide +kernel
theorem dX5_put_48 : decode cX5_put 48 = .ok (.iload_n 2, 1) := by decide +kernel
theorem dX5_put_49 : decode cX5_put 49 = .ok (.invokevirtual 132, 3) := by decide +kernel
theorem dX5_put_52 : decode cX5_put 52 = .ok (.iload_n 3, 1) := by decide +kernel
theorem dX5_put_53 : decode cX5_put 53 = .ok (.ireturn, 1) := by decide +kernel
theorem dX5_wetMany_0 : decode cX5_wetMany 0 = .ok (.iconst 0, 1) := by decide +kernel
theorem dX5_wetMany_1 : decode cX5_wetMany 1 = .ok (.istore_n 1, 1) := by decide +kernel
theorem dX5_wetMany_2 : decode cX5_wetMany 2 = .ok (.iconst 0, 1) := by decide +kernel
theorem dX5_wetMany_3 : decode cX5_wetMany 3 = .ok (.istore_n 2, 1) := by decide +kernel
theorem dX5_wetMany_4 : decode cX5_wetMany 4 = .ok (.iload_n 2, 1) := by decide +kernel
theorem dX5_wetMany_5 : decode cX5_wetMany 5 = .ok (.aload_n 0, 1) := by decide +kernel
theorem dX5_wetMany_6 : decode cX5_wetMany 6 = .ok (.getfield 46, 3) := by decide +kernel
theorem dX5_wetMany_9 : decode cX5_wetMany 9 = .ok (.if_icmp .ge 26, 3) := by decide +kernel
theorem dX5_wetMany_12 : decode cX5_wetMany 12 = .ok (.iload_n 1, 1) := by decide +kernel
theorem dX5_wetMany_13 : decode cX5_wetMany 13 = .ok (.aload_n 0, 1) := by decide +kernel
theorem dX5_wetMany_14 : decode cX5_wetMany 14 = .ok (.getfield 19, 3) := by decide +kernel
theorem dX5_wetMany_17 : decode cX5_wetMany 17 = .ok (.iload_n 2, 1) := by decide +kernel
theorem dX5_wetMany_18 : decode cX5_wetMany 18 = .ok (.iaload, 1) := by decide +kernel
theorem dX5_wetMany_19 : decode cX5_wetMany 19 = .ok (.ifCond .lt 7, 3) := by decide +kernel
theorem dX5_wetMany_22 : decode cX5_wetMany 22 = .ok (.iconst 1, 1) := by decide +kernel
theorem dX5_wetMany_23 : decode cX5_wetMany 23 = .ok (.goto 4, 3) := by decide +kernel
theorem dX5_wetMany_26 : decode cX5_wetMany 26 = .ok (.iconst 0, 1) := by decide +kernel
theorem dX5_wetMany_27 : decode cX5_wetMany 27 = .ok (.iadd, 1) := by decide +kernel
theorem dX5_wetMany_28 : decode cX5_wetMany 28 = .ok (.istore_n 1, 1) := by decide +kernel
theorem dX5_wetMany_29 : decode cX5_wetMany 29 = .ok (.iinc 2 1, 3) := by decide +kernel
theorem dX5_wetMany_32 : decode cX5_wetMany 32 = .ok (.goto (-28), 3) := by decide +kernel
theorem dX5_wetMany_35 : decode cX5_wetMany 35 = .ok (.iload_n 1, 1) := by decide +kernel
theorem dX5_wetMany_36 : decode cX5_wetMany 36 = .ok (.ireturn, 1) := by decide +kernel
theorem dX5_out_0 : decode cX5_out 0 = .ok (.aload_n 0, 1) := by decide +kernel
theorem dX5_out_1 : decode cX5_out 1 = .ok (.invokevirtual 176, 3) := by decide +kernel
theorem dX5_out_4 : decode cX5_out 4 = .ok (.aload_n 0, 1) := by decide +kernel
theorem dX5_out_5 : decode cX5_out 5 = .ok (.invokevirtual 179, 3) := by decide +kernel
theorem dX5_out_8 : decode cX5_out 8 = .ok (.iadd, 1) := by decide +kernel
theorem dX5_out_9 : decode cX5_out 9 = .ok (.istore_n 1, 1) := by decide +kernel
theorem dX5_out_10 : decode cX5_out 10 = .ok (.iconst 0, 1) := by decide +kernel
theorem dX5_out_11 : decode cX5_out 11 = .ok (.istore_n 2, 1) := by decide +kernel
theorem dX5_out_12 : decode cX5_out 12 = .ok (.iload_n 2, 1) := by decide +kernel
theorem dX5_out_13 : decode cX5_out 13 = .ok (.aload_n 0, 1) := by decide +kernel
theorem dX5_out_14 : decode cX5_out 14 = .ok (.getfield 46, 3) := by decide +kernel
theorem dX5_out_17 : decode cX5_out 17 = .ok (.if_icmp .ge 17, 3) := by decide +kernel
theorem dX5_out_20 : decode cX5_out 20 = .ok (.aload_n 0, 1) := by decide +kernel
theorem dX5_out_21 : decode cX5_out 21 = .ok (.getfield 19, 3) := by decide +kernel
theorem dX5_out_24 : decode cX5_out 24 = .ok (.iload_n 2, 1) := by decide +kernel
theorem dX5_out_25 : decode cX5_out 25 = .ok (.bipush (-9), 2) := by decide +kernel
theorem dX5_out_27 : decode cX5_out 27 = .ok (.iastore, 1) := by decide +kernel
theorem dX5_out_28 : decode cX5_out 28 = .ok (.iinc 2 1, 3) := by decide +kernel
theorem dX5_out_31 : decode cX5_out 31 = .ok (.goto (-19), 3) := by decide +kernel
theorem dX5_out_34 : decode cX5_out 34 = .ok (.iconst 0, 1) := by decide +kernel
theorem dX5_out_35 : decode cX5_out 35 = .ok (.istore_n 2, 1) := by decide +kernel
theorem dX5_out_36 : decode cX5_out 36 = .ok (.iload_n 2, 1) := by decide +kernel
theorem dX5_out_37 : decode cX5_out 37 = .ok (.aload_n 0, 1) := by decide +kernel
theorem dX5_out_38 : decode cX5_out 38 = .ok (.getfield 78, 3) := by decide +kernel
theorem dX5_out_41 : decode cX5_out 41 = .ok (.if_icmp .ge 16, 3) := by decide +kernel
theorem dX5_out_44 : decode cX5_out 44 = .ok (.aload_n 0, 1) := by decide +kernel
theorem dX5_out_45 : decode cX5_out 45 = .ok (.getfield 37, 3) := by decide +kernel
theorem dX5_out_48 : decode cX5_out 48 = .ok (.iload_n 2, 1) := by decide +kernel
theorem dX5_out_49 : decode cX5_out 49 = .ok (.iconst 0, 1) := by decide +kernel
theorem dX5_out_50 : decode cX5_out 50 = .ok (.iastore, 1) := by decide +kernel
theorem dX5_out_51 : decode cX5_out 51 = .ok (.iinc 2 1, 3) := by decide +kernel
theorem dX5_out_54 : decode cX5_out 54 = .ok (.goto (-18), 3) := by decide +kernel
theorem dX5_out_57 : decode cX5_out 57 = .ok (.iload_n 1, 1) := by decide +kernel
theorem dX5_out_58 : decode cX5_out 58 = .ok (.ireturn, 1) := by decide +kernel
theorem dX5_loadOf_0 : decode cX5_loadOf 0 = .ok (.iconst 0, 1) := by decide +kernel
theorem dX5_loadOf_1 : decode cX5_loadOf 1 = .ok (.istore_n 2, 1) := by decide +kernel
theorem dX5_loadOf_2 : decode cX5_loadOf 2 = .ok (.iconst 0, 1) := by decide +kernel
theorem dX5_loadOf_3 : decode cX5_loadOf 3 = .ok (.istore_n 3, 1) := by decide +kernel
theorem dX5_loadOf_4 : decode cX5_loadOf 4 = .ok (.iconst 0, 1) := by decide +kernel
theorem dX5_loadOf_5 : decode cX5_loadOf 5 = .ok (.istore 4, 2) := by decide +kernel
theorem dX5_loadOf_7 : decode cX5_loadOf 7 = .ok (.iload 4, 2) := by decide +kernel
theorem dX5_loadOf_9 : decode cX5_loadOf 9 = .ok (.aload_n 0, 1) := by decide +kernel
theorem dX5_loadOf_10 : decode cX5_loadOf 10 = .ok (.getfield 46, 3) := by decide +kernel
theorem dX5_loadOf_13 : decode cX5_loadOf 13 = .ok (.if_icmp .ge 38, 3) := by decide +kernel
theorem dX5_loadOf_16 : decode cX5_loadOf 16 = .ok (.iload 4, 2) := by decide +kernel
theorem dX5_loadOf_18 : decode cX5_loadOf 18 = .ok (.iload_n 1, 1) := by decide +kernel
theorem dX5_loadOf_19 : decode cX5_loadOf 19 = .ok (.if_icmp .ge 16, 3) := by decide +kernel
theorem dX5_loadOf_22 : decode cX5_loadOf 22 = .ok (.iload_n 2, 1) := by decide +kernel
theorem dX5_loadOf_23 : decode cX5_loadOf 23 = .ok (.aload_n 0, 1) := by decide +kernel
theorem dX5_loadOf_24 : decode cX5_loadOf 24 = .ok (.getfield 16, 3) := by decide +kernel
theorem dX5_loadOf_27 : decode cX5_loadOf 27 = .ok (.iload 4, 2) := by decide +kernel
theorem dX5_loadOf_29 : decode cX5_loadOf 29 = .ok (.iaload, 1) := by decide +kernel
theorem dX5_loadOf_30 : decode cX5_loadOf 30 = .ok (.iadd, 1) := by decide +kernel
theorem dX5_loadOf_31 : decode cX5_loadOf 31 = .ok (.istore_n 2, 1) := by decide +kernel
theorem dX5_loadOf_32 : decode cX5_loadOf 32 = .ok (.goto 13, 3) := by decide +kernel
theorem dX5_loadOf_35 : decode cX5_loadOf 35 = .ok (.iload_n 3, 1) := by decide +kernel
theorem dX5_loadOf_36 : decode cX5_loadOf 36 = .ok (.aload_n 0, 1) := by decide +kernel
theorem dX5_loadOf_37 : decode cX5_loadOf 37 = .ok (.getfield 16, 3) := by decide +kernel
theorem dX5_loadOf_40 : decode cX5_loadOf 40 = .ok (.iload 4, 2) := by decide +kernel
theorem dX5_loadOf_42 : decode cX5_loadOf 42 = .ok (.iaload, 1) := by decide +kernel
theorem dX5_loadOf_43 : decode cX5_loadOf 43 = .ok (.iadd, 1) := by decide +kernel
theorem dX5_loadOf_44 : decode cX5_loadOf 44 = .ok (.istore_n 3, 1) := by decide +kernel
theorem dX5_loadOf_45 : decode cX5_loadOf 45 = .ok (.iinc 4 1, 3) := by decide +kernel
theorem dX5_loadOf_48 : decode cX5_loadOf 48 = .ok (.goto (-41), 3) := by decide +kernel
theorem dX5_loadOf_51 : decode cX5_loadOf 51 = .ok (.iload_n 2, 1) := by decide +kernel
theorem dX5_loadOf_52 : decode cX5_loadOf 52 = .ok (.iload_n 3, 1) := by decide +kernel
theorem dX5_loadOf_53 : decode cX5_loadOf 53 = .ok (.invokestatic 182, 3) := by decide +kernel
theorem dX5_loadOf_56 : decode cX5_loadOf 56 = .ok (.ireturn, 1) := by decide +kernel
theorem dX5_load_0 : decode cX5_load 0 = .ok (.iload_n 1, 1) := by decide +kernel
theorem dX5_load_1 : decode cX5_load 1 = .ok (.iconst 0, 1) := by decide +kernel
theorem dX5_load_2 : decode cX5_load 2 = .ok (.aload_n 0, 1) := by decide +kernel
theorem dX5_load_3 : decode cX5_load 3 = .ok (.getfield 46, 3) := by decide +kernel
theorem dX5_load_6 : decode cX5_load 6 = .ok (.invokestatic 103, 3) := by decide +kernel
theorem dX5_load_9 : decode cX5_load 9 = .ok (.ifCond .eq 11, 3) := by decide +kernel
theorem dX5_load_12 : decode cX5_load 12 = .ok (.aload_n 0, 1) := by decide +kernel
theorem dX5_load_13 : decode cX5_load 13 = .ok (.iload_n 1, 1) := by decide +kernel
theorem dX5_load_14 : decode cX5_load 14 = .ok (.invokevirtual 186, 3) := by decide +kernel
theorem dX5_load_17 : decode cX5_load 17 = .ok (.goto 8, 3) := by decide +kernel
theorem dX5_load_20 : decode cX5_load 20 = .ok (.aload_n 0, 1) := by decide +kernel
theorem dX5_load_21 : decode cX5_load 21 = .ok (.iconst (-1), 1) := by decide +kernel
theorem dX5_load_22 : decode cX5_load 22 = .ok (.invokevirtual 92, 3) := by decide +kernel
theorem dX5_load_25 : decode cX5_load 25 = .ok (.ireturn, 1) := by decide +kernel
theorem dX5_doesReach_0 : decode cX5_doesReach 0 = .ok (.aload_n 0, 1) := by decide +kernel
theorem dX5_doesReach_1 : decode cX5_doesReach 1 = .ok (.iload_n 2, 1) := by decide +kernel
theorem dX5_doesReach_2 : decode cX5_doesReach 2 = .ok (.invokevirtual 167, 3) := by decide +kernel
theorem dX5_doesReach_5 : decode cX5_doesReach 5 = .ok (.aload_n 0, 1) := by decide +kernel
theorem dX5_doesReach_6 : decode cX5_doesReach 6 = .ok (.getfield 13, 3) := by decide +kernel
theorem dX5_doesReach_9 : decode cX5_doesReach 9 = .ok (.iload_n 1, 1) := by decide +kernel
theorem dX5_doesReach_10 : decode cX5_doesReach 10 = .ok (.iaload, 1) := by decide +kernel
theorem dX5_doesReach_11 : decode cX5_doesReach 11 = .ok (.iload_n 3, 1) := by decide +kernel
theorem dX5_doesReach_12 : decode cX5_doesReach 12 = .ok (.iadd, 1) := by decide +kernel
theorem dX5_doesReach_13 : decode cX5_doesReach 13 = .ok (.if_icmp .lt 7, 3) := by decide +kernel
theorem dX5_doesReach_16 : decode cX5_doesReach 16 = .ok (.iconst 1, 1) := by decide +kernel
theorem dX5_doesReach_17 : decode cX5_doesReach 17 = .ok (.goto 4, 3) := by decide +kernel
theorem dX5_doesReach_20 : decode cX5_doesReach 20 = .ok (.iconst 0, 1) := by decide +kernel
theorem dX5_doesReach_21 : decode cX5_doesReach 21 = .ok (.ireturn, 1) := by decide +kernel
theorem dX5_doesHold_0 : decode cX5_doesHold 0 = .ok (.aload_n 0, 1) := by decide +kernel
theorem dX5_doesHold_1 : decode cX5_doesHold 1 = .ok (.iload_n 2, 1) := by decide +kernel
theorem dX5_doesHold_2 : decode cX5_doesHold 2 = .ok (.invokevirtual 170, 3) := by decide +kernel
theorem dX5_doesHold_5 : decode cX5_doesHold 5 = .ok (.aload_n 0, 1) := by decide +kernel
theorem dX5_doesHold_6 : decode cX5_doesHold 6 = .ok (.iload_n 1, 1) := by decide +kernel
theorem dX5_doesHold_7 : decode cX5_doesHold 7 = .ok (.invokevirtual 186, 3) := by decide +kernel
theorem dX5_doesHold_10 : decode cX5_doesHold 10 = .ok (.if_icmp .lt 22, 3) := by decide +kernel
theorem dX5_doesHold_13 : decode cX5_doesHold 13 = .ok (.aload_n 0, 1) := by decide +kernel
theorem dX5_doesHold_14 : decode cX5_doesHold 14 = .ok (.iload_n 2, 1) := by decide +kernel
theorem dX5_doesHold_15 : decode cX5_doesHold 15 = .ok (.invokevirtual 170, 3) := by decide +kernel
theorem dX5_doesHold_18 : decode cX5_doesHold 18 = .ok (.aload_n 0, 1) := by decide +kernel
theorem dX5_doesHold_19 : decode cX5_doesHold 19 = .ok (.iload_n 1, 1) := by decide +kernel
theorem dX5_doesHold_20 : decode cX5_doesHold 20 = .ok (.iconst 1, 1) := by decide +kernel
theorem dX5_doesHold_21 : decode cX5_doesHold 21 = .ok (.iadd, 1) := by decide +kernel
theorem dX5_doesHold_22 : decode cX5_doesHold 22 = .ok (.invokevirtual 186, 3) := by decide +kernel
theorem dX5_doesHold_25 : decode cX5_doesHold 25 = .ok (.if_icmp .lt 7, 3) := by decide +kernel
theorem dX5_doesHold_28 : decode cX5_doesHold 28 = .ok (.iconst 1, 1) := by decide +kernel
theorem dX5_doesHold_29 : decode cX5_doesHold 29 = .ok (.goto 4, 3) := by decide +kernel
theorem dX5_doesHold_32 : decode cX5_doesHold 32 = .ok (.iconst 0, 1) := by decide +kernel
theorem dX5_doesHold_33 : decode cX5_doesHold 33 = .ok (.ireturn, 1) := by decide +kernel
theorem dX5_slipsIn_0 : decode cX5_slipsIn 0 = .ok (.aload_n 0, 1) := by decide +kernel
theorem dX5_slipsIn_1 : decode cX5_slipsIn 1 = .ok (.iload_n 1, 1) := by decide +kernel
theorem dX5_slipsIn_2 : decode cX5_slipsIn 2 = .ok (.iload_n 2, 1) := by decide +kernel
theorem dX5_slipsIn_3 : decode cX5_slipsIn 3 = .ok (.iconst 0, 1) := by decide +kernel
theorem dX5_slipsIn_4 : decode cX5_slipsIn 4 = .ok (.invokevirtual 189, 3) := by decide +kernel
theorem dX5_slipsIn_7 : decode cX5_slipsIn 7 = .ok (.ifCond .ne 5, 3) := by decide +kernel
theorem dX5_slipsIn_10 : decode cX5_slipsIn 10 = .ok (.iconst 1, 1) := by decide +kernel
theorem dX5_slipsIn_11 : decode cX5_slipsIn 11 = .ok (.ireturn, 1) := by decide +kernel
theorem dX5_slipsIn_12 : decode cX5_slipsIn 12 = .ok (.aload_n 0, 1) := by decide +kernel
theorem dX5_slipsIn_13 : decode cX5_slipsIn 13 = .ok (.iload_n 1, 1) := by decide +kernel
theorem dX5_slipsIn_14 : decode cX5_slipsIn 14 = .ok (.iload_n 2, 1) := by decide +kernel
theorem dX5_slipsIn_15 : decode cX5_slipsIn 15 = .ok (.invokevirtual 192, 3) := by decide +kernel
theorem dX5_slipsIn_18 : decode cX5_slipsIn 18 = .ok (.ifCond .ne 5, 3) := by decide +kernel
theorem dX5_slipsIn_21 : decode cX5_slipsIn 21 = .ok (.iconst 2, 1) := by decide +kernel
theorem dX5_slipsIn_22 : decode cX5_slipsIn 22 = .ok (.ireturn, 1) := by decide +kernel
theorem dX5_slipsIn_23 : decode cX5_slipsIn 23 = .ok (.iload_n 3, 1) := by decide +kernel
theorem dX5_slipsIn_24 : decode cX5_slipsIn 24 = .ok (.ifCond .lt 22, 3) := by decide +kernel
theorem dX5_slipsIn_27 : decode cX5_slipsIn 27 = .ok (.aload_n 0, 1) := by decide +kernel
theorem dX5_slipsIn_28 : decode cX5_slipsIn 28 = .ok (.getfield 40, 3) := by decide +kernel
theorem dX5_slipsIn_31 : decode cX5_slipsIn 31 = .ok (.bipush 7, 2) := by decide +kernel
theorem dX5_slipsIn_33 : decode cX5_slipsIn 33 = .ok (.iload_n 2, 1) := by decide +kernel
theorem dX5_slipsIn_34 : decode cX5_slipsIn 34 = .ok (.imul, 1) := by decide +kernel
theorem dX5_slipsIn_35 : decode cX5_slipsIn 35 = .ok (.iload_n 3, 1) := by decide +kernel
theorem dX5_slipsIn_36 : decode cX5_slipsIn 36 = .ok (.iadd, 1) := by decide +kernel
theorem dX5_slipsIn_37 : decode cX5_slipsIn 37 = .ok (.iaload, 1) := by decide +kernel
theorem dX5_slipsIn_38 : decode cX5_slipsIn 38 = .ok (.iconst 1, 1) := by decide +kernel
theorem dX5_slipsIn_39 : decode cX5_slipsIn 39 = .ok (.if_icmp .ne 7, 3) := by decide +kernel
theorem dX5_slipsIn_42 : decode cX5_slipsIn 42 = .ok (.iconst 3, 1) := by decide +kernel
theorem dX5_slipsIn_43 : decode cX5_slipsIn 43 = .ok (.goto 4, 3) := by decide +kernel
theorem dX5_slipsIn_46 : decode cX5_slipsIn 46 = .ok (.iconst (-1), 1) := by decide +kernel
theorem dX5_slipsIn_47 : decode cX5_slipsIn 47 = .ok (.ireturn, 1) := by decide +kernel
theorem dX5_findSlip_0 : decode cX5_findSlip 0 = .ok (.aload_n 0, 1) := by decide +kernel
theorem dX5_findSlip_1 : decode cX5_findSlip 1 = .ok (.bipush (-9), 2) := by decide +kernel
theorem dX5_findSlip_3 : decode cX5_findSlip 3 = .ok (.putfield 195, 3) := by decide +kernel
theorem dX5_findSlip_6 : decode cX5_findSlip 6 = .ok (.aload_n 0, 1) := by decide +kernel
theorem dX5_findSlip_7 : decode cX5_findSlip 7 = .ok (.bipush (-9), 2) := by decide +kernel
theorem dX5_findSlip_9 : decode cX5_findSlip 9 = .ok (.putfield 198, 3) := by decide +kernel
theorem dX5_findSlip_12 : decode cX5_findSlip 12 = .ok (.iconst 0, 1) := by decide +kernel
theorem dX5_findSlip_13 : decode cX5_findSlip 13 = .ok (.istore_n 1, 1) := by decide +kernel
theorem dX5_findSlip_14 : decode cX5_findSlip 14 = .ok (.iload_n 1, 1) := by decide +kernel
theorem dX5_findSlip_15 : decode cX5_findSlip 15 = .ok (.aload_n 0, 1) := by decide +kernel
theorem dX5_findSlip_16 : decode cX5_findSlip 16 = .ok (.getfield 46, 3) := by decide +kernel
theorem dX5_findSlip_19 : decode cX5_findSlip 19 = .ok (.if_icmp .ge 76, 3) := by decide +kernel
theorem dX5_findSlip_22 : decode cX5_findSlip 22 = .ok (.aload_n 0, 1) := by decide +kernel
theorem dX5_findSlip_23 : decode cX5_findSlip 23 = .ok (.getfield 195, 3) := by decide +kernel
theorem dX5_findSlip_26 : decode cX5_findSlip 26 = .ok (.ifCond .ge 69, 3) := by decide +kernel
theorem dX5_findSlip_29 : decode cX5_findSlip 29 = .ok (.aload_n 0, 1) := by decide +kernel
theorem dX5_findSlip_30 : decode cX5_findSlip 30 = .ok (.getfield 19, 3) := by decide +kernel
theorem dX5_findSlip_33 : decode cX5_findSlip 33 = .ok (.iload_n 1, 1) := by decide +kernel
theorem dX5_findSlip_34 : decode cX5_findSlip 34 = .ok (.iaload, 1) := by decide +kernel
theorem dX5_findSlip_35 : decode cX5_findSlip 35 = .ok (.ifCond .ge 7, 3) := by decide +kernel
theorem dX5_findSlip_38 : decode cX5_findSlip 38 = .ok (.iconst 0, 1) := by decide +kernel
theorem dX5_findSlip_39 : decode cX5_findSlip 39 = .ok (.goto 31, 3) := by decide +kernel
theorem dX5_findSlip_42 : decode cX5_findSlip 42 = .ok (.aload_n 0, 1) := by decide +kernel
theorem dX5_findSlip_43 : decode cX5_findSlip 43 = .ok (.iload_n 1, 1) := by decide +kernel
theorem dX5_findSlip_44 : decode cX5_findSlip 44 = .ok (.aload_n 0, 1) := by decide +kernel
theorem dX5_findSlip_45 : decode cX5_findSlip 45 = .ok (.getfield 19, 3) := by decide +kernel
theorem dX5_findSlip_48 : decode cX5_findSlip 48 = .ok (.iload_n 1, 1) := by decide +kernel
theorem dX5_findSlip_49 : decode cX5_findSlip 49 = .ok (.iaload, 1) := by decide +kernel
theorem dX5_findSlip_50 : decode cX5_findSlip 50 = .ok (.iload_n 1, 1) := by decide +kernel
theorem dX5_findSlip_51 : decode cX5_findSlip 51 = .ok (.ifCond .le 14, 3) := by decide +kernel
theorem dX5_findSlip_54 : decode cX5_findSlip 54 = .ok (.aload_n 0, 1) := by decide +kernel
theorem dX5_findSlip_55 : decode cX5_findSlip 55 = .ok (.getfield 19, 3) := by decide +kernel
theorem dX5_findSlip_58 : decode cX5_findSlip 58 = .ok (.iload_n 1, 1) := by decide +kernel
theorem dX5_findSlip_59 : decode cX5_findSlip 59 = .ok (.iconst 1, 1) := by decide +kernel
theorem dX5_findSlip_60 : decode cX5_findSlip 60 = .ok (.isub, 1) := by decide +kernel
theorem dX5_findSlip_61 : decode cX5_findSlip 61 = .ok (.iaload, 1) := by decide +kernel
theorem dX5_findSlip_62 : decode cX5_findSlip 62 = .ok (.goto 5, 3) := by decide +kernel
theorem dX5_findSlip_65 : decode cX5_findSlip 65 = .ok (.bipush (-9), 2) := by decide +kernel
theorem dX5_findSlip_67 : decode cX5_findSlip 67 = .ok (.invokevirtual 201, 3) := by decide +kernel
theorem dX5_findSlip_70 : decode cX5_findSlip 70 = .ok (.istore_n 2, 1) := by decide +kernel
theorem dX5_findSlip_71 : decode cX5_findSlip 71 = .ok (.iload_n 2, 1) := by decide +kernel
theorem dX5_findSlip_72 : decode cX5_findSlip 72 = .ok (.iconst (-1), 1) := by decide +kernel
theorem dX5_findSlip_73 : decode cX5_findSlip 73 = .ok (.if_icmp .ne 6, 3) := by decide +kernel
theorem dX5_findSlip_76 : decode cX5_findSlip 76 = .ok (.goto 13, 3) := by decide +kernel
theorem dX5_findSlip_79 : decode cX5_findSlip 79 = .ok (.aload_n 0, 1) := by decide +kernel
theorem dX5_findSlip_80 : decode cX5_findSlip 80 = .ok (.iload_n 1, 1) := by decide +kernel
theorem dX5_findSlip_81 : decode cX5_findSlip 81 = .ok (.putfield 195, 3) := by decide +kernel
theorem dX5_findSlip_84 : decode cX5_findSlip 84 = .ok (.aload_n 0, 1) := by decide +kernel
theorem dX5_findSlip_85 : decode cX5_findSlip 85 = .ok (.iload_n 2, 1) := by decide +kernel
theorem dX5_findSlip_86 : decode cX5_findSlip 86 = .ok (.putfield 198, 3) := by decide +kernel
theorem dX5_findSlip_89 : decode cX5_findSlip 89 = .ok (.iinc 1 1, 3) := by decide +kernel
theorem dX5_findSlip_92 : decode cX5_findSlip 92 = .ok (.goto (-78), 3) := by decide +kernel
theorem dX5_findSlip_95 : decode cX5_findSlip 95 = .ok (.return_, 1) := by decide +kernel
theorem dX5_doesStand_0 : decode cX5_doesStand 0 = .ok (.aload_n 0, 1) := by decide +kernel
theorem dX5_doesStand_1 : decode cX5_doesStand 1 = .ok (.invokevirtual 204, 3) := by decide +kernel
theorem dX5_doesStand_4 : decode cX5_doesStand 4 = .ok (.aload_n 0, 1) := by decide +kernel
theorem dX5_doesStand_5 : decode cX5_doesStand 5 = .ok (.getfield 195, 3) := by decide +kernel
theorem dX5_doesStand_8 : decode cX5_doesStand 8 = .ok (.ifCond .ge 7, 3) := by decide +kernel
theorem dX5_doesStand_11 : decode cX5_doesStand 11 = .ok (.iconst 1, 1) := by decide +kernel
theorem dX5_doesStand_12 : decode cX5_doesStand 12 = .ok (.goto 4, 3) := by decide +kernel
theorem dX5_doesStand_15 : decode cX5_doesStand 15 = .ok (.iconst 0, 1) := by decide +kernel
theorem dX5_doesStand_16 : decode cX5_doesStand 16 = .ok (.ireturn, 1) := by decide +kernel
theorem dX5_lastsNow_0 : decode cX5_lastsNow 0 = .ok (.bipush 99, 2) := by decide +kernel
theorem dX5_lastsNow_2 : decode cX5_lastsNow 2 = .ok (.istore_n 1, 1) := by decide +kernel
theorem dX5_lastsNow_3 : decode cX5_lastsNow 3 = .ok (.iconst 0, 1) := by decide +kernel
theorem dX5_lastsNow_4 : decode cX5_lastsNow 4 = .ok (.istore_n 2, 1) := by decide +kernel
theorem dX5_lastsNow_5 : decode cX5_lastsNow 5 = .ok (.iload_n 2, 1) := by decide +kernel
theorem dX5_lastsNow_6 : decode cX5_lastsNow 6 = .ok (.aload_n 0, 1) := by decide +kernel
theorem dX5_lastsNow_7 : decode cX5_lastsNow 7 = .ok (.getfield 46, 3) := by decide +kernel
theorem dX5_lastsNow_10 : decode cX5_lastsNow 10 = .ok (.if_icmp .ge 36, 3) := by decide +kernel
theorem dX5_lastsNow_13 : decode cX5_lastsNow 13 = .ok (.iload_n 1, 1) := by decide +kernel
theorem dX5_lastsNow_14 : decode cX5_lastsNow 14 = .ok (.aload_n 0, 1) := by decide +kernel
theorem dX5_lastsNow_15 : decode cX5_lastsNow 15 = .ok (.getfield 34, 3) := by decide +kernel
theorem dX5_lastsNow_18 : decode cX5_lastsNow 18 = .ok (.aload_n 0, 1) := by decide +kernel
theorem dX5_lastsNow_19 : decode cX5_lastsNow 19 = .ok (.getfield 19, 3) := by decide +kernel
theorem dX5_lastsNow_22 : decode cX5_lastsNow 22 = .ok (.iload_n 2, 1) := by decide +kernel
theorem dX5_lastsNow_23 : decode cX5_lastsNow 23 = .ok (.iaload, 1) := by decide +kernel
theorem dX5_lastsNow_24 : decode cX5_lastsNow 24 = .ok (.iaload, 1) := by decide +kernel
theorem dX5_lastsNow_25 : decode cX5_lastsNow 25 = .ok (.aload_n 0, 1) := by decide +kernel
theorem dX5_lastsNow_26 : decode cX5_lastsNow 26 = .ok (.aload_n 0, 1) := by decide +kernel
theorem dX5_lastsNow_27 : decode cX5_lastsNow 27 = .ok (.getfield 19, 3) := by decide +kernel
theorem dX5_lastsNow_30 : decode cX5_lastsNow 30 = .ok (.iload_n 2, 1) := by decide +kernel
theorem dX5_lastsNow_31 : decode cX5_lastsNow 31 = .ok (.iaload, 1) := by decide +kernel
theorem dX5_lastsNow_32 : decode cX5_lastsNow 32 = .ok (.invokevirtual 173, 3) := by decide +kernel
theorem dX5_lastsNow_35 : decode cX5_lastsNow 35 = .ok (.idiv, 1) := by decide +kernel
theorem dX5_lastsNow_36 : decode cX5_lastsNow 36 = .ok (.invokestatic 182, 3) := by decide +kernel
theorem dX5_lastsNow_39 : decode cX5_lastsNow 39 = .ok (.istore_n 1, 1) := by decide +kernel
theorem dX5_lastsNow_40 : decode cX5_lastsNow 40 = .ok (.iinc 2 1, 3) := by decide +kernel
theorem dX5_lastsNow_43 : decode cX5_lastsNow 43 = .ok (.goto (-38), 3) := by decide +kernel
theorem dX5_lastsNow_46 : decode cX5_lastsNow 46 = .ok (.iload_n 1, 1) := by decide +kernel
theorem dX5_lastsNow_47 : decode cX5_lastsNow 47 = .ok (.ireturn, 1) := by decide +kernel
theorem dX5_slips_0 : decode cX5_slips 0 = .ok (.iload_n 1, 1) := by decide +kernel
theorem dX5_slips_1 : decode cX5_slips 1 = .ok (.iconst 0, 1) := by decide +kernel
theorem dX5_slips_2 : decode cX5_slips 2 = .ok (.iconst 1, 1) := by decide +kernel
theorem dX5_slips_3 : decode cX5_slips 3 = .ok (.invokestatic 103, 3) := by decide +kernel
theorem dX5_slips_6 : decode cX5_slips 6 = .ok (.ifCond .ne 10, 3) := by decide +kernel
theorem dX5_slips_9 : decode cX5_slips 9 = .ok (.aload_n 0, 1) := by decide +kernel
theorem dX5_slips_10 : decode cX5_slips 10 = .ok (.bipush (-2), 2) := by decide +kernel
theorem dX5_slips_12 : decode cX5_slips 12 = .ok (.invokevirtual 92, 3) := by decide +kernel
theorem dX5_slips_15 : decode cX5_slips 15 = .ok (.ireturn, 1) := by decide +kernel
theorem dX5_slips_16 : decode cX5_slips 16 = .ok (.aload_n 0, 1) := by decide +kernel
theorem dX5_slips_17 : decode cX5_slips 17 = .ok (.invokevirtual 204, 3) := by decide +kernel
theorem dX5_slips_20 : decode cX5_slips 20 = .ok (.iload_n 1, 1) := by decide +kernel
theorem dX5_slips_21 : decode cX5_slips 21 = .ok (.ifCond .ne 10, 3) := by decide +kernel
theorem dX5_slips_24 : decode cX5_slips 24 = .ok (.aload_n 0, 1) := by decide +kernel
theorem dX5_slips_25 : decode cX5_slips 25 = .ok (.getfield 195, 3) := by decide +kernel
theorem dX5_slips_28 : decode cX5_slips 28 = .ok (.goto 7, 3) := by decide +kernel
theorem dX5_slips_31 : decode cX5_slips 31 = .ok (.aload_n 0, 1) := by decide +kernel
theorem dX5_slips_32 : decode cX5_slips 32 = .ok (.getfield 198, 3) := by decide +kernel
theorem dX5_slips_35 : decode cX5_slips 35 = .ok (.ireturn, 1) := by decide +kernel
theorem dX5_lasts_0 : decode cX5_lasts 0 = .ok (.aload_n 0, 1) := by decide +kernel
theorem dX5_lasts_1 : decode cX5_lasts 1 = .ok (.invokevirtual 207, 3) := by decide +kernel
theorem dX5_lasts_4 : decode cX5_lasts 4 = .ok (.ifCond .eq 10, 3) := by decide +kernel
theorem dX5_lasts_7 : decode cX5_lasts 7 = .ok (.aload_n 0, 1) := by decide +kernel
theorem dX5_lasts_8 : decode cX5_lasts 8 = .ok (.invokevirtual 210, 3) := by decide +kernel
theorem dX5_lasts_11 : decode cX5_lasts 11 = .ok (.goto 5, 3) := by decide +kernel
theorem dX5_lasts_14 : decode cX5_lasts 14 = .ok (.bipush (-9), 2) := by decide +kernel
theorem dX5_lasts_16 : decode cX5_lasts 16 = .ok (.ireturn, 1) := by decide +kernel
theorem dX5_overMany_0 : decode cX5_overMany 0 = .ok (.iconst 0, 1) := by decide +kernel
theorem dX5_overMany_1 : decode cX5_overMany 1 = .ok (.istore_n 1, 1) := by decide +kernel
theorem dX5_overMany_2 : decode cX5_overMany 2 = .ok (.iconst 0, 1) := by decide +kernel
theorem dX5_overMany_3 : decode cX5_overMany 3 = .ok (.istore_n 2, 1) := by decide +kernel
theorem dX5_overMany_4 : decode cX5_overMany 4 = .ok (.iload_n 2, 1) := by decide +kernel
theorem dX5_overMany_5 : decode cX5_overMany 5 = .ok (.aload_n 0, 1) := by decide +kernel
theorem dX5_overMany_6 : decode cX5_overMany 6 = .ok (.getfield 78, 3) := by decide +kernel
theorem dX5_overMany_9 : decode cX5_overMany 9 = .ok (.if_icmp .ge 18, 3) := by decide +kernel
theorem dX5_overMany_12 : decode cX5_overMany 12 = .ok (.iload_n 1, 1) := by decide +kernel
theorem dX5_overMany_13 : decode cX5_overMany 13 = .ok (.aload_n 0, 1) := by decide +kernel
theorem dX5_overMany_14 : decode cX5_overMany 14 = .ok (.getfield 37, 3) := by decide +kernel
theorem dX5_overMany_17 : decode cX5_overMany 17 = .ok (.iload_n 2, 1) := by decide +kernel
theorem dX5_overMany_18 : decode cX5_overMany 18 = .ok (.iaload, 1) := by decide +kernel
theorem dX5_overMany_19 : decode cX5_overMany 19 = .ok (.iadd, 1) := by decide +kernel
theorem dX5_overMany_20 : decode cX5_overMany 20 = .ok (.istore_n 1, 1) := by decide +kernel
theorem dX5_overMany_21 : decode cX5_overMany 21 = .ok (.iinc 2 1, 3) := by decide +kernel
theorem dX5_overMany_24 : decode cX5_overMany 24 = .ok (.goto (-20), 3) := by decide +kernel
theorem dX5_overMany_27 : decode cX5_overMany 27 = .ok (.iload_n 1, 1) := by decide +kernel
theorem dX5_overMany_28 : decode cX5_overMany 28 = .ok (.ireturn, 1) := by decide +kernel
theorem dX5_cross_0 : decode cX5_cross 0 = .ok (.aload_n 0, 1) := by decide +kernel
theorem dX5_cross_1 : decode cX5_cross 1 = .ok (.iload_n 1, 1) := by decide +kernel
theorem dX5_cross_2 : decode cX5_cross 2 = .ok (.invokevirtual 81, 3) := by decide +kernel
theorem dX5_cross_5 : decode cX5_cross 5 = .ok (.ifCond .ne 9, 3) := by decide +kernel
theorem dX5_cross_8 : decode cX5_cross 8 = .ok (.aload_n 0, 1) := by decide +kernel
theorem dX5_cross_9 : decode cX5_cross 9 = .ok (.iconst (-1), 1) := by decide +kernel
theorem dX5_cross_10 : decode cX5_cross 10 = .ok (.invokevirtual 92, 3) := by decide +kernel
theorem dX5_cross_13 : decode cX5_cross 13 = .ok (.ireturn, 1) := by decide +kernel
theorem dX5_cross_14 : decode cX5_cross 14 = .ok (.aload_n 0, 1) := by decide +kernel
theorem dX5_cross_15 : decode cX5_cross 15 = .ok (.iload_n 1, 1) := by decide +kernel
theorem dX5_cross_16 : decode cX5_cross 16 = .ok (.invokevirtual 117, 3) := by decide +kernel
theorem dX5_cross_19 : decode cX5_cross 19 = .ok (.bipush (-9), 2) := by decide +kernel
theorem dX5_cross_21 : decode cX5_cross 21 = .ok (.if_icmp .ne 18, 3) := by decide +kernel
theorem dX5_cross_24 : decode cX5_cross 24 = .ok (.aload_n 0, 1) := by decide +kernel
theorem dX5_cross_25 : decode cX5_cross 25 = .ok (.invokevirtual 207, 3) := by decide +kernel
theorem dX5_cross_28 : decode cX5_cross 28 = .ok (.ifCond .eq 11, 3) := by decide +kernel
theorem dX5_cross_31 : decode cX5_cross 31 = .ok (.aload_n 0, 1) := by decide +kernel
theorem dX5_cross_32 : decode cX5_cross 32 = .ok (.invokevirtual 210, 3) := by decide +kernel
theorem dX5_cross_35 : decode cX5_cross 35 = .ok (.iconst 1, 1) := by decide +kernel
theorem dX5_cross_36 : decode cX5_cross 36 = .ok (.if_icmp .ge 10, 3) := by decide +kernel
theorem dX5_cross_39 : decode cX5_cross 39 = .ok (.aload_n 0, 1) := by decide +kernel
theorem dX5_cross_40 : decode cX5_cross 40 = .ok (.bipush (-3), 2) := by decide +kernel
theorem dX5_cross_42 : decode cX5_cross 42 = .ok (.invokevirtual 92, 3) := by decide +kernel
theorem dX5_cross_45 : decode cX5_cross 45 = .ok (.ireturn, 1) := by decide +kernel
theorem dX5_cross_46 : decode cX5_cross 46 = .ok (.iconst 0, 1) := by decide +kernel
theorem dX5_cross_47 : decode cX5_cross 47 = .ok (.istore_n 2, 1) := by decide +kernel
theorem dX5_cross_48 : decode cX5_cross 48 = .ok (.iload_n 2, 1) := by decide +kernel
theorem dX5_cross_49 : decode cX5_cross 49 = .ok (.aload_n 0, 1) := by decide +kernel
theorem dX5_cross_50 : decode cX5_cross 50 = .ok (.getfield 46, 3) := by decide +kernel
theorem dX5_cross_53 : decode cX5_cross 53 = .ok (.if_icmp .ge 59, 3) := by decide +kernel
theorem dX5_cross_56 : decode cX5_cross 56 = .ok (.aload_n 0, 1) := by decide +kernel
theorem dX5_cross_57 : decode cX5_cross 57 = .ok (.getfield 19, 3) := by decide +kernel
theorem dX5_cross_60 : decode cX5_cross 60 = .ok (.iload_n 2, 1) := by decide +kernel
theorem dX5_cross_61 : decode cX5_cross 61 = .ok (.iaload, 1) := by decide +kernel
theorem dX5_cross_62 : decode cX5_cross 62 = .ok (.istore_n 3, 1) := by decide +kernel
theorem dX5_cross_63 : decode cX5_cross 63 = .ok (.aload_n 0, 1) := by decide +kernel
theorem dX5_cross_64 : decode cX5_cross 64 = .ok (.getfield 34, 3) := by decide +kernel
theorem dX5_cross_67 : decode cX5_cross 67 = .ok (.iload_n 3, 1) := by decide +kernel
theorem dX5_cross_68 : decode cX5_cross 68 = .ok (.dup2, 1) := by decide +kernel
theorem dX5_cross_69 : decode cX5_cross 69 = .ok (.iaload, 1) := by decide +kernel
theorem dX5_cross_70 : decode cX5_cross 70 = .ok (.aload_n 0, 1) := by decide +kernel
theorem dX5_cross_71 : decode cX5_cross 71 = .ok (.iload_n 3, 1) := by decide +kernel
theorem dX5_cross_72 : decode cX5_cross 72 = .ok (.invokevirtual 173, 3) := by decide +kernel
theorem dX5_cross_75 : decode cX5_cross 75 = .ok (.isub, 1) := by decide +kernel
theorem dX5_cross_76 : decode cX5_cross 76 = .ok (.iastore, 1) := by decide +kernel
theorem dX5_cross_77 : decode cX5_cross 77 = .ok (.aload_n 0, 1) := by decide +kernel
theorem dX5_cross_78 : decode cX5_cross 78 = .ok (.getfield 43, 3) := by decide +kernel
theorem dX5_cross_81 : decode cX5_cross 81 = .ok (.bipush 7, 2) := by decide +kernel
theorem dX5_cross_83 : decode cX5_cross 83 = .ok (.iload_n 1, 1) := by decide +kernel
theorem dX5_cross_84 : decode cX5_cross 84 = .ok (.imul, 1) := by decide +kernel
theorem dX5_cross_85 : decode cX5_cross 85 = .ok (.iload_n 3, 1) := by decide +kernel
theorem dX5_cross_86 : decode cX5_cross 86 = .ok (.iadd, 1) := by decide +kernel
theorem dX5_cross_87 : decode cX5_cross 87 = .ok (.bipush 99, 2) := by decide +kernel
theorem dX5_cross_89 : decode cX5_cross 89 = .ok (.aload_n 0, 1) := by decide +kernel
theorem dX5_cross_90 : decode cX5_cross 90 = .ok (.getfield 43, 3) := by decide +kernel
theorem dX5_cross_93 : decode cX5_cross 93 = .ok (.bipush 7, 2) := by decide +kernel
theorem dX5_cross_95 : decode cX5_cross 95 = .ok (.iload_n 1, 1) := by decide +kernel
theorem dX5_cross_96 : decode cX5_cross 96 = .ok (.imul, 1) := by decide +kernel
theorem dX5_cross_97 : decode cX5_cross 97 = .ok (.iload_n 3, 1) := by decide +kernel
theorem dX5_cross_98 : decode cX5_cross 98 = .ok (.iadd, 1) := by decide +kernel
theorem dX5_cross_99 : decode cX5_cross 99 = .ok (.iaload, 1) := by decide +kernel
theorem dX5_cross_100 : decode cX5_cross 100 = .ok (.iconst 1, 1) := by decide +kernel
theorem dX5_cross_101 : decode cX5_cross 101 = .ok (.iadd, 1) := by decide +kernel
theorem dX5_cross_102 : decode cX5_cross 102 = .ok (.invokestatic 182, 3) := by decide +kernel
theorem dX5_cross_105 : decode cX5_cross 105 = .ok (.iastore, 1) := by decide +kernel
theorem dX5_cross_106 : decode cX5_cross 106 = .ok (.iinc 2 1, 3) := by decide +kernel
theorem dX5_cross_109 : decode cX5_cross 109 = .ok (.goto (-61), 3) := by decide +kernel
theorem dX5_cross_112 : decode cX5_cross 112 = .ok (.aload_n 0, 1) := by decide +kernel
theorem dX5_cross_113 : decode cX5_cross 113 = .ok (.getfield 37, 3) := by decide +kernel
theorem dX5_cross_116 : decode cX5_cross 116 = .ok (.iload_n 1, 1) := by decide +kernel
theorem dX5_cross_117 : decode cX5_cross 117 = .ok (.iconst 1, 1) := by decide +kernel
theorem dX5_cross_118 : decode cX5_cross 118 = .ok (.iastore, 1) := by decide +kernel
theorem dX5_cross_119 : decode cX5_cross 119 = .ok (.aload_n 0, 1) := by decide +kernel
theorem dX5_cross_120 : decode cX5_cross 120 = .ok (.dup, 1) := by decide +kernel
theorem dX5_cross_121 : decode cX5_cross 121 = .ok (.getfield 161, 3) := by decide +kernel
theorem dX5_cross_124 : decode cX5_cross 124 = .ok (.iconst 1, 1) := by decide +kernel
theorem dX5_cross_125 : decode cX5_cross 125 = .ok (.iadd, 1) := by decide +kernel
theorem dX5_cross_126 : decode cX5_cross 126 = .ok (.putfield 161, 3) := by decide +kernel
theorem dX5_cross_129 : decode cX5_cross 129 = .ok (.aload_n 0, 1) := by decide +kernel
theorem dX5_cross_130 : decode cX5_cross 130 = .ok (.invokevirtual 179, 3) := by decide +kernel
theorem dX5_cross_133 : decode cX5_cross 133 = .ok (.ireturn, 1) := by decide +kernel
theorem dX5_putsAway_0 : decode cX5_putsAway 0 = .ok (.iconst 0, 1) := by decide +kernel
theorem dX5_putsAway_1 : decode cX5_putsAway 1 = .ok (.istore_n 1, 1) := by decide +kernel
theorem dX5_putsAway_2 : decode cX5_putsAway 2 = .ok (.iload_n 1, 1) := by decide +kernel
theorem dX5_putsAway_3 : decode cX5_putsAway 3 = .ok (.iconst 5, 1) := by decide +kernel
theorem dX5_putsAway_4 : decode cX5_putsAway 4 = .ok (.if_icmp .ge 21, 3) := by decide +kernel
theorem dX5_putsAway_7 : decode cX5_putsAway 7 = .ok (.aload_n 0, 1) := by decide +kernel
theorem dX5_putsAway_8 : decode cX5_putsAway 8 = .ok (.getfield 68, 3) := by decide +kernel
theorem dX5_putsAway_11 : decode cX5_putsAway 11 = .ok (.iload_n 1, 1) := by decide +kernel
theorem dX5_putsAway_12 : decode cX5_putsAway 12 = .ok (.aload_n 0, 1) := by decide +kernel
theorem dX5_putsAway_13 : decode cX5_putsAway 13 = .ok (.getfield 19, 3) := by decide +kernel
theorem dX5_putsAway_16 : decode cX5_putsAway 16 = .ok (.iload_n 1, 1) := by decide +kernel
theorem dX5_putsAway_17 : decode cX5_putsAway 17 = .ok (.iaload, 1) := by decide +kernel
theorem dX5_putsAway_18 : decode cX5_putsAway 18 = .ok (.iastore, 1) := by decide +kernel
theorem dX5_putsAway_19 : decode cX5_putsAway 19 = .ok (.iinc 1 1, 3) := by decide +kernel
theorem dX5_putsAway_22 : decode cX5_putsAway 22 = .ok (.goto (-20), 3) := by decide +kernel
theorem dX5_putsAway_25 : decode cX5_putsAway 25 = .ok (.aload_n 0, 1) := by decide +kernel
theorem dX5_putsAway_26 : decode cX5_putsAway 26 = .ok (.iconst (-1), 1) := by decide +kernel
theorem dX5_putsAway_27 : decode cX5_putsAway 27 = .ok (.putfield 213, 3) := by decide +kernel
theorem dX5_putsAway_30 : decode cX5_putsAway 30 = .ok (.return_, 1) := by decide +kernel
theorem dX5_putsBack_0 : decode cX5_putsBack 0 = .ok (.iconst 0, 1) := by decide +kernel
theorem dX5_putsBack_1 : decode cX5_putsBack 1 = .ok (.istore_n 1, 1) := by decide +kernel
theorem dX5_putsBack_2 : decode cX5_putsBack 2 = .ok (.iload_n 1, 1) := by decide +kernel
theorem dX5_putsBack_3 : decode cX5_putsBack 3 = .ok (.iconst 5, 1) := by decide +kernel
theorem dX5_putsBack_4 : decode cX5_putsBack 4 = .ok (.if_icmp .ge 21, 3) := by decide +kernel
theorem dX5_putsBack_7 : decode cX5_putsBack 7 = .ok (.aload_n 0, 1) := by decide +kernel
theorem dX5_putsBack_8 : decode cX5_putsBack 8 = .ok (.getfield 19, 3) := by decide +kernel
theorem dX5_putsBack_11 : decode cX5_putsBack 11 = .ok (.iload_n 1, 1) := by decide +kernel
theorem dX5_putsBack_12 : decode cX5_putsBack 12 = .ok (.aload_n 0, 1) := by decide +kernel
theorem dX5_putsBack_13 : decode cX5_putsBack 13 = .ok (.getfield 68, 3) := by decide +kernel
theorem dX5_putsBack_16 : decode cX5_putsBack 16 = .ok (.iload_n 1, 1) := by decide +kernel
theorem dX5_putsBack_17 : decode cX5_putsBack 17 = .ok (.iaload, 1) := by decide +kernel
theorem dX5_putsBack_18 : decode cX5_putsBack 18 = .ok (.iastore, 1) := by decide +kernel
theorem dX5_putsBack_19 : decode cX5_putsBack 19 = .ok (.iinc 1 1, 3) := by decide +kernel
theorem dX5_putsBack_22 : decode cX5_putsBack 22 = .ok (.goto (-20), 3) := by decide +kernel
theorem dX5_putsBack_25 : decode cX5_putsBack 25 = .ok (.return_, 1) := by decide +kernel
theorem dX5_areUnlike_0 : decode cX5_areUnlike 0 = .ok (.iconst 0, 1) := by decide +kernel
theorem dX5_areUnlike_1 : decode cX5_areUnlike 1 = .ok (.istore_n 1, 1) := by decide +kernel
theorem dX5_areUnlike_2 : decode cX5_areUnlike 2 = .ok (.iload_n 1, 1) := by decide +kernel
theorem dX5_areUnlike_3 : decode cX5_areUnlike 3 = .ok (.aload_n 0, 1) := by decide +kernel
theorem dX5_areUnlike_4 : decode cX5_areUnlike 4 = .ok (.getfield 46, 3) := by decide +kernel
theorem dX5_areUnlike_7 : decode cX5_areUnlike 7 = .ok (.if_icmp .ge 56, 3) := by decide +kernel
theorem dX5_areUnlike_10 : decode cX5_areUnlike 10 = .ok (.aload_n 0, 1) := by decide +kernel
theorem dX5_areUnlike_11 : decode cX5_areUnlike 11 = .ok (.getfield 37, 3) := by decide +kernel
theorem dX5_areUnlike_14 : decode cX5_areUnlike 14 = .ok (.aload_n 0, 1) := by decide +kernel
theorem dX5_areUnlike_15 : decode cX5_areUnlike 15 = .ok (.getfield 19, 3) := by decide +kernel
theorem dX5_areUnlike_18 : decode cX5_areUnlike 18 = .ok (.iload_n 1, 1) := by decide +kernel
theorem dX5_areUnlike_19 : decode cX5_areUnlike 19 = .ok (.iaload, 1) := by decide +kernel
theorem dX5_areUnlike_20 : decode cX5_areUnlike 20 = .ok (.iaload, 1) := by decide +kernel
theorem dX5_areUnlike_21 : decode cX5_areUnlike 21 = .ok (.iconst 1, 1) := by decide +kernel
theorem dX5_areUnlike_22 : decode cX5_areUnlike 22 = .ok (.if_icmp .ne 5, 3) := by decide +kernel
theorem dX5_areUnlike_25 : decode cX5_areUnlike 25 = .ok (.iconst 0, 1) := by decide +kernel
theorem dX5_areUnlike_26 : decode cX5_areUnlike 26 = .ok (.ireturn, 1) := by decide +kernel
theorem dX5_areUnlike_27 : decode cX5_areUnlike 27 = .ok (.iconst 0, 1) := by decide +kernel
theorem dX5_areUnlike_28 : decode cX5_areUnlike 28 = .ok (.istore_n 2, 1) := by decide +kernel
theorem dX5_areUnlike_29 : decode cX5_areUnlike 29 = .ok (.iload_n 2, 1) := by decide +kernel
theorem dX5_areUnlike_30 : decode cX5_areUnlike 30 = .ok (.iload_n 1, 1) := by decide +kernel
theorem dX5_areUnlike_31 : decode cX5_areUnlike 31 = .ok (.if_icmp .ge 26, 3) := by decide +kernel
theorem dX5_areUnlike_34 : decode cX5_areUnlike 34 = .ok (.aload_n 0, 1) := by decide +kernel
theorem dX5_areUnlike_35 : decode cX5_areUnlike 35 = .ok (.getfield 19, 3) := by decide +kernel
theorem dX5_areUnlike_38 : decode cX5_areUnlike 38 = .ok (.iload_n 2, 1) := by decide +kernel
theorem dX5_areUnlike_39 : decode cX5_areUnlike 39 = .ok (.iaload, 1) := by decide +kernel
theorem dX5_areUnlike_40 : decode cX5_areUnlike 40 = .ok (.aload_n 0, 1) := by decide +kernel
theorem dX5_areUnlike_41 : decode cX5_areUnlike 41 = .ok (.getfield 19, 3) := by decide +kernel
theorem dX5_areUnlike_44 : decode cX5_areUnlike 44 = .ok (.iload_n 1, 1) := by decide +kernel
theorem dX5_areUnlike_45 : decode cX5_areUnlike 45 = .ok (.iaload, 1) := by decide +kernel
theorem dX5_areUnlike_46 : decode cX5_areUnlike 46 = .ok (.if_icmp .ne 5, 3) := by decide +kernel
theorem dX5_areUnlike_49 : decode cX5_areUnlike 49 = .ok (.iconst 0, 1) := by decide +kernel
theorem dX5_areUnlike_50 : decode cX5_areUnlike 50 = .ok (.ireturn, 1) := by decide +kernel
theorem dX5_areUnlike_51 : decode cX5_areUnlike 51 = .ok (.iinc 2 1, 3) := by decide +kernel
theorem dX5_areUnlike_54 : decode cX5_areUnlike 54 = .ok (.goto (-25), 3) := by decide +kernel
theorem dX5_areUnlike_57 : decode cX5_areUnlike 57 = .ok (.iinc 1 1, 3) := by decide +kernel
theorem dX5_areUnlike_60 : decode cX5_areUnlike 60 = .ok (.goto (-58), 3) := by decide +kernel
theorem dX5_areUnlike_63 : decode cX5_areUnlike 63 = .ok (.iconst 1, 1) := by decide +kernel
theorem dX5_areUnlike_64 : decode cX5_areUnlike 64 = .ok (.ireturn, 1) := by decide +kernel
theorem dX5_nextChain_0 : decode cX5_nextChain 0 = .ok (.aload_n 0, 1) := by decide +kernel
theorem dX5_nextChain_1 : decode cX5_nextChain 1 = .ok (.getfield 78, 3) := by decide +kernel
theorem dX5_nextChain_4 : decode cX5_nextChain 4 = .ok (.ifCond .ne 7, 3) := by decide +kernel
theorem dX5_nextChain_7 : decode cX5_nextChain 7 = .ok (.iconst 0, 1) := by decide +kernel
theorem dX5_nextChain_8 : decode cX5_nextChain 8 = .ok (.goto 4, 3) := by decide +kernel
theorem dX5_nextChain_11 : decode cX5_nextChain 11 = .ok (.iconst 1, 1) := by decide +kernel
theorem dX5_nextChain_12 : decode cX5_nextChain 12 = .ok (.istore_n 1, 1) := by decide +kernel
theorem dX5_nextChain_13 : decode cX5_nextChain 13 = .ok (.iconst 0, 1) := by decide +kernel
theorem dX5_nextChain_14 : decode cX5_nextChain 14 = .ok (.istore_n 2, 1) := by decide +kernel
theorem dX5_nextChain_15 : decode cX5_nextChain 15 = .ok (.iload_n 2, 1) := by decide +kernel
theorem dX5_nextChain_16 : decode cX5_nextChain 16 = .ok (.aload_n 0, 1) := by decide +kernel
theorem dX5_nextChain_17 : decode cX5_nextChain 17 = .ok (.getfield 46, 3) := by decide +kernel
theorem dX5_nextChain_20 : decode cX5_nextChain 20 = .ok (.if_icmp .ge 16, 3) := by decide +kernel
theorem dX5_nextChain_23 : decode cX5_nextChain 23 = .ok (.iload_n 1, 1) := by decide +kernel
theorem dX5_nextChain_24 : decode cX5_nextChain 24 = .ok (.aload_n 0, 1) := by decide +kernel
theorem dX5_nextChain_25 : decode cX5_nextChain 25 = .ok (.getfield 78, 3) := by decide +kernel
theorem dX5_nextChain_28 : decode cX5_nextChain 28 = .ok (.imul, 1) := by decide +kernel
theorem dX5_nextChain_29 : decode cX5_nextChain 29 = .ok (.istore_n 1, 1) := by decide +kernel
theorem dX5_nextChain_30 : decode cX5_nextChain 30 = .ok (.iinc 2 1, 3) := by decide +kernel
theorem dX5_nextChain_33 : decode cX5_nextChain 33 = .ok (.goto (-18), 3) := by decide +kernel
theorem dX5_nextChain_36 : decode cX5_nextChain 36 = .ok (.aload_n 0, 1) := by decide +kernel
theorem dX5_nextChain_37 : decode cX5_nextChain 37 = .ok (.dup, 1) := by decide +kernel
theorem dX5_nextChain_38 : decode cX5_nextChain 38 = .ok (.getfield 213, 3) := by decide +kernel
theorem dX5_nextChain_41 : decode cX5_nextChain 41 = .ok (.iconst 1, 1) := by decide +kernel
theorem dX5_nextChain_42 : decode cX5_nextChain 42 = .ok (.iadd, 1) := by decide +kernel
theorem dX5_nextChain_43 : decode cX5_nextChain 43 = .ok (.putfield 213, 3) := by decide +kernel
theorem dX5_nextChain_46 : decode cX5_nextChain 46 = .ok (.aload_n 0, 1) := by decide +kernel
theorem dX5_nextChain_47 : decode cX5_nextChain 47 = .ok (.getfield 213, 3) := by decide +kernel
theorem dX5_nextChain_50 : decode cX5_nextChain 50 = .ok (.iload_n 1, 1) := by decide +kernel
theorem dX5_nextChain_51 : decode cX5_nextChain 51 = .ok (.if_icmp .ge 66, 3) := by decide +kernel
theorem dX5_nextChain_54 : decode cX5_nextChain 54 = .ok (.aload_n 0, 1) := by decide +kernel
theorem dX5_nextChain_55 : decode cX5_nextChain 55 = .ok (.getfield 213, 3) := by decide +kernel
theorem dX5_nextChain_58 : decode cX5_nextChain 58 = .ok (.istore_n 2, 1) := by decide +kernel
theorem dX5_nextChain_59 : decode cX5_nextChain 59 = .ok (.aload_n 0, 1) := by decide +kernel
theorem dX5_nextChain_60 : decode cX5_nextChain 60 = .ok (.getfield 46, 3) := by decide +kernel
theorem dX5_nextChain_63 : decode cX5_nextChain 63 = .ok (.iconst 1, 1) := by decide +kernel
theorem dX5_nextChain_64 : decode cX5_nextChain 64 = .ok (.isub, 1) := by decide +kernel
theorem dX5_nextChain_65 : decode cX5_nextChain 65 = .ok (.istore_n 3, 1) := by decide +kernel
theorem dX5_nextChain_66 : decode cX5_nextChain 66 = .ok (.iload_n 3, 1) := by decide +kernel
theorem dX5_nextChain_67 : decode cX5_nextChain 67 = .ok (.ifCond .lt 28, 3) := by decide +kernel
theorem dX5_nextChain_70 : decode cX5_nextChain 70 = .ok (.aload_n 0, 1) := by decide +kernel
theorem dX5_nextChain_71 : decode cX5_nextChain 71 = .ok (.getfield 19, 3) := by decide +kernel
theorem dX5_nextChain_74 : decode cX5_nextChain 74 = .ok (.iload_n 3, 1) := by decide +kernel
theorem dX5_nextChain_75 : decode cX5_nextChain 75 = .ok (.iload_n 2, 1) := by decide +kernel
theorem dX5_nextChain_76 : decode cX5_nextChain 76 = .ok (.aload_n 0, 1) := by decide +kernel
theorem dX5_nextChain_77 : decode cX5_nextChain 77 = .ok (.getfield 78, 3) := by decide +kernel
theorem dX5_nextChain_80 : decode cX5_nextChain 80 = .ok (.irem, 1) := by decide +kernel
theorem dX5_nextChain_81 : decode cX5_nextChain 81 = .ok (.iastore, 1) := by decide +kernel
theorem dX5_nextChain_82 : decode cX5_nextChain 82 = .ok (.iload_n 2, 1) := by decide +kernel
theorem dX5_nextChain_83 : decode cX5_nextChain 83 = .ok (.aload_n 0, 1) := by decide +kernel
theorem dX5_nextChain_84 : decode cX5_nextChain 84 = .ok (.getfield 78, 3) := by decide +kernel
theorem dX5_nextChain_87 : decode cX5_nextChain 87 = .ok (.idiv, 1) := by decide +kernel
theorem dX5_nextChain_88 : decode cX5_nextChain 88 = .ok (.istore_n 2, 1) := by decide +kernel
theorem dX5_nextChain_89 : decode cX5_nextChain 89 = .ok (.iinc 3 (-1), 3) := by decide +kernel
theorem dX5_nextChain_92 : decode cX5_nextChain 92 = .ok (.goto (-26), 3) := by decide +kernel
theorem dX5_nextChain_95 : decode cX5_nextChain 95 = .ok (.aload_n 0, 1) := by decide +kernel
theorem dX5_nextChain_96 : decode cX5_nextChain 96 = .ok (.invokevirtual 216, 3) := by decide +kernel
theorem dX5_nextChain_99 : decode cX5_nextChain 99 = .ok (.ifCond .eq 5, 3) := by decide +kernel
theorem dX5_nextChain_102 : decode cX5_nextChain 102 = .ok (.iconst 1, 1) := by decide +kernel
theorem dX5_nextChain_103 : decode cX5_nextChain 103 = .ok (.ireturn, 1) := by decide +kernel
theorem dX5_nextChain_104 : decode cX5_nextChain 104 = .ok (.aload_n 0, 1) := by decide +kernel
theorem dX5_nextChain_105 : decode cX5_nextChain 105 = .ok (.dup, 1) := by decide +kernel
theorem dX5_nextChain_106 : decode cX5_nextChain 106 = .ok (.getfield 213, 3) := by decide +kernel
theorem dX5_nextChain_109 : decode cX5_nextChain 109 = .ok (.iconst 1, 1) := by decide +kernel
theorem dX5_nextChain_110 : decode cX5_nextChain 110 = .ok (.iadd, 1) := by decide +kernel
theorem dX5_nextChain_111 : decode cX5_nextChain 111 = .ok (.putfield 213, 3) := by decide +kernel
theorem dX5_nextChain_114 : decode cX5_nextChain 114 = .ok (.goto (-68), 3) := by decide +kernel
theorem dX5_nextChain_117 : decode cX5_nextChain 117 = .ok (.iconst 0, 1) := by decide +kernel
theorem dX5_nextChain_118 : decode cX5_nextChain 118 = .ok (.ireturn, 1) := by decide +kernel
theorem dX5_chains_0 : decode cX5_chains 0 = .ok (.aload_n 0, 1) := by decide +kernel
theorem dX5_chains_1 : decode cX5_chains 1 = .ok (.invokevirtual 219, 3) := by decide +kernel
theorem dX5_chains_4 : decode cX5_chains 4 = .ok (.iconst 0, 1) := by decide +kernel
theorem dX5_chains_5 : decode cX5_chains 5 = .ok (.istore_n 1, 1) := by decide +kernel
theorem dX5_chains_6 : decode cX5_chains 6 = .ok (.aload_n 0, 1) := by decide +kernel
theorem dX5_chains_7 : decode cX5_chains 7 = .ok (.invokevirtual 222, 3) := by decide +kernel
theorem dX5_chains_10 : decode cX5_chains 10 = .ok (.ifCond .eq 21, 3) := by decide +kernel
theorem dX5_chains_13 : decode cX5_chains 13 = .ok (.iload_n 1, 1) := by decide +kernel
theorem dX5_chains_14 : decode cX5_chains 14 = .ok (.aload_n 0, 1) := by decide +kernel
theorem dX5_chains_15 : decode cX5_chains 15 = .ok (.invokevirtual 207, 3) := by decide +kernel
theorem dX5_chains_18 : decode cX5_chains 18 = .ok (.ifCond .eq 7, 3) := by decide +kernel
theorem dX5_chains_21 : decode cX5_chains 21 = .ok (.iconst 1, 1) := by decide +kernel
theorem dX5_chains_22 : decode cX5_chains 22 = .ok (.goto 4, 3) := by decide +kernel
theorem dX5_chains_25 : decode cX5_chains 25 = .ok (.iconst 0, 1) := by decide +kernel
theorem dX5_chains_26 : decode cX5_chains 26 = .ok (.iadd, 1) := by decide +kernel
theorem dX5_chains_27 : decode cX5_chains 27 = .ok (.istore_n 1, 1) := by decide +kernel
theorem dX5_chains_28 : decode cX5_chains 28 = .ok (.goto (-22), 3) := by decide +kernel
theorem dX5_chains_31 : decode cX5_chains 31 = .ok (.aload_n 0, 1) := by decide +kernel
theorem dX5_chains_32 : decode cX5_chains 32 = .ok (.invokevirtual 225, 3) := by decide +kernel
theorem dX5_chains_35 : decode cX5_chains 35 = .ok (.iload_n 1, 1) := by decide +kernel
theorem dX5_chains_36 : decode cX5_chains 36 = .ok (.ireturn, 1) := by decide +kernel
theorem dX5_findLongest_0 : decode cX5_findLongest 0 = .ok (.aload_n 0, 1) := by decide +kernel
theorem dX5_findLongest_1 : decode cX5_findLongest 1 = .ok (.invokevirtual 219, 3) := by decide +kernel
theorem dX5_findLongest_4 : decode cX5_findLongest 4 = .ok (.aload_n 0, 1) := by decide +kernel
theorem dX5_findLongest_5 : decode cX5_findLongest 5 = .ok (.bipush (-9), 2) := by decide +kernel
theorem dX5_findLongest_7 : decode cX5_findLongest 7 = .ok (.putfield 228, 3) := by decide +kernel
theorem dX5_findLongest_10 : decode cX5_findLongest 10 = .ok (.iconst 0, 1) := by decide +kernel
theorem dX5_findLongest_11 : decode cX5_findLongest 11 = .ok (.istore_n 1, 1) := by decide +kernel
theorem dX5_findLongest_12 : decode cX5_findLongest 12 = .ok (.iload_n 1, 1) := by decide +kernel
theorem dX5_findLongest_13 : decode cX5_findLongest 13 = .ok (.iconst 5, 1) := by decide +kernel
theorem dX5_findLongest_14 : decode cX5_findLongest 14 = .ok (.if_icmp .ge 17, 3) := by decide +kernel
theorem dX5_findLongest_17 : decode cX5_findLongest 17 = .ok (.aload_n 0, 1) := by decide +kernel
theorem dX5_findLongest_18 : decode cX5_findLongest 18 = .ok (.getfield 71, 3) := by decide +kernel
theorem dX5_findLongest_21 : decode cX5_findLongest 21 = .ok (.iload_n 1, 1) := by decide +kernel
theorem dX5_findLongest_22 : decode cX5_findLongest 22 = .ok (.bipush (-9), 2) := by decide +kernel
theorem dX5_findLongest_24 : decode cX5_findLongest 24 = .ok (.iastore, 1) := by decide +kernel
theorem dX5_findLongest_25 : decode cX5_findLongest 25 = .ok (.iinc 1 1, 3) := by decide +kernel
theorem dX5_findLongest_28 : decode cX5_findLongest 28 = .ok (.goto (-16), 3) := by decide +kernel
theorem dX5_findLongest_31 : decode cX5_findLongest 31 = .ok (.aload_n 0, 1) := by decide +kernel
theorem dX5_findLongest_32 : decode cX5_findLongest 32 = .ok (.invokevirtual 222, 3) := by decide +kernel
theorem dX5_findLongest_35 : decode cX5_findLongest 35 = .ok (.ifCond .eq 63, 3) := by decide +kernel
theorem dX5_findLongest_38 : decode cX5_findLongest 38 = .ok (.aload_n 0, 1) := by decide +kernel
theorem dX5_findLongest_39 : decode cX5_findLongest 39 = .ok (.invokevirtual 207, 3) := by decide +kernel
theorem dX5_findLongest_42 : decode cX5_findLongest 42 = .ok (.ifCond .eq (-11), 3) := by decide +kernel
theorem dX5_findLongest_45 : decode cX5_findLongest 45 = .ok (.aload_n 0, 1) := by decide +kernel
theorem dX5_findLongest_46 : decode cX5_findLongest 46 = .ok (.invokevirtual 210, 3) := by decide +kernel
theorem dX5_findLongest_49 : decode cX5_findLongest 49 = .ok (.aload_n 0, 1) := by decide +kernel
theorem dX5_findLongest_50 : decode cX5_findLongest 50 = .ok (.getfield 228, 3) := by decide +kernel
theorem dX5_findLongest_53 : decode cX5_findLongest 53 = .ok (.if_icmp .gt 6, 3) := by decide +kernel
theorem dX5_findLongest_56 : decode cX5_findLongest 56 = .ok (.goto (-25), 3) := by decide +kernel
theorem dX5_findLongest_59 : decode cX5_findLongest 59 = .ok (.aload_n 0, 1) := by decide +kernel
