theorem dX0_init_0 : decode cX0_init 0 = .ok (.aload_n 0, 1) := by decide +kernel
theorem dX0_init_1 : decode cX0_init 1 = .ok (.invokespecial 3, 3) := by decide +kernel
theorem dX0_init_4 : decode cX0_init 4 = .ok (.aload_n 0, 1) := by decide +kernel
theorem dX0_init_5 : decode cX0_init 5 = .ok (.bipush 80, 2) := by decide +kernel
theorem dX0_init_7 : decode cX0_init 7 = .ok (.newarray .int, 2) := by decide +kernel
theorem dX0_init_9 : decode cX0_init 9 = .ok (.putfield 9, 3) := by decide +kernel
theorem dX0_init_12 : decode cX0_init 12 = .ok (.aload_n 0, 1) := by decide +kernel
theorem dX0_init_13 : decode cX0_init 13 = .ok (.iconst 0, 1) := by decide +kernel
theorem dX0_init_14 : decode cX0_init 14 = .ok (.putfield 15, 3) := by decide +kernel
theorem dX0_init_17 : decode cX0_init 17 = .ok (.return_, 1) := by decide +kernel
theorem dX0_take_0 : decode cX0_take 0 = .ok (.aload_n 0, 1) := by decide +kernel
theorem dX0_take_1 : decode cX0_take 1 = .ok (.getfield 15, 3) := by decide +kernel
theorem dX0_take_4 : decode cX0_take 4 = .ok (.bipush 80, 2) := by decide +kernel
theorem dX0_take_6 : decode cX0_take 6 = .ok (.if_icmp .ge 23, 3) := by decide +kernel
theorem dX0_take_9 : decode cX0_take 9 = .ok (.aload_n 0, 1) := by decide +kernel
theorem dX0_take_10 : decode cX0_take 10 = .ok (.getfield 9, 3) := by decide +kernel
theorem dX0_take_13 : decode cX0_take 13 = .ok (.aload_n 0, 1) := by decide +kernel
theorem dX0_take_14 : decode cX0_take 14 = .ok (.getfield 15, 3) := by decide +kernel
theorem dX0_take_17 : decode cX0_take 17 = .ok (.iload_n 1, 1) := by decide +kernel
theorem dX0_take_18 : decode cX0_take 18 = .ok (.iastore, 1) := by decide +kernel
theorem dX0_take_19 : decode cX0_take 19 = .ok (.aload_n 0, 1) := by decide +kernel
theorem dX0_take_20 : decode cX0_take 20 = .ok (.dup, 1) := by decide +kernel
theorem dX0_take_21 : decode cX0_take 21 = .ok (.getfield 15, 3) := by decide +kernel
theorem dX0_take_24 : decode cX0_take 24 = .ok (.iconst 1, 1) := by decide +kernel
theorem dX0_take_25 : decode cX0_take 25 = .ok (.iadd, 1) := by decide +kernel
theorem dX0_take_26 : decode cX0_take 26 = .ok (.putfield 15, 3) := by decide +kernel
theorem dX0_take_29 : decode cX0_take 29 = .ok (.return_, 1) := by decide +kernel
theorem dX0_at_0 : decode cX0_at 0 = .ok (.iload_n 1, 1) := by decide +kernel
theorem dX0_at_1 : decode cX0_at 1 = .ok (.ifCond .lt 20, 3) := by decide +kernel
theorem dX0_at_4 : decode cX0_at 4 = .ok (.iload_n 1, 1) := by decide +kernel
theorem dX0_at_5 : decode cX0_at 5 = .ok (.aload_n 0, 1) := by decide +kernel
theorem dX0_at_6 : decode cX0_at 6 = .ok (.getfield 15, 3) := by decide +kernel
theorem dX0_at_9 : decode cX0_at 9 = .ok (.if_icmp .ge 12, 3) := by decide +kernel
theorem dX0_at_12 : decode cX0_at 12 = .ok (.aload_n 0, 1) := by decide +kernel
theorem dX0_at_13 : decode cX0_at 13 = .ok (.getfield 9, 3) := by decide +kernel
theorem dX0_at_16 : decode cX0_at 16 = .ok (.iload_n 1, 1) := by decide +kernel
theorem dX0_at_17 : decode cX0_at 17 = .ok (.iaload, 1) := by decide +kernel
theorem dX0_at_18 : decode cX0_at 18 = .ok (.goto 5, 3) := by decide +kernel
theorem dX0_at_21 : decode cX0_at 21 = .ok (.bipush (-9), 2) := by decide +kernel
theorem dX0_at_23 : decode cX0_at 23 = .ok (.ireturn, 1) := by decide +kernel
theorem dX0_isDigit_0 : decode cX0_isDigit 0 = .ok (.aload_n 0, 1) := by decide +kernel
theorem dX0_isDigit_1 : decode cX0_isDigit 1 = .ok (.iload_n 1, 1) := by decide +kernel
theorem dX0_isDigit_2 : decode cX0_isDigit 2 = .ok (.invokevirtual 19, 3) := by decide +kernel
theorem dX0_isDigit_5 : decode cX0_isDigit 5 = .ok (.bipush 48, 2) := by decide +kernel
theorem dX0_isDigit_7 : decode cX0_isDigit 7 = .ok (.if_icmp .lt 17, 3) := by decide +kernel
theorem dX0_isDigit_10 : decode cX0_isDigit 10 = .ok (.aload_n 0, 1) := by decide +kernel
theorem dX0_isDigit_11 : decode cX0_isDigit 11 = .ok (.iload_n 1, 1) := by decide +kernel
theorem dX0_isDigit_12 : decode cX0_isDigit 12 = .ok (.invokevirtual 19, 3) := by decide +kernel
theorem dX0_isDigit_15 : decode cX0_isDigit 15 = .ok (.bipush 57, 2) := by decide +kernel
theorem dX0_isDigit_17 : decode cX0_isDigit 17 = .ok (.if_icmp .gt 7, 3) := by decide +kernel
theorem dX0_isDigit_20 : decode cX0_isDigit 20 = .ok (.iconst 1, 1) := by decide +kernel
theorem dX0_isDigit_21 : decode cX0_isDigit 21 = .ok (.goto 4, 3) := by decide +kernel
theorem dX0_isDigit_24 : decode cX0_isDigit 24 = .ok (.iconst 0, 1) := by decide +kernel
theorem dX0_isDigit_25 : decode cX0_isDigit 25 = .ok (.ireturn, 1) := by decide +kernel
theorem dX0_digit_0 : decode cX0_digit 0 = .ok (.aload_n 0, 1) := by decide +kernel
theorem dX0_digit_1 : decode cX0_digit 1 = .ok (.iload_n 1, 1) := by decide +kernel
theorem dX0_digit_2 : decode cX0_digit 2 = .ok (.invokevirtual 23, 3) := by decide +kernel
theorem dX0_digit_5 : decode cX0_digit 5 = .ok (.ifCond .eq 14, 3) := by decide +kernel
theorem dX0_digit_8 : decode cX0_digit 8 = .ok (.aload_n 0, 1) := by decide +kernel
theorem dX0_digit_9 : decode cX0_digit 9 = .ok (.iload_n 1, 1) := by decide +kernel
theorem dX0_digit_10 : decode cX0_digit 10 = .ok (.invokevirtual 19, 3) := by decide +kernel
theorem dX0_digit_13 : decode cX0_digit 13 = .ok (.bipush 48, 2) := by decide +kernel
theorem dX0_digit_15 : decode cX0_digit 15 = .ok (.isub, 1) := by decide +kernel
theorem dX0_digit_16 : decode cX0_digit 16 = .ok (.goto 4, 3) := by decide +kernel
theorem dX0_digit_19 : decode cX0_digit 19 = .ok (.iconst 0, 1) := by decide +kernel
theorem dX0_digit_20 : decode cX0_digit 20 = .ok (.ireturn, 1) := by decide +kernel
theorem dX0_leastDigits_0 : decode cX0_leastDigits 0 = .ok (.iload_n 0, 1) := by decide +kernel
theorem dX0_leastDigits_1 : decode cX0_leastDigits 1 = .ok (.lookupswitch 67 #[(99, 59), (100, 63), (103, 61), (105, 61), (112, 65), (121, 59)], 59) := by decide +kernel
theorem dX0_leastDigits_60 : decode cX0_leastDigits 60 = .ok (.iconst 1, 1) := by decide +kernel
theorem dX0_leastDigits_61 : decode cX0_leastDigits 61 = .ok (.ireturn, 1) := by decide +kernel
theorem dX0_leastDigits_62 : decode cX0_leastDigits 62 = .ok (.iconst 2, 1) := by decide +kernel
theorem dX0_leastDigits_63 : decode cX0_leastDigits 63 = .ok (.ireturn, 1) := by decide +kernel
theorem dX0_leastDigits_64 : decode cX0_leastDigits 64 = .ok (.iconst 3, 1) := by decide +kernel
theorem dX0_leastDigits_65 : decode cX0_leastDigits 65 = .ok (.ireturn, 1) := by decide +kernel
theorem dX0_leastDigits_66 : decode cX0_leastDigits 66 = .ok (.iconst 5, 1) := by decide +kernel
theorem dX0_leastDigits_67 : decode cX0_leastDigits 67 = .ok (.ireturn, 1) := by decide +kernel
theorem dX0_leastDigits_68 : decode cX0_leastDigits 68 = .ok (.iconst 0, 1) := by decide +kernel
theorem dX0_leastDigits_69 : decode cX0_leastDigits 69 = .ok (.ireturn, 1) := by decide +kernel
theorem dX0_mostDigits_0 : decode cX0_mostDigits 0 = .ok (.iload_n 0, 1) := by decide +kernel
theorem dX0_mostDigits_1 : decode cX0_mostDigits 1 = .ok (.bipush 112, 2) := by decide +kernel
theorem dX0_mostDigits_3 : decode cX0_mostDigits 3 = .ok (.if_icmp .ne 8, 3) := by decide +kernel
theorem dX0_mostDigits_6 : decode cX0_mostDigits 6 = .ok (.bipush 6, 2) := by decide +kernel
theorem dX0_mostDigits_8 : decode cX0_mostDigits 8 = .ok (.goto 7, 3) := by decide +kernel
theorem dX0_mostDigits_11 : decode cX0_mostDigits 11 = .ok (.iload_n 0, 1) := by decide +kernel
theorem dX0_mostDigits_12 : decode cX0_mostDigits 12 = .ok (.invokestatic 27, 3) := by decide +kernel
theorem dX0_mostDigits_15 : decode cX0_mostDigits 15 = .ok (.ireturn, 1) := by decide +kernel
theorem dX0_digitsFrom_0 : decode cX0_digitsFrom 0 = .ok (.iconst 0, 1) := by decide +kernel
theorem dX0_digitsFrom_1 : decode cX0_digitsFrom 1 = .ok (.istore_n 3, 1) := by decide +kernel
theorem dX0_digitsFrom_2 : decode cX0_digitsFrom 2 = .ok (.iload_n 3, 1) := by decide +kernel
theorem dX0_digitsFrom_3 : decode cX0_digitsFrom 3 = .ok (.iload_n 2, 1) := by decide +kernel
theorem dX0_digitsFrom_4 : decode cX0_digitsFrom 4 = .ok (.if_icmp .ge 19, 3) := by decide +kernel
theorem dX0_digitsFrom_7 : decode cX0_digitsFrom 7 = .ok (.aload_n 0, 1) := by decide +kernel
theorem dX0_digitsFrom_8 : decode cX0_digitsFrom 8 = .ok (.iload_n 1, 1) := by decide +kernel
theorem dX0_digitsFrom_9 : decode cX0_digitsFrom 9 = .ok (.iload_n 3, 1) := by decide +kernel
theorem dX0_digitsFrom_10 : decode cX0_digitsFrom 10 = .ok (.iadd, 1) := by decide +kernel
theorem dX0_digitsFrom_11 : decode cX0_digitsFrom 11 = .ok (.invokevirtual 23, 3) := by decide +kernel
theorem dX0_digitsFrom_14 : decode cX0_digitsFrom 14 = .ok (.ifCond .eq 9, 3) := by decide +kernel
theorem dX0_digitsFrom_17 : decode cX0_digitsFrom 17 = .ok (.iinc 3 1, 3) := by decide +kernel
theorem dX0_digitsFrom_20 : decode cX0_digitsFrom 20 = .ok (.goto (-18), 3) := by decide +kernel
theorem dX0_digitsFrom_23 : decode cX0_digitsFrom 23 = .ok (.iload_n 3, 1) := by decide +kernel
theorem dX0_digitsFrom_24 : decode cX0_digitsFrom 24 = .ok (.ireturn, 1) := by decide +kernel
theorem dX0_endOf_0 : decode cX0_endOf 0 = .ok (.aload_n 0, 1) := by decide +kernel
theorem dX0_endOf_1 : decode cX0_endOf 1 = .ok (.iload_n 1, 1) := by decide +kernel
theorem dX0_endOf_2 : decode cX0_endOf 2 = .ok (.invokevirtual 19, 3) := by decide +kernel
theorem dX0_endOf_5 : decode cX0_endOf 5 = .ok (.invokestatic 27, 3) := by decide +kernel
theorem dX0_endOf_8 : decode cX0_endOf 8 = .ok (.istore_n 2, 1) := by decide +kernel
theorem dX0_endOf_9 : decode cX0_endOf 9 = .ok (.iload_n 2, 1) := by decide +kernel
theorem dX0_endOf_10 : decode cX0_endOf 10 = .ok (.ifCond .ne 7, 3) := by decide +kernel
theorem dX0_endOf_13 : decode cX0_endOf 13 = .ok (.iconst (-1), 1) := by decide +kernel
theorem dX0_endOf_14 : decode cX0_endOf 14 = .ok (.iload_n 1, 1) := by decide +kernel
theorem dX0_endOf_15 : decode cX0_endOf 15 = .ok (.isub, 1) := by decide +kernel
theorem dX0_endOf_16 : decode cX0_endOf 16 = .ok (.ireturn, 1) := by decide +kernel
theorem dX0_endOf_17 : decode cX0_endOf 17 = .ok (.aload_n 0, 1) := by decide +kernel
theorem dX0_endOf_18 : decode cX0_endOf 18 = .ok (.iload_n 1, 1) := by decide +kernel
theorem dX0_endOf_19 : decode cX0_endOf 19 = .ok (.iconst 1, 1) := by decide +kernel
theorem dX0_endOf_20 : decode cX0_endOf 20 = .ok (.iadd, 1) := by decide +kernel
theorem dX0_endOf_21 : decode cX0_endOf 21 = .ok (.aload_n 0, 1) := by decide +kernel
theorem dX0_endOf_22 : decode cX0_endOf 22 = .ok (.iload_n 1, 1) := by decide +kernel
theorem dX0_endOf_23 : decode cX0_endOf 23 = .ok (.invokevirtual 19, 3) := by decide +kernel
theorem dX0_endOf_26 : decode cX0_endOf 26 = .ok (.invokestatic 30, 3) := by decide +kernel
theorem dX0_endOf_29 : decode cX0_endOf 29 = .ok (.invokevirtual 33, 3) := by decide +kernel
theorem dX0_endOf_32 : decode cX0_endOf 32 = .ok (.istore_n 3, 1) := by decide +kernel
theorem dX0_endOf_33 : decode cX0_endOf 33 = .ok (.iload_n 1, 1) := by decide +kernel
theorem dX0_endOf_34 : decode cX0_endOf 34 = .ok (.iconst 1, 1) := by decide +kernel
theorem dX0_endOf_35 : decode cX0_endOf 35 = .ok (.iadd, 1) := by decide +kernel
theorem dX0_endOf_36 : decode cX0_endOf 36 = .ok (.iload_n 3, 1) := by decide +kernel
theorem dX0_endOf_37 : decode cX0_endOf 37 = .ok (.iadd, 1) := by decide +kernel
theorem dX0_endOf_38 : decode cX0_endOf 38 = .ok (.istore 4, 2) := by decide +kernel
theorem dX0_endOf_40 : decode cX0_endOf 40 = .ok (.iload_n 3, 1) := by decide +kernel
theorem dX0_endOf_41 : decode cX0_endOf 41 = .ok (.iload_n 2, 1) := by decide +kernel
theorem dX0_endOf_42 : decode cX0_endOf 42 = .ok (.if_icmp .lt 14, 3) := by decide +kernel
theorem dX0_endOf_45 : decode cX0_endOf 45 = .ok (.aload_n 0, 1) := by decide +kernel
theorem dX0_endOf_46 : decode cX0_endOf 46 = .ok (.iload 4, 2) := by decide +kernel
theorem dX0_endOf_48 : decode cX0_endOf 48 = .ok (.invokevirtual 19, 3) := by decide +kernel
theorem dX0_endOf_51 : decode cX0_endOf 51 = .ok (.bipush 59, 2) := by decide +kernel
theorem dX0_endOf_53 : decode cX0_endOf 53 = .ok (.if_icmp .eq 10, 3) := by decide +kernel
theorem dX0_endOf_56 : decode cX0_endOf 56 = .ok (.iconst (-1), 1) := by decide +kernel
theorem dX0_endOf_57 : decode cX0_endOf 57 = .ok (.iload 4, 2) := by decide +kernel
theorem dX0_endOf_59 : decode cX0_endOf 59 = .ok (.isub, 1) := by decide +kernel
theorem dX0_endOf_60 : decode cX0_endOf 60 = .ok (.goto 5, 3) := by decide +kernel
theorem dX0_endOf_63 : decode cX0_endOf 63 = .ok (.iload 4, 2) := by decide +kernel
theorem dX0_endOf_65 : decode cX0_endOf 65 = .ok (.ireturn, 1) := by decide +kernel
theorem dX0_firstWrong_0 : decode cX0_firstWrong 0 = .ok (.aload_n 0, 1) := by decide +kernel
theorem dX0_firstWrong_1 : decode cX0_firstWrong 1 = .ok (.getfield 15, 3) := by decide +kernel
theorem dX0_firstWrong_4 : decode cX0_firstWrong 4 = .ok (.ifCond .ne 5, 3) := by decide +kernel
theorem dX0_firstWrong_7 : decode cX0_firstWrong 7 = .ok (.iconst 0, 1) := by decide +kernel
theorem dX0_firstWrong_8 : decode cX0_firstWrong 8 = .ok (.ireturn, 1) := by decide +kernel
theorem dX0_firstWrong_9 : decode cX0_firstWrong 9 = .ok (.iconst 0, 1) := by decide +kernel
theorem dX0_firstWrong_10 : decode cX0_firstWrong 10 = .ok (.istore_n 1, 1) := by decide +kernel
theorem dX0_firstWrong_11 : decode cX0_firstWrong 11 = .ok (.iconst 0, 1) := by decide +kernel
theorem dX0_firstWrong_12 : decode cX0_firstWrong 12 = .ok (.istore_n 2, 1) := by decide +kernel
theorem dX0_firstWrong_13 : decode cX0_firstWrong 13 = .ok (.iload_n 2, 1) := by decide +kernel
theorem dX0_firstWrong_14 : decode cX0_firstWrong 14 = .ok (.bipush 80, 2) := by decide +kernel
theorem dX0_firstWrong_16 : decode cX0_firstWrong 16 = .ok (.if_icmp .ge 35, 3) := by decide +kernel
theorem dX0_firstWrong_19 : decode cX0_firstWrong 19 = .ok (.iload_n 1, 1) := by decide +kernel
theorem dX0_firstWrong_20 : decode cX0_firstWrong 20 = .ok (.aload_n 0, 1) := by decide +kernel
theorem dX0_firstWrong_21 : decode cX0_firstWrong 21 = .ok (.getfield 15, 3) := by decide +kernel
theorem dX0_firstWrong_24 : decode cX0_firstWrong 24 = .ok (.if_icmp .ge 27, 3) := by decide +kernel
theorem dX0_firstWrong_27 : decode cX0_firstWrong 27 = .ok (.aload_n 0, 1) := by decide +kernel
theorem dX0_firstWrong_28 : decode cX0_firstWrong 28 = .ok (.iload_n 1, 1) := by decide +kernel
theorem dX0_firstWrong_29 : decode cX0_firstWrong 29 = .ok (.invokevirtual 37, 3) := by decide +kernel
theorem dX0_firstWrong_32 : decode cX0_firstWrong 32 = .ok (.istore_n 3, 1) := by decide +kernel
theorem dX0_firstWrong_33 : decode cX0_firstWrong 33 = .ok (.iload_n 3, 1) := by decide +kernel
theorem dX0_firstWrong_34 : decode cX0_firstWrong 34 = .ok (.ifCond .ge 7, 3) := by decide +kernel
theorem dX0_firstWrong_37 : decode cX0_firstWrong 37 = .ok (.iconst (-1), 1) := by decide +kernel
theorem dX0_firstWrong_38 : decode cX0_firstWrong 38 = .ok (.iload_n 3, 1) := by decide +kernel
theorem dX0_firstWrong_39 : decode cX0_firstWrong 39 = .ok (.isub, 1) := by decide +kernel
theorem dX0_firstWrong_40 : decode cX0_firstWrong 40 = .ok (.ireturn, 1) := by decide +kernel
theorem dX0_firstWrong_41 : decode cX0_firstWrong 41 = .ok (.iload_n 3, 1) := by decide +kernel
theorem dX0_firstWrong_42 : decode cX0_firstWrong 42 = .ok (.iconst 1, 1) := by decide +kernel
theorem dX0_firstWrong_43 : decode cX0_firstWrong 43 = .ok (.iadd, 1) := by decide +kernel
theorem dX0_firstWrong_44 : decode cX0_firstWrong 44 = .ok (.istore_n 1, 1) := by decide +kernel
theorem dX0_firstWrong_45 : decode cX0_firstWrong 45 = .ok (.iinc 2 1, 3) := by decide +kernel
theorem dX0_firstWrong_48 : decode cX0_firstWrong 48 = .ok (.goto (-35), 3) := by decide +kernel
theorem dX0_firstWrong_51 : decode cX0_firstWrong 51 = .ok (.bipush (-9), 2) := by decide +kernel
theorem dX0_firstWrong_53 : decode cX0_firstWrong 53 = .ok (.ireturn, 1) := by decide +kernel
theorem dX0_tellTo_0 : decode cX0_tellTo 0 = .ok (.iconst 0, 1) := by decide +kernel
theorem dX0_tellTo_1 : decode cX0_tellTo 1 = .ok (.istore_n 2, 1) := by decide +kernel
theorem dX0_tellTo_2 : decode cX0_tellTo 2 = .ok (.iconst 0, 1) := by decide +kernel
theorem dX0_tellTo_3 : decode cX0_tellTo 3 = .ok (.istore_n 3, 1) := by decide +kernel
theorem dX0_tellTo_4 : decode cX0_tellTo 4 = .ok (.iload_n 3, 1) := by decide +kernel
theorem dX0_tellTo_5 : decode cX0_tellTo 5 = .ok (.bipush 80, 2) := by decide +kernel
theorem dX0_tellTo_7 : decode cX0_tellTo 7 = .ok (.if_icmp .ge 40, 3) := by decide +kernel
theorem dX0_tellTo_10 : decode cX0_tellTo 10 = .ok (.iload_n 2, 1) := by decide +kernel
theorem dX0_tellTo_11 : decode cX0_tellTo 11 = .ok (.aload_n 0, 1) := by decide +kernel
theorem dX0_tellTo_12 : decode cX0_tellTo 12 = .ok (.getfield 15, 3) := by decide +kernel
theorem dX0_tellTo_15 : decode cX0_tellTo 15 = .ok (.if_icmp .ge 32, 3) := by decide +kernel
theorem dX0_tellTo_18 : decode cX0_tellTo 18 = .ok (.aload_n 0, 1) := by decide +kernel
theorem dX0_tellTo_19 : decode cX0_tellTo 19 = .ok (.aload_n 1, 1) := by decide +kernel
theorem dX0_tellTo_20 : decode cX0_tellTo 20 = .ok (.iload_n 2, 1) := by decide +kernel
theorem dX0_tellTo_21 : decode cX0_tellTo 21 = .ok (.invokevirtual 40, 3) := by decide +kernel
theorem dX0_tellTo_24 : decode cX0_tellTo 24 = .ok (.ifCond .ne 9, 3) := by decide +kernel
theorem dX0_tellTo_27 : decode cX0_tellTo 27 = .ok (.sipush (-2000), 3) := by decide +kernel
theorem dX0_tellTo_30 : decode cX0_tellTo 30 = .ok (.iload_n 2, 1) := by decide +kernel
theorem dX0_tellTo_31 : decode cX0_tellTo 31 = .ok (.isub, 1) := by decide +kernel
theorem dX0_tellTo_32 : decode cX0_tellTo 32 = .ok (.ireturn, 1) := by decide +kernel
theorem dX0_tellTo_33 : decode cX0_tellTo 33 = .ok (.aload_n 0, 1) := by decide +kernel
theorem dX0_tellTo_34 : decode cX0_tellTo 34 = .ok (.iload_n 2, 1) := by decide +kernel
theorem dX0_tellTo_35 : decode cX0_tellTo 35 = .ok (.invokevirtual 37, 3) := by decide +kernel
theorem dX0_tellTo_38 : decode cX0_tellTo 38 = .ok (.iconst 1, 1) := by decide +kernel
theorem dX0_tellTo_39 : decode cX0_tellTo 39 = .ok (.iadd, 1) := by decide +kernel
theorem dX0_tellTo_40 : decode cX0_tellTo 40 = .ok (.istore_n 2, 1) := by decide +kernel
theorem dX0_tellTo_41 : decode cX0_tellTo 41 = .ok (.iinc 3 1, 3) := by decide +kernel
theorem dX0_tellTo_44 : decode cX0_tellTo 44 = .ok (.goto (-40), 3) := by decide +kernel
theorem dX0_tellTo_47 : decode cX0_tellTo 47 = .ok (.iload_n 3, 1) := by decide +kernel
theorem dX0_tellTo_48 : decode cX0_tellTo 48 = .ok (.ireturn, 1) := by decide +kernel
theorem dX0_tellStatement_0 : decode cX0_tellStatement 0 = .ok (.aload_n 0, 1) := by decide +kernel
theorem dX0_tellStatement_1 : decode cX0_tellStatement 1 = .ok (.iload_n 2, 1) := by decide +kernel
theorem dX0_tellStatement_2 : decode cX0_tellStatement 2 = .ok (.iconst 1, 1) := by decide +kernel
theorem dX0_tellStatement_3 : decode cX0_tellStatement 3 = .ok (.iadd, 1) := by decide +kernel
theorem dX0_tellStatement_4 : decode cX0_tellStatement 4 = .ok (.invokevirtual 44, 3) := by decide +kernel
theorem dX0_tellStatement_7 : decode cX0_tellStatement 7 = .ok (.istore_n 3, 1) := by decide +kernel
theorem dX0_tellStatement_8 : decode cX0_tellStatement 8 = .ok (.aload_n 0, 1) := by decide +kernel
theorem dX0_tellStatement_9 : decode cX0_tellStatement 9 = .ok (.iload_n 2, 1) := by decide +kernel
theorem dX0_tellStatement_10 : decode cX0_tellStatement 10 = .ok (.iconst 2, 1) := by decide +kernel
theorem dX0_tellStatement_11 : decode cX0_tellStatement 11 = .ok (.iadd, 1) := by decide +kernel
theorem dX0_tellStatement_12 : decode cX0_tellStatement 12 = .ok (.invokevirtual 44, 3) := by decide +kernel
theorem dX0_tellStatement_15 : decode cX0_tellStatement 15 = .ok (.istore 4, 2) := by decide +kernel
theorem dX0_tellStatement_17 : decode cX0_tellStatement 17 = .ok (.aload_n 0, 1) := by decide +kernel
theorem dX0_tellStatement_18 : decode cX0_tellStatement 18 = .ok (.iload_n 2, 1) := by decide +kernel
theorem dX0_tellStatement_19 : decode cX0_tellStatement 19 = .ok (.iconst 3, 1) := by decide +kernel
theorem dX0_tellStatement_20 : decode cX0_tellStatement 20 = .ok (.iadd, 1) := by decide +kernel
theorem dX0_tellStatement_21 : decode cX0_tellStatement 21 = .ok (.invokevirtual 44, 3) := by decide +kernel
theorem dX0_tellStatement_24 : decode cX0_tellStatement 24 = .ok (.istore 5, 2) := by decide +kernel
theorem dX0_tellStatement_26 : decode cX0_tellStatement 26 = .ok (.aload_n 0, 1) := by decide +kernel
theorem dX0_tellStatement_27 : decode cX0_tellStatement 27 = .ok (.iload_n 2, 1) := by decide +kernel
theorem dX0_tellStatement_28 : decode cX0_tellStatement 28 = .ok (.invokevirtual 19, 3) := by decide +kernel
theorem dX0_tellStatement_31 : decode cX0_tellStatement 31 = .ok (.lookupswitch 120 #[(99, 73), (100, 63), (103, 104), (105, 112), (112, 80), (121, 57)], 57) := by decide +kernel
theorem dX0_tellStatement_88 : decode cX0_tellStatement 88 = .ok (.aload_n 1, 1) := by decide +kernel
theorem dX0_tellStatement_89 : decode cX0_tellStatement 89 = .ok (.iload_n 3, 1) := by decide +kernel
theorem dX0_tellStatement_90 : decode cX0_tellStatement 90 = .ok (.invokevirtual 47, 3) := by decide +kernel
theorem dX0_tellStatement_93 : decode cX0_tellStatement 93 = .ok (.ireturn, 1) := by decide +kernel
theorem dX0_tellStatement_94 : decode cX0_tellStatement 94 = .ok (.aload_n 1, 1) := by decide +kernel
theorem dX0_tellStatement_95 : decode cX0_tellStatement 95 = .ok (.iload_n 3, 1) := by decide +kernel
theorem dX0_tellStatement_96 : decode cX0_tellStatement 96 = .ok (.iload 4, 2) := by decide +kernel
theorem dX0_tellStatement_98 : decode cX0_tellStatement 98 = .ok (.iload 5, 2) := by decide +kernel
theorem dX0_tellStatement_100 : decode cX0_tellStatement 100 = .ok (.invokevirtual 52, 3) := by decide +kernel
theorem dX0_tellStatement_103 : decode cX0_tellStatement 103 = .ok (.ireturn, 1) := by decide +kernel
theorem dX0_tellStatement_104 : decode cX0_tellStatement 104 = .ok (.aload_n 1, 1) := by decide +kernel
theorem dX0_tellStatement_105 : decode cX0_tellStatement 105 = .ok (.iload_n 3, 1) := by decide +kernel
theorem dX0_tellStatement_106 : decode cX0_tellStatement 106 = .ok (.putfield 56, 3) := by decide +kernel
theorem dX0_tellStatement_109 : decode cX0_tellStatement 109 = .ok (.iconst 1, 1) := by decide +kernel
theorem dX0_tellStatement_110 : decode cX0_tellStatement 110 = .ok (.ireturn, 1) := by decide +kernel
theorem dX0_tellStatement_111 : decode cX0_tellStatement 111 = .ok (.aload_n 1, 1) := by decide +kernel
theorem dX0_tellStatement_112 : decode cX0_tellStatement 112 = .ok (.iload_n 3, 1) := by decide +kernel
theorem dX0_tellStatement_113 : decode cX0_tellStatement 113 = .ok (.iload 4, 2) := by decide +kernel
theorem dX0_tellStatement_115 : decode cX0_tellStatement 115 = .ok (.iload 5, 2) := by decide +kernel
theorem dX0_tellStatement_117 : decode cX0_tellStatement 117 = .ok (.aload_n 0, 1) := by decide +kernel
theorem dX0_tellStatement_118 : decode cX0_tellStatement 118 = .ok (.iload_n 2, 1) := by decide +kernel
theorem dX0_tellStatement_119 : decode cX0_tellStatement 119 = .ok (.iconst 4, 1) := by decide +kernel
theorem dX0_tellStatement_120 : decode cX0_tellStatement 120 = .ok (.iadd, 1) := by decide +kernel
theorem dX0_tellStatement_121 : decode cX0_tellStatement 121 = .ok (.invokevirtual 44, 3) := by decide +kernel
theorem dX0_tellStatement_124 : decode cX0_tellStatement 124 = .ok (.aload_n 0, 1) := by decide +kernel
theorem dX0_tellStatement_125 : decode cX0_tellStatement 125 = .ok (.iload_n 2, 1) := by decide +kernel
theorem dX0_tellStatement_126 : decode cX0_tellStatement 126 = .ok (.iconst 5, 1) := by decide +kernel
theorem dX0_tellStatement_127 : decode cX0_tellStatement 127 = .ok (.iadd, 1) := by decide +kernel
theorem dX0_tellStatement_128 : decode cX0_tellStatement 128 = .ok (.invokevirtual 59, 3) := by decide +kernel
theorem dX0_tellStatement_131 : decode cX0_tellStatement 131 = .ok (.invokevirtual 62, 3) := by decide +kernel
theorem dX0_tellStatement_134 : decode cX0_tellStatement 134 = .ok (.ireturn, 1) := by decide +kernel
theorem dX0_tellStatement_135 : decode cX0_tellStatement 135 = .ok (.aload_n 1, 1) := by decide +kernel
theorem dX0_tellStatement_136 : decode cX0_tellStatement 136 = .ok (.iload_n 3, 1) := by decide +kernel
theorem dX0_tellStatement_137 : decode cX0_tellStatement 137 = .ok (.iload 4, 2) := by decide +kernel
theorem dX0_tellStatement_139 : decode cX0_tellStatement 139 = .ok (.invokevirtual 66, 3) := by decide +kernel
theorem dX0_tellStatement_142 : decode cX0_tellStatement 142 = .ok (.ireturn, 1) := by decide +kernel
theorem dX0_tellStatement_143 : decode cX0_tellStatement 143 = .ok (.aload_n 1, 1) := by decide +kernel
theorem dX0_tellStatement_144 : decode cX0_tellStatement 144 = .ok (.iload_n 3, 1) := by decide +kernel
theorem dX0_tellStatement_145 : decode cX0_tellStatement 145 = .ok (.iload 4, 2) := by decide +kernel
theorem dX0_tellStatement_147 : decode cX0_tellStatement 147 = .ok (.invokevirtual 70, 3) := by decide +kernel
theorem dX0_tellStatement_150 : decode cX0_tellStatement 150 = .ok (.ireturn, 1) := by decide +kernel
theorem dX0_tellStatement_151 : decode cX0_tellStatement 151 = .ok (.iconst 0, 1) := by decide +kernel
theorem dX0_tellStatement_152 : decode cX0_tellStatement 152 = .ok (.ireturn, 1) := by decide +kernel
theorem dX0_warmthAt_0 : decode cX0_warmthAt 0 = .ok (.aload_n 0, 1) := by decide +kernel
theorem dX0_warmthAt_1 : decode cX0_warmthAt 1 = .ok (.iload_n 1, 1) := by decide +kernel
theorem dX0_warmthAt_2 : decode cX0_warmthAt 2 = .ok (.iconst 1, 1) := by decide +kernel
theorem dX0_warmthAt_3 : decode cX0_warmthAt 3 = .ok (.iadd, 1) := by decide +kernel
theorem dX0_warmthAt_4 : decode cX0_warmthAt 4 = .ok (.invokevirtual 23, 3) := by decide +kernel
theorem dX0_warmthAt_7 : decode cX0_warmthAt 7 = .ok (.ifCond .eq 22, 3) := by decide +kernel
theorem dX0_warmthAt_10 : decode cX0_warmthAt 10 = .ok (.bipush 10, 2) := by decide +kernel
theorem dX0_warmthAt_12 : decode cX0_warmthAt 12 = .ok (.aload_n 0, 1) := by decide +kernel
theorem dX0_warmthAt_13 : decode cX0_warmthAt 13 = .ok (.iload_n 1, 1) := by decide +kernel
theorem dX0_warmthAt_14 : decode cX0_warmthAt 14 = .ok (.invokevirtual 44, 3) := by decide +kernel
theorem dX0_warmthAt_17 : decode cX0_warmthAt 17 = .ok (.imul, 1) := by decide +kernel
theorem dX0_warmthAt_18 : decode cX0_warmthAt 18 = .ok (.aload_n 0, 1) := by decide +kernel
theorem dX0_warmthAt_19 : decode cX0_warmthAt 19 = .ok (.iload_n 1, 1) := by decide +kernel
theorem dX0_warmthAt_20 : decode cX0_warmthAt 20 = .ok (.iconst 1, 1) := by decide +kernel
theorem dX0_warmthAt_21 : decode cX0_warmthAt 21 = .ok (.iadd, 1) := by decide +kernel
theorem dX0_warmthAt_22 : decode cX0_warmthAt 22 = .ok (.invokevirtual 44, 3) := by decide +kernel
theorem dX0_warmthAt_25 : decode cX0_warmthAt 25 = .ok (.iadd, 1) := by decide +kernel
theorem dX0_warmthAt_26 : decode cX0_warmthAt 26 = .ok (.goto 8, 3) := by decide +kernel
theorem dX0_warmthAt_29 : decode cX0_warmthAt 29 = .ok (.aload_n 0, 1) := by decide +kernel
theorem dX0_warmthAt_30 : decode cX0_warmthAt 30 = .ok (.iload_n 1, 1) := by decide +kernel
theorem dX0_warmthAt_31 : decode cX0_warmthAt 31 = .ok (.invokevirtual 44, 3) := by decide +kernel
theorem dX0_warmthAt_34 : decode cX0_warmthAt 34 = .ok (.ireturn, 1) := by decide +kernel
theorem dX1_init_0 : decode cX1_init 0 = .ok (.aload_n 0, 1) := by decide +kernel
theorem dX1_init_1 : decode cX1_init 1 = .ok (.invokespecial 3, 3) := by decide +kernel
theorem dX1_init_4 : decode cX1_init 4 = .ok (.aload_n 0, 1) := by decide +kernel
theorem dX1_init_5 : decode cX1_init 5 = .ok (.iconst 5, 1) := by decide +kernel
theorem dX1_init_6 : decode cX1_init 6 = .ok (.newarray .int, 2) := by decide +kernel
theorem dX1_init_8 : decode cX1_init 8 = .ok (.putfield 9, 3) := by decide +kernel
theorem dX1_init_11 : decode cX1_init 11 = .ok (.aload_n 0, 1) := by decide +kernel
theorem dX1_init_12 : decode cX1_init 12 = .ok (.iconst 5, 1) := by decide +kernel
theorem dX1_init_13 : decode cX1_init 13 = .ok (.newarray .int, 2) := by decide +kernel
theorem dX1_init_15 : decode cX1_init 15 = .ok (.putfield 15, 3) := by decide +kernel
theorem dX1_init_18 : decode cX1_init 18 = .ok (.aload_n 0, 1) := by decide +kernel
theorem dX1_init_19 : decode cX1_init 19 = .ok (.bipush 7, 2) := by decide +kernel
theorem dX1_init_21 : decode cX1_init 21 = .ok (.newarray .int, 2) := by decide +kernel
theorem dX1_init_23 : decode cX1_init 23 = .ok (.putfield 18, 3) := by decide +kernel
theorem dX1_init_26 : decode cX1_init 26 = .ok (.aload_n 0, 1) := by decide +kernel
theorem dX1_init_27 : decode cX1_init 27 = .ok (.iconst 0, 1) := by decide +kernel
theorem dX1_init_28 : decode cX1_init 28 = .ok (.putfield 21, 3) := by decide +kernel
theorem dX1_init_31 : decode cX1_init 31 = .ok (.aload_n 0, 1) := by decide +kernel
theorem dX1_init_32 : decode cX1_init 32 = .ok (.iconst 0, 1) := by decide +kernel
theorem dX1_init_33 : decode cX1_init 33 = .ok (.putfield 25, 3) := by decide +kernel
theorem dX1_init_36 : decode cX1_init 36 = .ok (.aload_n 0, 1) := by decide +kernel
theorem dX1_init_37 : decode cX1_init 37 = .ok (.iconst 5, 1) := by decide +kernel
theorem dX1_init_38 : decode cX1_init 38 = .ok (.newarray .int, 2) := by decide +kernel
theorem dX1_init_40 : decode cX1_init 40 = .ok (.putfield 28, 3) := by decide +kernel
theorem dX1_init_43 : decode cX1_init 43 = .ok (.aload_n 0, 1) := by decide +kernel
theorem dX1_init_44 : decode cX1_init 44 = .ok (.bipush (-9), 2) := by decide +kernel
theorem dX1_init_46 : decode cX1_init 46 = .ok (.putfield 31, 3) := by decide +kernel
theorem dX1_init_49 : decode cX1_init 49 = .ok (.aload_n 0, 1) := by decide +kernel
theorem dX1_init_50 : decode cX1_init 50 = .ok (.bipush 7, 2) := by decide +kernel
theorem dX1_init_52 : decode cX1_init 52 = .ok (.newarray .int, 2) := by decide +kernel
theorem dX1_init_54 : decode cX1_init 54 = .ok (.putfield 34, 3) := by decide +kernel
theorem dX1_init_57 : decode cX1_init 57 = .ok (.return_, 1) := by decide +kernel
theorem dX1_thinkOf_0 : decode cX1_thinkOf 0 = .ok (.aload_n 0, 1) := by decide +kernel
theorem dX1_thinkOf_1 : decode cX1_thinkOf 1 = .ok (.iconst 0, 1) := by decide +kernel
theorem dX1_thinkOf_2 : decode cX1_thinkOf 2 = .ok (.putfield 21, 3) := by decide +kernel
theorem dX1_thinkOf_5 : decode cX1_thinkOf 5 = .ok (.aload_n 0, 1) := by decide +kernel
theorem dX1_thinkOf_6 : decode cX1_thinkOf 6 = .ok (.iconst 0, 1) := by decide +kernel
theorem dX1_thinkOf_7 : decode cX1_thinkOf 7 = .ok (.putfield 25, 3) := by decide +kernel
theorem dX1_thinkOf_10 : decode cX1_thinkOf 10 = .ok (.aload_n 0, 1) := by decide +kernel
theorem dX1_thinkOf_11 : decode cX1_thinkOf 11 = .ok (.bipush (-9), 2) := by decide +kernel
theorem dX1_thinkOf_13 : decode cX1_thinkOf 13 = .ok (.putfield 31, 3) := by decide +kernel
theorem dX1_thinkOf_16 : decode cX1_thinkOf 16 = .ok (.iconst 0, 1) := by decide +kernel
theorem dX1_thinkOf_17 : decode cX1_thinkOf 17 = .ok (.istore_n 3, 1) := by decide +kernel
theorem dX1_thinkOf_18 : decode cX1_thinkOf 18 = .ok (.iload_n 3, 1) := by decide +kernel
theorem dX1_thinkOf_19 : decode cX1_thinkOf 19 = .ok (.bipush 7, 2) := by decide +kernel
theorem dX1_thinkOf_21 : decode cX1_thinkOf 21 = .ok (.if_icmp .ge 35, 3) := by decide +kernel
theorem dX1_thinkOf_24 : decode cX1_thinkOf 24 = .ok (.aload_n 0, 1) := by decide +kernel
theorem dX1_thinkOf_25 : decode cX1_thinkOf 25 = .ok (.getfield 34, 3) := by decide +kernel
theorem dX1_thinkOf_28 : decode cX1_thinkOf 28 = .ok (.iload_n 3, 1) := by decide +kernel
theorem dX1_thinkOf_29 : decode cX1_thinkOf 29 = .ok (.iconst 0, 1) := by decide +kernel
theorem dX1_thinkOf_30 : decode cX1_thinkOf 30 = .ok (.iastore, 1) := by decide +kernel
theorem dX1_thinkOf_31 : decode cX1_thinkOf 31 = .ok (.aload_n 0, 1) := by decide +kernel
theorem dX1_thinkOf_32 : decode cX1_thinkOf 32 = .ok (.getfield 18, 3) := by decide +kernel
theorem dX1_thinkOf_35 : decode cX1_thinkOf 35 = .ok (.iload_n 3, 1) := by decide +kernel
theorem dX1_thinkOf_36 : decode cX1_thinkOf 36 = .ok (.aload_n 1, 1) := by decide +kernel
theorem dX1_thinkOf_37 : decode cX1_thinkOf 37 = .ok (.getfield 37, 3) := by decide +kernel
theorem dX1_thinkOf_40 : decode cX1_thinkOf 40 = .ok (.iload_n 3, 1) := by decide +kernel
theorem dX1_thinkOf_41 : decode cX1_thinkOf 41 = .ok (.aaload, 1) := by decide +kernel
theorem dX1_thinkOf_42 : decode cX1_thinkOf 42 = .ok (.aload_n 1, 1) := by decide +kernel
theorem dX1_thinkOf_43 : decode cX1_thinkOf 43 = .ok (.getfield 43, 3) := by decide +kernel
theorem dX1_thinkOf_46 : decode cX1_thinkOf 46 = .ok (.invokevirtual 46, 3) := by decide +kernel
theorem dX1_thinkOf_49 : decode cX1_thinkOf 49 = .ok (.iastore, 1) := by decide +kernel
theorem dX1_thinkOf_50 : decode cX1_thinkOf 50 = .ok (.iinc 3 1, 3) := by decide +kernel
theorem dX1_thinkOf_53 : decode cX1_thinkOf 53 = .ok (.goto (-35), 3) := by decide +kernel
theorem dX1_thinkOf_56 : decode cX1_thinkOf 56 = .ok (.iconst 0, 1) := by decide +kernel
theorem dX1_thinkOf_57 : decode cX1_thinkOf 57 = .ok (.istore_n 3, 1) := by decide +kernel
theorem dX1_thinkOf_58 : decode cX1_thinkOf 58 = .ok (.iload_n 3, 1) := by decide +kernel
theorem dX1_thinkOf_59 : decode cX1_thinkOf 59 = .ok (.aload_n 1, 1) := by decide +kernel
theorem dX1_thinkOf_60 : decode cX1_thinkOf 60 = .ok (.getfield 51, 3) := by decide +kernel
theorem dX1_thinkOf_63 : decode cX1_thinkOf 63 = .ok (.if_icmp .ge 21, 3) := by decide +kernel
theorem dX1_thinkOf_66 : decode cX1_thinkOf 66 = .ok (.aload_n 0, 1) := by decide +kernel
theorem dX1_thinkOf_67 : decode cX1_thinkOf 67 = .ok (.getfield 15, 3) := by decide +kernel
theorem dX1_thinkOf_70 : decode cX1_thinkOf 70 = .ok (.iload_n 3, 1) := by decide +kernel
theorem dX1_thinkOf_71 : decode cX1_thinkOf 71 = .ok (.aload_n 0, 1) := by decide +kernel
theorem dX1_thinkOf_72 : decode cX1_thinkOf 72 = .ok (.aload_n 1, 1) := by decide +kernel
theorem dX1_thinkOf_73 : decode cX1_thinkOf 73 = .ok (.iload_n 3, 1) := by decide +kernel
theorem dX1_thinkOf_74 : decode cX1_thinkOf 74 = .ok (.invokevirtual 54, 3) := by decide +kernel
theorem dX1_thinkOf_77 : decode cX1_thinkOf 77 = .ok (.iastore, 1) := by decide +kernel
theorem dX1_thinkOf_78 : decode cX1_thinkOf 78 = .ok (.iinc 3 1, 3) := by decide +kernel
theorem dX1_thinkOf_81 : decode cX1_thinkOf 81 = .ok (.goto (-23), 3) := by decide +kernel
theorem dX1_thinkOf_84 : decode cX1_thinkOf 84 = .ok (.aload_n 0, 1) := by decide +kernel
theorem dX1_thinkOf_85 : decode cX1_thinkOf 85 = .ok (.aload_n 1, 1) := by decide +kernel
theorem dX1_thinkOf_86 : decode cX1_thinkOf 86 = .ok (.iconst 0, 1) := by decide +kernel
theorem dX1_thinkOf_87 : decode cX1_thinkOf 87 = .ok (.iload_n 2, 1) := by decide +kernel
theorem dX1_thinkOf_88 : decode cX1_thinkOf 88 = .ok (.iconst 0, 1) := by decide +kernel
theorem dX1_thinkOf_89 : decode cX1_thinkOf 89 = .ok (.ldc 60, 2) := by decide +kernel
theorem dX1_thinkOf_91 : decode cX1_thinkOf 91 = .ok (.invokevirtual 61, 3) := by decide +kernel
theorem dX1_thinkOf_94 : decode cX1_thinkOf 94 = .ok (.return_, 1) := by decide +kernel
theorem dX1_ableIn_0 : decode cX1_ableIn 0 = .ok (.iconst 0, 1) := by decide +kernel
theorem dX1_ableIn_1 : decode cX1_ableIn 1 = .ok (.istore_n 3, 1) := by decide +kernel
theorem dX1_ableIn_2 : decode cX1_ableIn 2 = .ok (.iconst 0, 1) := by decide +kernel
theorem dX1_ableIn_3 : decode cX1_ableIn 3 = .ok (.istore 4, 2) := by decide +kernel
theorem dX1_ableIn_5 : decode cX1_ableIn 5 = .ok (.iload 4, 2) := by decide +kernel
theorem dX1_ableIn_7 : decode cX1_ableIn 7 = .ok (.aload_n 1, 1) := by decide +kernel
theorem dX1_ableIn_8 : decode cX1_ableIn 8 = .ok (.getfield 65, 3) := by decide +kernel
theorem dX1_ableIn_11 : decode cX1_ableIn 11 = .ok (.if_icmp .ge 28, 3) := by decide +kernel
theorem dX1_ableIn_14 : decode cX1_ableIn 14 = .ok (.aload_n 1, 1) := by decide +kernel
theorem dX1_ableIn_15 : decode cX1_ableIn 15 = .ok (.iload_n 2, 1) := by decide +kernel
theorem dX1_ableIn_16 : decode cX1_ableIn 16 = .ok (.iload 4, 2) := by decide +kernel
theorem dX1_ableIn_18 : decode cX1_ableIn 18 = .ok (.invokevirtual 68, 3) := by decide +kernel
theorem dX1_ableIn_21 : decode cX1_ableIn 21 = .ok (.bipush (-9), 2) := by decide +kernel
theorem dX1_ableIn_23 : decode cX1_ableIn 23 = .ok (.if_icmp .ne 10, 3) := by decide +kernel
theorem dX1_ableIn_26 : decode cX1_ableIn 26 = .ok (.iload_n 3, 1) := by decide +kernel
theorem dX1_ableIn_27 : decode cX1_ableIn 27 = .ok (.iconst 1, 1) := by decide +kernel
theorem dX1_ableIn_28 : decode cX1_ableIn 28 = .ok (.iload 4, 2) := by decide +kernel
theorem dX1_ableIn_30 : decode cX1_ableIn 30 = .ok (.ishl, 1) := by decide +kernel
theorem dX1_ableIn_31 : decode cX1_ableIn 31 = .ok (.ior, 1) := by decide +kernel
theorem dX1_ableIn_32 : decode cX1_ableIn 32 = .ok (.istore_n 3, 1) := by decide +kernel
theorem dX1_ableIn_33 : decode cX1_ableIn 33 = .ok (.iinc 4 1, 3) := by decide +kernel
theorem dX1_ableIn_36 : decode cX1_ableIn 36 = .ok (.goto (-31), 3) := by decide +kernel
theorem dX1_ableIn_39 : decode cX1_ableIn 39 = .ok (.iload_n 3, 1) := by decide +kernel
theorem dX1_ableIn_40 : decode cX1_ableIn 40 = .ok (.ireturn, 1) := by decide +kernel
theorem dX1_extend_0 : decode cX1_extend 0 = .ok (.iload_n 2, 1) := by decide +kernel
theorem dX1_extend_1 : decode cX1_extend 1 = .ok (.aload_n 1, 1) := by decide +kernel
theorem dX1_extend_2 : decode cX1_extend 2 = .ok (.getfield 51, 3) := by decide +kernel
theorem dX1_extend_5 : decode cX1_extend 5 = .ok (.if_icmp .lt 16, 3) := by decide +kernel
theorem dX1_extend_8 : decode cX1_extend 8 = .ok (.aload_n 0, 1) := by decide +kernel
theorem dX1_extend_9 : decode cX1_extend 9 = .ok (.aload_n 1, 1) := by decide +kernel
theorem dX1_extend_10 : decode cX1_extend 10 = .ok (.getfield 51, 3) := by decide +kernel
theorem dX1_extend_13 : decode cX1_extend 13 = .ok (.iload 4, 2) := by decide +kernel
theorem dX1_extend_15 : decode cX1_extend 15 = .ok (.iload 5, 2) := by decide +kernel
theorem dX1_extend_17 : decode cX1_extend 17 = .ok (.invokevirtual 72, 3) := by decide +kernel
theorem dX1_extend_20 : decode cX1_extend 20 = .ok (.return_, 1) := by decide +kernel
theorem dX1_extend_21 : decode cX1_extend 21 = .ok (.iconst 0, 1) := by decide +kernel
theorem dX1_extend_22 : decode cX1_extend 22 = .ok (.istore 6, 2) := by decide +kernel
theorem dX1_extend_24 : decode cX1_extend 24 = .ok (.iload 6, 2) := by decide +kernel
theorem dX1_extend_26 : decode cX1_extend 26 = .ok (.aload_n 1, 1) := by decide +kernel
theorem dX1_extend_27 : decode cX1_extend 27 = .ok (.getfield 65, 3) := by decide +kernel
theorem dX1_extend_30 : decode cX1_extend 30 = .ok (.if_icmp .ge 90, 3) := by decide +kernel
theorem dX1_extend_33 : decode cX1_extend 33 = .ok (.iload_n 3, 1) := by decide +kernel
theorem dX1_extend_34 : decode cX1_extend 34 = .ok (.aload_n 0, 1) := by decide +kernel
theorem dX1_extend_35 : decode cX1_extend 35 = .ok (.getfield 15, 3) := by decide +kernel
theorem dX1_extend_38 : decode cX1_extend 38 = .ok (.iload_n 2, 1) := by decide +kernel
theorem dX1_extend_39 : decode cX1_extend 39 = .ok (.iaload, 1) := by decide +kernel
theorem dX1_extend_40 : decode cX1_extend 40 = .ok (.iand, 1) := by decide +kernel
theorem dX1_extend_41 : decode cX1_extend 41 = .ok (.iconst 1, 1) := by decide +kernel
theorem dX1_extend_42 : decode cX1_extend 42 = .ok (.iload 6, 2) := by decide +kernel
theorem dX1_extend_44 : decode cX1_extend 44 = .ok (.ishl, 1) := by decide +kernel
theorem dX1_extend_45 : decode cX1_extend 45 = .ok (.iand, 1) := by decide +kernel
theorem dX1_extend_46 : decode cX1_extend 46 = .ok (.ifCond .eq 68, 3) := by decide +kernel
theorem dX1_extend_49 : decode cX1_extend 49 = .ok (.aload_n 0, 1) := by decide +kernel
theorem dX1_extend_50 : decode cX1_extend 50 = .ok (.getfield 9, 3) := by decide +kernel
theorem dX1_extend_53 : decode cX1_extend 53 = .ok (.iload_n 2, 1) := by decide +kernel
theorem dX1_extend_54 : decode cX1_extend 54 = .ok (.iload 6, 2) := by decide +kernel
theorem dX1_extend_56 : decode cX1_extend 56 = .ok (.iastore, 1) := by decide +kernel
theorem dX1_extend_57 : decode cX1_extend 57 = .ok (.iload_n 2, 1) := by decide +kernel
theorem dX1_extend_58 : decode cX1_extend 58 = .ok (.ifCond .ne 7, 3) := by decide +kernel
theorem dX1_extend_61 : decode cX1_extend 61 = .ok (.iconst 0, 1) := by decide +kernel
theorem dX1_extend_62 : decode cX1_extend 62 = .ok (.goto 17, 3) := by decide +kernel
theorem dX1_extend_65 : decode cX1_extend 65 = .ok (.aload_n 1, 1) := by decide +kernel
theorem dX1_extend_66 : decode cX1_extend 66 = .ok (.aload_n 0, 1) := by decide +kernel
theorem dX1_extend_67 : decode cX1_extend 67 = .ok (.getfield 9, 3) := by decide +kernel
theorem dX1_extend_70 : decode cX1_extend 70 = .ok (.iload_n 2, 1) := by decide +kernel
theorem dX1_extend_71 : decode cX1_extend 71 = .ok (.iconst 1, 1) := by decide +kernel
theorem dX1_extend_72 : decode cX1_extend 72 = .ok (.isub, 1) := by decide +kernel
theorem dX1_extend_73 : decode cX1_extend 73 = .ok (.iaload, 1) := by decide +kernel
theorem dX1_extend_74 : decode cX1_extend 74 = .ok (.iload 6, 2) := by decide +kernel
theorem dX1_extend_76 : decode cX1_extend 76 = .ok (.invokevirtual 76, 3) := by decide +kernel
theorem dX1_extend_79 : decode cX1_extend 79 = .ok (.istore 7, 2) := by decide +kernel
theorem dX1_extend_81 : decode cX1_extend 81 = .ok (.aload_n 0, 1) := by decide +kernel
theorem dX1_extend_82 : decode cX1_extend 82 = .ok (.aload_n 1, 1) := by decide +kernel
theorem dX1_extend_83 : decode cX1_extend 83 = .ok (.iload_n 2, 1) := by decide +kernel
theorem dX1_extend_84 : decode cX1_extend 84 = .ok (.iconst 1, 1) := by decide +kernel
theorem dX1_extend_85 : decode cX1_extend 85 = .ok (.iadd, 1) := by decide +kernel
theorem dX1_extend_86 : decode cX1_extend 86 = .ok (.iload_n 3, 1) := by decide +kernel
theorem dX1_extend_87 : decode cX1_extend 87 = .ok (.iconst 1, 1) := by decide +kernel
theorem dX1_extend_88 : decode cX1_extend 88 = .ok (.iload 6, 2) := by decide +kernel
theorem dX1_extend_90 : decode cX1_extend 90 = .ok (.ishl, 1) := by decide +kernel
theorem dX1_extend_91 : decode cX1_extend 91 = .ok (.iconst (-1), 1) := by decide +kernel
theorem dX1_extend_92 : decode cX1_extend 92 = .ok (.ixor, 1) := by decide +kernel
theorem dX1_extend_93 : decode cX1_extend 93 = .ok (.iand, 1) := by decide +kernel
theorem dX1_extend_94 : decode cX1_extend 94 = .ok (.iload 4, 2) := by decide +kernel
theorem dX1_extend_96 : decode cX1_extend 96 = .ok (.iload 7, 2) := by decide +kernel
theorem dX1_extend_98 : decode cX1_extend 98 = .ok (.iadd, 1) := by decide +kernel
theorem dX1_extend_99 : decode cX1_extend 99 = .ok (.iload 5, 2) := by decide +kernel
theorem dX1_extend_101 : decode cX1_extend 101 = .ok (.aload_n 0, 1) := by decide +kernel
theorem dX1_extend_102 : decode cX1_extend 102 = .ok (.getfield 18, 3) := by decide +kernel
theorem dX1_extend_105 : decode cX1_extend 105 = .ok (.iload 6, 2) := by decide +kernel
theorem dX1_extend_107 : decode cX1_extend 107 = .ok (.iaload, 1) := by decide +kernel
theorem dX1_extend_108 : decode cX1_extend 108 = .ok (.invokestatic 79, 3) := by decide +kernel
theorem dX1_extend_111 : decode cX1_extend 111 = .ok (.invokevirtual 61, 3) := by decide +kernel
theorem dX1_extend_114 : decode cX1_extend 114 = .ok (.iinc 6 1, 3) := by decide +kernel
theorem dX1_extend_117 : decode cX1_extend 117 = .ok (.goto (-93), 3) := by decide +kernel
theorem dX1_extend_120 : decode cX1_extend 120 = .ok (.return_, 1) := by decide +kernel
theorem dX1_weigh_0 : decode cX1_weigh 0 = .ok (.aload_n 0, 1) := by decide +kernel
theorem dX1_weigh_1 : decode cX1_weigh 1 = .ok (.getfield 31, 3) := by decide +kernel
theorem dX1_weigh_4 : decode cX1_weigh 4 = .ok (.bipush (-9), 2) := by decide +kernel
theorem dX1_weigh_6 : decode cX1_weigh 6 = .ok (.if_icmp .eq 11, 3) := by decide +kernel
theorem dX1_weigh_9 : decode cX1_weigh 9 = .ok (.iload_n 2, 1) := by decide +kernel
theorem dX1_weigh_10 : decode cX1_weigh 10 = .ok (.aload_n 0, 1) := by decide +kernel
theorem dX1_weigh_11 : decode cX1_weigh 11 = .ok (.getfield 31, 3) := by decide +kernel
theorem dX1_weigh_14 : decode cX1_weigh 14 = .ok (.if_icmp .ge 8, 3) := by decide +kernel
theorem dX1_weigh_17 : decode cX1_weigh 17 = .ok (.aload_n 0, 1) := by decide +kernel
theorem dX1_weigh_18 : decode cX1_weigh 18 = .ok (.iload_n 2, 1) := by decide +kernel
theorem dX1_weigh_19 : decode cX1_weigh 19 = .ok (.putfield 31, 3) := by decide +kernel
theorem dX1_weigh_22 : decode cX1_weigh 22 = .ok (.iload_n 2, 1) := by decide +kernel
theorem dX1_weigh_23 : decode cX1_weigh 23 = .ok (.ifCond .le 4, 3) := by decide +kernel
theorem dX1_weigh_26 : decode cX1_weigh 26 = .ok (.return_, 1) := by decide +kernel
theorem dX1_weigh_27 : decode cX1_weigh 27 = .ok (.aload_n 0, 1) := by decide +kernel
theorem dX1_weigh_28 : decode cX1_weigh 28 = .ok (.getfield 21, 3) := by decide +kernel
theorem dX1_weigh_31 : decode cX1_weigh 31 = .ok (.ifCond .eq 11, 3) := by decide +kernel
theorem dX1_weigh_34 : decode cX1_weigh 34 = .ok (.iload_n 3, 1) := by decide +kernel
theorem dX1_weigh_35 : decode cX1_weigh 35 = .ok (.aload_n 0, 1) := by decide +kernel
theorem dX1_weigh_36 : decode cX1_weigh 36 = .ok (.getfield 25, 3) := by decide +kernel
theorem dX1_weigh_39 : decode cX1_weigh 39 = .ok (.if_icmp .le 22, 3) := by decide +kernel
theorem dX1_weigh_42 : decode cX1_weigh 42 = .ok (.aload_n 0, 1) := by decide +kernel
theorem dX1_weigh_43 : decode cX1_weigh 43 = .ok (.iload_n 3, 1) := by decide +kernel
theorem dX1_weigh_44 : decode cX1_weigh 44 = .ok (.putfield 25, 3) := by decide +kernel
theorem dX1_weigh_47 : decode cX1_weigh 47 = .ok (.aload_n 0, 1) := by decide +kernel
theorem dX1_weigh_48 : decode cX1_weigh 48 = .ok (.getfield 9, 3) := by decide +kernel
theorem dX1_weigh_51 : decode cX1_weigh 51 = .ok (.iconst 0, 1) := by decide +kernel
theorem dX1_weigh_52 : decode cX1_weigh 52 = .ok (.aload_n 0, 1) := by decide +kernel
theorem dX1_weigh_53 : decode cX1_weigh 53 = .ok (.getfield 28, 3) := by decide +kernel
theorem dX1_weigh_56 : decode cX1_weigh 56 = .ok (.iconst 0, 1) := by decide +kernel
theorem dX1_weigh_57 : decode cX1_weigh 57 = .ok (.iload_n 1, 1) := by decide +kernel
theorem dX1_weigh_58 : decode cX1_weigh 58 = .ok (.invokestatic 84, 3) := by decide +kernel
theorem dX1_weigh_61 : decode cX1_weigh 61 = .ok (.aload_n 0, 1) := by decide +kernel
theorem dX1_weigh_62 : decode cX1_weigh 62 = .ok (.dup, 1) := by decide +kernel
theorem dX1_weigh_63 : decode cX1_weigh 63 = .ok (.getfield 21, 3) := by decide +kernel
theorem dX1_weigh_66 : decode cX1_weigh 66 = .ok (.iconst 1, 1) := by decide +kernel
theorem dX1_weigh_67 : decode cX1_weigh 67 = .ok (.iadd, 1) := by decide +kernel
theorem dX1_weigh_68 : decode cX1_weigh 68 = .ok (.putfield 21, 3) := by decide +kernel
theorem dX1_weigh_71 : decode cX1_weigh 71 = .ok (.iconst 0, 1) := by decide +kernel
theorem dX1_weigh_72 : decode cX1_weigh 72 = .ok (.istore 4, 2) := by decide +kernel
theorem dX1_weigh_74 : decode cX1_weigh 74 = .ok (.iload 4, 2) := by decide +kernel
theorem dX1_weigh_76 : decode cX1_weigh 76 = .ok (.iload_n 1, 1) := by decide +kernel
theorem dX1_weigh_77 : decode cX1_weigh 77 = .ok (.if_icmp .ge 28, 3) := by decide +kernel
theorem dX1_weigh_80 : decode cX1_weigh 80 = .ok (.aload_n 0, 1) := by decide +kernel
theorem dX1_weigh_81 : decode cX1_weigh 81 = .ok (.getfield 34, 3) := by decide +kernel
theorem dX1_weigh_84 : decode cX1_weigh 84 = .ok (.aload_n 0, 1) := by decide +kernel
theorem dX1_weigh_85 : decode cX1_weigh 85 = .ok (.getfield 9, 3) := by decide +kernel
theorem dX1_weigh_88 : decode cX1_weigh 88 = .ok (.iload 4, 2) := by decide +kernel
theorem dX1_weigh_90 : decode cX1_weigh 90 = .ok (.iaload, 1) := by decide +kernel
theorem dX1_weigh_91 : decode cX1_weigh 91 = .ok (.dup2, 1) := by decide +kernel
theorem dX1_weigh_92 : decode cX1_weigh 92 = .ok (.iaload, 1) := by decide +kernel
theorem dX1_weigh_93 : decode cX1_weigh 93 = .ok (.iconst 1, 1) := by decide +kernel
theorem dX1_weigh_94 : decode cX1_weigh 94 = .ok (.iload 4, 2) := by decide +kernel
theorem dX1_weigh_96 : decode cX1_weigh 96 = .ok (.ishl, 1) := by decide +kernel
theorem dX1_weigh_97 : decode cX1_weigh 97 = .ok (.ior, 1) := by decide +kernel
theorem dX1_weigh_98 : decode cX1_weigh 98 = .ok (.iastore, 1) := by decide +kernel
theorem dX1_weigh_99 : decode cX1_weigh 99 = .ok (.iinc 4 1, 3) := by decide +kernel
theorem dX1_weigh_102 : decode cX1_weigh 102 = .ok (.goto (-28), 3) := by decide +kernel
theorem dX1_weigh_105 : decode cX1_weigh 105 = .ok (.return_, 1) := by decide +kernel
theorem dX1_bestChange_0 : decode cX1_bestChange 0 = .ok (.iconst 0, 1) := by decide +kernel
theorem dX1_bestChange_1 : decode cX1_bestChange 1 = .ok (.aload_n 1, 1) := by decide +kernel
theorem dX1_bestChange_2 : decode cX1_bestChange 2 = .ok (.aload_n 1, 1) := by decide +kernel
theorem dX1_bestChange_3 : decode cX1_bestChange 3 = .ok (.getfield 90, 3) := by decide +kernel
theorem dX1_bestChange_6 : decode cX1_bestChange 6 = .ok (.invokevirtual 93, 3) := by decide +kernel
theorem dX1_bestChange_9 : decode cX1_bestChange 9 = .ok (.invokestatic 97, 3) := by decide +kernel
theorem dX1_bestChange_12 : decode cX1_bestChange 12 = .ok (.istore_n 2, 1) := by decide +kernel
theorem dX1_bestChange_13 : decode cX1_bestChange 13 = .ok (.bipush (-9), 2) := by decide +kernel
theorem dX1_bestChange_15 : decode cX1_bestChange 15 = .ok (.istore_n 3, 1) := by decide +kernel
theorem dX1_bestChange_16 : decode cX1_bestChange 16 = .ok (.aload_n 1, 1) := by decide +kernel
theorem dX1_bestChange_17 : decode cX1_bestChange 17 = .ok (.getfield 90, 3) := by decide +kernel
theorem dX1_bestChange_20 : decode cX1_bestChange 20 = .ok (.iconst 0, 1) := by decide +kernel
theorem dX1_bestChange_21 : decode cX1_bestChange 21 = .ok (.aload_n 0, 1) := by decide +kernel
theorem dX1_bestChange_22 : decode cX1_bestChange 22 = .ok (.getfield 9, 3) := by decide +kernel
theorem dX1_bestChange_25 : decode cX1_bestChange 25 = .ok (.iconst 0, 1) := by decide +kernel
theorem dX1_bestChange_26 : decode cX1_bestChange 26 = .ok (.iconst 5, 1) := by decide +kernel
theorem dX1_bestChange_27 : decode cX1_bestChange 27 = .ok (.invokestatic 84, 3) := by decide +kernel
theorem dX1_bestChange_30 : decode cX1_bestChange 30 = .ok (.iconst 0, 1) := by decide +kernel
theorem dX1_bestChange_31 : decode cX1_bestChange 31 = .ok (.istore 4, 2) := by decide +kernel
theorem dX1_bestChange_33 : decode cX1_bestChange 33 = .ok (.iload 4, 2) := by decide +kernel
theorem dX1_bestChange_35 : decode cX1_bestChange 35 = .ok (.aload_n 1, 1) := by decide +kernel
theorem dX1_bestChange_36 : decode cX1_bestChange 36 = .ok (.getfield 51, 3) := by decide +kernel
theorem dX1_bestChange_39 : decode cX1_bestChange 39 = .ok (.if_icmp .ge 104, 3) := by decide +kernel
theorem dX1_bestChange_42 : decode cX1_bestChange 42 = .ok (.iconst 0, 1) := by decide +kernel
theorem dX1_bestChange_43 : decode cX1_bestChange 43 = .ok (.istore 5, 2) := by decide +kernel
theorem dX1_bestChange_45 : decode cX1_bestChange 45 = .ok (.iload 5, 2) := by decide +kernel
theorem dX1_bestChange_47 : decode cX1_bestChange 47 = .ok (.aload_n 1, 1) := by decide +kernel
theorem dX1_bestChange_48 : decode cX1_bestChange 48 = .ok (.getfield 65, 3) := by decide +kernel
theorem dX1_bestChange_51 : decode cX1_bestChange 51 = .ok (.if_icmp .ge 72, 3) := by decide +kernel
theorem dX1_bestChange_54 : decode cX1_bestChange 54 = .ok (.aload_n 1, 1) := by decide +kernel
theorem dX1_bestChange_55 : decode cX1_bestChange 55 = .ok (.getfield 90, 3) := by decide +kernel
theorem dX1_bestChange_58 : decode cX1_bestChange 58 = .ok (.iload 4, 2) := by decide +kernel
theorem dX1_bestChange_60 : decode cX1_bestChange 60 = .ok (.iaload, 1) := by decide +kernel
theorem dX1_bestChange_61 : decode cX1_bestChange 61 = .ok (.bipush (-9), 2) := by decide +kernel
theorem dX1_bestChange_63 : decode cX1_bestChange 63 = .ok (.if_icmp .eq 60, 3) := by decide +kernel
theorem dX1_bestChange_66 : decode cX1_bestChange 66 = .ok (.aload_n 0, 1) := by decide +kernel
theorem dX1_bestChange_67 : decode cX1_bestChange 67 = .ok (.getfield 9, 3) := by decide +kernel
theorem dX1_bestChange_70 : decode cX1_bestChange 70 = .ok (.iload 4, 2) := by decide +kernel
theorem dX1_bestChange_72 : decode cX1_bestChange 72 = .ok (.iload 5, 2) := by decide +kernel
theorem dX1_bestChange_74 : decode cX1_bestChange 74 = .ok (.iastore, 1) := by decide +kernel
theorem dX1_bestChange_75 : decode cX1_bestChange 75 = .ok (.aload_n 1, 1) := by decide +kernel
theorem dX1_bestChange_76 : decode cX1_bestChange 76 = .ok (.iload 5, 2) := by decide +kernel
theorem dX1_bestChange_78 : decode cX1_bestChange 78 = .ok (.invokevirtual 100, 3) := by decide +kernel
theorem dX1_bestChange_81 : decode cX1_bestChange 81 = .ok (.ifCond .eq 14, 3) := by decide +kernel
theorem dX1_bestChange_84 : decode cX1_bestChange 84 = .ok (.aload_n 1, 1) := by decide +kernel
theorem dX1_bestChange_85 : decode cX1_bestChange 85 = .ok (.aload_n 0, 1) := by decide +kernel
theorem dX1_bestChange_86 : decode cX1_bestChange 86 = .ok (.getfield 9, 3) := by decide +kernel
theorem dX1_bestChange_89 : decode cX1_bestChange 89 = .ok (.invokevirtual 93, 3) := by decide +kernel
theorem dX1_bestChange_92 : decode cX1_bestChange 92 = .ok (.goto 5, 3) := by decide +kernel
theorem dX1_bestChange_95 : decode cX1_bestChange 95 = .ok (.bipush (-9), 2) := by decide +kernel
theorem dX1_bestChange_97 : decode cX1_bestChange 97 = .ok (.istore 6, 2) := by decide +kernel
theorem dX1_bestChange_99 : decode cX1_bestChange 99 = .ok (.iload 6, 2) := by decide +kernel
theorem dX1_bestChange_101 : decode cX1_bestChange 101 = .ok (.iload_n 2, 1) := by decide +kernel
theorem dX1_bestChange_102 : decode cX1_bestChange 102 = .ok (.if_icmp .le 15, 3) := by decide +kernel
theorem dX1_bestChange_105 : decode cX1_bestChange 105 = .ok (.iload 6, 2) := by decide +kernel
theorem dX1_bestChange_107 : decode cX1_bestChange 107 = .ok (.istore_n 2, 1) := by decide +kernel
theorem dX1_bestChange_108 : decode cX1_bestChange 108 = .ok (.bipush 10, 2) := by decide +kernel
theorem dX1_bestChange_110 : decode cX1_bestChange 110 = .ok (.iload 4, 2) := by decide +kernel
theorem dX1_bestChange_112 : decode cX1_bestChange 112 = .ok (.imul, 1) := by decide +kernel
theorem dX1_bestChange_113 : decode cX1_bestChange 113 = .ok (.iload 5, 2) := by decide +kernel
theorem dX1_bestChange_115 : decode cX1_bestChange 115 = .ok (.iadd, 1) := by decide +kernel
theorem dX1_bestChange_116 : decode cX1_bestChange 116 = .ok (.istore_n 3, 1) := by decide +kernel
theorem dX1_bestChange_117 : decode cX1_bestChange 117 = .ok (.iinc 5 1, 3) := by decide +kernel
theorem dX1_bestChange_120 : decode cX1_bestChange 120 = .ok (.goto (-75), 3) := by decide +kernel
theorem dX1_bestChange_123 : decode cX1_bestChange 123 = .ok (.aload_n 0, 1) := by decide +kernel
theorem dX1_bestChange_124 : decode cX1_bestChange 124 = .ok (.getfield 9, 3) := by decide +kernel
theorem dX1_bestChange_127 : decode cX1_bestChange 127 = .ok (.iload 4, 2) := by decide +kernel
theorem dX1_bestChange_129 : decode cX1_bestChange 129 = .ok (.aload_n 1, 1) := by decide +kernel
theorem dX1_bestChange_130 : decode cX1_bestChange 130 = .ok (.getfield 90, 3) := by decide +kernel
theorem dX1_bestChange_133 : decode cX1_bestChange 133 = .ok (.iload 4, 2) := by decide +kernel
theorem dX1_bestChange_135 : decode cX1_bestChange 135 = .ok (.iaload, 1) := by decide +kernel
theorem dX1_bestChange_136 : decode cX1_bestChange 136 = .ok (.iastore, 1) := by decide +kernel
theorem dX1_bestChange_137 : decode cX1_bestChange 137 = .ok (.iinc 4 1, 3) := by decide +kernel
theorem dX1_bestChange_140 : decode cX1_bestChange 140 = .ok (.goto (-107), 3) := by decide +kernel
theorem dX1_bestChange_143 : decode cX1_bestChange 143 = .ok (.iload_n 3, 1) := by decide +kernel
theorem dX1_bestChange_144 : decode cX1_bestChange 144 = .ok (.ireturn, 1) := by decide +kernel
theorem dX1_standingBySeed_0 : decode cX1_standingBySeed 0 = .ok (.iload_n 3, 1) := by decide +kernel
theorem dX1_standingBySeed_1 : decode cX1_standingBySeed 1 = .ok (.istore 4, 2) := by decide +kernel
theorem dX1_standingBySeed_3 : decode cX1_standingBySeed 3 = .ok (.iconst 0, 1) := by decide +kernel
theorem dX1_standingBySeed_4 : decode cX1_standingBySeed 4 = .ok (.istore 5, 2) := by decide +kernel
theorem dX1_standingBySeed_6 : decode cX1_standingBySeed 6 = .ok (.iconst 0, 1) := by decide +kernel
theorem dX1_standingBySeed_7 : decode cX1_standingBySeed 7 = .ok (.istore 6, 2) := by decide +kernel
theorem dX1_standingBySeed_9 : decode cX1_standingBySeed 9 = .ok (.iload 6, 2) := by decide +kernel
theorem dX1_standingBySeed_11 : decode cX1_standingBySeed 11 = .ok (.iload_n 2, 1) := by decide +kernel
theorem dX1_standingBySeed_12 : decode cX1_standingBySeed 12 = .ok (.if_icmp .ge 74, 3) := by decide +kernel
theorem dX1_standingBySeed_15 : decode cX1_standingBySeed 15 = .ok (.iconst 0, 1) := by decide +kernel
theorem dX1_standingBySeed_16 : decode cX1_standingBySeed 16 = .ok (.istore 7, 2) := by decide +kernel
theorem dX1_standingBySeed_18 : decode cX1_standingBySeed 18 = .ok (.iload 7, 2) := by decide +kernel
theorem dX1_standingBySeed_20 : decode cX1_standingBySeed 20 = .ok (.aload_n 1, 1) := by decide +kernel
theorem dX1_standingBySeed_21 : decode cX1_standingBySeed 21 = .ok (.getfield 51, 3) := by decide +kernel
theorem dX1_standingBySeed_24 : decode cX1_standingBySeed 24 = .ok (.if_icmp .ge 36, 3) := by decide +kernel
theorem dX1_standingBySeed_27 : decode cX1_standingBySeed 27 = .ok (.iload 4, 2) := by decide +kernel
theorem dX1_standingBySeed_29 : decode cX1_standingBySeed 29 = .ok (.ldc 104, 2) := by decide +kernel
theorem dX1_standingBySeed_31 : decode cX1_standingBySeed 31 = .ok (.imul, 1) := by decide +kernel
theorem dX1_standingBySeed_32 : decode cX1_standingBySeed 32 = .ok (.sipush 12345, 3) := by decide +kernel
theorem dX1_standingBySeed_35 : decode cX1_standingBySeed 35 = .ok (.iadd, 1) := by decide +kernel
theorem dX1_standingBySeed_36 : decode cX1_standingBySeed 36 = .ok (.istore 4, 2) := by decide +kernel
theorem dX1_standingBySeed_38 : decode cX1_standingBySeed 38 = .ok (.aload_n 0, 1) := by decide +kernel
theorem dX1_standingBySeed_39 : decode cX1_standingBySeed 39 = .ok (.getfield 9, 3) := by decide +kernel
theorem dX1_standingBySeed_42 : decode cX1_standingBySeed 42 = .ok (.iload 7, 2) := by decide +kernel
theorem dX1_standingBySeed_44 : decode cX1_standingBySeed 44 = .ok (.aload_n 1, 1) := by decide +kernel
theorem dX1_standingBySeed_45 : decode cX1_standingBySeed 45 = .ok (.getfield 65, 3) := by decide +kernel
theorem dX1_standingBySeed_48 : decode cX1_standingBySeed 48 = .ok (.iload 4, 2) := by decide +kernel
theorem dX1_standingBySeed_50 : decode cX1_standingBySeed 50 = .ok (.invokestatic 105, 3) := by decide +kernel
theorem dX1_standingBySeed_53 : decode cX1_standingBySeed 53 = .ok (.iastore, 1) := by decide +kernel
theorem dX1_standingBySeed_54 : decode cX1_standingBySeed 54 = .ok (.iinc 7 1, 3) := by decide +kernel
theorem dX1_standingBySeed_57 : decode cX1_standingBySeed 57 = .ok (.goto (-39), 3) := by decide +kernel
theorem dX1_standingBySeed_60 : decode cX1_standingBySeed 60 = .ok (.aload_n 1, 1) := by decide +kernel
theorem dX1_standingBySeed_61 : decode cX1_standingBySeed 61 = .ok (.aload_n 0, 1) := by decide +kernel
theorem dX1_standingBySeed_62 : decode cX1_standingBySeed 62 = .ok (.getfield 9, 3) := by decide +kernel
theorem dX1_standingBySeed_65 : decode cX1_standingBySeed 65 = .ok (.aload_n 1, 1) := by decide +kernel
theorem dX1_standingBySeed_66 : decode cX1_standingBySeed 66 = .ok (.getfield 51, 3) := by decide +kernel
theorem dX1_standingBySeed_69 : decode cX1_standingBySeed 69 = .ok (.invokevirtual 108, 3) := by decide +kernel
theorem dX1_standingBySeed_72 : decode cX1_standingBySeed 72 = .ok (.bipush (-9), 2) := by decide +kernel
theorem dX1_standingBySeed_74 : decode cX1_standingBySeed 74 = .ok (.if_icmp .ne 6, 3) := by decide +kernel
theorem dX1_standingBySeed_77 : decode cX1_standingBySeed 77 = .ok (.iinc 5 1, 3) := by decide +kernel
theorem dX1_standingBySeed_80 : decode cX1_standingBySeed 80 = .ok (.iinc 6 1, 3) := by decide +kernel
theorem dX1_standingBySeed_83 : decode cX1_standingBySeed 83 = .ok (.goto (-74), 3) := by decide +kernel
theorem dX1_standingBySeed_86 : decode cX1_standingBySeed 86 = .ok (.iload 5, 2) := by decide +kernel
theorem dX1_standingBySeed_88 : decode cX1_standingBySeed 88 = .ok (.ireturn, 1) := by decide +kernel
theorem dX1_drawBelow_0 : decode cX1_drawBelow 0 = .ok (.iload_n 0, 1) := by decide +kernel
theorem dX1_drawBelow_1 : decode cX1_drawBelow 1 = .ok (.iconst 1, 1) := by decide +kernel
theorem dX1_drawBelow_2 : decode cX1_drawBelow 2 = .ok (.if_icmp .ge 7, 3) := by decide +kernel
theorem dX1_drawBelow_5 : decode cX1_drawBelow 5 = .ok (.iconst 0, 1) := by decide +kernel
theorem dX1_drawBelow_6 : decode cX1_drawBelow 6 = .ok (.goto 12, 3) := by decide +kernel
theorem dX1_drawBelow_9 : decode cX1_drawBelow 9 = .ok (.iload_n 1, 1) := by decide +kernel
theorem dX1_drawBelow_10 : decode cX1_drawBelow 10 = .ok (.ldc 60, 2) := by decide +kernel
theorem dX1_drawBelow_12 : decode cX1_drawBelow 12 = .ok (.iand, 1) := by decide +kernel
theorem dX1_drawBelow_13 : decode cX1_drawBelow 13 = .ok (.ldc 112, 2) := by decide +kernel
theorem dX1_drawBelow_15 : decode cX1_drawBelow 15 = .ok (.idiv, 1) := by decide +kernel
theorem dX1_drawBelow_16 : decode cX1_drawBelow 16 = .ok (.iload_n 0, 1) := by decide +kernel
theorem dX1_drawBelow_17 : decode cX1_drawBelow 17 = .ok (.irem, 1) := by decide +kernel
theorem dX1_drawBelow_18 : decode cX1_drawBelow 18 = .ok (.ireturn, 1) := by decide +kernel
theorem dX2_init_0 : decode cX2_init 0 = .ok (.aload_n 0, 1) := by decide +kernel
theorem dX2_init_1 : decode cX2_init 1 = .ok (.invokespecial 3, 3) := by decide +kernel
theorem dX2_init_4 : decode cX2_init 4 = .ok (.return_, 1) := by decide +kernel
theorem dX2_copyFrom_0 : decode cX2_copyFrom 0 = .ok (.aload_n 0, 1) := by decide +kernel
theorem dX2_copyFrom_1 : decode cX2_copyFrom 1 = .ok (.aload_n 1, 1) := by decide +kernel
theorem dX2_copyFrom_2 : decode cX2_copyFrom 2 = .ok (.getfield 9, 3) := by decide +kernel
theorem dX2_copyFrom_5 : decode cX2_copyFrom 5 = .ok (.putfield 9, 3) := by decide +kernel
theorem dX2_copyFrom_8 : decode cX2_copyFrom 8 = .ok (.aload_n 0, 1) := by decide +kernel
theorem dX2_copyFrom_9 : decode cX2_copyFrom 9 = .ok (.aload_n 1, 1) := by decide +kernel
theorem dX2_copyFrom_10 : decode cX2_copyFrom 10 = .ok (.getfield 15, 3) := by decide +kernel
theorem dX2_copyFrom_13 : decode cX2_copyFrom 13 = .ok (.putfield 15, 3) := by decide +kernel
theorem dX2_copyFrom_16 : decode cX2_copyFrom 16 = .ok (.aload_n 0, 1) := by decide +kernel
theorem dX2_copyFrom_17 : decode cX2_copyFrom 17 = .ok (.aload_n 1, 1) := by decide +kernel
theorem dX2_copyFrom_18 : decode cX2_copyFrom 18 = .ok (.getfield 18, 3) := by decide +kernel
theorem dX2_copyFrom_21 : decode cX2_copyFrom 21 = .ok (.putfield 18, 3) := by decide +kernel
theorem dX2_copyFrom_24 : decode cX2_copyFrom 24 = .ok (.aload_n 0, 1) := by decide +kernel
theorem dX2_copyFrom_25 : decode cX2_copyFrom 25 = .ok (.aload_n 1, 1) := by decide +kernel
theorem dX2_copyFrom_26 : decode cX2_copyFrom 26 = .ok (.getfield 21, 3) := by decide +kernel
theorem dX2_copyFrom_29 : decode cX2_copyFrom 29 = .ok (.putfield 21, 3) := by decide +kernel
theorem dX2_copyFrom_32 : decode cX2_copyFrom 32 = .ok (.aload_n 0, 1) := by decide +kernel
theorem dX2_copyFrom_33 : decode cX2_copyFrom 33 = .ok (.aload_n 1, 1) := by decide +kernel
theorem dX2_copyFrom_34 : decode cX2_copyFrom 34 = .ok (.getfield 24, 3) := by decide +kernel
theorem dX2_copyFrom_37 : decode cX2_copyFrom 37 = .ok (.putfield 24, 3) := by decide +kernel
theorem dX2_copyFrom_40 : decode cX2_copyFrom 40 = .ok (.aload_n 0, 1) := by decide +kernel
theorem dX2_copyFrom_41 : decode cX2_copyFrom 41 = .ok (.aload_n 1, 1) := by decide +kernel
theorem dX2_copyFrom_42 : decode cX2_copyFrom 42 = .ok (.getfield 27, 3) := by decide +kernel
theorem dX2_copyFrom_45 : decode cX2_copyFrom 45 = .ok (.putfield 27, 3) := by decide +kernel
theorem dX2_copyFrom_48 : decode cX2_copyFrom 48 = .ok (.return_, 1) := by decide +kernel
theorem dX2_reaches_0 : decode cX2_reaches 0 = .ok (.aload_n 0, 1) := by decide +kernel
theorem dX2_reaches_1 : decode cX2_reaches 1 = .ok (.getfield 9, 3) := by decide +kernel
theorem dX2_reaches_4 : decode cX2_reaches 4 = .ok (.tableswitch 53 1 5 #[36, 43, 50, 36, 36], 36) := by decide +kernel
theorem dX2_reaches_40 : decode cX2_reaches 40 = .ok (.aload_n 0, 1) := by decide +kernel
theorem dX2_reaches_41 : decode cX2_reaches 41 = .ok (.getfield 18, 3) := by decide +kernel
theorem dX2_reaches_44 : decode cX2_reaches 44 = .ok (.iconst 2, 1) := by decide +kernel
theorem dX2_reaches_45 : decode cX2_reaches 45 = .ok (.iadd, 1) := by decide +kernel
theorem dX2_reaches_46 : decode cX2_reaches 46 = .ok (.ireturn, 1) := by decide +kernel
theorem dX2_reaches_47 : decode cX2_reaches 47 = .ok (.aload_n 0, 1) := by decide +kernel
theorem dX2_reaches_48 : decode cX2_reaches 48 = .ok (.getfield 18, 3) := by decide +kernel
theorem dX2_reaches_51 : decode cX2_reaches 51 = .ok (.iconst 2, 1) := by decide +kernel
theorem dX2_reaches_52 : decode cX2_reaches 52 = .ok (.idiv, 1) := by decide +kernel
theorem dX2_reaches_53 : decode cX2_reaches 53 = .ok (.ireturn, 1) := by decide +kernel
theorem dX2_reaches_54 : decode cX2_reaches 54 = .ok (.bipush 99, 2) := by decide +kernel
theorem dX2_reaches_56 : decode cX2_reaches 56 = .ok (.ireturn, 1) := by decide +kernel
theorem dX2_reaches_57 : decode cX2_reaches 57 = .ok (.aload_n 0, 1) := by decide +kernel
theorem dX2_reaches_58 : decode cX2_reaches 58 = .ok (.getfield 18, 3) := by decide +kernel
theorem dX2_reaches_61 : decode cX2_reaches 61 = .ok (.ireturn, 1) := by decide +kernel
theorem dX2_holds_0 : decode cX2_holds 0 = .ok (.aload_n 0, 1) := by decide +kernel
theorem dX2_holds_1 : decode cX2_holds 1 = .ok (.getfield 9, 3) := by decide +kernel
theorem dX2_holds_4 : decode cX2_holds 4 = .ok (.tableswitch 60 2 5 #[32, 43, 50, 50], 32) := by decide +kernel
theorem dX2_holds_36 : decode cX2_holds 36 = .ok (.iconst 0, 1) := by decide +kernel
theorem dX2_holds_37 : decode cX2_holds 37 = .ok (.aload_n 0, 1) := by decide +kernel
theorem dX2_holds_38 : decode cX2_holds 38 = .ok (.getfield 21, 3) := by decide +kernel
theorem dX2_holds_41 : decode cX2_holds 41 = .ok (.iconst 2, 1) := by decide +kernel
theorem dX2_holds_42 : decode cX2_holds 42 = .ok (.isub, 1) := by decide +kernel
theorem dX2_holds_43 : decode cX2_holds 43 = .ok (.invokestatic 31, 3) := by decide +kernel
theorem dX2_holds_46 : decode cX2_holds 46 = .ok (.ireturn, 1) := by decide +kernel
theorem dX2_holds_47 : decode cX2_holds 47 = .ok (.aload_n 0, 1) := by decide +kernel
theorem dX2_holds_48 : decode cX2_holds 48 = .ok (.getfield 21, 3) := by decide +kernel
theorem dX2_holds_51 : decode cX2_holds 51 = .ok (.iconst 2, 1) := by decide +kernel
theorem dX2_holds_52 : decode cX2_holds 52 = .ok (.idiv, 1) := by decide +kernel
theorem dX2_holds_53 : decode cX2_holds 53 = .ok (.ireturn, 1) := by decide +kernel
theorem dX2_holds_54 : decode cX2_holds 54 = .ok (.aload_n 0, 1) := by decide +kernel
theorem dX2_holds_55 : decode cX2_holds 55 = .ok (.getfield 21, 3) := by decide +kernel
theorem dX2_holds_58 : decode cX2_holds 58 = .ok (.aload_n 0, 1) := by decide +kernel
theorem dX2_holds_59 : decode cX2_holds 59 = .ok (.getfield 15, 3) := by decide +kernel
theorem dX2_holds_62 : decode cX2_holds 62 = .ok (.iadd, 1) := by decide +kernel
theorem dX2_holds_63 : decode cX2_holds 63 = .ok (.ireturn, 1) := by decide +kernel
theorem dX2_holds_64 : decode cX2_holds 64 = .ok (.aload_n 0, 1) := by decide +kernel
theorem dX2_holds_65 : decode cX2_holds 65 = .ok (.getfield 21, 3) := by decide +kernel
theorem dX2_holds_68 : decode cX2_holds 68 = .ok (.ireturn, 1) := by decide +kernel
theorem dX2_cools_0 : decode cX2_cools 0 = .ok (.aload_n 0, 1) := by decide +kernel
theorem dX2_cools_1 : decode cX2_cools 1 = .ok (.getfield 9, 3) := by decide +kernel
theorem dX2_cools_4 : decode cX2_cools 4 = .ok (.tableswitch 46 2 5 #[32, 46, 38, 44], 32) := by decide +kernel
theorem dX2_cools_36 : decode cX2_cools 36 = .ok (.iconst 2, 1) := by decide +kernel
theorem dX2_cools_37 : decode cX2_cools 37 = .ok (.iload_n 1, 1) := by decide +kernel
theorem dX2_cools_38 : decode cX2_cools 38 = .ok (.iconst 1, 1) := by decide +kernel
theorem dX2_cools_39 : decode cX2_cools 39 = .ok (.iadd, 1) := by decide +kernel
theorem dX2_cools_40 : decode cX2_cools 40 = .ok (.imul, 1) := by decide +kernel
theorem dX2_cools_41 : decode cX2_cools 41 = .ok (.ireturn, 1) := by decide +kernel
theorem dX2_cools_42 : decode cX2_cools 42 = .ok (.iconst 1, 1) := by decide +kernel
theorem dX2_cools_43 : decode cX2_cools 43 = .ok (.iload_n 1, 1) := by decide +kernel
theorem dX2_cools_44 : decode cX2_cools 44 = .ok (.invokestatic 31, 3) := by decide +kernel
theorem dX2_cools_47 : decode cX2_cools 47 = .ok (.ireturn, 1) := by decide +kernel
theorem dX2_cools_48 : decode cX2_cools 48 = .ok (.iconst 1, 1) := by decide +kernel
theorem dX2_cools_49 : decode cX2_cools 49 = .ok (.ireturn, 1) := by decide +kernel
theorem dX2_cools_50 : decode cX2_cools 50 = .ok (.iload_n 1, 1) := by decide +kernel
theorem dX2_cools_51 : decode cX2_cools 51 = .ok (.iconst 1, 1) := by decide +kernel
theorem dX2_cools_52 : decode cX2_cools 52 = .ok (.iadd, 1) := by decide +kernel
theorem dX2_cools_53 : decode cX2_cools 53 = .ok (.ireturn, 1) := by decide +kernel
theorem dX2_minutes_0 : decode cX2_minutes 0 = .ok (.aload_n 0, 1) := by decide +kernel
theorem dX2_minutes_1 : decode cX2_minutes 1 = .ok (.iload_n 1, 1) := by decide +kernel
theorem dX2_minutes_2 : decode cX2_minutes 2 = .ok (.invokevirtual 37, 3) := by decide +kernel
theorem dX2_minutes_5 : decode cX2_minutes 5 = .ok (.istore_n 2, 1) := by decide +kernel
theorem dX2_minutes_6 : decode cX2_minutes 6 = .ok (.iload_n 2, 1) := by decide +kernel
theorem dX2_minutes_7 : decode cX2_minutes 7 = .ok (.iconst 1, 1) := by decide +kernel
theorem dX2_minutes_8 : decode cX2_minutes 8 = .ok (.if_icmp .ge 7, 3) := by decide +kernel
theorem dX2_minutes_11 : decode cX2_minutes 11 = .ok (.iconst 0, 1) := by decide +kernel
theorem dX2_minutes_12 : decode cX2_minutes 12 = .ok (.goto 9, 3) := by decide +kernel
theorem dX2_minutes_15 : decode cX2_minutes 15 = .ok (.aload_n 0, 1) := by decide +kernel
theorem dX2_minutes_16 : decode cX2_minutes 16 = .ok (.getfield 24, 3) := by decide +kernel
theorem dX2_minutes_19 : decode cX2_minutes 19 = .ok (.iload_n 2, 1) := by decide +kernel
theorem dX2_minutes_20 : decode cX2_minutes 20 = .ok (.idiv, 1) := by decide +kernel
theorem dX2_minutes_21 : decode cX2_minutes 21 = .ok (.ireturn, 1) := by decide +kernel
theorem dX3_init_0 : decode cX3_init 0 = .ok (.aload_n 0, 1) := by decide +kernel
theorem dX3_init_1 : decode cX3_init 1 = .ok (.invokespecial 3, 3) := by decide +kernel
theorem dX3_init_4 : decode cX3_init 4 = .ok (.aload_n 0, 1) := by decide +kernel
theorem dX3_init_5 : decode cX3_init 5 = .ok (.iconst 3, 1) := by decide +kernel
theorem dX3_init_6 : decode cX3_init 6 = .ok (.putfield 9, 3) := by decide +kernel
theorem dX3_init_9 : decode cX3_init 9 = .ok (.aload_n 0, 1) := by decide +kernel
theorem dX3_init_10 : decode cX3_init 10 = .ok (.iconst 1, 1) := by decide +kernel
theorem dX3_init_11 : decode cX3_init 11 = .ok (.putfield 15, 3) := by decide +kernel
theorem dX3_init_14 : decode cX3_init 14 = .ok (.aload_n 0, 1) := by decide +kernel
theorem dX3_init_15 : decode cX3_init 15 = .ok (.iconst 0, 1) := by decide +kernel
theorem dX3_init_16 : decode cX3_init 16 = .ok (.putfield 18, 3) := by decide +kernel
theorem dX3_init_19 : decode cX3_init 19 = .ok (.aload_n 0, 1) := by decide +kernel
theorem dX3_init_20 : decode cX3_init 20 = .ok (.iconst 0, 1) := by decide +kernel
theorem dX3_init_21 : decode cX3_init 21 = .ok (.putfield 21, 3) := by decide +kernel
theorem dX3_init_24 : decode cX3_init 24 = .ok (.aload_n 0, 1) := by decide +kernel
theorem dX3_init_25 : decode cX3_init 25 = .ok (.iconst 5, 1) := by decide +kernel
theorem dX3_init_26 : decode cX3_init 26 = .ok (.newarray .int, 2) := by decide +kernel
theorem dX3_init_28 : decode cX3_init 28 = .ok (.putfield 24, 3) := by decide +kernel
theorem dX3_init_31 : decode cX3_init 31 = .ok (.aload_n 0, 1) := by decide +kernel
theorem dX3_init_32 : decode cX3_init 32 = .ok (.iconst 5, 1) := by decide +kernel
theorem dX3_init_33 : decode cX3_init 33 = .ok (.newarray .int, 2) := by decide +kernel
theorem dX3_init_35 : decode cX3_init 35 = .ok (.putfield 28, 3) := by decide +kernel
theorem dX3_init_38 : decode cX3_init 38 = .ok (.aload_n 0, 1) := by decide +kernel
theorem dX3_init_39 : decode cX3_init 39 = .ok (.iconst 5, 1) := by decide +kernel
theorem dX3_init_40 : decode cX3_init 40 = .ok (.newarray .int, 2) := by decide +kernel
theorem dX3_init_42 : decode cX3_init 42 = .ok (.putfield 31, 3) := by decide +kernel
theorem dX3_init_45 : decode cX3_init 45 = .ok (.aload_n 0, 1) := by decide +kernel
theorem dX3_init_46 : decode cX3_init 46 = .ok (.bipush 7, 2) := by decide +kernel
theorem dX3_init_48 : decode cX3_init 48 = .ok (.anewarray 34, 3) := by decide +kernel
theorem dX3_init_51 : decode cX3_init 51 = .ok (.putfield 36, 3) := by decide +kernel
theorem dX3_init_54 : decode cX3_init 54 = .ok (.aload_n 0, 1) := by decide +kernel
theorem dX3_init_55 : decode cX3_init 55 = .ok (.bipush 7, 2) := by decide +kernel
theorem dX3_init_57 : decode cX3_init 57 = .ok (.newarray .int, 2) := by decide +kernel
theorem dX3_init_59 : decode cX3_init 59 = .ok (.putfield 40, 3) := by decide +kernel
theorem dX3_init_62 : decode cX3_init 62 = .ok (.aload_n 0, 1) := by decide +kernel
theorem dX3_init_63 : decode cX3_init 63 = .ok (.bipush 49, 2) := by decide +kernel
theorem dX3_init_65 : decode cX3_init 65 = .ok (.newarray .int, 2) := by decide +kernel
theorem dX3_init_67 : decode cX3_init 67 = .ok (.putfield 43, 3) := by decide +kernel
theorem dX3_init_70 : decode cX3_init 70 = .ok (.iconst 0, 1) := by decide +kernel
theorem dX3_init_71 : decode cX3_init 71 = .ok (.istore_n 1, 1) := by decide +kernel
theorem dX3_init_72 : decode cX3_init 72 = .ok (.iload_n 1, 1) := by decide +kernel
theorem dX3_init_73 : decode cX3_init 73 = .ok (.bipush 7, 2) := by decide +kernel
theorem dX3_init_75 : decode cX3_init 75 = .ok (.if_icmp .ge 22, 3) := by decide +kernel
theorem dX3_init_78 : decode cX3_init 78 = .ok (.aload_n 0, 1) := by decide +kernel
theorem dX3_init_79 : decode cX3_init 79 = .ok (.getfield 36, 3) := by decide +kernel
theorem dX3_init_82 : decode cX3_init 82 = .ok (.iload_n 1, 1) := by decide +kernel
theorem dX3_init_83 : decode cX3_init 83 = .ok (.new 34, 3) := by decide +kernel
theorem dX3_init_86 : decode cX3_init 86 = .ok (.dup, 1) := by decide +kernel
theorem dX3_init_87 : decode cX3_init 87 = .ok (.invokespecial 46, 3) := by decide +kernel
theorem dX3_init_90 : decode cX3_init 90 = .ok (.aastore, 1) := by decide +kernel
theorem dX3_init_91 : decode cX3_init 91 = .ok (.iinc 1 1, 3) := by decide +kernel
theorem dX3_init_94 : decode cX3_init 94 = .ok (.goto (-22), 3) := by decide +kernel
theorem dX3_init_97 : decode cX3_init 97 = .ok (.iconst 0, 1) := by decide +kernel
theorem dX3_init_98 : decode cX3_init 98 = .ok (.istore_n 1, 1) := by decide +kernel
theorem dX3_init_99 : decode cX3_init 99 = .ok (.iload_n 1, 1) := by decide +kernel
theorem dX3_init_100 : decode cX3_init 100 = .ok (.iconst 5, 1) := by decide +kernel
theorem dX3_init_101 : decode cX3_init 101 = .ok (.if_icmp .ge 31, 3) := by decide +kernel
theorem dX3_init_104 : decode cX3_init 104 = .ok (.aload_n 0, 1) := by decide +kernel
theorem dX3_init_105 : decode cX3_init 105 = .ok (.getfield 24, 3) := by decide +kernel
theorem dX3_init_108 : decode cX3_init 108 = .ok (.iload_n 1, 1) := by decide +kernel
theorem dX3_init_109 : decode cX3_init 109 = .ok (.iconst 2, 1) := by decide +kernel
theorem dX3_init_110 : decode cX3_init 110 = .ok (.iastore, 1) := by decide +kernel
theorem dX3_init_111 : decode cX3_init 111 = .ok (.aload_n 0, 1) := by decide +kernel
theorem dX3_init_112 : decode cX3_init 112 = .ok (.getfield 28, 3) := by decide +kernel
theorem dX3_init_115 : decode cX3_init 115 = .ok (.iload_n 1, 1) := by decide +kernel
theorem dX3_init_116 : decode cX3_init 116 = .ok (.iconst 2, 1) := by decide +kernel
theorem dX3_init_117 : decode cX3_init 117 = .ok (.iastore, 1) := by decide +kernel
theorem dX3_init_118 : decode cX3_init 118 = .ok (.aload_n 0, 1) := by decide +kernel
theorem dX3_init_119 : decode cX3_init 119 = .ok (.getfield 31, 3) := by decide +kernel
theorem dX3_init_122 : decode cX3_init 122 = .ok (.iload_n 1, 1) := by decide +kernel
theorem dX3_init_123 : decode cX3_init 123 = .ok (.bipush (-9), 2) := by decide +kernel
theorem dX3_init_125 : decode cX3_init 125 = .ok (.iastore, 1) := by decide +kernel
theorem dX3_init_126 : decode cX3_init 126 = .ok (.iinc 1 1, 3) := by decide +kernel
theorem dX3_init_129 : decode cX3_init 129 = .ok (.goto (-30), 3) := by decide +kernel
theorem dX3_init_132 : decode cX3_init 132 = .ok (.return_, 1) := by decide +kernel
theorem dX3_copyFrom_0 : decode cX3_copyFrom 0 = .ok (.aload_n 0, 1) := by decide +kernel
theorem dX3_copyFrom_1 : decode cX3_copyFrom 1 = .ok (.aload_n 1, 1) := by decide +kernel
theorem dX3_copyFrom_2 : decode cX3_copyFrom 2 = .ok (.getfield 9, 3) := by decide +kernel
theorem dX3_copyFrom_5 : decode cX3_copyFrom 5 = .ok (.putfield 9, 3) := by decide +kernel
theorem dX3_copyFrom_8 : decode cX3_copyFrom 8 = .ok (.aload_n 0, 1) := by decide +kernel
theorem dX3_copyFrom_9 : decode cX3_copyFrom 9 = .ok (.aload_n 1, 1) := by decide +kernel
theorem dX3_copyFrom_10 : decode cX3_copyFrom 10 = .ok (.getfield 15, 3) := by decide +kernel
theorem dX3_copyFrom_13 : decode cX3_copyFrom 13 = .ok (.putfield 15, 3) := by decide +kernel
theorem dX3_copyFrom_16 : decode cX3_copyFrom 16 = .ok (.aload_n 0, 1) := by decide +kernel
theorem dX3_copyFrom_17 : decode cX3_copyFrom 17 = .ok (.aload_n 1, 1) := by decide +kernel
theorem dX3_copyFrom_18 : decode cX3_copyFrom 18 = .ok (.getfield 18, 3) := by decide +kernel
theorem dX3_copyFrom_21 : decode cX3_copyFrom 21 = .ok (.putfield 18, 3) := by decide +kernel
theorem dX3_copyFrom_24 : decode cX3_copyFrom 24 = .ok (.aload_n 0, 1) := by decide +kernel
theorem dX3_copyFrom_25 : decode cX3_copyFrom 25 = .ok (.aload_n 1, 1) := by decide +kernel
theorem dX3_copyFrom_26 : decode cX3_copyFrom 26 = .ok (.getfield 21, 3) := by decide +kernel
theorem dX3_copyFrom_29 : decode cX3_copyFrom 29 = .ok (.putfield 21, 3) := by decide +kernel
theorem dX3_copyFrom_32 : decode cX3_copyFrom 32 = .ok (.aload_n 1, 1) := by decide +kernel
theorem dX3_copyFrom_33 : decode cX3_copyFrom 33 = .ok (.getfield 24, 3) := by decide +kernel
theorem dX3_copyFrom_36 : decode cX3_copyFrom 36 = .ok (.iconst 0, 1) := by decide +kernel
theorem dX3_copyFrom_37 : decode cX3_copyFrom 37 = .ok (.aload_n 0, 1) := by decide +kernel
theorem dX3_copyFrom_38 : decode cX3_copyFrom 38 = .ok (.getfield 24, 3) := by decide +kernel
theorem dX3_copyFrom_41 : decode cX3_copyFrom 41 = .ok (.iconst 0, 1) := by decide +kernel
theorem dX3_copyFrom_42 : decode cX3_copyFrom 42 = .ok (.iconst 5, 1) := by decide +kernel
theorem dX3_copyFrom_43 : decode cX3_copyFrom 43 = .ok (.invokestatic 47, 3) := by decide +kernel
theorem dX3_copyFrom_46 : decode cX3_copyFrom 46 = .ok (.aload_n 1, 1) := by decide +kernel
theorem dX3_copyFrom_47 : decode cX3_copyFrom 47 = .ok (.getfield 28, 3) := by decide +kernel
theorem dX3_copyFrom_50 : decode cX3_copyFrom 50 = .ok (.iconst 0, 1) := by decide +kernel
theorem dX3_copyFrom_51 : decode cX3_copyFrom 51 = .ok (.aload_n 0, 1) := by decide +kernel
theorem dX3_copyFrom_52 : decode cX3_copyFrom 52 = .ok (.getfield 28, 3) := by decide +kernel
theorem dX3_copyFrom_55 : decode cX3_copyFrom 55 = .ok (.iconst 0, 1) := by decide +kernel
theorem dX3_copyFrom_56 : decode cX3_copyFrom 56 = .ok (.iconst 5, 1) := by decide +kernel
theorem dX3_copyFrom_57 : decode cX3_copyFrom 57 = .ok (.invokestatic 47, 3) := by decide +kernel
theorem dX3_copyFrom_60 : decode cX3_copyFrom 60 = .ok (.aload_n 1, 1) := by decide +kernel
theorem dX3_copyFrom_61 : decode cX3_copyFrom 61 = .ok (.getfield 31, 3) := by decide +kernel
theorem dX3_copyFrom_64 : decode cX3_copyFrom 64 = .ok (.iconst 0, 1) := by decide +kernel
theorem dX3_copyFrom_65 : decode cX3_copyFrom 65 = .ok (.aload_n 0, 1) := by decide +kernel
theorem dX3_copyFrom_66 : decode cX3_copyFrom 66 = .ok (.getfield 31, 3) := by decide +kernel
theorem dX3_copyFrom_69 : decode cX3_copyFrom 69 = .ok (.iconst 0, 1) := by decide +kernel
theorem dX3_copyFrom_70 : decode cX3_copyFrom 70 = .ok (.iconst 5, 1) := by decide +kernel
theorem dX3_copyFrom_71 : decode cX3_copyFrom 71 = .ok (.invokestatic 47, 3) := by decide +kernel
theorem dX3_copyFrom_74 : decode cX3_copyFrom 74 = .ok (.aload_n 1, 1) := by decide +kernel
theorem dX3_copyFrom_75 : decode cX3_copyFrom 75 = .ok (.getfield 40, 3) := by decide +kernel
theorem dX3_copyFrom_78 : decode cX3_copyFrom 78 = .ok (.iconst 0, 1) := by decide +kernel
theorem dX3_copyFrom_79 : decode cX3_copyFrom 79 = .ok (.aload_n 0, 1) := by decide +kernel
theorem dX3_copyFrom_80 : decode cX3_copyFrom 80 = .ok (.getfield 40, 3) := by decide +kernel
theorem dX3_copyFrom_83 : decode cX3_copyFrom 83 = .ok (.iconst 0, 1) := by decide +kernel
theorem dX3_copyFrom_84 : decode cX3_copyFrom 84 = .ok (.bipush 7, 2) := by decide +kernel
theorem dX3_copyFrom_86 : decode cX3_copyFrom 86 = .ok (.invokestatic 47, 3) := by decide +kernel
theorem dX3_copyFrom_89 : decode cX3_copyFrom 89 = .ok (.aload_n 1, 1) := by decide +kernel
theorem dX3_copyFrom_90 : decode cX3_copyFrom 90 = .ok (.getfield 43, 3) := by decide +kernel
theorem dX3_copyFrom_93 : decode cX3_copyFrom 93 = .ok (.iconst 0, 1) := by decide +kernel
theorem dX3_copyFrom_94 : decode cX3_copyFrom 94 = .ok (.aload_n 0, 1) := by decide +kernel
theorem dX3_copyFrom_95 : decode cX3_copyFrom 95 = .ok (.getfield 43, 3) := by decide +kernel
theorem dX3_copyFrom_98 : decode cX3_copyFrom 98 = .ok (.iconst 0, 1) := by decide +kernel
theorem dX3_copyFrom_99 : decode cX3_copyFrom 99 = .ok (.bipush 49, 2) := by decide +kernel
theorem dX3_copyFrom_101 : decode cX3_copyFrom 101 = .ok (.invokestatic 47, 3) := by decide +kernel
theorem dX3_copyFrom_104 : decode cX3_copyFrom 104 = .ok (.iconst 0, 1) := by decide +kernel
theorem dX3_copyFrom_105 : decode cX3_copyFrom 105 = .ok (.istore_n 2, 1) := by decide +kernel
theorem dX3_copyFrom_106 : decode cX3_copyFrom 106 = .ok (.iload_n 2, 1) := by decide +kernel
theorem dX3_copyFrom_107 : decode cX3_copyFrom 107 = .ok (.bipush 7, 2) := by decide +kernel
theorem dX3_copyFrom_109 : decode cX3_copyFrom 109 = .ok (.if_icmp .ge 24, 3) := by decide +kernel
theorem dX3_copyFrom_112 : decode cX3_copyFrom 112 = .ok (.aload_n 0, 1) := by decide +kernel
theorem dX3_copyFrom_113 : decode cX3_copyFrom 113 = .ok (.getfield 36, 3) := by decide +kernel
theorem dX3_copyFrom_116 : decode cX3_copyFrom 116 = .ok (.iload_n 2, 1) := by decide +kernel
theorem dX3_copyFrom_117 : decode cX3_copyFrom 117 = .ok (.aaload, 1) := by decide +kernel
theorem dX3_copyFrom_118 : decode cX3_copyFrom 118 = .ok (.aload_n 1, 1) := by decide +kernel
theorem dX3_copyFrom_119 : decode cX3_copyFrom 119 = .ok (.getfield 36, 3) := by decide +kernel
theorem dX3_copyFrom_122 : decode cX3_copyFrom 122 = .ok (.iload_n 2, 1) := by decide +kernel
theorem dX3_copyFrom_123 : decode cX3_copyFrom 123 = .ok (.aaload, 1) := by decide +kernel
theorem dX3_copyFrom_124 : decode cX3_copyFrom 124 = .ok (.invokevirtual 53, 3) := by decide +kernel
theorem dX3_copyFrom_127 : decode cX3_copyFrom 127 = .ok (.iinc 2 1, 3) := by decide +kernel
theorem dX3_copyFrom_130 : decode cX3_copyFrom 130 = .ok (.goto (-24), 3) := by decide +kernel
theorem dX3_copyFrom_133 : decode cX3_copyFrom 133 = .ok (.return_, 1) := by decide +kernel
theorem dX3_isYard_0 : decode cX3_isYard 0 = .ok (.iload_n 1, 1) := by decide +kernel
theorem dX3_isYard_1 : decode cX3_isYard 1 = .ok (.ifCond .lt 15, 3) := by decide +kernel
theorem dX3_isYard_4 : decode cX3_isYard 4 = .ok (.iload_n 1, 1) := by decide +kernel
theorem dX3_isYard_5 : decode cX3_isYard 5 = .ok (.aload_n 0, 1) := by decide +kernel
theorem dX3_isYard_6 : decode cX3_isYard 6 = .ok (.getfield 9, 3) := by decide +kernel
theorem dX3_isYard_9 : decode cX3_isYard 9 = .ok (.if_icmp .ge 7, 3) := by decide +kernel
theorem dX3_isYard_12 : decode cX3_isYard 12 = .ok (.iconst 1, 1) := by decide +kernel
theorem dX3_isYard_13 : decode cX3_isYard 13 = .ok (.goto 4, 3) := by decide +kernel
theorem dX3_isYard_16 : decode cX3_isYard 16 = .ok (.iconst 0, 1) := by decide +kernel
theorem dX3_isYard_17 : decode cX3_isYard 17 = .ok (.ireturn, 1) := by decide +kernel
theorem dX3_isPerson_0 : decode cX3_isPerson 0 = .ok (.iload_n 1, 1) := by decide +kernel
theorem dX3_isPerson_1 : decode cX3_isPerson 1 = .ok (.ifCond .lt 15, 3) := by decide +kernel
theorem dX3_isPerson_4 : decode cX3_isPerson 4 = .ok (.iload_n 1, 1) := by decide +kernel
theorem dX3_isPerson_5 : decode cX3_isPerson 5 = .ok (.aload_n 0, 1) := by decide +kernel
theorem dX3_isPerson_6 : decode cX3_isPerson 6 = .ok (.getfield 21, 3) := by decide +kernel
theorem dX3_isPerson_9 : decode cX3_isPerson 9 = .ok (.if_icmp .ge 7, 3) := by decide +kernel
theorem dX3_isPerson_12 : decode cX3_isPerson 12 = .ok (.iconst 1, 1) := by decide +kernel
theorem dX3_isPerson_13 : decode cX3_isPerson 13 = .ok (.goto 4, 3) := by decide +kernel
theorem dX3_isPerson_16 : decode cX3_isPerson 16 = .ok (.iconst 0, 1) := by decide +kernel
theorem dX3_isPerson_17 : decode cX3_isPerson 17 = .ok (.ireturn, 1) := by decide +kernel
theorem dX3_areTwo_0 : decode cX3_areTwo 0 = .ok (.aload_n 0, 1) := by decide +kernel
theorem dX3_areTwo_1 : decode cX3_areTwo 1 = .ok (.iload_n 1, 1) := by decide +kernel
theorem dX3_areTwo_2 : decode cX3_areTwo 2 = .ok (.invokevirtual 57, 3) := by decide +kernel
theorem dX3_areTwo_5 : decode cX3_areTwo 5 = .ok (.ifCond .eq 20, 3) := by decide +kernel
theorem dX3_areTwo_8 : decode cX3_areTwo 8 = .ok (.aload_n 0, 1) := by decide +kernel
theorem dX3_areTwo_9 : decode cX3_areTwo 9 = .ok (.iload_n 2, 1) := by decide +kernel
theorem dX3_areTwo_10 : decode cX3_areTwo 10 = .ok (.invokevirtual 57, 3) := by decide +kernel
theorem dX3_areTwo_13 : decode cX3_areTwo 13 = .ok (.ifCond .eq 12, 3) := by decide +kernel
theorem dX3_areTwo_16 : decode cX3_areTwo 16 = .ok (.iload_n 1, 1) := by decide +kernel
theorem dX3_areTwo_17 : decode cX3_areTwo 17 = .ok (.iload_n 2, 1) := by decide +kernel
theorem dX3_areTwo_18 : decode cX3_areTwo 18 = .ok (.if_icmp .eq 7, 3) := by decide +kernel
theorem dX3_areTwo_21 : decode cX3_areTwo 21 = .ok (.iconst 1, 1) := by decide +kernel
theorem dX3_areTwo_22 : decode cX3_areTwo 22 = .ok (.goto 4, 3) := by decide +kernel
theorem dX3_areTwo_25 : decode cX3_areTwo 25 = .ok (.iconst 0, 1) := by decide +kernel
theorem dX3_areTwo_26 : decode cX3_areTwo 26 = .ok (.ireturn, 1) := by decide +kernel
theorem dX3_placeOf_0 : decode cX3_placeOf 0 = .ok (.aload_n 0, 1) := by decide +kernel
theorem dX3_placeOf_1 : decode cX3_placeOf 1 = .ok (.getfield 36, 3) := by decide +kernel
theorem dX3_placeOf_4 : decode cX3_placeOf 4 = .ok (.iload_n 1, 1) := by decide +kernel
theorem dX3_placeOf_5 : decode cX3_placeOf 5 = .ok (.aaload, 1) := by decide +kernel
theorem dX3_placeOf_6 : decode cX3_placeOf 6 = .ok (.getfield 61, 3) := by decide +kernel
theorem dX3_placeOf_9 : decode cX3_placeOf 9 = .ok (.ifCond .eq 6, 3) := by decide +kernel
theorem dX3_placeOf_12 : decode cX3_placeOf 12 = .ok (.bipush 9, 2) := by decide +kernel
theorem dX3_placeOf_14 : decode cX3_placeOf 14 = .ok (.ireturn, 1) := by decide +kernel
theorem dX3_placeOf_15 : decode cX3_placeOf 15 = .ok (.iconst 0, 1) := by decide +kernel
theorem dX3_placeOf_16 : decode cX3_placeOf 16 = .ok (.istore_n 2, 1) := by decide +kernel
theorem dX3_placeOf_17 : decode cX3_placeOf 17 = .ok (.iload_n 2, 1) := by decide +kernel
theorem dX3_placeOf_18 : decode cX3_placeOf 18 = .ok (.aload_n 0, 1) := by decide +kernel
theorem dX3_placeOf_19 : decode cX3_placeOf 19 = .ok (.getfield 9, 3) := by decide +kernel
theorem dX3_placeOf_22 : decode cX3_placeOf 22 = .ok (.if_icmp .ge 21, 3) := by decide +kernel
theorem dX3_placeOf_25 : decode cX3_placeOf 25 = .ok (.aload_n 0, 1) := by decide +kernel
theorem dX3_placeOf_26 : decode cX3_placeOf 26 = .ok (.getfield 31, 3) := by decide +kernel
theorem dX3_placeOf_29 : decode cX3_placeOf 29 = .ok (.iload_n 2, 1) := by decide +kernel
theorem dX3_placeOf_30 : decode cX3_placeOf 30 = .ok (.iaload, 1) := by decide +kernel
theorem dX3_placeOf_31 : decode cX3_placeOf 31 = .ok (.iload_n 1, 1) := by decide +kernel
theorem dX3_placeOf_32 : decode cX3_placeOf 32 = .ok (.if_icmp .ne 5, 3) := by decide +kernel
theorem dX3_placeOf_35 : decode cX3_placeOf 35 = .ok (.iload_n 2, 1) := by decide +kernel
theorem dX3_placeOf_36 : decode cX3_placeOf 36 = .ok (.ireturn, 1) := by decide +kernel
theorem dX3_placeOf_37 : decode cX3_placeOf 37 = .ok (.iinc 2 1, 3) := by decide +kernel
theorem dX3_placeOf_40 : decode cX3_placeOf 40 = .ok (.goto (-23), 3) := by decide +kernel
theorem dX3_placeOf_43 : decode cX3_placeOf 43 = .ok (.bipush (-9), 2) := by decide +kernel
theorem dX3_placeOf_45 : decode cX3_placeOf 45 = .ok (.ireturn, 1) := by decide +kernel
theorem dX3_isNear_0 : decode cX3_isNear 0 = .ok (.aload_n 0, 1) := by decide +kernel
theorem dX3_isNear_1 : decode cX3_isNear 1 = .ok (.iload_n 1, 1) := by decide +kernel
theorem dX3_isNear_2 : decode cX3_isNear 2 = .ok (.invokevirtual 65, 3) := by decide +kernel
theorem dX3_isNear_5 : decode cX3_isNear 5 = .ok (.bipush (-9), 2) := by decide +kernel
theorem dX3_isNear_7 : decode cX3_isNear 7 = .ok (.if_icmp .ne 7, 3) := by decide +kernel
theorem dX3_isNear_10 : decode cX3_isNear 10 = .ok (.iconst 1, 1) := by decide +kernel
theorem dX3_isNear_11 : decode cX3_isNear 11 = .ok (.goto 4, 3) := by decide +kernel
theorem dX3_isNear_14 : decode cX3_isNear 14 = .ok (.iconst 0, 1) := by decide +kernel
theorem dX3_isNear_15 : decode cX3_isNear 15 = .ok (.ireturn, 1) := by decide +kernel
theorem dX3_inWater_0 : decode cX3_inWater 0 = .ok (.iconst 0, 1) := by decide +kernel
theorem dX3_inWater_1 : decode cX3_inWater 1 = .ok (.istore_n 1, 1) := by decide +kernel
theorem dX3_inWater_2 : decode cX3_inWater 2 = .ok (.iconst 0, 1) := by decide +kernel
theorem dX3_inWater_3 : decode cX3_inWater 3 = .ok (.istore_n 2, 1) := by decide +kernel
theorem dX3_inWater_4 : decode cX3_inWater 4 = .ok (.iload_n 2, 1) := by decide +kernel
theorem dX3_inWater_5 : decode cX3_inWater 5 = .ok (.aload_n 0, 1) := by decide +kernel
theorem dX3_inWater_6 : decode cX3_inWater 6 = .ok (.getfield 9, 3) := by decide +kernel
theorem dX3_inWater_9 : decode cX3_inWater 9 = .ok (.if_icmp .ge 23, 3) := by decide +kernel
theorem dX3_inWater_12 : decode cX3_inWater 12 = .ok (.aload_n 0, 1) := by decide +kernel
theorem dX3_inWater_13 : decode cX3_inWater 13 = .ok (.getfield 31, 3) := by decide +kernel
theorem dX3_inWater_16 : decode cX3_inWater 16 = .ok (.iload_n 2, 1) := by decide +kernel
theorem dX3_inWater_17 : decode cX3_inWater 17 = .ok (.iaload, 1) := by decide +kernel
theorem dX3_inWater_18 : decode cX3_inWater 18 = .ok (.bipush (-9), 2) := by decide +kernel
theorem dX3_inWater_20 : decode cX3_inWater 20 = .ok (.if_icmp .eq 6, 3) := by decide +kernel
theorem dX3_inWater_23 : decode cX3_inWater 23 = .ok (.iinc 1 1, 3) := by decide +kernel
theorem dX3_inWater_26 : decode cX3_inWater 26 = .ok (.iinc 2 1, 3) := by decide +kernel
theorem dX3_inWater_29 : decode cX3_inWater 29 = .ok (.goto (-25), 3) := by decide +kernel
theorem dX3_inWater_32 : decode cX3_inWater 32 = .ok (.iload_n 1, 1) := by decide +kernel
theorem dX3_inWater_33 : decode cX3_inWater 33 = .ok (.ireturn, 1) := by decide +kernel
theorem dX3_overThere_0 : decode cX3_overThere 0 = .ok (.iconst 0, 1) := by decide +kernel
theorem dX3_overThere_1 : decode cX3_overThere 1 = .ok (.istore_n 1, 1) := by decide +kernel
theorem dX3_overThere_2 : decode cX3_overThere 2 = .ok (.iconst 0, 1) := by decide +kernel
theorem dX3_overThere_3 : decode cX3_overThere 3 = .ok (.istore_n 2, 1) := by decide +kernel
theorem dX3_overThere_4 : decode cX3_overThere 4 = .ok (.iload_n 2, 1) := by decide +kernel
theorem dX3_overThere_5 : decode cX3_overThere 5 = .ok (.aload_n 0, 1) := by decide +kernel
theorem dX3_overThere_6 : decode cX3_overThere 6 = .ok (.getfield 21, 3) := by decide +kernel
theorem dX3_overThere_9 : decode cX3_overThere 9 = .ok (.if_icmp .ge 24, 3) := by decide +kernel
theorem dX3_overThere_12 : decode cX3_overThere 12 = .ok (.aload_n 0, 1) := by decide +kernel
theorem dX3_overThere_13 : decode cX3_overThere 13 = .ok (.getfield 36, 3) := by decide +kernel
theorem dX3_overThere_16 : decode cX3_overThere 16 = .ok (.iload_n 2, 1) := by decide +kernel
theorem dX3_overThere_17 : decode cX3_overThere 17 = .ok (.aaload, 1) := by decide +kernel
theorem dX3_overThere_18 : decode cX3_overThere 18 = .ok (.getfield 61, 3) := by decide +kernel
theorem dX3_overThere_21 : decode cX3_overThere 21 = .ok (.ifCond .eq 6, 3) := by decide +kernel
theorem dX3_overThere_24 : decode cX3_overThere 24 = .ok (.iinc 1 1, 3) := by decide +kernel
theorem dX3_overThere_27 : decode cX3_overThere 27 = .ok (.iinc 2 1, 3) := by decide +kernel
theorem dX3_overThere_30 : decode cX3_overThere 30 = .ok (.goto (-26), 3) := by decide +kernel
theorem dX3_overThere_33 : decode cX3_overThere 33 = .ok (.iload_n 1, 1) := by decide +kernel
theorem dX3_overThere_34 : decode cX3_overThere 34 = .ok (.ireturn, 1) := by decide +kernel
theorem dX3_nearBank_0 : decode cX3_nearBank 0 = .ok (.aload_n 0, 1) := by decide +kernel
theorem dX3_nearBank_1 : decode cX3_nearBank 1 = .ok (.getfield 21, 3) := by decide +kernel
theorem dX3_nearBank_4 : decode cX3_nearBank 4 = .ok (.aload_n 0, 1) := by decide +kernel
theorem dX3_nearBank_5 : decode cX3_nearBank 5 = .ok (.invokevirtual 69, 3) := by decide +kernel
theorem dX3_nearBank_8 : decode cX3_nearBank 8 = .ok (.isub, 1) := by decide +kernel
theorem dX3_nearBank_9 : decode cX3_nearBank 9 = .ok (.aload_n 0, 1) := by decide +kernel
theorem dX3_nearBank_10 : decode cX3_nearBank 10 = .ok (.invokevirtual 73, 3) := by decide +kernel
theorem dX3_nearBank_13 : decode cX3_nearBank 13 = .ok (.isub, 1) := by decide +kernel
theorem dX3_nearBank_14 : decode cX3_nearBank 14 = .ok (.ireturn, 1) := by decide +kernel
theorem dX3_notOver_0 : decode cX3_notOver 0 = .ok (.iconst 0, 1) := by decide +kernel
theorem dX3_notOver_1 : decode cX3_notOver 1 = .ok (.istore_n 1, 1) := by decide +kernel
theorem dX3_notOver_2 : decode cX3_notOver 2 = .ok (.iconst 0, 1) := by decide +kernel
theorem dX3_notOver_3 : decode cX3_notOver 3 = .ok (.istore_n 2, 1) := by decide +kernel
theorem dX3_notOver_4 : decode cX3_notOver 4 = .ok (.iload_n 2, 1) := by decide +kernel
theorem dX3_notOver_5 : decode cX3_notOver 5 = .ok (.aload_n 0, 1) := by decide +kernel
theorem dX3_notOver_6 : decode cX3_notOver 6 = .ok (.getfield 21, 3) := by decide +kernel
theorem dX3_notOver_9 : decode cX3_notOver 9 = .ok (.if_icmp .ge 27, 3) := by decide +kernel
theorem dX3_notOver_12 : decode cX3_notOver 12 = .ok (.aload_n 0, 1) := by decide +kernel
theorem dX3_notOver_13 : decode cX3_notOver 13 = .ok (.getfield 36, 3) := by decide +kernel
theorem dX3_notOver_16 : decode cX3_notOver 16 = .ok (.iload_n 2, 1) := by decide +kernel
theorem dX3_notOver_17 : decode cX3_notOver 17 = .ok (.aaload, 1) := by decide +kernel
theorem dX3_notOver_18 : decode cX3_notOver 18 = .ok (.getfield 61, 3) := by decide +kernel
theorem dX3_notOver_21 : decode cX3_notOver 21 = .ok (.ifCond .ne 9, 3) := by decide +kernel
theorem dX3_notOver_24 : decode cX3_notOver 24 = .ok (.iload_n 1, 1) := by decide +kernel
theorem dX3_notOver_25 : decode cX3_notOver 25 = .ok (.iconst 1, 1) := by decide +kernel
theorem dX3_notOver_26 : decode cX3_notOver 26 = .ok (.iload_n 2, 1) := by decide +kernel
theorem dX3_notOver_27 : decode cX3_notOver 27 = .ok (.ishl, 1) := by decide +kernel
theorem dX3_notOver_28 : decode cX3_notOver 28 = .ok (.ior, 1) := by decide +kernel
theorem dX3_notOver_29 : decode cX3_notOver 29 = .ok (.istore_n 1, 1) := by decide +kernel
theorem dX3_notOver_30 : decode cX3_notOver 30 = .ok (.iinc 2 1, 3) := by decide +kernel
theorem dX3_notOver_33 : decode cX3_notOver 33 = .ok (.goto (-29), 3) := by decide +kernel
theorem dX3_notOver_36 : decode cX3_notOver 36 = .ok (.iload_n 1, 1) := by decide +kernel
theorem dX3_notOver_37 : decode cX3_notOver 37 = .ok (.ireturn, 1) := by decide +kernel
theorem dX3_emptyWater_0 : decode cX3_emptyWater 0 = .ok (.iconst 0, 1) := by decide +kernel
theorem dX3_emptyWater_1 : decode cX3_emptyWater 1 = .ok (.istore_n 1, 1) := by decide +kernel
theorem dX3_emptyWater_2 : decode cX3_emptyWater 2 = .ok (.iload_n 1, 1) := by decide +kernel
theorem dX3_emptyWater_3 : decode cX3_emptyWater 3 = .ok (.iconst 5, 1) := by decide +kernel
theorem dX3_emptyWater_4 : decode cX3_emptyWater 4 = .ok (.if_icmp .ge 17, 3) := by decide +kernel
theorem dX3_emptyWater_7 : decode cX3_emptyWater 7 = .ok (.aload_n 0, 1) := by decide +kernel
theorem dX3_emptyWater_8 : decode cX3_emptyWater 8 = .ok (.getfield 31, 3) := by decide +kernel
theorem dX3_emptyWater_11 : decode cX3_emptyWater 11 = .ok (.iload_n 1, 1) := by decide +kernel
theorem dX3_emptyWater_12 : decode cX3_emptyWater 12 = .ok (.bipush (-9), 2) := by decide +kernel
theorem dX3_emptyWater_14 : decode cX3_emptyWater 14 = .ok (.iastore, 1) := by decide +kernel
theorem dX3_emptyWater_15 : decode cX3_emptyWater 15 = .ok (.iinc 1 1, 3) := by decide +kernel
theorem dX3_emptyWater_18 : decode cX3_emptyWater 18 = .ok (.goto (-16), 3) := by decide +kernel
theorem dX3_emptyWater_21 : decode cX3_emptyWater 21 = .ok (.return_, 1) := by decide +kernel
theorem dX3_enter_0 : decode cX3_enter 0 = .ok (.iconst 0, 1) := by decide +kernel
theorem dX3_enter_1 : decode cX3_enter 1 = .ok (.istore_n 3, 1) := by decide +kernel
theorem dX3_enter_2 : decode cX3_enter 2 = .ok (.iload_n 3, 1) := by decide +kernel
theorem dX3_enter_3 : decode cX3_enter 3 = .ok (.aload_n 0, 1) := by decide +kernel
theorem dX3_enter_4 : decode cX3_enter 4 = .ok (.getfield 9, 3) := by decide +kernel
theorem dX3_enter_7 : decode cX3_enter 7 = .ok (.if_icmp .ge 27, 3) := by decide +kernel
theorem dX3_enter_10 : decode cX3_enter 10 = .ok (.aload_n 0, 1) := by decide +kernel
theorem dX3_enter_11 : decode cX3_enter 11 = .ok (.getfield 31, 3) := by decide +kernel
theorem dX3_enter_14 : decode cX3_enter 14 = .ok (.iload_n 3, 1) := by decide +kernel
theorem dX3_enter_15 : decode cX3_enter 15 = .ok (.iaload, 1) := by decide +kernel
theorem dX3_enter_16 : decode cX3_enter 16 = .ok (.iload_n 2, 1) := by decide +kernel
theorem dX3_enter_17 : decode cX3_enter 17 = .ok (.if_icmp .ne 11, 3) := by decide +kernel
theorem dX3_enter_20 : decode cX3_enter 20 = .ok (.aload_n 0, 1) := by decide +kernel
theorem dX3_enter_21 : decode cX3_enter 21 = .ok (.getfield 31, 3) := by decide +kernel
theorem dX3_enter_24 : decode cX3_enter 24 = .ok (.iload_n 3, 1) := by decide +kernel
theorem dX3_enter_25 : decode cX3_enter 25 = .ok (.bipush (-9), 2) := by decide +kernel
theorem dX3_enter_27 : decode cX3_enter 27 = .ok (.iastore, 1) := by decide +kernel
theorem dX3_enter_28 : decode cX3_enter 28 = .ok (.iinc 3 1, 3) := by decide +kernel
theorem dX3_enter_31 : decode cX3_enter 31 = .ok (.goto (-29), 3) := by decide +kernel
theorem dX3_enter_34 : decode cX3_enter 34 = .ok (.aload_n 0, 1) := by decide +kernel
theorem dX3_enter_35 : decode cX3_enter 35 = .ok (.getfield 31, 3) := by decide +kernel
theorem dX3_enter_38 : decode cX3_enter 38 = .ok (.iload_n 1, 1) := by decide +kernel
theorem dX3_enter_39 : decode cX3_enter 39 = .ok (.iload_n 2, 1) := by decide +kernel
theorem dX3_enter_40 : decode cX3_enter 40 = .ok (.iastore, 1) := by decide +kernel
theorem dX3_enter_41 : decode cX3_enter 41 = .ok (.return_, 1) := by decide +kernel
theorem dX3_grudgeOf_0 : decode cX3_grudgeOf 0 = .ok (.aload_n 0, 1) := by decide +kernel
theorem dX3_grudgeOf_1 : decode cX3_grudgeOf 1 = .ok (.getfield 40, 3) := by decide +kernel
theorem dX3_grudgeOf_4 : decode cX3_grudgeOf 4 = .ok (.iload_n 1, 1) := by decide +kernel
theorem dX3_grudgeOf_5 : decode cX3_grudgeOf 5 = .ok (.iaload, 1) := by decide +kernel
theorem dX3_grudgeOf_6 : decode cX3_grudgeOf 6 = .ok (.iload_n 2, 1) := by decide +kernel
theorem dX3_grudgeOf_7 : decode cX3_grudgeOf 7 = .ok (.ishr, 1) := by decide +kernel
theorem dX3_grudgeOf_8 : decode cX3_grudgeOf 8 = .ok (.iconst 1, 1) := by decide +kernel
theorem dX3_grudgeOf_9 : decode cX3_grudgeOf 9 = .ok (.iand, 1) := by decide +kernel
theorem dX3_grudgeOf_10 : decode cX3_grudgeOf 10 = .ok (.ireturn, 1) := by decide +kernel
theorem dX3_setGrudge_0 : decode cX3_setGrudge 0 = .ok (.aload_n 0, 1) := by decide +kernel
theorem dX3_setGrudge_1 : decode cX3_setGrudge 1 = .ok (.getfield 40, 3) := by decide +kernel
theorem dX3_setGrudge_4 : decode cX3_setGrudge 4 = .ok (.iload_n 1, 1) := by decide +kernel
theorem dX3_setGrudge_5 : decode cX3_setGrudge 5 = .ok (.aload_n 0, 1) := by decide +kernel
theorem dX3_setGrudge_6 : decode cX3_setGrudge 6 = .ok (.getfield 40, 3) := by decide +kernel
theorem dX3_setGrudge_9 : decode cX3_setGrudge 9 = .ok (.iload_n 1, 1) := by decide +kernel
theorem dX3_setGrudge_10 : decode cX3_setGrudge 10 = .ok (.iaload, 1) := by decide +kernel
theorem dX3_setGrudge_11 : decode cX3_setGrudge 11 = .ok (.iconst 1, 1) := by decide +kernel
theorem dX3_setGrudge_12 : decode cX3_setGrudge 12 = .ok (.iload_n 2, 1) := by decide +kernel
theorem dX3_setGrudge_13 : decode cX3_setGrudge 13 = .ok (.ishl, 1) := by decide +kernel
theorem dX3_setGrudge_14 : decode cX3_setGrudge 14 = .ok (.iconst (-1), 1) := by decide +kernel
theorem dX3_setGrudge_15 : decode cX3_setGrudge 15 = .ok (.ixor, 1) := by decide +kernel
theorem dX3_setGrudge_16 : decode cX3_setGrudge 16 = .ok (.iand, 1) := by decide +kernel
theorem dX3_setGrudge_17 : decode cX3_setGrudge 17 = .ok (.iload_n 3, 1) := by decide +kernel
theorem dX3_setGrudge_18 : decode cX3_setGrudge 18 = .ok (.iload_n 2, 1) := by decide +kernel
theorem dX3_setGrudge_19 : decode cX3_setGrudge 19 = .ok (.ishl, 1) := by decide +kernel
theorem dX3_setGrudge_20 : decode cX3_setGrudge 20 = .ok (.ior, 1) := by decide +kernel
theorem dX3_setGrudge_21 : decode cX3_setGrudge 21 = .ok (.iastore, 1) := by decide +kernel
theorem dX3_setGrudge_22 : decode cX3_setGrudge 22 = .ok (.aload_n 0, 1) := by decide +kernel
theorem dX3_setGrudge_23 : decode cX3_setGrudge 23 = .ok (.getfield 40, 3) := by decide +kernel
theorem dX3_setGrudge_26 : decode cX3_setGrudge 26 = .ok (.iload_n 2, 1) := by decide +kernel
theorem dX3_setGrudge_27 : decode cX3_setGrudge 27 = .ok (.aload_n 0, 1) := by decide +kernel
theorem dX3_setGrudge_28 : decode cX3_setGrudge 28 = .ok (.getfield 40, 3) := by decide +kernel
theorem dX3_setGrudge_31 : decode cX3_setGrudge 31 = .ok (.iload_n 2, 1) := by decide +kernel
theorem dX3_setGrudge_32 : decode cX3_setGrudge 32 = .ok (.iaload, 1) := by decide +kernel
theorem dX3_setGrudge_33 : decode cX3_setGrudge 33 = .ok (.iconst 1, 1) := by decide +kernel
theorem dX3_setGrudge_34 : decode cX3_setGrudge 34 = .ok (.iload_n 1, 1) := by decide +kernel
theorem dX3_setGrudge_35 : decode cX3_setGrudge 35 = .ok (.ishl, 1) := by decide +kernel
theorem dX3_setGrudge_36 : decode cX3_setGrudge 36 = .ok (.iconst (-1), 1) := by decide +kernel
theorem dX3_setGrudge_37 : decode cX3_setGrudge 37 = .ok (.ixor, 1) := by decide +kernel
theorem dX3_setGrudge_38 : decode cX3_setGrudge 38 = .ok (.iand, 1) := by decide +kernel
theorem dX3_setGrudge_39 : decode cX3_setGrudge 39 = .ok (.iload_n 3, 1) := by decide +kernel
theorem dX3_setGrudge_40 : decode cX3_setGrudge 40 = .ok (.iload_n 1, 1) := by decide +kernel
theorem dX3_setGrudge_41 : decode cX3_setGrudge 41 = .ok (.ishl, 1) := by decide +kernel
theorem dX3_setGrudge_42 : decode cX3_setGrudge 42 = .ok (.ior, 1) := by decide +kernel
theorem dX3_setGrudge_43 : decode cX3_setGrudge 43 = .ok (.iastore, 1) := by decide +kernel
theorem dX3_setGrudge_44 : decode cX3_setGrudge 44 = .ok (.return_, 1) := by decide +kernel
theorem dX3_allGrudges_0 : decode cX3_allGrudges 0 = .ok (.iconst 0, 1) := by decide +kernel
theorem dX3_allGrudges_1 : decode cX3_allGrudges 1 = .ok (.istore_n 1, 1) := by decide +kernel
theorem dX3_allGrudges_2 : decode cX3_allGrudges 2 = .ok (.iconst 0, 1) := by decide +kernel
theorem dX3_allGrudges_3 : decode cX3_allGrudges 3 = .ok (.istore_n 2, 1) := by decide +kernel
theorem dX3_allGrudges_4 : decode cX3_allGrudges 4 = .ok (.iload_n 2, 1) := by decide +kernel
theorem dX3_allGrudges_5 : decode cX3_allGrudges 5 = .ok (.aload_n 0, 1) := by decide +kernel
theorem dX3_allGrudges_6 : decode cX3_allGrudges 6 = .ok (.getfield 21, 3) := by decide +kernel
theorem dX3_allGrudges_9 : decode cX3_allGrudges 9 = .ok (.if_icmp .ge 21, 3) := by decide +kernel
theorem dX3_allGrudges_12 : decode cX3_allGrudges 12 = .ok (.iload_n 1, 1) := by decide +kernel
theorem dX3_allGrudges_13 : decode cX3_allGrudges 13 = .ok (.aload_n 0, 1) := by decide +kernel
theorem dX3_allGrudges_14 : decode cX3_allGrudges 14 = .ok (.getfield 40, 3) := by decide +kernel
theorem dX3_allGrudges_17 : decode cX3_allGrudges 17 = .ok (.iload_n 2, 1) := by decide +kernel
theorem dX3_allGrudges_18 : decode cX3_allGrudges 18 = .ok (.iaload, 1) := by decide +kernel
theorem dX3_allGrudges_19 : decode cX3_allGrudges 19 = .ok (.invokestatic 76, 3) := by decide +kernel
theorem dX3_allGrudges_22 : decode cX3_allGrudges 22 = .ok (.iadd, 1) := by decide +kernel
theorem dX3_allGrudges_23 : decode cX3_allGrudges 23 = .ok (.istore_n 1, 1) := by decide +kernel
theorem dX3_allGrudges_24 : decode cX3_allGrudges 24 = .ok (.iinc 2 1, 3) := by decide +kernel
theorem dX3_allGrudges_27 : decode cX3_allGrudges 27 = .ok (.goto (-23), 3) := by decide +kernel
theorem dX3_allGrudges_30 : decode cX3_allGrudges 30 = .ok (.iload_n 1, 1) := by decide +kernel
theorem dX3_allGrudges_31 : decode cX3_allGrudges 31 = .ok (.iconst 2, 1) := by decide +kernel
theorem dX3_allGrudges_32 : decode cX3_allGrudges 32 = .ok (.idiv, 1) := by decide +kernel
theorem dX3_allGrudges_33 : decode cX3_allGrudges 33 = .ok (.ireturn, 1) := by decide +kernel
theorem dX3_loadOf_0 : decode cX3_loadOf 0 = .ok (.iconst 0, 1) := by decide +kernel
theorem dX3_loadOf_1 : decode cX3_loadOf 1 = .ok (.istore_n 2, 1) := by decide +kernel
theorem dX3_loadOf_2 : decode cX3_loadOf 2 = .ok (.iconst 0, 1) := by decide +kernel
theorem dX3_loadOf_3 : decode cX3_loadOf 3 = .ok (.istore_n 3, 1) := by decide +kernel
theorem dX3_loadOf_4 : decode cX3_loadOf 4 = .ok (.iconst 0, 1) := by decide +kernel
theorem dX3_loadOf_5 : decode cX3_loadOf 5 = .ok (.istore 4, 2) := by decide +kernel
theorem dX3_loadOf_7 : decode cX3_loadOf 7 = .ok (.iload 4, 2) := by decide +kernel
theorem dX3_loadOf_9 : decode cX3_loadOf 9 = .ok (.aload_n 0, 1) := by decide +kernel
theorem dX3_loadOf_10 : decode cX3_loadOf 10 = .ok (.getfield 9, 3) := by decide +kernel
theorem dX3_loadOf_13 : decode cX3_loadOf 13 = .ok (.if_icmp .ge 38, 3) := by decide +kernel
theorem dX3_loadOf_16 : decode cX3_loadOf 16 = .ok (.iload 4, 2) := by decide +kernel
theorem dX3_loadOf_18 : decode cX3_loadOf 18 = .ok (.iload_n 1, 1) := by decide +kernel
theorem dX3_loadOf_19 : decode cX3_loadOf 19 = .ok (.if_icmp .ge 16, 3) := by decide +kernel
theorem dX3_loadOf_22 : decode cX3_loadOf 22 = .ok (.iload_n 2, 1) := by decide +kernel
theorem dX3_loadOf_23 : decode cX3_loadOf 23 = .ok (.aload_n 0, 1) := by decide +kernel
theorem dX3_loadOf_24 : decode cX3_loadOf 24 = .ok (.getfield 28, 3) := by decide +kernel
theorem dX3_loadOf_27 : decode cX3_loadOf 27 = .ok (.iload 4, 2) := by decide +kernel
theorem dX3_loadOf_29 : decode cX3_loadOf 29 = .ok (.iaload, 1) := by decide +kernel
theorem dX3_loadOf_30 : decode cX3_loadOf 30 = .ok (.iadd, 1) := by decide +kernel
theorem dX3_loadOf_31 : decode cX3_loadOf 31 = .ok (.istore_n 2, 1) := by decide +kernel
theorem dX3_loadOf_32 : decode cX3_loadOf 32 = .ok (.goto 13, 3) := by decide +kernel
theorem dX3_loadOf_35 : decode cX3_loadOf 35 = .ok (.iload_n 3, 1) := by decide +kernel
theorem dX3_loadOf_36 : decode cX3_loadOf 36 = .ok (.aload_n 0, 1) := by decide +kernel
theorem dX3_loadOf_37 : decode cX3_loadOf 37 = .ok (.getfield 28, 3) := by decide +kernel
theorem dX3_loadOf_40 : decode cX3_loadOf 40 = .ok (.iload 4, 2) := by decide +kernel
theorem dX3_loadOf_42 : decode cX3_loadOf 42 = .ok (.iaload, 1) := by decide +kernel
theorem dX3_loadOf_43 : decode cX3_loadOf 43 = .ok (.iadd, 1) := by decide +kernel
theorem dX3_loadOf_44 : decode cX3_loadOf 44 = .ok (.istore_n 3, 1) := by decide +kernel
theorem dX3_loadOf_45 : decode cX3_loadOf 45 = .ok (.iinc 4 1, 3) := by decide +kernel
theorem dX3_loadOf_48 : decode cX3_loadOf 48 = .ok (.goto (-41), 3) := by decide +kernel
theorem dX3_loadOf_51 : decode cX3_loadOf 51 = .ok (.iload_n 2, 1) := by decide +kernel
theorem dX3_loadOf_52 : decode cX3_loadOf 52 = .ok (.iload_n 3, 1) := by decide +kernel
theorem dX3_loadOf_53 : decode cX3_loadOf 53 = .ok (.invokestatic 81, 3) := by decide +kernel
theorem dX3_loadOf_56 : decode cX3_loadOf 56 = .ok (.ireturn, 1) := by decide +kernel
theorem dX3_whyNot_0 : decode cX3_whyNot 0 = .ok (.aload_n 0, 1) := by decide +kernel
theorem dX3_whyNot_1 : decode cX3_whyNot 1 = .ok (.getfield 36, 3) := by decide +kernel
theorem dX3_whyNot_4 : decode cX3_whyNot 4 = .ok (.iload_n 2, 1) := by decide +kernel
theorem dX3_whyNot_5 : decode cX3_whyNot 5 = .ok (.aaload, 1) := by decide +kernel
theorem dX3_whyNot_6 : decode cX3_whyNot 6 = .ok (.invokevirtual 87, 3) := by decide +kernel
theorem dX3_whyNot_9 : decode cX3_whyNot 9 = .ok (.aload_n 0, 1) := by decide +kernel
theorem dX3_whyNot_10 : decode cX3_whyNot 10 = .ok (.getfield 24, 3) := by decide +kernel
theorem dX3_whyNot_13 : decode cX3_whyNot 13 = .ok (.iload_n 1, 1) := by decide +kernel
theorem dX3_whyNot_14 : decode cX3_whyNot 14 = .ok (.iaload, 1) := by decide +kernel
theorem dX3_whyNot_15 : decode cX3_whyNot 15 = .ok (.if_icmp .ge 5, 3) := by decide +kernel
theorem dX3_whyNot_18 : decode cX3_whyNot 18 = .ok (.iconst 1, 1) := by decide +kernel
theorem dX3_whyNot_19 : decode cX3_whyNot 19 = .ok (.ireturn, 1) := by decide +kernel
theorem dX3_whyNot_20 : decode cX3_whyNot 20 = .ok (.aload_n 0, 1) := by decide +kernel
theorem dX3_whyNot_21 : decode cX3_whyNot 21 = .ok (.getfield 36, 3) := by decide +kernel
theorem dX3_whyNot_24 : decode cX3_whyNot 24 = .ok (.iload_n 2, 1) := by decide +kernel
theorem dX3_whyNot_25 : decode cX3_whyNot 25 = .ok (.aaload, 1) := by decide +kernel
theorem dX3_whyNot_26 : decode cX3_whyNot 26 = .ok (.invokevirtual 90, 3) := by decide +kernel
theorem dX3_whyNot_29 : decode cX3_whyNot 29 = .ok (.aload_n 0, 1) := by decide +kernel
theorem dX3_whyNot_30 : decode cX3_whyNot 30 = .ok (.iload_n 1, 1) := by decide +kernel
theorem dX3_whyNot_31 : decode cX3_whyNot 31 = .ok (.invokevirtual 93, 3) := by decide +kernel
theorem dX3_whyNot_34 : decode cX3_whyNot 34 = .ok (.aload_n 0, 1) := by decide +kernel
theorem dX3_whyNot_35 : decode cX3_whyNot 35 = .ok (.iload_n 1, 1) := by decide +kernel
theorem dX3_whyNot_36 : decode cX3_whyNot 36 = .ok (.iconst 1, 1) := by decide +kernel
theorem dX3_whyNot_37 : decode cX3_whyNot 37 = .ok (.iadd, 1) := by decide +kernel
theorem dX3_whyNot_38 : decode cX3_whyNot 38 = .ok (.invokevirtual 93, 3) := by decide +kernel
theorem dX3_whyNot_41 : decode cX3_whyNot 41 = .ok (.invokestatic 96, 3) := by decide +kernel
theorem dX3_whyNot_44 : decode cX3_whyNot 44 = .ok (.if_icmp .ge 5, 3) := by decide +kernel
theorem dX3_whyNot_47 : decode cX3_whyNot 47 = .ok (.iconst 2, 1) := by decide +kernel
theorem dX3_whyNot_48 : decode cX3_whyNot 48 = .ok (.ireturn, 1) := by decide +kernel
theorem dX3_whyNot_49 : decode cX3_whyNot 49 = .ok (.bipush (-9), 2) := by decide +kernel
theorem dX3_whyNot_51 : decode cX3_whyNot 51 = .ok (.ireturn, 1) := by decide +kernel
theorem dX3_whySlips_0 : decode cX3_whySlips 0 = .ok (.aload_n 1, 1) := by decide +kernel
theorem dX3_whySlips_1 : decode cX3_whySlips 1 = .ok (.iload_n 2, 1) := by decide +kernel
theorem dX3_whySlips_2 : decode cX3_whySlips 2 = .ok (.iaload, 1) := by decide +kernel
theorem dX3_whySlips_3 : decode cX3_whySlips 3 = .ok (.istore_n 3, 1) := by decide +kernel
theorem dX3_whySlips_4 : decode cX3_whySlips 4 = .ok (.aload_n 0, 1) := by decide +kernel
theorem dX3_whySlips_5 : decode cX3_whySlips 5 = .ok (.iload_n 3, 1) := by decide +kernel
theorem dX3_whySlips_6 : decode cX3_whySlips 6 = .ok (.invokevirtual 57, 3) := by decide +kernel
theorem dX3_whySlips_9 : decode cX3_whySlips 9 = .ok (.ifCond .ne 5, 3) := by decide +kernel
theorem dX3_whySlips_12 : decode cX3_whySlips 12 = .ok (.iconst 0, 1) := by decide +kernel
theorem dX3_whySlips_13 : decode cX3_whySlips 13 = .ok (.ireturn, 1) := by decide +kernel
theorem dX3_whySlips_14 : decode cX3_whySlips 14 = .ok (.aload_n 0, 1) := by decide +kernel
theorem dX3_whySlips_15 : decode cX3_whySlips 15 = .ok (.iload_n 2, 1) := by decide +kernel
theorem dX3_whySlips_16 : decode cX3_whySlips 16 = .ok (.iload_n 3, 1) := by decide +kernel
theorem dX3_whySlips_17 : decode cX3_whySlips 17 = .ok (.invokevirtual 99, 3) := by decide +kernel
theorem dX3_whySlips_20 : decode cX3_whySlips 20 = .ok (.istore 4, 2) := by decide +kernel
theorem dX3_whySlips_22 : decode cX3_whySlips 22 = .ok (.iload 4, 2) := by decide +kernel
theorem dX3_whySlips_24 : decode cX3_whySlips 24 = .ok (.bipush (-9), 2) := by decide +kernel
theorem dX3_whySlips_26 : decode cX3_whySlips 26 = .ok (.if_icmp .ne 7, 3) := by decide +kernel
theorem dX3_whySlips_29 : decode cX3_whySlips 29 = .ok (.iload_n 2, 1) := by decide +kernel
theorem dX3_whySlips_30 : decode cX3_whySlips 30 = .ok (.ifCond .ne 6, 3) := by decide +kernel
theorem dX3_whySlips_33 : decode cX3_whySlips 33 = .ok (.iload 4, 2) := by decide +kernel
theorem dX3_whySlips_35 : decode cX3_whySlips 35 = .ok (.ireturn, 1) := by decide +kernel
theorem dX3_whySlips_36 : decode cX3_whySlips 36 = .ok (.aload_n 1, 1) := by decide +kernel
theorem dX3_whySlips_37 : decode cX3_whySlips 37 = .ok (.iload_n 2, 1) := by decide +kernel
theorem dX3_whySlips_38 : decode cX3_whySlips 38 = .ok (.iconst 1, 1) := by decide +kernel
theorem dX3_whySlips_39 : decode cX3_whySlips 39 = .ok (.isub, 1) := by decide +kernel
theorem dX3_whySlips_40 : decode cX3_whySlips 40 = .ok (.iaload, 1) := by decide +kernel
theorem dX3_whySlips_41 : decode cX3_whySlips 41 = .ok (.istore 5, 2) := by decide +kernel
theorem dX3_whySlips_43 : decode cX3_whySlips 43 = .ok (.aload_n 0, 1) := by decide +kernel
theorem dX3_whySlips_44 : decode cX3_whySlips 44 = .ok (.iload 5, 2) := by decide +kernel
theorem dX3_whySlips_46 : decode cX3_whySlips 46 = .ok (.invokevirtual 57, 3) := by decide +kernel
theorem dX3_whySlips_49 : decode cX3_whySlips 49 = .ok (.ifCond .eq 18, 3) := by decide +kernel
theorem dX3_whySlips_52 : decode cX3_whySlips 52 = .ok (.aload_n 0, 1) := by decide +kernel
theorem dX3_whySlips_53 : decode cX3_whySlips 53 = .ok (.iload 5, 2) := by decide +kernel
theorem dX3_whySlips_55 : decode cX3_whySlips 55 = .ok (.iload_n 3, 1) := by decide +kernel
theorem dX3_whySlips_56 : decode cX3_whySlips 56 = .ok (.invokevirtual 102, 3) := by decide +kernel
theorem dX3_whySlips_59 : decode cX3_whySlips 59 = .ok (.iconst 1, 1) := by decide +kernel
theorem dX3_whySlips_60 : decode cX3_whySlips 60 = .ok (.if_icmp .ne 7, 3) := by decide +kernel
theorem dX3_whySlips_63 : decode cX3_whySlips 63 = .ok (.iconst 3, 1) := by decide +kernel
theorem dX3_whySlips_64 : decode cX3_whySlips 64 = .ok (.goto 5, 3) := by decide +kernel
theorem dX3_whySlips_67 : decode cX3_whySlips 67 = .ok (.bipush (-9), 2) := by decide +kernel
theorem dX3_whySlips_69 : decode cX3_whySlips 69 = .ok (.ireturn, 1) := by decide +kernel
theorem dX3_firstSlip_0 : decode cX3_firstSlip 0 = .ok (.iconst 0, 1) := by decide +kernel
theorem dX3_firstSlip_1 : decode cX3_firstSlip 1 = .ok (.istore_n 2, 1) := by decide +kernel
theorem dX3_firstSlip_2 : decode cX3_firstSlip 2 = .ok (.iload_n 2, 1) := by decide +kernel
theorem dX3_firstSlip_3 : decode cX3_firstSlip 3 = .ok (.aload_n 0, 1) := by decide +kernel
theorem dX3_firstSlip_4 : decode cX3_firstSlip 4 = .ok (.getfield 9, 3) := by decide +kernel
theorem dX3_firstSlip_7 : decode cX3_firstSlip 7 = .ok (.if_icmp .ge 22, 3) := by decide +kernel
theorem dX3_firstSlip_10 : decode cX3_firstSlip 10 = .ok (.aload_n 0, 1) := by decide +kernel
theorem dX3_firstSlip_11 : decode cX3_firstSlip 11 = .ok (.aload_n 1, 1) := by decide +kernel
theorem dX3_firstSlip_12 : decode cX3_firstSlip 12 = .ok (.iload_n 2, 1) := by decide +kernel
theorem dX3_firstSlip_13 : decode cX3_firstSlip 13 = .ok (.invokevirtual 105, 3) := by decide +kernel
theorem dX3_firstSlip_16 : decode cX3_firstSlip 16 = .ok (.bipush (-9), 2) := by decide +kernel
theorem dX3_firstSlip_18 : decode cX3_firstSlip 18 = .ok (.if_icmp .eq 5, 3) := by decide +kernel
theorem dX3_firstSlip_21 : decode cX3_firstSlip 21 = .ok (.iload_n 2, 1) := by decide +kernel
theorem dX3_firstSlip_22 : decode cX3_firstSlip 22 = .ok (.ireturn, 1) := by decide +kernel
theorem dX3_firstSlip_23 : decode cX3_firstSlip 23 = .ok (.iinc 2 1, 3) := by decide +kernel
theorem dX3_firstSlip_26 : decode cX3_firstSlip 26 = .ok (.goto (-24), 3) := by decide +kernel
theorem dX3_firstSlip_29 : decode cX3_firstSlip 29 = .ok (.bipush (-9), 2) := by decide +kernel
theorem dX3_firstSlip_31 : decode cX3_firstSlip 31 = .ok (.ireturn, 1) := by decide +kernel
theorem dX3_minutesOf_0 : decode cX3_minutesOf 0 = .ok (.aload_n 0, 1) := by decide +kernel
theorem dX3_minutesOf_1 : decode cX3_minutesOf 1 = .ok (.aload_n 1, 1) := by decide +kernel
theorem dX3_minutesOf_2 : decode cX3_minutesOf 2 = .ok (.invokevirtual 109, 3) := by decide +kernel
theorem dX3_minutesOf_5 : decode cX3_minutesOf 5 = .ok (.bipush (-9), 2) := by decide +kernel
theorem dX3_minutesOf_7 : decode cX3_minutesOf 7 = .ok (.if_icmp .eq 6, 3) := by decide +kernel
theorem dX3_minutesOf_10 : decode cX3_minutesOf 10 = .ok (.bipush (-9), 2) := by decide +kernel
theorem dX3_minutesOf_12 : decode cX3_minutesOf 12 = .ok (.ireturn, 1) := by decide +kernel
theorem dX3_minutesOf_13 : decode cX3_minutesOf 13 = .ok (.ldc 113, 2) := by decide +kernel
theorem dX3_minutesOf_15 : decode cX3_minutesOf 15 = .ok (.istore_n 2, 1) := by decide +kernel
theorem dX3_minutesOf_16 : decode cX3_minutesOf 16 = .ok (.iconst 0, 1) := by decide +kernel
theorem dX3_minutesOf_17 : decode cX3_minutesOf 17 = .ok (.istore_n 3, 1) := by decide +kernel
theorem dX3_minutesOf_18 : decode cX3_minutesOf 18 = .ok (.iload_n 3, 1) := by decide +kernel
theorem dX3_minutesOf_19 : decode cX3_minutesOf 19 = .ok (.aload_n 0, 1) := by decide +kernel
theorem dX3_minutesOf_20 : decode cX3_minutesOf 20 = .ok (.getfield 9, 3) := by decide +kernel
theorem dX3_minutesOf_23 : decode cX3_minutesOf 23 = .ok (.if_icmp .ge 29, 3) := by decide +kernel
theorem dX3_minutesOf_26 : decode cX3_minutesOf 26 = .ok (.iload_n 2, 1) := by decide +kernel
theorem dX3_minutesOf_27 : decode cX3_minutesOf 27 = .ok (.aload_n 0, 1) := by decide +kernel
theorem dX3_minutesOf_28 : decode cX3_minutesOf 28 = .ok (.getfield 36, 3) := by decide +kernel
theorem dX3_minutesOf_31 : decode cX3_minutesOf 31 = .ok (.aload_n 1, 1) := by decide +kernel
theorem dX3_minutesOf_32 : decode cX3_minutesOf 32 = .ok (.iload_n 3, 1) := by decide +kernel
theorem dX3_minutesOf_33 : decode cX3_minutesOf 33 = .ok (.iaload, 1) := by decide +kernel
theorem dX3_minutesOf_34 : decode cX3_minutesOf 34 = .ok (.aaload, 1) := by decide +kernel
theorem dX3_minutesOf_35 : decode cX3_minutesOf 35 = .ok (.aload_n 0, 1) := by decide +kernel
theorem dX3_minutesOf_36 : decode cX3_minutesOf 36 = .ok (.getfield 15, 3) := by decide +kernel
theorem dX3_minutesOf_39 : decode cX3_minutesOf 39 = .ok (.invokevirtual 114, 3) := by decide +kernel
theorem dX3_minutesOf_42 : decode cX3_minutesOf 42 = .ok (.invokestatic 81, 3) := by decide +kernel
theorem dX3_minutesOf_45 : decode cX3_minutesOf 45 = .ok (.istore_n 2, 1) := by decide +kernel
theorem dX3_minutesOf_46 : decode cX3_minutesOf 46 = .ok (.iinc 3 1, 3) := by decide +kernel
theorem dX3_minutesOf_49 : decode cX3_minutesOf 49 = .ok (.goto (-31), 3) := by decide +kernel
theorem dX3_minutesOf_52 : decode cX3_minutesOf 52 = .ok (.iload_n 2, 1) := by decide +kernel
theorem dX3_minutesOf_53 : decode cX3_minutesOf 53 = .ok (.ireturn, 1) := by decide +kernel
theorem dX3_bringOver_0 : decode cX3_bringOver 0 = .ok (.iconst 0, 1) := by decide +kernel
theorem dX3_bringOver_1 : decode cX3_bringOver 1 = .ok (.istore_n 2, 1) := by decide +kernel
theorem dX3_bringOver_2 : decode cX3_bringOver 2 = .ok (.iload_n 2, 1) := by decide +kernel
theorem dX3_bringOver_3 : decode cX3_bringOver 3 = .ok (.aload_n 0, 1) := by decide +kernel
theorem dX3_bringOver_4 : decode cX3_bringOver 4 = .ok (.getfield 9, 3) := by decide +kernel
theorem dX3_bringOver_7 : decode cX3_bringOver 7 = .ok (.if_icmp .ge 74, 3) := by decide +kernel
theorem dX3_bringOver_10 : decode cX3_bringOver 10 = .ok (.aload_n 0, 1) := by decide +kernel
theorem dX3_bringOver_11 : decode cX3_bringOver 11 = .ok (.getfield 31, 3) := by decide +kernel
theorem dX3_bringOver_14 : decode cX3_bringOver 14 = .ok (.iload_n 2, 1) := by decide +kernel
theorem dX3_bringOver_15 : decode cX3_bringOver 15 = .ok (.iaload, 1) := by decide +kernel
theorem dX3_bringOver_16 : decode cX3_bringOver 16 = .ok (.istore_n 3, 1) := by decide +kernel
theorem dX3_bringOver_17 : decode cX3_bringOver 17 = .ok (.aload_n 0, 1) := by decide +kernel
theorem dX3_bringOver_18 : decode cX3_bringOver 18 = .ok (.iload_n 3, 1) := by decide +kernel
theorem dX3_bringOver_19 : decode cX3_bringOver 19 = .ok (.invokevirtual 57, 3) := by decide +kernel
theorem dX3_bringOver_22 : decode cX3_bringOver 22 = .ok (.ifCond .eq 53, 3) := by decide +kernel
theorem dX3_bringOver_25 : decode cX3_bringOver 25 = .ok (.aload_n 0, 1) := by decide +kernel
theorem dX3_bringOver_26 : decode cX3_bringOver 26 = .ok (.getfield 36, 3) := by decide +kernel
theorem dX3_bringOver_29 : decode cX3_bringOver 29 = .ok (.iload_n 3, 1) := by decide +kernel
theorem dX3_bringOver_30 : decode cX3_bringOver 30 = .ok (.aaload, 1) := by decide +kernel
theorem dX3_bringOver_31 : decode cX3_bringOver 31 = .ok (.dup, 1) := by decide +kernel
theorem dX3_bringOver_32 : decode cX3_bringOver 32 = .ok (.getfield 117, 3) := by decide +kernel
theorem dX3_bringOver_35 : decode cX3_bringOver 35 = .ok (.aload_n 0, 1) := by decide +kernel
theorem dX3_bringOver_36 : decode cX3_bringOver 36 = .ok (.getfield 36, 3) := by decide +kernel
theorem dX3_bringOver_39 : decode cX3_bringOver 39 = .ok (.iload_n 3, 1) := by decide +kernel
theorem dX3_bringOver_40 : decode cX3_bringOver 40 = .ok (.aaload, 1) := by decide +kernel
theorem dX3_bringOver_41 : decode cX3_bringOver 41 = .ok (.aload_n 0, 1) := by decide +kernel
theorem dX3_bringOver_42 : decode cX3_bringOver 42 = .ok (.getfield 15, 3) := by decide +kernel
theorem dX3_bringOver_45 : decode cX3_bringOver 45 = .ok (.invokevirtual 120, 3) := by decide +kernel
theorem dX3_bringOver_48 : decode cX3_bringOver 48 = .ok (.isub, 1) := by decide +kernel
theorem dX3_bringOver_49 : decode cX3_bringOver 49 = .ok (.putfield 117, 3) := by decide +kernel
theorem dX3_bringOver_52 : decode cX3_bringOver 52 = .ok (.aload_n 0, 1) := by decide +kernel
theorem dX3_bringOver_53 : decode cX3_bringOver 53 = .ok (.iload_n 1, 1) := by decide +kernel
theorem dX3_bringOver_54 : decode cX3_bringOver 54 = .ok (.iload_n 3, 1) := by decide +kernel
theorem dX3_bringOver_55 : decode cX3_bringOver 55 = .ok (.invokevirtual 123, 3) := by decide +kernel
theorem dX3_bringOver_58 : decode cX3_bringOver 58 = .ok (.iconst 1, 1) := by decide +kernel
theorem dX3_bringOver_59 : decode cX3_bringOver 59 = .ok (.iadd, 1) := by decide +kernel
theorem dX3_bringOver_60 : decode cX3_bringOver 60 = .ok (.istore 4, 2) := by decide +kernel
theorem dX3_bringOver_62 : decode cX3_bringOver 62 = .ok (.aload_n 0, 1) := by decide +kernel
theorem dX3_bringOver_63 : decode cX3_bringOver 63 = .ok (.iload_n 1, 1) := by decide +kernel
theorem dX3_bringOver_64 : decode cX3_bringOver 64 = .ok (.iload_n 3, 1) := by decide +kernel
theorem dX3_bringOver_65 : decode cX3_bringOver 65 = .ok (.bipush 99, 2) := by decide +kernel
theorem dX3_bringOver_67 : decode cX3_bringOver 67 = .ok (.iload 4, 2) := by decide +kernel
theorem dX3_bringOver_69 : decode cX3_bringOver 69 = .ok (.invokestatic 81, 3) := by decide +kernel
theorem dX3_bringOver_72 : decode cX3_bringOver 72 = .ok (.invokevirtual 126, 3) := by decide +kernel
theorem dX3_bringOver_75 : decode cX3_bringOver 75 = .ok (.iinc 2 1, 3) := by decide +kernel
theorem dX3_bringOver_78 : decode cX3_bringOver 78 = .ok (.goto (-76), 3) := by decide +kernel
theorem dX3_bringOver_81 : decode cX3_bringOver 81 = .ok (.aload_n 0, 1) := by decide +kernel
theorem dX3_bringOver_82 : decode cX3_bringOver 82 = .ok (.getfield 36, 3) := by decide +kernel
theorem dX3_bringOver_85 : decode cX3_bringOver 85 = .ok (.iload_n 1, 1) := by decide +kernel
theorem dX3_bringOver_86 : decode cX3_bringOver 86 = .ok (.aaload, 1) := by decide +kernel
theorem dX3_bringOver_87 : decode cX3_bringOver 87 = .ok (.iconst 1, 1) := by decide +kernel
theorem dX3_bringOver_88 : decode cX3_bringOver 88 = .ok (.putfield 61, 3) := by decide +kernel
theorem dX3_bringOver_91 : decode cX3_bringOver 91 = .ok (.aload_n 0, 1) := by decide +kernel
theorem dX3_bringOver_92 : decode cX3_bringOver 92 = .ok (.dup, 1) := by decide +kernel
theorem dX3_bringOver_93 : decode cX3_bringOver 93 = .ok (.getfield 18, 3) := by decide +kernel
theorem dX3_bringOver_96 : decode cX3_bringOver 96 = .ok (.iconst 1, 1) := by decide +kernel
theorem dX3_bringOver_97 : decode cX3_bringOver 97 = .ok (.iadd, 1) := by decide +kernel
theorem dX3_bringOver_98 : decode cX3_bringOver 98 = .ok (.putfield 18, 3) := by decide +kernel
theorem dX3_bringOver_101 : decode cX3_bringOver 101 = .ok (.return_, 1) := by decide +kernel
theorem dX3_firstAmiss_0 : decode cX3_firstAmiss 0 = .ok (.iload_n 2, 1) := by decide +kernel
theorem dX3_firstAmiss_1 : decode cX3_firstAmiss 1 = .ok (.aload_n 0, 1) := by decide +kernel
theorem dX3_firstAmiss_2 : decode cX3_firstAmiss 2 = .ok (.getfield 9, 3) := by decide +kernel
theorem dX3_firstAmiss_5 : decode cX3_firstAmiss 5 = .ok (.invokestatic 81, 3) := by decide +kernel
theorem dX3_firstAmiss_8 : decode cX3_firstAmiss 8 = .ok (.istore_n 3, 1) := by decide +kernel
theorem dX3_firstAmiss_9 : decode cX3_firstAmiss 9 = .ok (.iconst 0, 1) := by decide +kernel
theorem dX3_firstAmiss_10 : decode cX3_firstAmiss 10 = .ok (.istore 4, 2) := by decide +kernel
theorem dX3_firstAmiss_12 : decode cX3_firstAmiss 12 = .ok (.iload 4, 2) := by decide +kernel
theorem dX3_firstAmiss_14 : decode cX3_firstAmiss 14 = .ok (.iload_n 3, 1) := by decide +kernel
theorem dX3_firstAmiss_15 : decode cX3_firstAmiss 15 = .ok (.if_icmp .ge 34, 3) := by decide +kernel
theorem dX3_firstAmiss_18 : decode cX3_firstAmiss 18 = .ok (.aload_n 0, 1) := by decide +kernel
theorem dX3_firstAmiss_19 : decode cX3_firstAmiss 19 = .ok (.aload_n 1, 1) := by decide +kernel
theorem dX3_firstAmiss_20 : decode cX3_firstAmiss 20 = .ok (.iload 4, 2) := by decide +kernel
theorem dX3_firstAmiss_22 : decode cX3_firstAmiss 22 = .ok (.invokevirtual 130, 3) := by decide +kernel
theorem dX3_firstAmiss_25 : decode cX3_firstAmiss 25 = .ok (.ifCond .eq 15, 3) := by decide +kernel
theorem dX3_firstAmiss_28 : decode cX3_firstAmiss 28 = .ok (.aload_n 0, 1) := by decide +kernel
theorem dX3_firstAmiss_29 : decode cX3_firstAmiss 29 = .ok (.aload_n 1, 1) := by decide +kernel
theorem dX3_firstAmiss_30 : decode cX3_firstAmiss 30 = .ok (.iload 4, 2) := by decide +kernel
theorem dX3_firstAmiss_32 : decode cX3_firstAmiss 32 = .ok (.invokevirtual 105, 3) := by decide +kernel
theorem dX3_firstAmiss_35 : decode cX3_firstAmiss 35 = .ok (.bipush (-9), 2) := by decide +kernel
theorem dX3_firstAmiss_37 : decode cX3_firstAmiss 37 = .ok (.if_icmp .eq 6, 3) := by decide +kernel
theorem dX3_firstAmiss_40 : decode cX3_firstAmiss 40 = .ok (.iload 4, 2) := by decide +kernel
theorem dX3_firstAmiss_42 : decode cX3_firstAmiss 42 = .ok (.ireturn, 1) := by decide +kernel
theorem dX3_firstAmiss_43 : decode cX3_firstAmiss 43 = .ok (.iinc 4 1, 3) := by decide +kernel
theorem dX3_firstAmiss_46 : decode cX3_firstAmiss 46 = .ok (.goto (-34), 3) := by decide +kernel
theorem dX3_firstAmiss_49 : decode cX3_firstAmiss 49 = .ok (.iload_n 2, 1) := by decide +kernel
theorem dX3_firstAmiss_50 : decode cX3_firstAmiss 50 = .ok (.aload_n 0, 1) := by decide +kernel
theorem dX3_firstAmiss_51 : decode cX3_firstAmiss 51 = .ok (.getfield 9, 3) := by decide +kernel
theorem dX3_firstAmiss_54 : decode cX3_firstAmiss 54 = .ok (.if_icmp .ne 8, 3) := by decide +kernel
theorem dX3_firstAmiss_57 : decode cX3_firstAmiss 57 = .ok (.bipush (-9), 2) := by decide +kernel
theorem dX3_firstAmiss_59 : decode cX3_firstAmiss 59 = .ok (.goto 4, 3) := by decide +kernel
theorem dX3_firstAmiss_62 : decode cX3_firstAmiss 62 = .ok (.iload_n 3, 1) := by decide +kernel
theorem dX3_firstAmiss_63 : decode cX3_firstAmiss 63 = .ok (.ireturn, 1) := by decide +kernel
theorem dX3_canCome_0 : decode cX3_canCome 0 = .ok (.aload_n 1, 1) := by decide +kernel
theorem dX3_canCome_1 : decode cX3_canCome 1 = .ok (.iload_n 2, 1) := by decide +kernel
theorem dX3_canCome_2 : decode cX3_canCome 2 = .ok (.iaload, 1) := by decide +kernel
theorem dX3_canCome_3 : decode cX3_canCome 3 = .ok (.istore_n 3, 1) := by decide +kernel
theorem dX3_canCome_4 : decode cX3_canCome 4 = .ok (.aload_n 0, 1) := by decide +kernel
theorem dX3_canCome_5 : decode cX3_canCome 5 = .ok (.iload_n 3, 1) := by decide +kernel
theorem dX3_canCome_6 : decode cX3_canCome 6 = .ok (.invokevirtual 57, 3) := by decide +kernel
theorem dX3_canCome_9 : decode cX3_canCome 9 = .ok (.ifCond .eq 15, 3) := by decide +kernel
theorem dX3_canCome_12 : decode cX3_canCome 12 = .ok (.aload_n 0, 1) := by decide +kernel
theorem dX3_canCome_13 : decode cX3_canCome 13 = .ok (.getfield 36, 3) := by decide +kernel
theorem dX3_canCome_16 : decode cX3_canCome 16 = .ok (.iload_n 3, 1) := by decide +kernel
theorem dX3_canCome_17 : decode cX3_canCome 17 = .ok (.aaload, 1) := by decide +kernel
theorem dX3_canCome_18 : decode cX3_canCome 18 = .ok (.getfield 61, 3) := by decide +kernel
theorem dX3_canCome_21 : decode cX3_canCome 21 = .ok (.ifCond .eq 5, 3) := by decide +kernel
theorem dX3_canCome_24 : decode cX3_canCome 24 = .ok (.iconst 0, 1) := by decide +kernel
theorem dX3_canCome_25 : decode cX3_canCome 25 = .ok (.ireturn, 1) := by decide +kernel
theorem dX3_canCome_26 : decode cX3_canCome 26 = .ok (.iconst 0, 1) := by decide +kernel
theorem dX3_canCome_27 : decode cX3_canCome 27 = .ok (.istore 4, 2) := by decide +kernel
theorem dX3_canCome_29 : decode cX3_canCome 29 = .ok (.iload 4, 2) := by decide +kernel
theorem dX3_canCome_31 : decode cX3_canCome 31 = .ok (.iload_n 2, 1) := by decide +kernel
theorem dX3_canCome_32 : decode cX3_canCome 32 = .ok (.if_icmp .ge 19, 3) := by decide +kernel
theorem dX3_canCome_35 : decode cX3_canCome 35 = .ok (.aload_n 1, 1) := by decide +kernel
theorem dX3_canCome_36 : decode cX3_canCome 36 = .ok (.iload 4, 2) := by decide +kernel
theorem dX3_canCome_38 : decode cX3_canCome 38 = .ok (.iaload, 1) := by decide +kernel
theorem dX3_canCome_39 : decode cX3_canCome 39 = .ok (.iload_n 3, 1) := by decide +kernel
theorem dX3_canCome_40 : decode cX3_canCome 40 = .ok (.if_icmp .ne 5, 3) := by decide +kernel
theorem dX3_canCome_43 : decode cX3_canCome 43 = .ok (.iconst 0, 1) := by decide +kernel
theorem dX3_canCome_44 : decode cX3_canCome 44 = .ok (.ireturn, 1) := by decide +kernel
theorem dX3_canCome_45 : decode cX3_canCome 45 = .ok (.iinc 4 1, 3) := by decide +kernel
theorem dX3_canCome_48 : decode cX3_canCome 48 = .ok (.goto (-19), 3) := by decide +kernel
theorem dX3_canCome_51 : decode cX3_canCome 51 = .ok (.iconst 1, 1) := by decide +kernel
theorem dX3_canCome_52 : decode cX3_canCome 52 = .ok (.ireturn, 1) := by decide +kernel
theorem dX3_hoursOf_0 : decode cX3_hoursOf 0 = .ok (.aload_n 0, 1) := by decide +kernel
theorem dX3_hoursOf_1 : decode cX3_hoursOf 1 = .ok (.getfield 43, 3) := by decide +kernel
theorem dX3_hoursOf_4 : decode cX3_hoursOf 4 = .ok (.iload_n 1, 1) := by decide +kernel
theorem dX3_hoursOf_5 : decode cX3_hoursOf 5 = .ok (.bipush 7, 2) := by decide +kernel
theorem dX3_hoursOf_7 : decode cX3_hoursOf 7 = .ok (.imul, 1) := by decide +kernel
theorem dX3_hoursOf_8 : decode cX3_hoursOf 8 = .ok (.iload_n 2, 1) := by decide +kernel
theorem dX3_hoursOf_9 : decode cX3_hoursOf 9 = .ok (.iadd, 1) := by decide +kernel
theorem dX3_hoursOf_10 : decode cX3_hoursOf 10 = .ok (.iaload, 1) := by decide +kernel
theorem dX3_hoursOf_11 : decode cX3_hoursOf 11 = .ok (.ireturn, 1) := by decide +kernel
theorem dX3_setHours_0 : decode cX3_setHours 0 = .ok (.aload_n 0, 1) := by decide +kernel
theorem dX3_setHours_1 : decode cX3_setHours 1 = .ok (.getfield 43, 3) := by decide +kernel
theorem dX3_setHours_4 : decode cX3_setHours 4 = .ok (.iload_n 1, 1) := by decide +kernel
theorem dX3_setHours_5 : decode cX3_setHours 5 = .ok (.bipush 7, 2) := by decide +kernel
theorem dX3_setHours_7 : decode cX3_setHours 7 = .ok (.imul, 1) := by decide +kernel
theorem dX3_setHours_8 : decode cX3_setHours 8 = .ok (.iload_n 2, 1) := by decide +kernel
theorem dX3_setHours_9 : decode cX3_setHours 9 = .ok (.iadd, 1) := by decide +kernel
theorem dX3_setHours_10 : decode cX3_setHours 10 = .ok (.iload_n 3, 1) := by decide +kernel
theorem dX3_setHours_11 : decode cX3_setHours 11 = .ok (.iastore, 1) := by decide +kernel
theorem dX3_setHours_12 : decode cX3_setHours 12 = .ok (.return_, 1) := by decide +kernel
theorem dX3_lessenHours_0 : decode cX3_lessenHours 0 = .ok (.aload_n 0, 1) := by decide +kernel
theorem dX3_lessenHours_1 : decode cX3_lessenHours 1 = .ok (.iload_n 1, 1) := by decide +kernel
theorem dX3_lessenHours_2 : decode cX3_lessenHours 2 = .ok (.iload_n 2, 1) := by decide +kernel
theorem dX3_lessenHours_3 : decode cX3_lessenHours 3 = .ok (.aload_n 0, 1) := by decide +kernel
theorem dX3_lessenHours_4 : decode cX3_lessenHours 4 = .ok (.iload_n 1, 1) := by decide +kernel
theorem dX3_lessenHours_5 : decode cX3_lessenHours 5 = .ok (.iload_n 2, 1) := by decide +kernel
theorem dX3_lessenHours_6 : decode cX3_lessenHours 6 = .ok (.invokevirtual 123, 3) := by decide +kernel
theorem dX3_lessenHours_9 : decode cX3_lessenHours 9 = .ok (.iload_n 3, 1) := by decide +kernel
theorem dX3_lessenHours_10 : decode cX3_lessenHours 10 = .ok (.isub, 1) := by decide +kernel
theorem dX3_lessenHours_11 : decode cX3_lessenHours 11 = .ok (.invokevirtual 126, 3) := by decide +kernel
theorem dX3_lessenHours_14 : decode cX3_lessenHours 14 = .ok (.return_, 1) := by decide +kernel
theorem dX3_allHours_0 : decode cX3_allHours 0 = .ok (.iconst 0, 1) := by decide +kernel
theorem dX3_allHours_1 : decode cX3_allHours 1 = .ok (.istore_n 1, 1) := by decide +kernel
theorem dX3_allHours_2 : decode cX3_allHours 2 = .ok (.iconst 0, 1) := by decide +kernel
theorem dX3_allHours_3 : decode cX3_allHours 3 = .ok (.istore_n 2, 1) := by decide +kernel
theorem dX3_allHours_4 : decode cX3_allHours 4 = .ok (.iload_n 2, 1) := by decide +kernel
theorem dX3_allHours_5 : decode cX3_allHours 5 = .ok (.bipush 49, 2) := by decide +kernel
theorem dX3_allHours_7 : decode cX3_allHours 7 = .ok (.if_icmp .ge 18, 3) := by decide +kernel
theorem dX3_allHours_10 : decode cX3_allHours 10 = .ok (.iload_n 1, 1) := by decide +kernel
theorem dX3_allHours_11 : decode cX3_allHours 11 = .ok (.aload_n 0, 1) := by decide +kernel
theorem dX3_allHours_12 : decode cX3_allHours 12 = .ok (.getfield 43, 3) := by decide +kernel
theorem dX3_allHours_15 : decode cX3_allHours 15 = .ok (.iload_n 2, 1) := by decide +kernel
theorem dX3_allHours_16 : decode cX3_allHours 16 = .ok (.iaload, 1) := by decide +kernel
theorem dX3_allHours_17 : decode cX3_allHours 17 = .ok (.iadd, 1) := by decide +kernel
theorem dX3_allHours_18 : decode cX3_allHours 18 = .ok (.istore_n 1, 1) := by decide +kernel
theorem dX3_allHours_19 : decode cX3_allHours 19 = .ok (.iinc 2 1, 3) := by decide +kernel
theorem dX3_allHours_22 : decode cX3_allHours 22 = .ok (.goto (-18), 3) := by decide +kernel
theorem dX3_allHours_25 : decode cX3_allHours 25 = .ok (.iload_n 1, 1) := by decide +kernel
theorem dX3_allHours_26 : decode cX3_allHours 26 = .ok (.ireturn, 1) := by decide +kernel
theorem dX3_strikeTwos_0 : decode cX3_strikeTwos 0 = .ok (.iconst 0, 1) := by decide +kernel
theorem dX3_strikeTwos_1 : decode cX3_strikeTwos 1 = .ok (.istore_n 1, 1) := by decide +kernel
theorem dX3_strikeTwos_2 : decode cX3_strikeTwos 2 = .ok (.iconst 0, 1) := by decide +kernel
theorem dX3_strikeTwos_3 : decode cX3_strikeTwos 3 = .ok (.istore_n 2, 1) := by decide +kernel
theorem dX3_strikeTwos_4 : decode cX3_strikeTwos 4 = .ok (.iload_n 2, 1) := by decide +kernel
