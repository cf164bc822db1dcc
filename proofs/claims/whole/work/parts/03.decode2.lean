theorem dX3_strikeTwos_5 : decode cX3_strikeTwos 5 = .ok (.aload_n 0, 1) := by decide +kernel
theorem dX3_strikeTwos_6 : decode cX3_strikeTwos 6 = .ok (.getfield 21, 3) := by decide +kernel
theorem dX3_strikeTwos_9 : decode cX3_strikeTwos 9 = .ok (.if_icmp .ge 68, 3) := by decide +kernel
theorem dX3_strikeTwos_12 : decode cX3_strikeTwos 12 = .ok (.iload_n 2, 1) := by decide +kernel
theorem dX3_strikeTwos_13 : decode cX3_strikeTwos 13 = .ok (.iconst 1, 1) := by decide +kernel
theorem dX3_strikeTwos_14 : decode cX3_strikeTwos 14 = .ok (.iadd, 1) := by decide +kernel
theorem dX3_strikeTwos_15 : decode cX3_strikeTwos 15 = .ok (.istore_n 3, 1) := by decide +kernel
theorem dX3_strikeTwos_16 : decode cX3_strikeTwos 16 = .ok (.iload_n 3, 1) := by decide +kernel
theorem dX3_strikeTwos_17 : decode cX3_strikeTwos 17 = .ok (.aload_n 0, 1) := by decide +kernel
theorem dX3_strikeTwos_18 : decode cX3_strikeTwos 18 = .ok (.getfield 21, 3) := by decide +kernel
theorem dX3_strikeTwos_21 : decode cX3_strikeTwos 21 = .ok (.if_icmp .ge 50, 3) := by decide +kernel
theorem dX3_strikeTwos_24 : decode cX3_strikeTwos 24 = .ok (.aload_n 0, 1) := by decide +kernel
theorem dX3_strikeTwos_25 : decode cX3_strikeTwos 25 = .ok (.iload_n 2, 1) := by decide +kernel
theorem dX3_strikeTwos_26 : decode cX3_strikeTwos 26 = .ok (.iload_n 3, 1) := by decide +kernel
theorem dX3_strikeTwos_27 : decode cX3_strikeTwos 27 = .ok (.invokevirtual 123, 3) := by decide +kernel
theorem dX3_strikeTwos_30 : decode cX3_strikeTwos 30 = .ok (.aload_n 0, 1) := by decide +kernel
theorem dX3_strikeTwos_31 : decode cX3_strikeTwos 31 = .ok (.iload_n 3, 1) := by decide +kernel
theorem dX3_strikeTwos_32 : decode cX3_strikeTwos 32 = .ok (.iload_n 2, 1) := by decide +kernel
theorem dX3_strikeTwos_33 : decode cX3_strikeTwos 33 = .ok (.invokevirtual 123, 3) := by decide +kernel
theorem dX3_strikeTwos_36 : decode cX3_strikeTwos 36 = .ok (.invokestatic 81, 3) := by decide +kernel
theorem dX3_strikeTwos_39 : decode cX3_strikeTwos 39 = .ok (.istore 4, 2) := by decide +kernel
theorem dX3_strikeTwos_41 : decode cX3_strikeTwos 41 = .ok (.iload 4, 2) := by decide +kernel
theorem dX3_strikeTwos_43 : decode cX3_strikeTwos 43 = .ok (.ifCond .le 22, 3) := by decide +kernel
theorem dX3_strikeTwos_46 : decode cX3_strikeTwos 46 = .ok (.aload_n 0, 1) := by decide +kernel
theorem dX3_strikeTwos_47 : decode cX3_strikeTwos 47 = .ok (.iload_n 2, 1) := by decide +kernel
theorem dX3_strikeTwos_48 : decode cX3_strikeTwos 48 = .ok (.iload_n 3, 1) := by decide +kernel
theorem dX3_strikeTwos_49 : decode cX3_strikeTwos 49 = .ok (.iload 4, 2) := by decide +kernel
theorem dX3_strikeTwos_51 : decode cX3_strikeTwos 51 = .ok (.invokevirtual 134, 3) := by decide +kernel
theorem dX3_strikeTwos_54 : decode cX3_strikeTwos 54 = .ok (.aload_n 0, 1) := by decide +kernel
theorem dX3_strikeTwos_55 : decode cX3_strikeTwos 55 = .ok (.iload_n 3, 1) := by decide +kernel
theorem dX3_strikeTwos_56 : decode cX3_strikeTwos 56 = .ok (.iload_n 2, 1) := by decide +kernel
theorem dX3_strikeTwos_57 : decode cX3_strikeTwos 57 = .ok (.iload 4, 2) := by decide +kernel
theorem dX3_strikeTwos_59 : decode cX3_strikeTwos 59 = .ok (.invokevirtual 134, 3) := by decide +kernel
theorem dX3_strikeTwos_62 : decode cX3_strikeTwos 62 = .ok (.iinc 1 1, 3) := by decide +kernel
theorem dX3_strikeTwos_65 : decode cX3_strikeTwos 65 = .ok (.iinc 3 1, 3) := by decide +kernel
theorem dX3_strikeTwos_68 : decode cX3_strikeTwos 68 = .ok (.goto (-52), 3) := by decide +kernel
theorem dX3_strikeTwos_71 : decode cX3_strikeTwos 71 = .ok (.iinc 2 1, 3) := by decide +kernel
theorem dX3_strikeTwos_74 : decode cX3_strikeTwos 74 = .ok (.goto (-70), 3) := by decide +kernel
theorem dX3_strikeTwos_77 : decode cX3_strikeTwos 77 = .ok (.iload_n 1, 1) := by decide +kernel
theorem dX3_strikeTwos_78 : decode cX3_strikeTwos 78 = .ok (.ireturn, 1) := by decide +kernel
theorem dX3_strikeThrees_0 : decode cX3_strikeThrees 0 = .ok (.iconst 0, 1) := by decide +kernel
theorem dX3_strikeThrees_1 : decode cX3_strikeThrees 1 = .ok (.istore_n 1, 1) := by decide +kernel
theorem dX3_strikeThrees_2 : decode cX3_strikeThrees 2 = .ok (.iconst 0, 1) := by decide +kernel
theorem dX3_strikeThrees_3 : decode cX3_strikeThrees 3 = .ok (.istore_n 2, 1) := by decide +kernel
theorem dX3_strikeThrees_4 : decode cX3_strikeThrees 4 = .ok (.iload_n 2, 1) := by decide +kernel
theorem dX3_strikeThrees_5 : decode cX3_strikeThrees 5 = .ok (.aload_n 0, 1) := by decide +kernel
theorem dX3_strikeThrees_6 : decode cX3_strikeThrees 6 = .ok (.getfield 21, 3) := by decide +kernel
theorem dX3_strikeThrees_9 : decode cX3_strikeThrees 9 = .ok (.if_icmp .ge 68, 3) := by decide +kernel
theorem dX3_strikeThrees_12 : decode cX3_strikeThrees 12 = .ok (.iload_n 2, 1) := by decide +kernel
theorem dX3_strikeThrees_13 : decode cX3_strikeThrees 13 = .ok (.iconst 1, 1) := by decide +kernel
theorem dX3_strikeThrees_14 : decode cX3_strikeThrees 14 = .ok (.iadd, 1) := by decide +kernel
theorem dX3_strikeThrees_15 : decode cX3_strikeThrees 15 = .ok (.istore_n 3, 1) := by decide +kernel
theorem dX3_strikeThrees_16 : decode cX3_strikeThrees 16 = .ok (.iload_n 3, 1) := by decide +kernel
theorem dX3_strikeThrees_17 : decode cX3_strikeThrees 17 = .ok (.aload_n 0, 1) := by decide +kernel
theorem dX3_strikeThrees_18 : decode cX3_strikeThrees 18 = .ok (.getfield 21, 3) := by decide +kernel
theorem dX3_strikeThrees_21 : decode cX3_strikeThrees 21 = .ok (.if_icmp .ge 50, 3) := by decide +kernel
theorem dX3_strikeThrees_24 : decode cX3_strikeThrees 24 = .ok (.iload_n 2, 1) := by decide +kernel
theorem dX3_strikeThrees_25 : decode cX3_strikeThrees 25 = .ok (.iconst 1, 1) := by decide +kernel
theorem dX3_strikeThrees_26 : decode cX3_strikeThrees 26 = .ok (.iadd, 1) := by decide +kernel
theorem dX3_strikeThrees_27 : decode cX3_strikeThrees 27 = .ok (.istore 4, 2) := by decide +kernel
theorem dX3_strikeThrees_29 : decode cX3_strikeThrees 29 = .ok (.iload 4, 2) := by decide +kernel
theorem dX3_strikeThrees_31 : decode cX3_strikeThrees 31 = .ok (.aload_n 0, 1) := by decide +kernel
theorem dX3_strikeThrees_32 : decode cX3_strikeThrees 32 = .ok (.getfield 21, 3) := by decide +kernel
theorem dX3_strikeThrees_35 : decode cX3_strikeThrees 35 = .ok (.if_icmp .ge 30, 3) := by decide +kernel
theorem dX3_strikeThrees_38 : decode cX3_strikeThrees 38 = .ok (.iload_n 1, 1) := by decide +kernel
theorem dX3_strikeThrees_39 : decode cX3_strikeThrees 39 = .ok (.iload 4, 2) := by decide +kernel
theorem dX3_strikeThrees_41 : decode cX3_strikeThrees 41 = .ok (.iload_n 3, 1) := by decide +kernel
theorem dX3_strikeThrees_42 : decode cX3_strikeThrees 42 = .ok (.if_icmp .ne 7, 3) := by decide +kernel
theorem dX3_strikeThrees_45 : decode cX3_strikeThrees 45 = .ok (.iconst 0, 1) := by decide +kernel
theorem dX3_strikeThrees_46 : decode cX3_strikeThrees 46 = .ok (.goto 11, 3) := by decide +kernel
theorem dX3_strikeThrees_49 : decode cX3_strikeThrees 49 = .ok (.aload_n 0, 1) := by decide +kernel
theorem dX3_strikeThrees_50 : decode cX3_strikeThrees 50 = .ok (.iload_n 2, 1) := by decide +kernel
theorem dX3_strikeThrees_51 : decode cX3_strikeThrees 51 = .ok (.iload_n 3, 1) := by decide +kernel
theorem dX3_strikeThrees_52 : decode cX3_strikeThrees 52 = .ok (.iload 4, 2) := by decide +kernel
theorem dX3_strikeThrees_54 : decode cX3_strikeThrees 54 = .ok (.invokevirtual 137, 3) := by decide +kernel
theorem dX3_strikeThrees_57 : decode cX3_strikeThrees 57 = .ok (.iadd, 1) := by decide +kernel
theorem dX3_strikeThrees_58 : decode cX3_strikeThrees 58 = .ok (.istore_n 1, 1) := by decide +kernel
theorem dX3_strikeThrees_59 : decode cX3_strikeThrees 59 = .ok (.iinc 4 1, 3) := by decide +kernel
theorem dX3_strikeThrees_62 : decode cX3_strikeThrees 62 = .ok (.goto (-33), 3) := by decide +kernel
theorem dX3_strikeThrees_65 : decode cX3_strikeThrees 65 = .ok (.iinc 3 1, 3) := by decide +kernel
theorem dX3_strikeThrees_68 : decode cX3_strikeThrees 68 = .ok (.goto (-52), 3) := by decide +kernel
theorem dX3_strikeThrees_71 : decode cX3_strikeThrees 71 = .ok (.iinc 2 1, 3) := by decide +kernel
theorem dX3_strikeThrees_74 : decode cX3_strikeThrees 74 = .ok (.goto (-70), 3) := by decide +kernel
theorem dX3_strikeThrees_77 : decode cX3_strikeThrees 77 = .ok (.iload_n 1, 1) := by decide +kernel
theorem dX3_strikeThrees_78 : decode cX3_strikeThrees 78 = .ok (.ireturn, 1) := by decide +kernel
theorem dX3_strikeThree_0 : decode cX3_strikeThree 0 = .ok (.aload_n 0, 1) := by decide +kernel
theorem dX3_strikeThree_1 : decode cX3_strikeThree 1 = .ok (.iload_n 1, 1) := by decide +kernel
theorem dX3_strikeThree_2 : decode cX3_strikeThree 2 = .ok (.iload_n 2, 1) := by decide +kernel
theorem dX3_strikeThree_3 : decode cX3_strikeThree 3 = .ok (.invokevirtual 123, 3) := by decide +kernel
theorem dX3_strikeThree_6 : decode cX3_strikeThree 6 = .ok (.aload_n 0, 1) := by decide +kernel
theorem dX3_strikeThree_7 : decode cX3_strikeThree 7 = .ok (.iload_n 2, 1) := by decide +kernel
theorem dX3_strikeThree_8 : decode cX3_strikeThree 8 = .ok (.iload_n 3, 1) := by decide +kernel
theorem dX3_strikeThree_9 : decode cX3_strikeThree 9 = .ok (.invokevirtual 123, 3) := by decide +kernel
theorem dX3_strikeThree_12 : decode cX3_strikeThree 12 = .ok (.aload_n 0, 1) := by decide +kernel
theorem dX3_strikeThree_13 : decode cX3_strikeThree 13 = .ok (.iload_n 3, 1) := by decide +kernel
theorem dX3_strikeThree_14 : decode cX3_strikeThree 14 = .ok (.iload_n 1, 1) := by decide +kernel
theorem dX3_strikeThree_15 : decode cX3_strikeThree 15 = .ok (.invokevirtual 123, 3) := by decide +kernel
theorem dX3_strikeThree_18 : decode cX3_strikeThree 18 = .ok (.invokestatic 81, 3) := by decide +kernel
theorem dX3_strikeThree_21 : decode cX3_strikeThree 21 = .ok (.invokestatic 81, 3) := by decide +kernel
theorem dX3_strikeThree_24 : decode cX3_strikeThree 24 = .ok (.istore 4, 2) := by decide +kernel
theorem dX3_strikeThree_26 : decode cX3_strikeThree 26 = .ok (.iload 4, 2) := by decide +kernel
theorem dX3_strikeThree_28 : decode cX3_strikeThree 28 = .ok (.ifCond .gt 5, 3) := by decide +kernel
theorem dX3_strikeThree_31 : decode cX3_strikeThree 31 = .ok (.iconst 0, 1) := by decide +kernel
theorem dX3_strikeThree_32 : decode cX3_strikeThree 32 = .ok (.ireturn, 1) := by decide +kernel
theorem dX3_strikeThree_33 : decode cX3_strikeThree 33 = .ok (.aload_n 0, 1) := by decide +kernel
theorem dX3_strikeThree_34 : decode cX3_strikeThree 34 = .ok (.iload_n 1, 1) := by decide +kernel
theorem dX3_strikeThree_35 : decode cX3_strikeThree 35 = .ok (.iload_n 2, 1) := by decide +kernel
theorem dX3_strikeThree_36 : decode cX3_strikeThree 36 = .ok (.iload 4, 2) := by decide +kernel
theorem dX3_strikeThree_38 : decode cX3_strikeThree 38 = .ok (.invokevirtual 134, 3) := by decide +kernel
theorem dX3_strikeThree_41 : decode cX3_strikeThree 41 = .ok (.aload_n 0, 1) := by decide +kernel
theorem dX3_strikeThree_42 : decode cX3_strikeThree 42 = .ok (.iload_n 2, 1) := by decide +kernel
theorem dX3_strikeThree_43 : decode cX3_strikeThree 43 = .ok (.iload_n 3, 1) := by decide +kernel
theorem dX3_strikeThree_44 : decode cX3_strikeThree 44 = .ok (.iload 4, 2) := by decide +kernel
theorem dX3_strikeThree_46 : decode cX3_strikeThree 46 = .ok (.invokevirtual 134, 3) := by decide +kernel
theorem dX3_strikeThree_49 : decode cX3_strikeThree 49 = .ok (.aload_n 0, 1) := by decide +kernel
theorem dX3_strikeThree_50 : decode cX3_strikeThree 50 = .ok (.iload_n 3, 1) := by decide +kernel
theorem dX3_strikeThree_51 : decode cX3_strikeThree 51 = .ok (.iload_n 1, 1) := by decide +kernel
theorem dX3_strikeThree_52 : decode cX3_strikeThree 52 = .ok (.iload 4, 2) := by decide +kernel
theorem dX3_strikeThree_54 : decode cX3_strikeThree 54 = .ok (.invokevirtual 134, 3) := by decide +kernel
theorem dX3_strikeThree_57 : decode cX3_strikeThree 57 = .ok (.iconst 1, 1) := by decide +kernel
theorem dX3_strikeThree_58 : decode cX3_strikeThree 58 = .ok (.ireturn, 1) := by decide +kernel
theorem dX3_tellYards_0 : decode cX3_tellYards 0 = .ok (.iload_n 1, 1) := by decide +kernel
theorem dX3_tellYards_1 : decode cX3_tellYards 1 = .ok (.iconst 1, 1) := by decide +kernel
theorem dX3_tellYards_2 : decode cX3_tellYards 2 = .ok (.if_icmp .lt 8, 3) := by decide +kernel
theorem dX3_tellYards_5 : decode cX3_tellYards 5 = .ok (.iload_n 1, 1) := by decide +kernel
theorem dX3_tellYards_6 : decode cX3_tellYards 6 = .ok (.iconst 5, 1) := by decide +kernel
theorem dX3_tellYards_7 : decode cX3_tellYards 7 = .ok (.if_icmp .le 5, 3) := by decide +kernel
theorem dX3_tellYards_10 : decode cX3_tellYards 10 = .ok (.iconst 0, 1) := by decide +kernel
theorem dX3_tellYards_11 : decode cX3_tellYards 11 = .ok (.ireturn, 1) := by decide +kernel
theorem dX3_tellYards_12 : decode cX3_tellYards 12 = .ok (.aload_n 0, 1) := by decide +kernel
theorem dX3_tellYards_13 : decode cX3_tellYards 13 = .ok (.iload_n 1, 1) := by decide +kernel
theorem dX3_tellYards_14 : decode cX3_tellYards 14 = .ok (.putfield 9, 3) := by decide +kernel
theorem dX3_tellYards_17 : decode cX3_tellYards 17 = .ok (.iconst 0, 1) := by decide +kernel
theorem dX3_tellYards_18 : decode cX3_tellYards 18 = .ok (.istore_n 2, 1) := by decide +kernel
theorem dX3_tellYards_19 : decode cX3_tellYards 19 = .ok (.iload_n 2, 1) := by decide +kernel
theorem dX3_tellYards_20 : decode cX3_tellYards 20 = .ok (.iconst 5, 1) := by decide +kernel
theorem dX3_tellYards_21 : decode cX3_tellYards 21 = .ok (.if_icmp .ge 23, 3) := by decide +kernel
theorem dX3_tellYards_24 : decode cX3_tellYards 24 = .ok (.aload_n 0, 1) := by decide +kernel
theorem dX3_tellYards_25 : decode cX3_tellYards 25 = .ok (.getfield 24, 3) := by decide +kernel
theorem dX3_tellYards_28 : decode cX3_tellYards 28 = .ok (.iload_n 2, 1) := by decide +kernel
theorem dX3_tellYards_29 : decode cX3_tellYards 29 = .ok (.iconst 2, 1) := by decide +kernel
theorem dX3_tellYards_30 : decode cX3_tellYards 30 = .ok (.iastore, 1) := by decide +kernel
theorem dX3_tellYards_31 : decode cX3_tellYards 31 = .ok (.aload_n 0, 1) := by decide +kernel
theorem dX3_tellYards_32 : decode cX3_tellYards 32 = .ok (.getfield 28, 3) := by decide +kernel
theorem dX3_tellYards_35 : decode cX3_tellYards 35 = .ok (.iload_n 2, 1) := by decide +kernel
theorem dX3_tellYards_36 : decode cX3_tellYards 36 = .ok (.iconst 2, 1) := by decide +kernel
theorem dX3_tellYards_37 : decode cX3_tellYards 37 = .ok (.iastore, 1) := by decide +kernel
theorem dX3_tellYards_38 : decode cX3_tellYards 38 = .ok (.iinc 2 1, 3) := by decide +kernel
theorem dX3_tellYards_41 : decode cX3_tellYards 41 = .ok (.goto (-22), 3) := by decide +kernel
theorem dX3_tellYards_44 : decode cX3_tellYards 44 = .ok (.aload_n 0, 1) := by decide +kernel
theorem dX3_tellYards_45 : decode cX3_tellYards 45 = .ok (.invokevirtual 141, 3) := by decide +kernel
theorem dX3_tellYards_48 : decode cX3_tellYards 48 = .ok (.iconst 1, 1) := by decide +kernel
theorem dX3_tellYards_49 : decode cX3_tellYards 49 = .ok (.ireturn, 1) := by decide +kernel
theorem dX3_tellYard_0 : decode cX3_tellYard 0 = .ok (.aload_n 0, 1) := by decide +kernel
theorem dX3_tellYard_1 : decode cX3_tellYard 1 = .ok (.iload_n 1, 1) := by decide +kernel
theorem dX3_tellYard_2 : decode cX3_tellYard 2 = .ok (.invokevirtual 144, 3) := by decide +kernel
theorem dX3_tellYard_5 : decode cX3_tellYard 5 = .ok (.ifCond .ne 5, 3) := by decide +kernel
theorem dX3_tellYard_8 : decode cX3_tellYard 8 = .ok (.iconst 0, 1) := by decide +kernel
theorem dX3_tellYard_9 : decode cX3_tellYard 9 = .ok (.ireturn, 1) := by decide +kernel
theorem dX3_tellYard_10 : decode cX3_tellYard 10 = .ok (.aload_n 0, 1) := by decide +kernel
theorem dX3_tellYard_11 : decode cX3_tellYard 11 = .ok (.getfield 24, 3) := by decide +kernel
theorem dX3_tellYard_14 : decode cX3_tellYard 14 = .ok (.iload_n 1, 1) := by decide +kernel
theorem dX3_tellYard_15 : decode cX3_tellYard 15 = .ok (.iload_n 2, 1) := by decide +kernel
theorem dX3_tellYard_16 : decode cX3_tellYard 16 = .ok (.iastore, 1) := by decide +kernel
theorem dX3_tellYard_17 : decode cX3_tellYard 17 = .ok (.aload_n 0, 1) := by decide +kernel
theorem dX3_tellYard_18 : decode cX3_tellYard 18 = .ok (.getfield 28, 3) := by decide +kernel
theorem dX3_tellYard_21 : decode cX3_tellYard 21 = .ok (.iload_n 1, 1) := by decide +kernel
theorem dX3_tellYard_22 : decode cX3_tellYard 22 = .ok (.iload_n 3, 1) := by decide +kernel
theorem dX3_tellYard_23 : decode cX3_tellYard 23 = .ok (.iastore, 1) := by decide +kernel
theorem dX3_tellYard_24 : decode cX3_tellYard 24 = .ok (.iconst 1, 1) := by decide +kernel
theorem dX3_tellYard_25 : decode cX3_tellYard 25 = .ok (.ireturn, 1) := by decide +kernel
theorem dX3_tellPerson_0 : decode cX3_tellPerson 0 = .ok (.iload_n 1, 1) := by decide +kernel
theorem dX3_tellPerson_1 : decode cX3_tellPerson 1 = .ok (.iconst 5, 1) := by decide +kernel
theorem dX3_tellPerson_2 : decode cX3_tellPerson 2 = .ok (.if_icmp .gt 12, 3) := by decide +kernel
theorem dX3_tellPerson_5 : decode cX3_tellPerson 5 = .ok (.aload_n 0, 1) := by decide +kernel
theorem dX3_tellPerson_6 : decode cX3_tellPerson 6 = .ok (.getfield 21, 3) := by decide +kernel
theorem dX3_tellPerson_9 : decode cX3_tellPerson 9 = .ok (.bipush 7, 2) := by decide +kernel
theorem dX3_tellPerson_11 : decode cX3_tellPerson 11 = .ok (.if_icmp .lt 5, 3) := by decide +kernel
theorem dX3_tellPerson_14 : decode cX3_tellPerson 14 = .ok (.iconst 0, 1) := by decide +kernel
theorem dX3_tellPerson_15 : decode cX3_tellPerson 15 = .ok (.ireturn, 1) := by decide +kernel
theorem dX3_tellPerson_16 : decode cX3_tellPerson 16 = .ok (.aload_n 0, 1) := by decide +kernel
theorem dX3_tellPerson_17 : decode cX3_tellPerson 17 = .ok (.getfield 36, 3) := by decide +kernel
theorem dX3_tellPerson_20 : decode cX3_tellPerson 20 = .ok (.aload_n 0, 1) := by decide +kernel
theorem dX3_tellPerson_21 : decode cX3_tellPerson 21 = .ok (.getfield 21, 3) := by decide +kernel
theorem dX3_tellPerson_24 : decode cX3_tellPerson 24 = .ok (.aaload, 1) := by decide +kernel
theorem dX3_tellPerson_25 : decode cX3_tellPerson 25 = .ok (.astore 6, 2) := by decide +kernel
theorem dX3_tellPerson_27 : decode cX3_tellPerson 27 = .ok (.aload 6, 2) := by decide +kernel
theorem dX3_tellPerson_29 : decode cX3_tellPerson 29 = .ok (.iload_n 1, 1) := by decide +kernel
theorem dX3_tellPerson_30 : decode cX3_tellPerson 30 = .ok (.putfield 147, 3) := by decide +kernel
theorem dX3_tellPerson_33 : decode cX3_tellPerson 33 = .ok (.aload 6, 2) := by decide +kernel
theorem dX3_tellPerson_35 : decode cX3_tellPerson 35 = .ok (.iload_n 2, 1) := by decide +kernel
theorem dX3_tellPerson_36 : decode cX3_tellPerson 36 = .ok (.putfield 150, 3) := by decide +kernel
theorem dX3_tellPerson_39 : decode cX3_tellPerson 39 = .ok (.aload 6, 2) := by decide +kernel
theorem dX3_tellPerson_41 : decode cX3_tellPerson 41 = .ok (.iload_n 3, 1) := by decide +kernel
theorem dX3_tellPerson_42 : decode cX3_tellPerson 42 = .ok (.putfield 153, 3) := by decide +kernel
theorem dX3_tellPerson_45 : decode cX3_tellPerson 45 = .ok (.aload 6, 2) := by decide +kernel
theorem dX3_tellPerson_47 : decode cX3_tellPerson 47 = .ok (.iload 4, 2) := by decide +kernel
theorem dX3_tellPerson_49 : decode cX3_tellPerson 49 = .ok (.putfield 156, 3) := by decide +kernel
theorem dX3_tellPerson_52 : decode cX3_tellPerson 52 = .ok (.aload 6, 2) := by decide +kernel
theorem dX3_tellPerson_54 : decode cX3_tellPerson 54 = .ok (.iload 5, 2) := by decide +kernel
theorem dX3_tellPerson_56 : decode cX3_tellPerson 56 = .ok (.putfield 117, 3) := by decide +kernel
theorem dX3_tellPerson_59 : decode cX3_tellPerson 59 = .ok (.aload 6, 2) := by decide +kernel
theorem dX3_tellPerson_61 : decode cX3_tellPerson 61 = .ok (.iconst 0, 1) := by decide +kernel
theorem dX3_tellPerson_62 : decode cX3_tellPerson 62 = .ok (.putfield 61, 3) := by decide +kernel
theorem dX3_tellPerson_65 : decode cX3_tellPerson 65 = .ok (.aload_n 0, 1) := by decide +kernel
theorem dX3_tellPerson_66 : decode cX3_tellPerson 66 = .ok (.dup, 1) := by decide +kernel
theorem dX3_tellPerson_67 : decode cX3_tellPerson 67 = .ok (.getfield 21, 3) := by decide +kernel
theorem dX3_tellPerson_70 : decode cX3_tellPerson 70 = .ok (.iconst 1, 1) := by decide +kernel
theorem dX3_tellPerson_71 : decode cX3_tellPerson 71 = .ok (.iadd, 1) := by decide +kernel
theorem dX3_tellPerson_72 : decode cX3_tellPerson 72 = .ok (.putfield 21, 3) := by decide +kernel
theorem dX3_tellPerson_75 : decode cX3_tellPerson 75 = .ok (.iconst 1, 1) := by decide +kernel
theorem dX3_tellPerson_76 : decode cX3_tellPerson 76 = .ok (.ireturn, 1) := by decide +kernel
theorem dX3_tellGrudge_0 : decode cX3_tellGrudge 0 = .ok (.aload_n 0, 1) := by decide +kernel
theorem dX3_tellGrudge_1 : decode cX3_tellGrudge 1 = .ok (.iload_n 1, 1) := by decide +kernel
theorem dX3_tellGrudge_2 : decode cX3_tellGrudge 2 = .ok (.iload_n 2, 1) := by decide +kernel
theorem dX3_tellGrudge_3 : decode cX3_tellGrudge 3 = .ok (.invokevirtual 159, 3) := by decide +kernel
theorem dX3_tellGrudge_6 : decode cX3_tellGrudge 6 = .ok (.ifCond .ne 5, 3) := by decide +kernel
theorem dX3_tellGrudge_9 : decode cX3_tellGrudge 9 = .ok (.iconst 0, 1) := by decide +kernel
theorem dX3_tellGrudge_10 : decode cX3_tellGrudge 10 = .ok (.ireturn, 1) := by decide +kernel
theorem dX3_tellGrudge_11 : decode cX3_tellGrudge 11 = .ok (.aload_n 0, 1) := by decide +kernel
theorem dX3_tellGrudge_12 : decode cX3_tellGrudge 12 = .ok (.iload_n 1, 1) := by decide +kernel
theorem dX3_tellGrudge_13 : decode cX3_tellGrudge 13 = .ok (.iload_n 2, 1) := by decide +kernel
theorem dX3_tellGrudge_14 : decode cX3_tellGrudge 14 = .ok (.iconst 1, 1) := by decide +kernel
theorem dX3_tellGrudge_15 : decode cX3_tellGrudge 15 = .ok (.aload_n 0, 1) := by decide +kernel
theorem dX3_tellGrudge_16 : decode cX3_tellGrudge 16 = .ok (.iload_n 1, 1) := by decide +kernel
theorem dX3_tellGrudge_17 : decode cX3_tellGrudge 17 = .ok (.iload_n 2, 1) := by decide +kernel
theorem dX3_tellGrudge_18 : decode cX3_tellGrudge 18 = .ok (.invokevirtual 102, 3) := by decide +kernel
theorem dX3_tellGrudge_21 : decode cX3_tellGrudge 21 = .ok (.isub, 1) := by decide +kernel
theorem dX3_tellGrudge_22 : decode cX3_tellGrudge 22 = .ok (.invokevirtual 163, 3) := by decide +kernel
theorem dX3_tellGrudge_25 : decode cX3_tellGrudge 25 = .ok (.iconst 1, 1) := by decide +kernel
theorem dX3_tellGrudge_26 : decode cX3_tellGrudge 26 = .ok (.ireturn, 1) := by decide +kernel
theorem dX3_tellIn_0 : decode cX3_tellIn 0 = .ok (.aload_n 0, 1) := by decide +kernel
theorem dX3_tellIn_1 : decode cX3_tellIn 1 = .ok (.iload_n 1, 1) := by decide +kernel
theorem dX3_tellIn_2 : decode cX3_tellIn 2 = .ok (.invokevirtual 144, 3) := by decide +kernel
theorem dX3_tellIn_5 : decode cX3_tellIn 5 = .ok (.ifCond .eq 23, 3) := by decide +kernel
theorem dX3_tellIn_8 : decode cX3_tellIn 8 = .ok (.aload_n 0, 1) := by decide +kernel
theorem dX3_tellIn_9 : decode cX3_tellIn 9 = .ok (.iload_n 2, 1) := by decide +kernel
theorem dX3_tellIn_10 : decode cX3_tellIn 10 = .ok (.invokevirtual 57, 3) := by decide +kernel
theorem dX3_tellIn_13 : decode cX3_tellIn 13 = .ok (.ifCond .eq 15, 3) := by decide +kernel
theorem dX3_tellIn_16 : decode cX3_tellIn 16 = .ok (.aload_n 0, 1) := by decide +kernel
theorem dX3_tellIn_17 : decode cX3_tellIn 17 = .ok (.getfield 36, 3) := by decide +kernel
theorem dX3_tellIn_20 : decode cX3_tellIn 20 = .ok (.iload_n 2, 1) := by decide +kernel
theorem dX3_tellIn_21 : decode cX3_tellIn 21 = .ok (.aaload, 1) := by decide +kernel
theorem dX3_tellIn_22 : decode cX3_tellIn 22 = .ok (.getfield 61, 3) := by decide +kernel
theorem dX3_tellIn_25 : decode cX3_tellIn 25 = .ok (.ifCond .eq 5, 3) := by decide +kernel
theorem dX3_tellIn_28 : decode cX3_tellIn 28 = .ok (.iconst 0, 1) := by decide +kernel
theorem dX3_tellIn_29 : decode cX3_tellIn 29 = .ok (.ireturn, 1) := by decide +kernel
theorem dX3_tellIn_30 : decode cX3_tellIn 30 = .ok (.aload_n 0, 1) := by decide +kernel
theorem dX3_tellIn_31 : decode cX3_tellIn 31 = .ok (.iload_n 1, 1) := by decide +kernel
theorem dX3_tellIn_32 : decode cX3_tellIn 32 = .ok (.iload_n 2, 1) := by decide +kernel
theorem dX3_tellIn_33 : decode cX3_tellIn 33 = .ok (.invokevirtual 166, 3) := by decide +kernel
theorem dX3_tellIn_36 : decode cX3_tellIn 36 = .ok (.iconst 1, 1) := by decide +kernel
theorem dX3_tellIn_37 : decode cX3_tellIn 37 = .ok (.ireturn, 1) := by decide +kernel
theorem dX4_init_0 : decode cX4_init 0 = .ok (.aload_n 0, 1) := by decide +kernel
theorem dX4_init_1 : decode cX4_init 1 = .ok (.invokespecial 1, 3) := by decide +kernel
theorem dX4_init_4 : decode cX4_init 4 = .ok (.aload_n 0, 1) := by decide +kernel
theorem dX4_init_5 : decode cX4_init 5 = .ok (.new 7, 3) := by decide +kernel
theorem dX4_init_8 : decode cX4_init 8 = .ok (.dup, 1) := by decide +kernel
theorem dX4_init_9 : decode cX4_init 9 = .ok (.invokespecial 9, 3) := by decide +kernel
theorem dX4_init_12 : decode cX4_init 12 = .ok (.putfield 10, 3) := by decide +kernel
theorem dX4_init_15 : decode cX4_init 15 = .ok (.aload_n 0, 1) := by decide +kernel
theorem dX4_init_16 : decode cX4_init 16 = .ok (.new 7, 3) := by decide +kernel
theorem dX4_init_19 : decode cX4_init 19 = .ok (.dup, 1) := by decide +kernel
theorem dX4_init_20 : decode cX4_init 20 = .ok (.invokespecial 9, 3) := by decide +kernel
theorem dX4_init_23 : decode cX4_init 23 = .ok (.putfield 16, 3) := by decide +kernel
theorem dX4_init_26 : decode cX4_init 26 = .ok (.aload_n 0, 1) := by decide +kernel
theorem dX4_init_27 : decode cX4_init 27 = .ok (.new 7, 3) := by decide +kernel
theorem dX4_init_30 : decode cX4_init 30 = .ok (.dup, 1) := by decide +kernel
theorem dX4_init_31 : decode cX4_init 31 = .ok (.invokespecial 9, 3) := by decide +kernel
theorem dX4_init_34 : decode cX4_init 34 = .ok (.putfield 19, 3) := by decide +kernel
theorem dX4_init_37 : decode cX4_init 37 = .ok (.aload_n 0, 1) := by decide +kernel
theorem dX4_init_38 : decode cX4_init 38 = .ok (.iconst 0, 1) := by decide +kernel
theorem dX4_init_39 : decode cX4_init 39 = .ok (.putfield 22, 3) := by decide +kernel
theorem dX4_init_42 : decode cX4_init 42 = .ok (.aload_n 0, 1) := by decide +kernel
theorem dX4_init_43 : decode cX4_init 43 = .ok (.new 26, 3) := by decide +kernel
theorem dX4_init_46 : decode cX4_init 46 = .ok (.dup, 1) := by decide +kernel
theorem dX4_init_47 : decode cX4_init 47 = .ok (.invokespecial 28, 3) := by decide +kernel
theorem dX4_init_50 : decode cX4_init 50 = .ok (.putfield 29, 3) := by decide +kernel
theorem dX4_init_53 : decode cX4_init 53 = .ok (.aload_n 0, 1) := by decide +kernel
theorem dX4_init_54 : decode cX4_init 54 = .ok (.new 33, 3) := by decide +kernel
theorem dX4_init_57 : decode cX4_init 57 = .ok (.dup, 1) := by decide +kernel
theorem dX4_init_58 : decode cX4_init 58 = .ok (.invokespecial 35, 3) := by decide +kernel
theorem dX4_init_61 : decode cX4_init 61 = .ok (.putfield 36, 3) := by decide +kernel
theorem dX4_init_64 : decode cX4_init 64 = .ok (.aload_n 0, 1) := by decide +kernel
theorem dX4_init_65 : decode cX4_init 65 = .ok (.iconst 5, 1) := by decide +kernel
theorem dX4_init_66 : decode cX4_init 66 = .ok (.newarray .int, 2) := by decide +kernel
theorem dX4_init_68 : decode cX4_init 68 = .ok (.putfield 40, 3) := by decide +kernel
theorem dX4_init_71 : decode cX4_init 71 = .ok (.aload_n 0, 1) := by decide +kernel
theorem dX4_init_72 : decode cX4_init 72 = .ok (.iconst 0, 1) := by decide +kernel
theorem dX4_init_73 : decode cX4_init 73 = .ok (.putfield 44, 3) := by decide +kernel
theorem dX4_init_76 : decode cX4_init 76 = .ok (.aload_n 0, 1) := by decide +kernel
theorem dX4_init_77 : decode cX4_init 77 = .ok (.bipush 7, 2) := by decide +kernel
theorem dX4_init_79 : decode cX4_init 79 = .ok (.newarray .int, 2) := by decide +kernel
theorem dX4_init_81 : decode cX4_init 81 = .ok (.putfield 48, 3) := by decide +kernel
theorem dX4_init_84 : decode cX4_init 84 = .ok (.return_, 1) := by decide +kernel
theorem dX4_feed_0 : decode cX4_feed 0 = .ok (.iload_n 1, 1) := by decide +kernel
theorem dX4_feed_1 : decode cX4_feed 1 = .ok (.ifCond .ge 10, 3) := by decide +kernel
theorem dX4_feed_4 : decode cX4_feed 4 = .ok (.aload_n 0, 1) := by decide +kernel
theorem dX4_feed_5 : decode cX4_feed 5 = .ok (.bipush (-4), 2) := by decide +kernel
theorem dX4_feed_7 : decode cX4_feed 7 = .ok (.invokevirtual 51, 3) := by decide +kernel
theorem dX4_feed_10 : decode cX4_feed 10 = .ok (.ireturn, 1) := by decide +kernel
theorem dX4_feed_11 : decode cX4_feed 11 = .ok (.iload_n 1, 1) := by decide +kernel
theorem dX4_feed_12 : decode cX4_feed 12 = .ok (.sipush 255, 3) := by decide +kernel
theorem dX4_feed_15 : decode cX4_feed 15 = .ok (.if_icmp .gt 15, 3) := by decide +kernel
theorem dX4_feed_18 : decode cX4_feed 18 = .ok (.aload_n 0, 1) := by decide +kernel
theorem dX4_feed_19 : decode cX4_feed 19 = .ok (.getfield 29, 3) := by decide +kernel
theorem dX4_feed_22 : decode cX4_feed 22 = .ok (.getfield 55, 3) := by decide +kernel
theorem dX4_feed_25 : decode cX4_feed 25 = .ok (.bipush 80, 2) := by decide +kernel
theorem dX4_feed_27 : decode cX4_feed 27 = .ok (.if_icmp .lt 10, 3) := by decide +kernel
theorem dX4_feed_30 : decode cX4_feed 30 = .ok (.aload_n 0, 1) := by decide +kernel
theorem dX4_feed_31 : decode cX4_feed 31 = .ok (.bipush (-6), 2) := by decide +kernel
theorem dX4_feed_33 : decode cX4_feed 33 = .ok (.invokevirtual 51, 3) := by decide +kernel
theorem dX4_feed_36 : decode cX4_feed 36 = .ok (.ireturn, 1) := by decide +kernel
theorem dX4_feed_37 : decode cX4_feed 37 = .ok (.aload_n 0, 1) := by decide +kernel
theorem dX4_feed_38 : decode cX4_feed 38 = .ok (.getfield 29, 3) := by decide +kernel
theorem dX4_feed_41 : decode cX4_feed 41 = .ok (.iload_n 1, 1) := by decide +kernel
theorem dX4_feed_42 : decode cX4_feed 42 = .ok (.invokevirtual 58, 3) := by decide +kernel
theorem dX4_feed_45 : decode cX4_feed 45 = .ok (.aload_n 0, 1) := by decide +kernel
theorem dX4_feed_46 : decode cX4_feed 46 = .ok (.getfield 29, 3) := by decide +kernel
theorem dX4_feed_49 : decode cX4_feed 49 = .ok (.getfield 55, 3) := by decide +kernel
theorem dX4_feed_52 : decode cX4_feed 52 = .ok (.ireturn, 1) := by decide +kernel
theorem dX4_river_0 : decode cX4_river 0 = .ok (.aload_n 0, 1) := by decide +kernel
theorem dX4_river_1 : decode cX4_river 1 = .ok (.invokevirtual 62, 3) := by decide +kernel
theorem dX4_river_4 : decode cX4_river 4 = .ok (.istore_n 1, 1) := by decide +kernel
theorem dX4_river_5 : decode cX4_river 5 = .ok (.aload_n 0, 1) := by decide +kernel
theorem dX4_river_6 : decode cX4_river 6 = .ok (.getfield 29, 3) := by decide +kernel
theorem dX4_river_9 : decode cX4_river 9 = .ok (.iconst 0, 1) := by decide +kernel
theorem dX4_river_10 : decode cX4_river 10 = .ok (.putfield 55, 3) := by decide +kernel
theorem dX4_river_13 : decode cX4_river 13 = .ok (.iload_n 1, 1) := by decide +kernel
theorem dX4_river_14 : decode cX4_river 14 = .ok (.ireturn, 1) := by decide +kernel
theorem dX4_yard_0 : decode cX4_yard 0 = .ok (.aload_n 0, 1) := by decide +kernel
theorem dX4_yard_1 : decode cX4_yard 1 = .ok (.getfield 10, 3) := by decide +kernel
theorem dX4_yard_4 : decode cX4_yard 4 = .ok (.iload_n 1, 1) := by decide +kernel
theorem dX4_yard_5 : decode cX4_yard 5 = .ok (.invokevirtual 66, 3) := by decide +kernel
theorem dX4_yard_8 : decode cX4_yard 8 = .ok (.ifCond .ne 9, 3) := by decide +kernel
theorem dX4_yard_11 : decode cX4_yard 11 = .ok (.aload_n 0, 1) := by decide +kernel
theorem dX4_yard_12 : decode cX4_yard 12 = .ok (.iconst (-1), 1) := by decide +kernel
theorem dX4_yard_13 : decode cX4_yard 13 = .ok (.invokevirtual 51, 3) := by decide +kernel
theorem dX4_yard_16 : decode cX4_yard 16 = .ok (.ireturn, 1) := by decide +kernel
theorem dX4_yard_17 : decode cX4_yard 17 = .ok (.iload_n 2, 1) := by decide +kernel
theorem dX4_yard_18 : decode cX4_yard 18 = .ok (.tableswitch 56 0 2 #[26, 36, 46], 26) := by decide +kernel
theorem dX4_yard_44 : decode cX4_yard 44 = .ok (.aload_n 0, 1) := by decide +kernel
theorem dX4_yard_45 : decode cX4_yard 45 = .ok (.getfield 10, 3) := by decide +kernel
theorem dX4_yard_48 : decode cX4_yard 48 = .ok (.getfield 70, 3) := by decide +kernel
theorem dX4_yard_51 : decode cX4_yard 51 = .ok (.iload_n 1, 1) := by decide +kernel
theorem dX4_yard_52 : decode cX4_yard 52 = .ok (.iaload, 1) := by decide +kernel
theorem dX4_yard_53 : decode cX4_yard 53 = .ok (.ireturn, 1) := by decide +kernel
theorem dX4_yard_54 : decode cX4_yard 54 = .ok (.aload_n 0, 1) := by decide +kernel
theorem dX4_yard_55 : decode cX4_yard 55 = .ok (.getfield 10, 3) := by decide +kernel
theorem dX4_yard_58 : decode cX4_yard 58 = .ok (.getfield 73, 3) := by decide +kernel
theorem dX4_yard_61 : decode cX4_yard 61 = .ok (.iload_n 1, 1) := by decide +kernel
theorem dX4_yard_62 : decode cX4_yard 62 = .ok (.iaload, 1) := by decide +kernel
theorem dX4_yard_63 : decode cX4_yard 63 = .ok (.ireturn, 1) := by decide +kernel
theorem dX4_yard_64 : decode cX4_yard 64 = .ok (.aload_n 0, 1) := by decide +kernel
theorem dX4_yard_65 : decode cX4_yard 65 = .ok (.getfield 10, 3) := by decide +kernel
theorem dX4_yard_68 : decode cX4_yard 68 = .ok (.getfield 76, 3) := by decide +kernel
theorem dX4_yard_71 : decode cX4_yard 71 = .ok (.iload_n 1, 1) := by decide +kernel
theorem dX4_yard_72 : decode cX4_yard 72 = .ok (.iaload, 1) := by decide +kernel
theorem dX4_yard_73 : decode cX4_yard 73 = .ok (.ireturn, 1) := by decide +kernel
theorem dX4_yard_74 : decode cX4_yard 74 = .ok (.aload_n 0, 1) := by decide +kernel
theorem dX4_yard_75 : decode cX4_yard 75 = .ok (.bipush (-2), 2) := by decide +kernel
theorem dX4_yard_77 : decode cX4_yard 77 = .ok (.invokevirtual 51, 3) := by decide +kernel
theorem dX4_yard_80 : decode cX4_yard 80 = .ok (.ireturn, 1) := by decide +kernel
theorem dX4_person_0 : decode cX4_person 0 = .ok (.aload_n 0, 1) := by decide +kernel
theorem dX4_person_1 : decode cX4_person 1 = .ok (.getfield 10, 3) := by decide +kernel
theorem dX4_person_4 : decode cX4_person 4 = .ok (.iload_n 1, 1) := by decide +kernel
theorem dX4_person_5 : decode cX4_person 5 = .ok (.invokevirtual 79, 3) := by decide +kernel
theorem dX4_person_8 : decode cX4_person 8 = .ok (.ifCond .ne 9, 3) := by decide +kernel
theorem dX4_person_11 : decode cX4_person 11 = .ok (.aload_n 0, 1) := by decide +kernel
theorem dX4_person_12 : decode cX4_person 12 = .ok (.iconst (-1), 1) := by decide +kernel
theorem dX4_person_13 : decode cX4_person 13 = .ok (.invokevirtual 51, 3) := by decide +kernel
theorem dX4_person_16 : decode cX4_person 16 = .ok (.ireturn, 1) := by decide +kernel
theorem dX4_person_17 : decode cX4_person 17 = .ok (.aload_n 0, 1) := by decide +kernel
theorem dX4_person_18 : decode cX4_person 18 = .ok (.getfield 10, 3) := by decide +kernel
theorem dX4_person_21 : decode cX4_person 21 = .ok (.getfield 82, 3) := by decide +kernel
theorem dX4_person_24 : decode cX4_person 24 = .ok (.iload_n 1, 1) := by decide +kernel
theorem dX4_person_25 : decode cX4_person 25 = .ok (.aaload, 1) := by decide +kernel
theorem dX4_person_26 : decode cX4_person 26 = .ok (.astore_n 3, 1) := by decide +kernel
theorem dX4_person_27 : decode cX4_person 27 = .ok (.iload_n 2, 1) := by decide +kernel
theorem dX4_person_28 : decode cX4_person 28 = .ok (.tableswitch 108 0 8 #[52, 57, 62, 67, 72, 77, 82, 87, 99], 52) := by decide +kernel
theorem dX4_person_80 : decode cX4_person 80 = .ok (.aload_n 3, 1) := by decide +kernel
theorem dX4_person_81 : decode cX4_person 81 = .ok (.getfield 86, 3) := by decide +kernel
theorem dX4_person_84 : decode cX4_person 84 = .ok (.ireturn, 1) := by decide +kernel
theorem dX4_person_85 : decode cX4_person 85 = .ok (.aload_n 3, 1) := by decide +kernel
theorem dX4_person_86 : decode cX4_person 86 = .ok (.getfield 91, 3) := by decide +kernel
theorem dX4_person_89 : decode cX4_person 89 = .ok (.ireturn, 1) := by decide +kernel
theorem dX4_person_90 : decode cX4_person 90 = .ok (.aload_n 3, 1) := by decide +kernel
theorem dX4_person_91 : decode cX4_person 91 = .ok (.getfield 94, 3) := by decide +kernel
theorem dX4_person_94 : decode cX4_person 94 = .ok (.ireturn, 1) := by decide +kernel
theorem dX4_person_95 : decode cX4_person 95 = .ok (.aload_n 3, 1) := by decide +kernel
theorem dX4_person_96 : decode cX4_person 96 = .ok (.getfield 97, 3) := by decide +kernel
theorem dX4_person_99 : decode cX4_person 99 = .ok (.ireturn, 1) := by decide +kernel
theorem dX4_person_100 : decode cX4_person 100 = .ok (.aload_n 3, 1) := by decide +kernel
theorem dX4_person_101 : decode cX4_person 101 = .ok (.getfield 100, 3) := by decide +kernel
theorem dX4_person_104 : decode cX4_person 104 = .ok (.ireturn, 1) := by decide +kernel
theorem dX4_person_105 : decode cX4_person 105 = .ok (.aload_n 3, 1) := by decide +kernel
theorem dX4_person_106 : decode cX4_person 106 = .ok (.invokevirtual 103, 3) := by decide +kernel
theorem dX4_person_109 : decode cX4_person 109 = .ok (.ireturn, 1) := by decide +kernel
theorem dX4_person_110 : decode cX4_person 110 = .ok (.aload_n 3, 1) := by decide +kernel
theorem dX4_person_111 : decode cX4_person 111 = .ok (.invokevirtual 106, 3) := by decide +kernel
theorem dX4_person_114 : decode cX4_person 114 = .ok (.ireturn, 1) := by decide +kernel
theorem dX4_person_115 : decode cX4_person 115 = .ok (.aload_n 3, 1) := by decide +kernel
theorem dX4_person_116 : decode cX4_person 116 = .ok (.aload_n 0, 1) := by decide +kernel
theorem dX4_person_117 : decode cX4_person 117 = .ok (.getfield 10, 3) := by decide +kernel
theorem dX4_person_120 : decode cX4_person 120 = .ok (.getfield 109, 3) := by decide +kernel
theorem dX4_person_123 : decode cX4_person 123 = .ok (.invokevirtual 112, 3) := by decide +kernel
theorem dX4_person_126 : decode cX4_person 126 = .ok (.ireturn, 1) := by decide +kernel
theorem dX4_person_127 : decode cX4_person 127 = .ok (.aload_n 0, 1) := by decide +kernel
theorem dX4_person_128 : decode cX4_person 128 = .ok (.getfield 10, 3) := by decide +kernel
theorem dX4_person_131 : decode cX4_person 131 = .ok (.iload_n 1, 1) := by decide +kernel
theorem dX4_person_132 : decode cX4_person 132 = .ok (.invokevirtual 115, 3) := by decide +kernel
theorem dX4_person_135 : decode cX4_person 135 = .ok (.ireturn, 1) := by decide +kernel
theorem dX4_person_136 : decode cX4_person 136 = .ok (.aload_n 0, 1) := by decide +kernel
theorem dX4_person_137 : decode cX4_person 137 = .ok (.bipush (-2), 2) := by decide +kernel
theorem dX4_person_139 : decode cX4_person 139 = .ok (.invokevirtual 51, 3) := by decide +kernel
theorem dX4_person_142 : decode cX4_person 142 = .ok (.ireturn, 1) := by decide +kernel
theorem dX4_grudge_0 : decode cX4_grudge 0 = .ok (.aload_n 0, 1) := by decide +kernel
theorem dX4_grudge_1 : decode cX4_grudge 1 = .ok (.getfield 10, 3) := by decide +kernel
theorem dX4_grudge_4 : decode cX4_grudge 4 = .ok (.iload_n 1, 1) := by decide +kernel
theorem dX4_grudge_5 : decode cX4_grudge 5 = .ok (.iload_n 2, 1) := by decide +kernel
theorem dX4_grudge_6 : decode cX4_grudge 6 = .ok (.invokevirtual 118, 3) := by decide +kernel
theorem dX4_grudge_9 : decode cX4_grudge 9 = .ok (.ifCond .ne 9, 3) := by decide +kernel
theorem dX4_grudge_12 : decode cX4_grudge 12 = .ok (.aload_n 0, 1) := by decide +kernel
theorem dX4_grudge_13 : decode cX4_grudge 13 = .ok (.iconst (-1), 1) := by decide +kernel
theorem dX4_grudge_14 : decode cX4_grudge 14 = .ok (.invokevirtual 51, 3) := by decide +kernel
theorem dX4_grudge_17 : decode cX4_grudge 17 = .ok (.ireturn, 1) := by decide +kernel
theorem dX4_grudge_18 : decode cX4_grudge 18 = .ok (.aload_n 0, 1) := by decide +kernel
theorem dX4_grudge_19 : decode cX4_grudge 19 = .ok (.getfield 10, 3) := by decide +kernel
theorem dX4_grudge_22 : decode cX4_grudge 22 = .ok (.iload_n 1, 1) := by decide +kernel
theorem dX4_grudge_23 : decode cX4_grudge 23 = .ok (.iload_n 2, 1) := by decide +kernel
theorem dX4_grudge_24 : decode cX4_grudge 24 = .ok (.invokevirtual 122, 3) := by decide +kernel
theorem dX4_grudge_27 : decode cX4_grudge 27 = .ok (.ireturn, 1) := by decide +kernel
theorem dX4_quarrel_0 : decode cX4_quarrel 0 = .ok (.aload_n 0, 1) := by decide +kernel
theorem dX4_quarrel_1 : decode cX4_quarrel 1 = .ok (.getfield 10, 3) := by decide +kernel
theorem dX4_quarrel_4 : decode cX4_quarrel 4 = .ok (.iload_n 1, 1) := by decide +kernel
theorem dX4_quarrel_5 : decode cX4_quarrel 5 = .ok (.iload_n 2, 1) := by decide +kernel
theorem dX4_quarrel_6 : decode cX4_quarrel 6 = .ok (.invokevirtual 118, 3) := by decide +kernel
theorem dX4_quarrel_9 : decode cX4_quarrel 9 = .ok (.ifCond .ne 9, 3) := by decide +kernel
theorem dX4_quarrel_12 : decode cX4_quarrel 12 = .ok (.aload_n 0, 1) := by decide +kernel
theorem dX4_quarrel_13 : decode cX4_quarrel 13 = .ok (.iconst (-1), 1) := by decide +kernel
theorem dX4_quarrel_14 : decode cX4_quarrel 14 = .ok (.invokevirtual 51, 3) := by decide +kernel
theorem dX4_quarrel_17 : decode cX4_quarrel 17 = .ok (.ireturn, 1) := by decide +kernel
theorem dX4_quarrel_18 : decode cX4_quarrel 18 = .ok (.iload_n 3, 1) := by decide +kernel
theorem dX4_quarrel_19 : decode cX4_quarrel 19 = .ok (.ifCond .eq 15, 3) := by decide +kernel
theorem dX4_quarrel_22 : decode cX4_quarrel 22 = .ok (.iload_n 3, 1) := by decide +kernel
theorem dX4_quarrel_23 : decode cX4_quarrel 23 = .ok (.iconst 1, 1) := by decide +kernel
theorem dX4_quarrel_24 : decode cX4_quarrel 24 = .ok (.if_icmp .eq 10, 3) := by decide +kernel
theorem dX4_quarrel_27 : decode cX4_quarrel 27 = .ok (.aload_n 0, 1) := by decide +kernel
theorem dX4_quarrel_28 : decode cX4_quarrel 28 = .ok (.bipush (-2), 2) := by decide +kernel
theorem dX4_quarrel_30 : decode cX4_quarrel 30 = .ok (.invokevirtual 51, 3) := by decide +kernel
theorem dX4_quarrel_33 : decode cX4_quarrel 33 = .ok (.ireturn, 1) := by decide +kernel
theorem dX4_quarrel_34 : decode cX4_quarrel 34 = .ok (.aload_n 0, 1) := by decide +kernel
theorem dX4_quarrel_35 : decode cX4_quarrel 35 = .ok (.getfield 10, 3) := by decide +kernel
theorem dX4_quarrel_38 : decode cX4_quarrel 38 = .ok (.iload_n 1, 1) := by decide +kernel
theorem dX4_quarrel_39 : decode cX4_quarrel 39 = .ok (.iload_n 2, 1) := by decide +kernel
theorem dX4_quarrel_40 : decode cX4_quarrel 40 = .ok (.invokevirtual 122, 3) := by decide +kernel
theorem dX4_quarrel_43 : decode cX4_quarrel 43 = .ok (.istore 4, 2) := by decide +kernel
theorem dX4_quarrel_45 : decode cX4_quarrel 45 = .ok (.aload_n 0, 1) := by decide +kernel
theorem dX4_quarrel_46 : decode cX4_quarrel 46 = .ok (.getfield 10, 3) := by decide +kernel
theorem dX4_quarrel_49 : decode cX4_quarrel 49 = .ok (.iload_n 1, 1) := by decide +kernel
theorem dX4_quarrel_50 : decode cX4_quarrel 50 = .ok (.iload_n 2, 1) := by decide +kernel
theorem dX4_quarrel_51 : decode cX4_quarrel 51 = .ok (.iload_n 3, 1) := by decide +kernel
theorem dX4_quarrel_52 : decode cX4_quarrel 52 = .ok (.invokevirtual 126, 3) := by decide +kernel
theorem dX4_quarrel_55 : decode cX4_quarrel 55 = .ok (.iload 4, 2) := by decide +kernel
theorem dX4_quarrel_57 : decode cX4_quarrel 57 = .ok (.ireturn, 1) := by decide +kernel
theorem dX4_cold_0 : decode cX4_cold 0 = .ok (.iload_n 1, 1) := by decide +kernel
theorem dX4_cold_1 : decode cX4_cold 1 = .ok (.ifCond .ge 10, 3) := by decide +kernel
theorem dX4_cold_4 : decode cX4_cold 4 = .ok (.aload_n 0, 1) := by decide +kernel
theorem dX4_cold_5 : decode cX4_cold 5 = .ok (.bipush (-4), 2) := by decide +kernel
theorem dX4_cold_7 : decode cX4_cold 7 = .ok (.invokevirtual 51, 3) := by decide +kernel
theorem dX4_cold_10 : decode cX4_cold 10 = .ok (.ireturn, 1) := by decide +kernel
theorem dX4_cold_11 : decode cX4_cold 11 = .ok (.iload_n 1, 1) := by decide +kernel
theorem dX4_cold_12 : decode cX4_cold 12 = .ok (.bipush 9, 2) := by decide +kernel
theorem dX4_cold_14 : decode cX4_cold 14 = .ok (.if_icmp .le 10, 3) := by decide +kernel
theorem dX4_cold_17 : decode cX4_cold 17 = .ok (.aload_n 0, 1) := by decide +kernel
theorem dX4_cold_18 : decode cX4_cold 18 = .ok (.bipush (-6), 2) := by decide +kernel
theorem dX4_cold_20 : decode cX4_cold 20 = .ok (.invokevirtual 51, 3) := by decide +kernel
theorem dX4_cold_23 : decode cX4_cold 23 = .ok (.ireturn, 1) := by decide +kernel
theorem dX4_cold_24 : decode cX4_cold 24 = .ok (.aload_n 0, 1) := by decide +kernel
theorem dX4_cold_25 : decode cX4_cold 25 = .ok (.getfield 10, 3) := by decide +kernel
theorem dX4_cold_28 : decode cX4_cold 28 = .ok (.getfield 109, 3) := by decide +kernel
theorem dX4_cold_31 : decode cX4_cold 31 = .ok (.istore_n 2, 1) := by decide +kernel
theorem dX4_cold_32 : decode cX4_cold 32 = .ok (.aload_n 0, 1) := by decide +kernel
theorem dX4_cold_33 : decode cX4_cold 33 = .ok (.getfield 10, 3) := by decide +kernel
theorem dX4_cold_36 : decode cX4_cold 36 = .ok (.iload_n 1, 1) := by decide +kernel
theorem dX4_cold_37 : decode cX4_cold 37 = .ok (.putfield 109, 3) := by decide +kernel
theorem dX4_cold_40 : decode cX4_cold 40 = .ok (.iload_n 2, 1) := by decide +kernel
theorem dX4_cold_41 : decode cX4_cold 41 = .ok (.ireturn, 1) := by decide +kernel
theorem dX4_put_0 : decode cX4_put 0 = .ok (.aload_n 0, 1) := by decide +kernel
theorem dX4_put_1 : decode cX4_put 1 = .ok (.getfield 10, 3) := by decide +kernel
theorem dX4_put_4 : decode cX4_put 4 = .ok (.iload_n 1, 1) := by decide +kernel
theorem dX4_put_5 : decode cX4_put 5 = .ok (.invokevirtual 66, 3) := by decide +kernel
theorem dX4_put_8 : decode cX4_put 8 = .ok (.ifCond .eq 14, 3) := by decide +kernel
theorem dX4_put_11 : decode cX4_put 11 = .ok (.aload_n 0, 1) := by decide +kernel
theorem dX4_put_12 : decode cX4_put 12 = .ok (.getfield 10, 3) := by decide +kernel
theorem dX4_put_15 : decode cX4_put 15 = .ok (.iload_n 2, 1) := by decide +kernel
theorem dX4_put_16 : decode cX4_put 16 = .ok (.invokevirtual 79, 3) := by decide +kernel
theorem dX4_put_19 : decode cX4_put 19 = .ok (.ifCond .ne 9, 3) := by decide +kernel
theorem dX4_put_22 : decode cX4_put 22 = .ok (.aload_n 0, 1) := by decide +kernel
theorem dX4_put_23 : decode cX4_put 23 = .ok (.iconst (-1), 1) := by decide +kernel
theorem dX4_put_24 : decode cX4_put 24 = .ok (.invokevirtual 51, 3) := by decide +kernel
theorem dX4_put_27 : decode cX4_put 27 = .ok (.ireturn, 1) := by decide +kernel
theorem dX4_put_28 : decode cX4_put 28 = .ok (.aload_n 0, 1) := by decide +kernel
theorem dX4_put_29 : decode cX4_put 29 = .ok (.getfield 10, 3) := by decide +kernel
theorem dX4_put_32 : decode cX4_put 32 = .ok (.getfield 82, 3) := by decide +kernel
theorem dX4_put_35 : decode cX4_put 35 = .ok (.iload_n 2, 1) := by decide +kernel
theorem dX4_put_36 : decode cX4_put 36 = .ok (.aaload, 1) := by decide +kernel
theorem dX4_put_37 : decode cX4_put 37 = .ok (.getfield 130, 3) := by decide +kernel
theorem dX4_put_40 : decode cX4_put 40 = .ok (.ifCond .eq 10, 3) := by decide +kernel
theorem dX4_put_43 : decode cX4_put 43 = .ok (.aload_n 0, 1) := by decide +kernel
theorem dX4_put_44 : decode cX4_put 44 = .ok (.bipush (-3), 2) := by decide +kernel
theorem dX4_put_46 : decode cX4_put 46 = .ok (.invokevirtual 51, 3) := by decide +kernel
theorem dX4_put_49 : decode cX4_put 49 = .ok (.ireturn, 1) := by decide +kernel
theorem dX4_put_50 : decode cX4_put 50 = .ok (.aload_n 0, 1) := by decide +kernel
theorem dX4_put_51 : decode cX4_put 51 = .ok (.getfield 10, 3) := by decide +kernel
theorem dX4_put_54 : decode cX4_put 54 = .ok (.getfield 76, 3) := by decide +kernel
theorem dX4_put_57 : decode cX4_put 57 = .ok (.iload_n 1, 1) := by decide +kernel
theorem dX4_put_58 : decode cX4_put 58 = .ok (.iaload, 1) := by decide +kernel
theorem dX4_put_59 : decode cX4_put 59 = .ok (.istore_n 3, 1) := by decide +kernel
theorem dX4_put_60 : decode cX4_put 60 = .ok (.aload_n 0, 1) := by decide +kernel
theorem dX4_put_61 : decode cX4_put 61 = .ok (.getfield 10, 3) := by decide +kernel
theorem dX4_put_64 : decode cX4_put 64 = .ok (.iload_n 1, 1) := by decide +kernel
theorem dX4_put_65 : decode cX4_put 65 = .ok (.iload_n 2, 1) := by decide +kernel
theorem dX4_put_66 : decode cX4_put 66 = .ok (.invokevirtual 133, 3) := by decide +kernel
theorem dX4_put_69 : decode cX4_put 69 = .ok (.iload_n 3, 1) := by decide +kernel
theorem dX4_put_70 : decode cX4_put 70 = .ok (.ireturn, 1) := by decide +kernel
theorem dX4_out_0 : decode cX4_out 0 = .ok (.aload_n 0, 1) := by decide +kernel
theorem dX4_out_1 : decode cX4_out 1 = .ok (.getfield 10, 3) := by decide +kernel
theorem dX4_out_4 : decode cX4_out 4 = .ok (.invokevirtual 137, 3) := by decide +kernel
theorem dX4_out_7 : decode cX4_out 7 = .ok (.aload_n 0, 1) := by decide +kernel
theorem dX4_out_8 : decode cX4_out 8 = .ok (.getfield 10, 3) := by decide +kernel
theorem dX4_out_11 : decode cX4_out 11 = .ok (.invokevirtual 140, 3) := by decide +kernel
theorem dX4_out_14 : decode cX4_out 14 = .ok (.iadd, 1) := by decide +kernel
theorem dX4_out_15 : decode cX4_out 15 = .ok (.istore_n 1, 1) := by decide +kernel
theorem dX4_out_16 : decode cX4_out 16 = .ok (.aload_n 0, 1) := by decide +kernel
theorem dX4_out_17 : decode cX4_out 17 = .ok (.getfield 10, 3) := by decide +kernel
theorem dX4_out_20 : decode cX4_out 20 = .ok (.invokevirtual 143, 3) := by decide +kernel
theorem dX4_out_23 : decode cX4_out 23 = .ok (.iconst 0, 1) := by decide +kernel
theorem dX4_out_24 : decode cX4_out 24 = .ok (.istore_n 2, 1) := by decide +kernel
theorem dX4_out_25 : decode cX4_out 25 = .ok (.iload_n 2, 1) := by decide +kernel
theorem dX4_out_26 : decode cX4_out 26 = .ok (.aload_n 0, 1) := by decide +kernel
theorem dX4_out_27 : decode cX4_out 27 = .ok (.getfield 10, 3) := by decide +kernel
theorem dX4_out_30 : decode cX4_out 30 = .ok (.getfield 146, 3) := by decide +kernel
theorem dX4_out_33 : decode cX4_out 33 = .ok (.if_icmp .ge 22, 3) := by decide +kernel
theorem dX4_out_36 : decode cX4_out 36 = .ok (.aload_n 0, 1) := by decide +kernel
theorem dX4_out_37 : decode cX4_out 37 = .ok (.getfield 10, 3) := by decide +kernel
theorem dX4_out_40 : decode cX4_out 40 = .ok (.getfield 82, 3) := by decide +kernel
theorem dX4_out_43 : decode cX4_out 43 = .ok (.iload_n 2, 1) := by decide +kernel
theorem dX4_out_44 : decode cX4_out 44 = .ok (.aaload, 1) := by decide +kernel
theorem dX4_out_45 : decode cX4_out 45 = .ok (.iconst 0, 1) := by decide +kernel
theorem dX4_out_46 : decode cX4_out 46 = .ok (.putfield 130, 3) := by decide +kernel
theorem dX4_out_49 : decode cX4_out 49 = .ok (.iinc 2 1, 3) := by decide +kernel
theorem dX4_out_52 : decode cX4_out 52 = .ok (.goto (-27), 3) := by decide +kernel
theorem dX4_out_55 : decode cX4_out 55 = .ok (.iload_n 1, 1) := by decide +kernel
theorem dX4_out_56 : decode cX4_out 56 = .ok (.ireturn, 1) := by decide +kernel
theorem dX4_load_0 : decode cX4_load 0 = .ok (.iload_n 1, 1) := by decide +kernel
theorem dX4_load_1 : decode cX4_load 1 = .ok (.ifCond .lt 14, 3) := by decide +kernel
theorem dX4_load_4 : decode cX4_load 4 = .ok (.iload_n 1, 1) := by decide +kernel
theorem dX4_load_5 : decode cX4_load 5 = .ok (.aload_n 0, 1) := by decide +kernel
theorem dX4_load_6 : decode cX4_load 6 = .ok (.getfield 10, 3) := by decide +kernel
theorem dX4_load_9 : decode cX4_load 9 = .ok (.getfield 149, 3) := by decide +kernel
theorem dX4_load_12 : decode cX4_load 12 = .ok (.if_icmp .le 9, 3) := by decide +kernel
theorem dX4_load_15 : decode cX4_load 15 = .ok (.aload_n 0, 1) := by decide +kernel
theorem dX4_load_16 : decode cX4_load 16 = .ok (.iconst (-1), 1) := by decide +kernel
theorem dX4_load_17 : decode cX4_load 17 = .ok (.invokevirtual 51, 3) := by decide +kernel
theorem dX4_load_20 : decode cX4_load 20 = .ok (.ireturn, 1) := by decide +kernel
theorem dX4_load_21 : decode cX4_load 21 = .ok (.aload_n 0, 1) := by decide +kernel
theorem dX4_load_22 : decode cX4_load 22 = .ok (.getfield 10, 3) := by decide +kernel
theorem dX4_load_25 : decode cX4_load 25 = .ok (.iload_n 1, 1) := by decide +kernel
theorem dX4_load_26 : decode cX4_load 26 = .ok (.invokevirtual 152, 3) := by decide +kernel
theorem dX4_load_29 : decode cX4_load 29 = .ok (.ireturn, 1) := by decide +kernel
theorem dX4_slips_0 : decode cX4_slips 0 = .ok (.iload_n 1, 1) := by decide +kernel
theorem dX4_slips_1 : decode cX4_slips 1 = .ok (.ifCond .eq 15, 3) := by decide +kernel
theorem dX4_slips_4 : decode cX4_slips 4 = .ok (.iload_n 1, 1) := by decide +kernel
theorem dX4_slips_5 : decode cX4_slips 5 = .ok (.iconst 1, 1) := by decide +kernel
theorem dX4_slips_6 : decode cX4_slips 6 = .ok (.if_icmp .eq 10, 3) := by decide +kernel
theorem dX4_slips_9 : decode cX4_slips 9 = .ok (.aload_n 0, 1) := by decide +kernel
theorem dX4_slips_10 : decode cX4_slips 10 = .ok (.bipush (-2), 2) := by decide +kernel
theorem dX4_slips_12 : decode cX4_slips 12 = .ok (.invokevirtual 51, 3) := by decide +kernel
theorem dX4_slips_15 : decode cX4_slips 15 = .ok (.ireturn, 1) := by decide +kernel
theorem dX4_slips_16 : decode cX4_slips 16 = .ok (.aload_n 0, 1) := by decide +kernel
theorem dX4_slips_17 : decode cX4_slips 17 = .ok (.getfield 10, 3) := by decide +kernel
theorem dX4_slips_20 : decode cX4_slips 20 = .ok (.aload_n 0, 1) := by decide +kernel
theorem dX4_slips_21 : decode cX4_slips 21 = .ok (.getfield 10, 3) := by decide +kernel
theorem dX4_slips_24 : decode cX4_slips 24 = .ok (.getfield 76, 3) := by decide +kernel
theorem dX4_slips_27 : decode cX4_slips 27 = .ok (.invokevirtual 155, 3) := by decide +kernel
theorem dX4_slips_30 : decode cX4_slips 30 = .ok (.istore_n 2, 1) := by decide +kernel
theorem dX4_slips_31 : decode cX4_slips 31 = .ok (.iload_n 2, 1) := by decide +kernel
theorem dX4_slips_32 : decode cX4_slips 32 = .ok (.bipush (-9), 2) := by decide +kernel
theorem dX4_slips_34 : decode cX4_slips 34 = .ok (.if_icmp .eq 7, 3) := by decide +kernel
theorem dX4_slips_37 : decode cX4_slips 37 = .ok (.iload_n 1, 1) := by decide +kernel
theorem dX4_slips_38 : decode cX4_slips 38 = .ok (.ifCond .ne 5, 3) := by decide +kernel
theorem dX4_slips_41 : decode cX4_slips 41 = .ok (.iload_n 2, 1) := by decide +kernel
theorem dX4_slips_42 : decode cX4_slips 42 = .ok (.ireturn, 1) := by decide +kernel
theorem dX4_slips_43 : decode cX4_slips 43 = .ok (.aload_n 0, 1) := by decide +kernel
theorem dX4_slips_44 : decode cX4_slips 44 = .ok (.getfield 10, 3) := by decide +kernel
theorem dX4_slips_47 : decode cX4_slips 47 = .ok (.aload_n 0, 1) := by decide +kernel
theorem dX4_slips_48 : decode cX4_slips 48 = .ok (.getfield 10, 3) := by decide +kernel
theorem dX4_slips_51 : decode cX4_slips 51 = .ok (.getfield 76, 3) := by decide +kernel
theorem dX4_slips_54 : decode cX4_slips 54 = .ok (.iload_n 2, 1) := by decide +kernel
theorem dX4_slips_55 : decode cX4_slips 55 = .ok (.invokevirtual 159, 3) := by decide +kernel
theorem dX4_slips_58 : decode cX4_slips 58 = .ok (.ireturn, 1) := by decide +kernel
theorem dX4_lasts_0 : decode cX4_lasts 0 = .ok (.aload_n 0, 1) := by decide +kernel
theorem dX4_lasts_1 : decode cX4_lasts 1 = .ok (.getfield 10, 3) := by decide +kernel
theorem dX4_lasts_4 : decode cX4_lasts 4 = .ok (.aload_n 0, 1) := by decide +kernel
theorem dX4_lasts_5 : decode cX4_lasts 5 = .ok (.getfield 10, 3) := by decide +kernel
theorem dX4_lasts_8 : decode cX4_lasts 8 = .ok (.getfield 76, 3) := by decide +kernel
theorem dX4_lasts_11 : decode cX4_lasts 11 = .ok (.invokevirtual 163, 3) := by decide +kernel
theorem dX4_lasts_14 : decode cX4_lasts 14 = .ok (.ireturn, 1) := by decide +kernel
theorem dX4_cross_0 : decode cX4_cross 0 = .ok (.aload_n 0, 1) := by decide +kernel
theorem dX4_cross_1 : decode cX4_cross 1 = .ok (.getfield 10, 3) := by decide +kernel
theorem dX4_cross_4 : decode cX4_cross 4 = .ok (.iload_n 1, 1) := by decide +kernel
theorem dX4_cross_5 : decode cX4_cross 5 = .ok (.invokevirtual 79, 3) := by decide +kernel
theorem dX4_cross_8 : decode cX4_cross 8 = .ok (.ifCond .ne 9, 3) := by decide +kernel
theorem dX4_cross_11 : decode cX4_cross 11 = .ok (.aload_n 0, 1) := by decide +kernel
theorem dX4_cross_12 : decode cX4_cross 12 = .ok (.iconst (-1), 1) := by decide +kernel
theorem dX4_cross_13 : decode cX4_cross 13 = .ok (.invokevirtual 51, 3) := by decide +kernel
theorem dX4_cross_16 : decode cX4_cross 16 = .ok (.ireturn, 1) := by decide +kernel
theorem dX4_cross_17 : decode cX4_cross 17 = .ok (.aload_n 0, 1) := by decide +kernel
theorem dX4_cross_18 : decode cX4_cross 18 = .ok (.getfield 10, 3) := by decide +kernel
theorem dX4_cross_21 : decode cX4_cross 21 = .ok (.iload_n 1, 1) := by decide +kernel
theorem dX4_cross_22 : decode cX4_cross 22 = .ok (.invokevirtual 166, 3) := by decide +kernel
theorem dX4_cross_25 : decode cX4_cross 25 = .ok (.ifCond .eq 21, 3) := by decide +kernel
theorem dX4_cross_28 : decode cX4_cross 28 = .ok (.aload_n 0, 1) := by decide +kernel
theorem dX4_cross_29 : decode cX4_cross 29 = .ok (.getfield 10, 3) := by decide +kernel
theorem dX4_cross_32 : decode cX4_cross 32 = .ok (.aload_n 0, 1) := by decide +kernel
theorem dX4_cross_33 : decode cX4_cross 33 = .ok (.getfield 10, 3) := by decide +kernel
theorem dX4_cross_36 : decode cX4_cross 36 = .ok (.getfield 76, 3) := by decide +kernel
theorem dX4_cross_39 : decode cX4_cross 39 = .ok (.invokevirtual 163, 3) := by decide +kernel
theorem dX4_cross_42 : decode cX4_cross 42 = .ok (.iconst 1, 1) := by decide +kernel
theorem dX4_cross_43 : decode cX4_cross 43 = .ok (.if_icmp .ge 10, 3) := by decide +kernel
theorem dX4_cross_46 : decode cX4_cross 46 = .ok (.aload_n 0, 1) := by decide +kernel
theorem dX4_cross_47 : decode cX4_cross 47 = .ok (.bipush (-3), 2) := by decide +kernel
theorem dX4_cross_49 : decode cX4_cross 49 = .ok (.invokevirtual 51, 3) := by decide +kernel
theorem dX4_cross_52 : decode cX4_cross 52 = .ok (.ireturn, 1) := by decide +kernel
theorem dX4_cross_53 : decode cX4_cross 53 = .ok (.aload_n 0, 1) := by decide +kernel
theorem dX4_cross_54 : decode cX4_cross 54 = .ok (.getfield 10, 3) := by decide +kernel
theorem dX4_cross_57 : decode cX4_cross 57 = .ok (.iload_n 1, 1) := by decide +kernel
theorem dX4_cross_58 : decode cX4_cross 58 = .ok (.invokevirtual 169, 3) := by decide +kernel
theorem dX4_cross_61 : decode cX4_cross 61 = .ok (.aload_n 0, 1) := by decide +kernel
theorem dX4_cross_62 : decode cX4_cross 62 = .ok (.getfield 10, 3) := by decide +kernel
theorem dX4_cross_65 : decode cX4_cross 65 = .ok (.invokevirtual 140, 3) := by decide +kernel
theorem dX4_cross_68 : decode cX4_cross 68 = .ok (.ireturn, 1) := by decide +kernel
theorem dX4_chains_0 : decode cX4_chains 0 = .ok (.aload_n 0, 1) := by decide +kernel
theorem dX4_chains_1 : decode cX4_chains 1 = .ok (.getfield 36, 3) := by decide +kernel
theorem dX4_chains_4 : decode cX4_chains 4 = .ok (.aload_n 0, 1) := by decide +kernel
theorem dX4_chains_5 : decode cX4_chains 5 = .ok (.getfield 10, 3) := by decide +kernel
theorem dX4_chains_8 : decode cX4_chains 8 = .ok (.aload_n 0, 1) := by decide +kernel
theorem dX4_chains_9 : decode cX4_chains 9 = .ok (.getfield 10, 3) := by decide +kernel
theorem dX4_chains_12 : decode cX4_chains 12 = .ok (.invokevirtual 172, 3) := by decide +kernel
theorem dX4_chains_15 : decode cX4_chains 15 = .ok (.invokevirtual 175, 3) := by decide +kernel
theorem dX4_chains_18 : decode cX4_chains 18 = .ok (.aload_n 0, 1) := by decide +kernel
theorem dX4_chains_19 : decode cX4_chains 19 = .ok (.getfield 36, 3) := by decide +kernel
theorem dX4_chains_22 : decode cX4_chains 22 = .ok (.getfield 179, 3) := by decide +kernel
theorem dX4_chains_25 : decode cX4_chains 25 = .ok (.ireturn, 1) := by decide +kernel
theorem dX4_longest_0 : decode cX4_longest 0 = .ok (.iload_n 1, 1) := by decide +kernel
theorem dX4_longest_1 : decode cX4_longest 1 = .ok (.iconst (-1), 1) := by decide +kernel
theorem dX4_longest_2 : decode cX4_longest 2 = .ok (.if_icmp .eq 20, 3) := by decide +kernel
theorem dX4_longest_5 : decode cX4_longest 5 = .ok (.aload_n 0, 1) := by decide +kernel
theorem dX4_longest_6 : decode cX4_longest 6 = .ok (.getfield 10, 3) := by decide +kernel
theorem dX4_longest_9 : decode cX4_longest 9 = .ok (.iload_n 1, 1) := by decide +kernel
theorem dX4_longest_10 : decode cX4_longest 10 = .ok (.invokevirtual 66, 3) := by decide +kernel
theorem dX4_longest_13 : decode cX4_longest 13 = .ok (.ifCond .ne 9, 3) := by decide +kernel
theorem dX4_longest_16 : decode cX4_longest 16 = .ok (.aload_n 0, 1) := by decide +kernel
theorem dX4_longest_17 : decode cX4_longest 17 = .ok (.iconst (-1), 1) := by decide +kernel
theorem dX4_longest_18 : decode cX4_longest 18 = .ok (.invokevirtual 51, 3) := by decide +kernel
theorem dX4_longest_21 : decode cX4_longest 21 = .ok (.ireturn, 1) := by decide +kernel
theorem dX4_longest_22 : decode cX4_longest 22 = .ok (.aload_n 0, 1) := by decide +kernel
theorem dX4_longest_23 : decode cX4_longest 23 = .ok (.getfield 36, 3) := by decide +kernel
theorem dX4_longest_26 : decode cX4_longest 26 = .ok (.aload_n 0, 1) := by decide +kernel
theorem dX4_longest_27 : decode cX4_longest 27 = .ok (.getfield 10, 3) := by decide +kernel
theorem dX4_longest_30 : decode cX4_longest 30 = .ok (.aload_n 0, 1) := by decide +kernel
theorem dX4_longest_31 : decode cX4_longest 31 = .ok (.getfield 10, 3) := by decide +kernel
theorem dX4_longest_34 : decode cX4_longest 34 = .ok (.invokevirtual 172, 3) := by decide +kernel
theorem dX4_longest_37 : decode cX4_longest 37 = .ok (.invokevirtual 175, 3) := by decide +kernel
theorem dX4_longest_40 : decode cX4_longest 40 = .ok (.aload_n 0, 1) := by decide +kernel
theorem dX4_longest_41 : decode cX4_longest 41 = .ok (.getfield 36, 3) := by decide +kernel
theorem dX4_longest_44 : decode cX4_longest 44 = .ok (.getfield 179, 3) := by decide +kernel
theorem dX4_longest_47 : decode cX4_longest 47 = .ok (.ifCond .ne 6, 3) := by decide +kernel
theorem dX4_longest_50 : decode cX4_longest 50 = .ok (.bipush (-9), 2) := by decide +kernel
theorem dX4_longest_52 : decode cX4_longest 52 = .ok (.ireturn, 1) := by decide +kernel
theorem dX4_longest_53 : decode cX4_longest 53 = .ok (.iload_n 1, 1) := by decide +kernel
theorem dX4_longest_54 : decode cX4_longest 54 = .ok (.iconst (-1), 1) := by decide +kernel
theorem dX4_longest_55 : decode cX4_longest 55 = .ok (.if_icmp .ne 13, 3) := by decide +kernel
theorem dX4_longest_58 : decode cX4_longest 58 = .ok (.aload_n 0, 1) := by decide +kernel
theorem dX4_longest_59 : decode cX4_longest 59 = .ok (.getfield 36, 3) := by decide +kernel
theorem dX4_longest_62 : decode cX4_longest 62 = .ok (.getfield 182, 3) := by decide +kernel
theorem dX4_longest_65 : decode cX4_longest 65 = .ok (.goto 12, 3) := by decide +kernel
theorem dX4_longest_68 : decode cX4_longest 68 = .ok (.aload_n 0, 1) := by decide +kernel
theorem dX4_longest_69 : decode cX4_longest 69 = .ok (.getfield 36, 3) := by decide +kernel
theorem dX4_longest_72 : decode cX4_longest 72 = .ok (.getfield 185, 3) := by decide +kernel
theorem dX4_longest_75 : decode cX4_longest 75 = .ok (.iload_n 1, 1) := by decide +kernel
theorem dX4_longest_76 : decode cX4_longest 76 = .ok (.iaload, 1) := by decide +kernel
theorem dX4_longest_77 : decode cX4_longest 77 = .ok (.ireturn, 1) := by decide +kernel
theorem dX4_makeUp_0 : decode cX4_makeUp 0 = .ok (.aload_n 0, 1) := by decide +kernel
theorem dX4_makeUp_1 : decode cX4_makeUp 1 = .ok (.getfield 36, 3) := by decide +kernel
theorem dX4_makeUp_4 : decode cX4_makeUp 4 = .ok (.aload_n 0, 1) := by decide +kernel
theorem dX4_makeUp_5 : decode cX4_makeUp 5 = .ok (.getfield 10, 3) := by decide +kernel
theorem dX4_makeUp_8 : decode cX4_makeUp 8 = .ok (.aload_n 0, 1) := by decide +kernel
theorem dX4_makeUp_9 : decode cX4_makeUp 9 = .ok (.getfield 10, 3) := by decide +kernel
theorem dX4_makeUp_12 : decode cX4_makeUp 12 = .ok (.invokevirtual 172, 3) := by decide +kernel
theorem dX4_makeUp_15 : decode cX4_makeUp 15 = .ok (.invokevirtual 175, 3) := by decide +kernel
theorem dX4_makeUp_18 : decode cX4_makeUp 18 = .ok (.aload_n 0, 1) := by decide +kernel
theorem dX4_makeUp_19 : decode cX4_makeUp 19 = .ok (.getfield 36, 3) := by decide +kernel
theorem dX4_makeUp_22 : decode cX4_makeUp 22 = .ok (.getfield 188, 3) := by decide +kernel
theorem dX4_makeUp_25 : decode cX4_makeUp 25 = .ok (.ireturn, 1) := by decide +kernel
theorem dX4_worth_0 : decode cX4_worth 0 = .ok (.aload_n 0, 1) := by decide +kernel
theorem dX4_worth_1 : decode cX4_worth 1 = .ok (.getfield 10, 3) := by decide +kernel
theorem dX4_worth_4 : decode cX4_worth 4 = .ok (.iload_n 1, 1) := by decide +kernel
theorem dX4_worth_5 : decode cX4_worth 5 = .ok (.iload_n 2, 1) := by decide +kernel
theorem dX4_worth_6 : decode cX4_worth 6 = .ok (.invokevirtual 118, 3) := by decide +kernel
theorem dX4_worth_9 : decode cX4_worth 9 = .ok (.ifCond .ne 9, 3) := by decide +kernel
theorem dX4_worth_12 : decode cX4_worth 12 = .ok (.aload_n 0, 1) := by decide +kernel
theorem dX4_worth_13 : decode cX4_worth 13 = .ok (.iconst (-1), 1) := by decide +kernel
theorem dX4_worth_14 : decode cX4_worth 14 = .ok (.invokevirtual 51, 3) := by decide +kernel
theorem dX4_worth_17 : decode cX4_worth 17 = .ok (.ireturn, 1) := by decide +kernel
theorem dX4_worth_18 : decode cX4_worth 18 = .ok (.aload_n 0, 1) := by decide +kernel
theorem dX4_worth_19 : decode cX4_worth 19 = .ok (.getfield 10, 3) := by decide +kernel
theorem dX4_worth_22 : decode cX4_worth 22 = .ok (.iload_n 1, 1) := by decide +kernel
theorem dX4_worth_23 : decode cX4_worth 23 = .ok (.iload_n 2, 1) := by decide +kernel
theorem dX4_worth_24 : decode cX4_worth 24 = .ok (.invokevirtual 122, 3) := by decide +kernel
theorem dX4_worth_27 : decode cX4_worth 27 = .ok (.ifCond .ne 10, 3) := by decide +kernel
theorem dX4_worth_30 : decode cX4_worth 30 = .ok (.aload_n 0, 1) := by decide +kernel
theorem dX4_worth_31 : decode cX4_worth 31 = .ok (.bipush (-3), 2) := by decide +kernel
theorem dX4_worth_33 : decode cX4_worth 33 = .ok (.invokevirtual 51, 3) := by decide +kernel
theorem dX4_worth_36 : decode cX4_worth 36 = .ok (.ireturn, 1) := by decide +kernel
theorem dX4_worth_37 : decode cX4_worth 37 = .ok (.aload_n 0, 1) := by decide +kernel
theorem dX4_worth_38 : decode cX4_worth 38 = .ok (.getfield 36, 3) := by decide +kernel
theorem dX4_worth_41 : decode cX4_worth 41 = .ok (.aload_n 0, 1) := by decide +kernel
theorem dX4_worth_42 : decode cX4_worth 42 = .ok (.getfield 10, 3) := by decide +kernel
theorem dX4_worth_45 : decode cX4_worth 45 = .ok (.aload_n 0, 1) := by decide +kernel
theorem dX4_worth_46 : decode cX4_worth 46 = .ok (.getfield 10, 3) := by decide +kernel
theorem dX4_worth_49 : decode cX4_worth 49 = .ok (.invokevirtual 172, 3) := by decide +kernel
theorem dX4_worth_52 : decode cX4_worth 52 = .ok (.invokevirtual 175, 3) := by decide +kernel
theorem dX4_worth_55 : decode cX4_worth 55 = .ok (.aload_n 0, 1) := by decide +kernel
theorem dX4_worth_56 : decode cX4_worth 56 = .ok (.getfield 36, 3) := by decide +kernel
theorem dX4_worth_59 : decode cX4_worth 59 = .ok (.getfield 182, 3) := by decide +kernel
theorem dX4_worth_62 : decode cX4_worth 62 = .ok (.istore_n 3, 1) := by decide +kernel
theorem dX4_worth_63 : decode cX4_worth 63 = .ok (.aload_n 0, 1) := by decide +kernel
theorem dX4_worth_64 : decode cX4_worth 64 = .ok (.getfield 16, 3) := by decide +kernel
theorem dX4_worth_67 : decode cX4_worth 67 = .ok (.aload_n 0, 1) := by decide +kernel
theorem dX4_worth_68 : decode cX4_worth 68 = .ok (.getfield 10, 3) := by decide +kernel
theorem dX4_worth_71 : decode cX4_worth 71 = .ok (.invokevirtual 191, 3) := by decide +kernel
theorem dX4_worth_74 : decode cX4_worth 74 = .ok (.aload_n 0, 1) := by decide +kernel
theorem dX4_worth_75 : decode cX4_worth 75 = .ok (.getfield 16, 3) := by decide +kernel
theorem dX4_worth_78 : decode cX4_worth 78 = .ok (.iload_n 1, 1) := by decide +kernel
theorem dX4_worth_79 : decode cX4_worth 79 = .ok (.iload_n 2, 1) := by decide +kernel
theorem dX4_worth_80 : decode cX4_worth 80 = .ok (.iconst 0, 1) := by decide +kernel
theorem dX4_worth_81 : decode cX4_worth 81 = .ok (.invokevirtual 126, 3) := by decide +kernel
theorem dX4_worth_84 : decode cX4_worth 84 = .ok (.aload_n 0, 1) := by decide +kernel
theorem dX4_worth_85 : decode cX4_worth 85 = .ok (.getfield 36, 3) := by decide +kernel
theorem dX4_worth_88 : decode cX4_worth 88 = .ok (.aload_n 0, 1) := by decide +kernel
theorem dX4_worth_89 : decode cX4_worth 89 = .ok (.getfield 16, 3) := by decide +kernel
theorem dX4_worth_92 : decode cX4_worth 92 = .ok (.aload_n 0, 1) := by decide +kernel
theorem dX4_worth_93 : decode cX4_worth 93 = .ok (.getfield 16, 3) := by decide +kernel
theorem dX4_worth_96 : decode cX4_worth 96 = .ok (.invokevirtual 172, 3) := by decide +kernel
theorem dX4_worth_99 : decode cX4_worth 99 = .ok (.invokevirtual 175, 3) := by decide +kernel
theorem dX4_worth_102 : decode cX4_worth 102 = .ok (.aload_n 0, 1) := by decide +kernel
theorem dX4_worth_103 : decode cX4_worth 103 = .ok (.getfield 36, 3) := by decide +kernel
theorem dX4_worth_106 : decode cX4_worth 106 = .ok (.getfield 182, 3) := by decide +kernel
theorem dX4_worth_109 : decode cX4_worth 109 = .ok (.iload_n 3, 1) := by decide +kernel
theorem dX4_worth_110 : decode cX4_worth 110 = .ok (.isub, 1) := by decide +kernel
theorem dX4_worth_111 : decode cX4_worth 111 = .ok (.ireturn, 1) := by decide +kernel
theorem dX4_change_0 : decode cX4_change 0 = .ok (.aload_n 0, 1) := by decide +kernel
theorem dX4_change_1 : decode cX4_change 1 = .ok (.getfield 36, 3) := by decide +kernel
theorem dX4_change_4 : decode cX4_change 4 = .ok (.aload_n 0, 1) := by decide +kernel
theorem dX4_change_5 : decode cX4_change 5 = .ok (.getfield 10, 3) := by decide +kernel
theorem dX4_change_8 : decode cX4_change 8 = .ok (.invokevirtual 195, 3) := by decide +kernel
theorem dX4_change_11 : decode cX4_change 11 = .ok (.ireturn, 1) := by decide +kernel
theorem dX4_flood_0 : decode cX4_flood 0 = .ok (.aload_n 0, 1) := by decide +kernel
theorem dX4_flood_1 : decode cX4_flood 1 = .ok (.getfield 10, 3) := by decide +kernel
theorem dX4_flood_4 : decode cX4_flood 4 = .ok (.aload_n 0, 1) := by decide +kernel
theorem dX4_flood_5 : decode cX4_flood 5 = .ok (.getfield 10, 3) := by decide +kernel
theorem dX4_flood_8 : decode cX4_flood 8 = .ok (.getfield 76, 3) := by decide +kernel
theorem dX4_flood_11 : decode cX4_flood 11 = .ok (.invokevirtual 155, 3) := by decide +kernel
theorem dX4_flood_14 : decode cX4_flood 14 = .ok (.bipush (-9), 2) := by decide +kernel
theorem dX4_flood_16 : decode cX4_flood 16 = .ok (.if_icmp .eq 6, 3) := by decide +kernel
theorem dX4_flood_19 : decode cX4_flood 19 = .ok (.bipush (-9), 2) := by decide +kernel
theorem dX4_flood_21 : decode cX4_flood 21 = .ok (.ireturn, 1) := by decide +kernel
theorem dX4_flood_22 : decode cX4_flood 22 = .ok (.bipush 9, 2) := by decide +kernel
theorem dX4_flood_24 : decode cX4_flood 24 = .ok (.istore_n 1, 1) := by decide +kernel
theorem dX4_flood_25 : decode cX4_flood 25 = .ok (.iconst 0, 1) := by decide +kernel
theorem dX4_flood_26 : decode cX4_flood 26 = .ok (.istore_n 2, 1) := by decide +kernel
theorem dX4_flood_27 : decode cX4_flood 27 = .ok (.iload_n 2, 1) := by decide +kernel
theorem dX4_flood_28 : decode cX4_flood 28 = .ok (.aload_n 0, 1) := by decide +kernel
theorem dX4_flood_29 : decode cX4_flood 29 = .ok (.getfield 10, 3) := by decide +kernel
theorem dX4_flood_32 : decode cX4_flood 32 = .ok (.getfield 149, 3) := by decide +kernel
theorem dX4_flood_35 : decode cX4_flood 35 = .ok (.if_icmp .ge 44, 3) := by decide +kernel
theorem dX4_flood_38 : decode cX4_flood 38 = .ok (.iload_n 1, 1) := by decide +kernel
theorem dX4_flood_39 : decode cX4_flood 39 = .ok (.aload_n 0, 1) := by decide +kernel
theorem dX4_flood_40 : decode cX4_flood 40 = .ok (.getfield 10, 3) := by decide +kernel
theorem dX4_flood_43 : decode cX4_flood 43 = .ok (.getfield 82, 3) := by decide +kernel
theorem dX4_flood_46 : decode cX4_flood 46 = .ok (.aload_n 0, 1) := by decide +kernel
theorem dX4_flood_47 : decode cX4_flood 47 = .ok (.getfield 10, 3) := by decide +kernel
theorem dX4_flood_50 : decode cX4_flood 50 = .ok (.getfield 76, 3) := by decide +kernel
theorem dX4_flood_53 : decode cX4_flood 53 = .ok (.iload_n 2, 1) := by decide +kernel
theorem dX4_flood_54 : decode cX4_flood 54 = .ok (.iaload, 1) := by decide +kernel
theorem dX4_flood_55 : decode cX4_flood 55 = .ok (.aaload, 1) := by decide +kernel
theorem dX4_flood_56 : decode cX4_flood 56 = .ok (.invokevirtual 103, 3) := by decide +kernel
theorem dX4_flood_59 : decode cX4_flood 59 = .ok (.aload_n 0, 1) := by decide +kernel
theorem dX4_flood_60 : decode cX4_flood 60 = .ok (.getfield 10, 3) := by decide +kernel
theorem dX4_flood_63 : decode cX4_flood 63 = .ok (.getfield 70, 3) := by decide +kernel
theorem dX4_flood_66 : decode cX4_flood 66 = .ok (.iload_n 2, 1) := by decide +kernel
theorem dX4_flood_67 : decode cX4_flood 67 = .ok (.iaload, 1) := by decide +kernel
theorem dX4_flood_68 : decode cX4_flood 68 = .ok (.isub, 1) := by decide +kernel
theorem dX4_flood_69 : decode cX4_flood 69 = .ok (.invokestatic 199, 3) := by decide +kernel
theorem dX4_flood_72 : decode cX4_flood 72 = .ok (.istore_n 1, 1) := by decide +kernel
theorem dX4_flood_73 : decode cX4_flood 73 = .ok (.iinc 2 1, 3) := by decide +kernel
theorem dX4_flood_76 : decode cX4_flood 76 = .ok (.goto (-49), 3) := by decide +kernel
theorem dX4_flood_79 : decode cX4_flood 79 = .ok (.iload_n 1, 1) := by decide +kernel
theorem dX4_flood_80 : decode cX4_flood 80 = .ok (.ireturn, 1) := by decide +kernel
theorem dX4_overs_0 : decode cX4_overs 0 = .ok (.iconst 0, 1) := by decide +kernel
theorem dX4_overs_1 : decode cX4_overs 1 = .ok (.aload_n 0, 1) := by decide +kernel
theorem dX4_overs_2 : decode cX4_overs 2 = .ok (.getfield 10, 3) := by decide +kernel
theorem dX4_overs_5 : decode cX4_overs 5 = .ok (.aload_n 0, 1) := by decide +kernel
theorem dX4_overs_6 : decode cX4_overs 6 = .ok (.getfield 10, 3) := by decide +kernel
theorem dX4_overs_9 : decode cX4_overs 9 = .ok (.getfield 76, 3) := by decide +kernel
theorem dX4_overs_12 : decode cX4_overs 12 = .ok (.invokevirtual 163, 3) := by decide +kernel
theorem dX4_overs_15 : decode cX4_overs 15 = .ok (.aload_n 0, 1) := by decide +kernel
theorem dX4_overs_16 : decode cX4_overs 16 = .ok (.getfield 10, 3) := by decide +kernel
theorem dX4_overs_19 : decode cX4_overs 19 = .ok (.invokevirtual 204, 3) := by decide +kernel
theorem dX4_overs_22 : decode cX4_overs 22 = .ok (.invokestatic 199, 3) := by decide +kernel
theorem dX4_overs_25 : decode cX4_overs 25 = .ok (.invokestatic 207, 3) := by decide +kernel
theorem dX4_overs_28 : decode cX4_overs 28 = .ok (.ireturn, 1) := by decide +kernel
theorem dX4_owes_0 : decode cX4_owes 0 = .ok (.aload_n 0, 1) := by decide +kernel
theorem dX4_owes_1 : decode cX4_owes 1 = .ok (.getfield 10, 3) := by decide +kernel
theorem dX4_owes_4 : decode cX4_owes 4 = .ok (.iload_n 1, 1) := by decide +kernel
theorem dX4_owes_5 : decode cX4_owes 5 = .ok (.iload_n 2, 1) := by decide +kernel
theorem dX4_owes_6 : decode cX4_owes 6 = .ok (.invokevirtual 118, 3) := by decide +kernel
theorem dX4_owes_9 : decode cX4_owes 9 = .ok (.ifCond .ne 9, 3) := by decide +kernel
theorem dX4_owes_12 : decode cX4_owes 12 = .ok (.aload_n 0, 1) := by decide +kernel
theorem dX4_owes_13 : decode cX4_owes 13 = .ok (.iconst (-1), 1) := by decide +kernel
theorem dX4_owes_14 : decode cX4_owes 14 = .ok (.invokevirtual 51, 3) := by decide +kernel
theorem dX4_owes_17 : decode cX4_owes 17 = .ok (.ireturn, 1) := by decide +kernel
theorem dX4_owes_18 : decode cX4_owes 18 = .ok (.aload_n 0, 1) := by decide +kernel
theorem dX4_owes_19 : decode cX4_owes 19 = .ok (.getfield 10, 3) := by decide +kernel
theorem dX4_owes_22 : decode cX4_owes 22 = .ok (.iload_n 1, 1) := by decide +kernel
theorem dX4_owes_23 : decode cX4_owes 23 = .ok (.iload_n 2, 1) := by decide +kernel
theorem dX4_owes_24 : decode cX4_owes 24 = .ok (.invokevirtual 210, 3) := by decide +kernel
theorem dX4_owes_27 : decode cX4_owes 27 = .ok (.ireturn, 1) := by decide +kernel
theorem dX4_owed_0 : decode cX4_owed 0 = .ok (.aload_n 0, 1) := by decide +kernel
theorem dX4_owed_1 : decode cX4_owed 1 = .ok (.getfield 10, 3) := by decide +kernel
theorem dX4_owed_4 : decode cX4_owed 4 = .ok (.iload_n 1, 1) := by decide +kernel
theorem dX4_owed_5 : decode cX4_owed 5 = .ok (.invokevirtual 79, 3) := by decide +kernel
theorem dX4_owed_8 : decode cX4_owed 8 = .ok (.ifCond .ne 12, 3) := by decide +kernel
theorem dX4_owed_11 : decode cX4_owed 11 = .ok (.ldc 213, 2) := by decide +kernel
theorem dX4_owed_13 : decode cX4_owed 13 = .ok (.aload_n 0, 1) := by decide +kernel
theorem dX4_owed_14 : decode cX4_owed 14 = .ok (.iconst (-1), 1) := by decide +kernel
theorem dX4_owed_15 : decode cX4_owed 15 = .ok (.invokevirtual 51, 3) := by decide +kernel
theorem dX4_owed_18 : decode cX4_owed 18 = .ok (.isub, 1) := by decide +kernel
theorem dX4_owed_19 : decode cX4_owed 19 = .ok (.ireturn, 1) := by decide +kernel
theorem dX4_owed_20 : decode cX4_owed 20 = .ok (.iconst 0, 1) := by decide +kernel
theorem dX4_owed_21 : decode cX4_owed 21 = .ok (.istore_n 2, 1) := by decide +kernel
theorem dX4_owed_22 : decode cX4_owed 22 = .ok (.iconst 0, 1) := by decide +kernel
theorem dX4_owed_23 : decode cX4_owed 23 = .ok (.istore_n 3, 1) := by decide +kernel
theorem dX4_owed_24 : decode cX4_owed 24 = .ok (.iload_n 3, 1) := by decide +kernel
theorem dX4_owed_25 : decode cX4_owed 25 = .ok (.aload_n 0, 1) := by decide +kernel
theorem dX4_owed_26 : decode cX4_owed 26 = .ok (.getfield 10, 3) := by decide +kernel
theorem dX4_owed_29 : decode cX4_owed 29 = .ok (.getfield 146, 3) := by decide +kernel
theorem dX4_owed_32 : decode cX4_owed 32 = .ok (.if_icmp .ge 31, 3) := by decide +kernel
theorem dX4_owed_35 : decode cX4_owed 35 = .ok (.iload_n 2, 1) := by decide +kernel
theorem dX4_owed_36 : decode cX4_owed 36 = .ok (.aload_n 0, 1) := by decide +kernel
theorem dX4_owed_37 : decode cX4_owed 37 = .ok (.getfield 10, 3) := by decide +kernel
theorem dX4_owed_40 : decode cX4_owed 40 = .ok (.iload_n 3, 1) := by decide +kernel
theorem dX4_owed_41 : decode cX4_owed 41 = .ok (.iload_n 1, 1) := by decide +kernel
theorem dX4_owed_42 : decode cX4_owed 42 = .ok (.invokevirtual 210, 3) := by decide +kernel
theorem dX4_owed_45 : decode cX4_owed 45 = .ok (.aload_n 0, 1) := by decide +kernel
theorem dX4_owed_46 : decode cX4_owed 46 = .ok (.getfield 10, 3) := by decide +kernel
theorem dX4_owed_49 : decode cX4_owed 49 = .ok (.iload_n 1, 1) := by decide +kernel
theorem dX4_owed_50 : decode cX4_owed 50 = .ok (.iload_n 3, 1) := by decide +kernel
theorem dX4_owed_51 : decode cX4_owed 51 = .ok (.invokevirtual 210, 3) := by decide +kernel
theorem dX4_owed_54 : decode cX4_owed 54 = .ok (.isub, 1) := by decide +kernel
theorem dX4_owed_55 : decode cX4_owed 55 = .ok (.iadd, 1) := by decide +kernel
theorem dX4_owed_56 : decode cX4_owed 56 = .ok (.istore_n 2, 1) := by decide +kernel
theorem dX4_owed_57 : decode cX4_owed 57 = .ok (.iinc 3 1, 3) := by decide +kernel
theorem dX4_owed_60 : decode cX4_owed 60 = .ok (.goto (-36), 3) := by decide +kernel
theorem dX4_owed_63 : decode cX4_owed 63 = .ok (.iload_n 2, 1) := by decide +kernel
theorem dX4_owed_64 : decode cX4_owed 64 = .ok (.ireturn, 1) := by decide +kernel
theorem dX4_strike_0 : decode cX4_strike 0 = .ok (.aload_n 0, 1) := by decide +kernel
theorem dX4_strike_1 : decode cX4_strike 1 = .ok (.getfield 10, 3) := by decide +kernel
theorem dX4_strike_4 : decode cX4_strike 4 = .ok (.invokevirtual 214, 3) := by decide +kernel
theorem dX4_strike_7 : decode cX4_strike 7 = .ok (.aload_n 0, 1) := by decide +kernel
theorem dX4_strike_8 : decode cX4_strike 8 = .ok (.getfield 10, 3) := by decide +kernel
theorem dX4_strike_11 : decode cX4_strike 11 = .ok (.invokevirtual 217, 3) := by decide +kernel
theorem dX4_strike_14 : decode cX4_strike 14 = .ok (.iadd, 1) := by decide +kernel
theorem dX4_strike_15 : decode cX4_strike 15 = .ok (.ireturn, 1) := by decide +kernel
theorem dX4_wet_0 : decode cX4_wet 0 = .ok (.iload_n 1, 1) := by decide +kernel
theorem dX4_wet_1 : decode cX4_wet 1 = .ok (.aload_n 0, 1) := by decide +kernel
theorem dX4_wet_2 : decode cX4_wet 2 = .ok (.getfield 10, 3) := by decide +kernel
theorem dX4_wet_5 : decode cX4_wet 5 = .ok (.invokevirtual 172, 3) := by decide +kernel
theorem dX4_wet_8 : decode cX4_wet 8 = .ok (.iconst (-1), 1) := by decide +kernel
theorem dX4_wet_9 : decode cX4_wet 9 = .ok (.ixor, 1) := by decide +kernel
theorem dX4_wet_10 : decode cX4_wet 10 = .ok (.iand, 1) := by decide +kernel
theorem dX4_wet_11 : decode cX4_wet 11 = .ok (.ifCond .eq 9, 3) := by decide +kernel
theorem dX4_wet_14 : decode cX4_wet 14 = .ok (.aload_n 0, 1) := by decide +kernel
theorem dX4_wet_15 : decode cX4_wet 15 = .ok (.iconst (-1), 1) := by decide +kernel
theorem dX4_wet_16 : decode cX4_wet 16 = .ok (.invokevirtual 51, 3) := by decide +kernel
theorem dX4_wet_19 : decode cX4_wet 19 = .ok (.ireturn, 1) := by decide +kernel
theorem dX4_wet_20 : decode cX4_wet 20 = .ok (.iload_n 2, 1) := by decide +kernel
theorem dX4_wet_21 : decode cX4_wet 21 = .ok (.iconst (-1), 1) := by decide +kernel
theorem dX4_wet_22 : decode cX4_wet 22 = .ok (.if_icmp .eq 28, 3) := by decide +kernel
theorem dX4_wet_25 : decode cX4_wet 25 = .ok (.aload_n 0, 1) := by decide +kernel
theorem dX4_wet_26 : decode cX4_wet 26 = .ok (.getfield 10, 3) := by decide +kernel
theorem dX4_wet_29 : decode cX4_wet 29 = .ok (.iload_n 2, 1) := by decide +kernel
theorem dX4_wet_30 : decode cX4_wet 30 = .ok (.invokevirtual 79, 3) := by decide +kernel
theorem dX4_wet_33 : decode cX4_wet 33 = .ok (.ifCond .eq 11, 3) := by decide +kernel
theorem dX4_wet_36 : decode cX4_wet 36 = .ok (.iload_n 1, 1) := by decide +kernel
theorem dX4_wet_37 : decode cX4_wet 37 = .ok (.iconst 1, 1) := by decide +kernel
theorem dX4_wet_38 : decode cX4_wet 38 = .ok (.iload_n 2, 1) := by decide +kernel
theorem dX4_wet_39 : decode cX4_wet 39 = .ok (.ishl, 1) := by decide +kernel
theorem dX4_wet_40 : decode cX4_wet 40 = .ok (.iand, 1) := by decide +kernel
theorem dX4_wet_41 : decode cX4_wet 41 = .ok (.ifCond .ne 9, 3) := by decide +kernel
theorem dX4_wet_44 : decode cX4_wet 44 = .ok (.aload_n 0, 1) := by decide +kernel
theorem dX4_wet_45 : decode cX4_wet 45 = .ok (.iconst (-1), 1) := by decide +kernel
theorem dX4_wet_46 : decode cX4_wet 46 = .ok (.invokevirtual 51, 3) := by decide +kernel
theorem dX4_wet_49 : decode cX4_wet 49 = .ok (.ireturn, 1) := by decide +kernel
theorem dX4_wet_50 : decode cX4_wet 50 = .ok (.iload_n 1, 1) := by decide +kernel
theorem dX4_wet_51 : decode cX4_wet 51 = .ok (.invokestatic 220, 3) := by decide +kernel
theorem dX4_wet_54 : decode cX4_wet 54 = .ok (.aload_n 0, 1) := by decide +kernel
theorem dX4_wet_55 : decode cX4_wet 55 = .ok (.getfield 10, 3) := by decide +kernel
theorem dX4_wet_58 : decode cX4_wet 58 = .ok (.getfield 149, 3) := by decide +kernel
theorem dX4_wet_61 : decode cX4_wet 61 = .ok (.if_icmp .eq 5, 3) := by decide +kernel
theorem dX4_wet_64 : decode cX4_wet 64 = .ok (.iconst 0, 1) := by decide +kernel
theorem dX4_wet_65 : decode cX4_wet 65 = .ok (.ireturn, 1) := by decide +kernel
theorem dX4_wet_66 : decode cX4_wet 66 = .ok (.aload_n 0, 1) := by decide +kernel
theorem dX4_wet_67 : decode cX4_wet 67 = .ok (.getfield 36, 3) := by decide +kernel
theorem dX4_wet_70 : decode cX4_wet 70 = .ok (.aload_n 0, 1) := by decide +kernel
theorem dX4_wet_71 : decode cX4_wet 71 = .ok (.getfield 10, 3) := by decide +kernel
theorem dX4_wet_74 : decode cX4_wet 74 = .ok (.iload_n 1, 1) := by decide +kernel
theorem dX4_wet_75 : decode cX4_wet 75 = .ok (.invokevirtual 175, 3) := by decide +kernel
theorem dX4_wet_78 : decode cX4_wet 78 = .ok (.iload_n 2, 1) := by decide +kernel
theorem dX4_wet_79 : decode cX4_wet 79 = .ok (.iconst (-1), 1) := by decide +kernel
theorem dX4_wet_80 : decode cX4_wet 80 = .ok (.if_icmp .ne 13, 3) := by decide +kernel
theorem dX4_wet_83 : decode cX4_wet 83 = .ok (.aload_n 0, 1) := by decide +kernel
theorem dX4_wet_84 : decode cX4_wet 84 = .ok (.getfield 36, 3) := by decide +kernel
theorem dX4_wet_87 : decode cX4_wet 87 = .ok (.getfield 179, 3) := by decide +kernel
theorem dX4_wet_90 : decode cX4_wet 90 = .ok (.goto 12, 3) := by decide +kernel
theorem dX4_wet_93 : decode cX4_wet 93 = .ok (.aload_n 0, 1) := by decide +kernel
theorem dX4_wet_94 : decode cX4_wet 94 = .ok (.getfield 36, 3) := by decide +kernel
theorem dX4_wet_97 : decode cX4_wet 97 = .ok (.getfield 225, 3) := by decide +kernel
theorem dX4_wet_100 : decode cX4_wet 100 = .ok (.iload_n 2, 1) := by decide +kernel
theorem dX4_wet_101 : decode cX4_wet 101 = .ok (.iaload, 1) := by decide +kernel
theorem dX4_wet_102 : decode cX4_wet 102 = .ok (.ireturn, 1) := by decide +kernel
theorem dX4_row_0 : decode cX4_row 0 = .ok (.iload_n 1, 1) := by decide +kernel
theorem dX4_row_1 : decode cX4_row 1 = .ok (.ifCond .ge 10, 3) := by decide +kernel
theorem dX4_row_4 : decode cX4_row 4 = .ok (.aload_n 0, 1) := by decide +kernel
theorem dX4_row_5 : decode cX4_row 5 = .ok (.bipush (-4), 2) := by decide +kernel
theorem dX4_row_7 : decode cX4_row 7 = .ok (.invokevirtual 51, 3) := by decide +kernel
theorem dX4_row_10 : decode cX4_row 10 = .ok (.ireturn, 1) := by decide +kernel
theorem dX4_row_11 : decode cX4_row 11 = .ok (.iload_n 1, 1) := by decide +kernel
theorem dX4_row_12 : decode cX4_row 12 = .ok (.bipush 7, 2) := by decide +kernel
theorem dX4_row_14 : decode cX4_row 14 = .ok (.if_icmp .ge 11, 3) := by decide +kernel
theorem dX4_row_17 : decode cX4_row 17 = .ok (.aload_n 0, 1) := by decide +kernel
theorem dX4_row_18 : decode cX4_row 18 = .ok (.getfield 44, 3) := by decide +kernel
theorem dX4_row_21 : decode cX4_row 21 = .ok (.iconst 5, 1) := by decide +kernel
theorem dX4_row_22 : decode cX4_row 22 = .ok (.if_icmp .lt 10, 3) := by decide +kernel
theorem dX4_row_25 : decode cX4_row 25 = .ok (.aload_n 0, 1) := by decide +kernel
theorem dX4_row_26 : decode cX4_row 26 = .ok (.bipush (-6), 2) := by decide +kernel
theorem dX4_row_28 : decode cX4_row 28 = .ok (.invokevirtual 51, 3) := by decide +kernel
theorem dX4_row_31 : decode cX4_row 31 = .ok (.ireturn, 1) := by decide +kernel
theorem dX4_row_32 : decode cX4_row 32 = .ok (.aload_n 0, 1) := by decide +kernel
theorem dX4_row_33 : decode cX4_row 33 = .ok (.getfield 40, 3) := by decide +kernel
theorem dX4_row_36 : decode cX4_row 36 = .ok (.aload_n 0, 1) := by decide +kernel
theorem dX4_row_37 : decode cX4_row 37 = .ok (.getfield 44, 3) := by decide +kernel
theorem dX4_row_40 : decode cX4_row 40 = .ok (.iload_n 1, 1) := by decide +kernel
theorem dX4_row_41 : decode cX4_row 41 = .ok (.iastore, 1) := by decide +kernel
theorem dX4_row_42 : decode cX4_row 42 = .ok (.aload_n 0, 1) := by decide +kernel
theorem dX4_row_43 : decode cX4_row 43 = .ok (.dup, 1) := by decide +kernel
theorem dX4_row_44 : decode cX4_row 44 = .ok (.getfield 44, 3) := by decide +kernel
theorem dX4_row_47 : decode cX4_row 47 = .ok (.iconst 1, 1) := by decide +kernel
theorem dX4_row_48 : decode cX4_row 48 = .ok (.iadd, 1) := by decide +kernel
theorem dX4_row_49 : decode cX4_row 49 = .ok (.putfield 44, 3) := by decide +kernel
theorem dX4_row_52 : decode cX4_row 52 = .ok (.aload_n 0, 1) := by decide +kernel
theorem dX4_row_53 : decode cX4_row 53 = .ok (.getfield 44, 3) := by decide +kernel
theorem dX4_row_56 : decode cX4_row 56 = .ok (.ireturn, 1) := by decide +kernel
theorem dX4_judge_0 : decode cX4_judge 0 = .ok (.aload_n 0, 1) := by decide +kernel
theorem dX4_judge_1 : decode cX4_judge 1 = .ok (.getfield 10, 3) := by decide +kernel
theorem dX4_judge_4 : decode cX4_judge 4 = .ok (.aload_n 0, 1) := by decide +kernel
theorem dX4_judge_5 : decode cX4_judge 5 = .ok (.getfield 40, 3) := by decide +kernel
theorem dX4_judge_8 : decode cX4_judge 8 = .ok (.aload_n 0, 1) := by decide +kernel
theorem dX4_judge_9 : decode cX4_judge 9 = .ok (.getfield 44, 3) := by decide +kernel
theorem dX4_judge_12 : decode cX4_judge 12 = .ok (.invokevirtual 228, 3) := by decide +kernel
theorem dX4_judge_15 : decode cX4_judge 15 = .ok (.istore_n 1, 1) := by decide +kernel
theorem dX4_judge_16 : decode cX4_judge 16 = .ok (.aload_n 0, 1) := by decide +kernel
theorem dX4_judge_17 : decode cX4_judge 17 = .ok (.iconst 0, 1) := by decide +kernel
theorem dX4_judge_18 : decode cX4_judge 18 = .ok (.putfield 44, 3) := by decide +kernel
theorem dX4_judge_21 : decode cX4_judge 21 = .ok (.iload_n 1, 1) := by decide +kernel
theorem dX4_judge_22 : decode cX4_judge 22 = .ok (.ireturn, 1) := by decide +kernel
theorem dX4_seeds_0 : decode cX4_seeds 0 = .ok (.iload_n 1, 1) := by decide +kernel
theorem dX4_seeds_1 : decode cX4_seeds 1 = .ok (.iconst 1, 1) := by decide +kernel
theorem dX4_seeds_2 : decode cX4_seeds 2 = .ok (.if_icmp .ge 10, 3) := by decide +kernel
theorem dX4_seeds_5 : decode cX4_seeds 5 = .ok (.aload_n 0, 1) := by decide +kernel
theorem dX4_seeds_6 : decode cX4_seeds 6 = .ok (.bipush (-4), 2) := by decide +kernel
theorem dX4_seeds_8 : decode cX4_seeds 8 = .ok (.invokevirtual 51, 3) := by decide +kernel
theorem dX4_seeds_11 : decode cX4_seeds 11 = .ok (.ireturn, 1) := by decide +kernel
theorem dX4_seeds_12 : decode cX4_seeds 12 = .ok (.iload_n 1, 1) := by decide +kernel
theorem dX4_seeds_13 : decode cX4_seeds 13 = .ok (.bipush 60, 2) := by decide +kernel
theorem dX4_seeds_15 : decode cX4_seeds 15 = .ok (.if_icmp .le 10, 3) := by decide +kernel
theorem dX4_seeds_18 : decode cX4_seeds 18 = .ok (.aload_n 0, 1) := by decide +kernel
theorem dX4_seeds_19 : decode cX4_seeds 19 = .ok (.bipush (-6), 2) := by decide +kernel
theorem dX4_seeds_21 : decode cX4_seeds 21 = .ok (.invokevirtual 51, 3) := by decide +kernel
theorem dX4_seeds_24 : decode cX4_seeds 24 = .ok (.ireturn, 1) := by decide +kernel
theorem dX4_seeds_25 : decode cX4_seeds 25 = .ok (.aload_n 0, 1) := by decide +kernel
theorem dX4_seeds_26 : decode cX4_seeds 26 = .ok (.getfield 10, 3) := by decide +kernel
theorem dX4_seeds_29 : decode cX4_seeds 29 = .ok (.getfield 146, 3) := by decide +kernel
theorem dX4_seeds_32 : decode cX4_seeds 32 = .ok (.ifCond .ne 10, 3) := by decide +kernel
theorem dX4_seeds_35 : decode cX4_seeds 35 = .ok (.aload_n 0, 1) := by decide +kernel
theorem dX4_seeds_36 : decode cX4_seeds 36 = .ok (.bipush (-3), 2) := by decide +kernel
theorem dX4_seeds_38 : decode cX4_seeds 38 = .ok (.invokevirtual 51, 3) := by decide +kernel
theorem dX4_seeds_41 : decode cX4_seeds 41 = .ok (.ireturn, 1) := by decide +kernel
theorem dX4_seeds_42 : decode cX4_seeds 42 = .ok (.aload_n 0, 1) := by decide +kernel
theorem dX4_seeds_43 : decode cX4_seeds 43 = .ok (.getfield 36, 3) := by decide +kernel
theorem dX4_seeds_46 : decode cX4_seeds 46 = .ok (.aload_n 0, 1) := by decide +kernel
theorem dX4_seeds_47 : decode cX4_seeds 47 = .ok (.getfield 10, 3) := by decide +kernel
theorem dX4_seeds_50 : decode cX4_seeds 50 = .ok (.iload_n 1, 1) := by decide +kernel
theorem dX4_seeds_51 : decode cX4_seeds 51 = .ok (.iload_n 2, 1) := by decide +kernel
theorem dX4_seeds_52 : decode cX4_seeds 52 = .ok (.invokevirtual 231, 3) := by decide +kernel
theorem dX4_seeds_55 : decode cX4_seeds 55 = .ok (.ireturn, 1) := by decide +kernel
theorem dX4_image_0 : decode cX4_image 0 = .ok (.aload_n 0, 1) := by decide +kernel
theorem dX4_image_1 : decode cX4_image 1 = .ok (.getfield 19, 3) := by decide +kernel
theorem dX4_image_4 : decode cX4_image 4 = .ok (.aload_n 0, 1) := by decide +kernel
theorem dX4_image_5 : decode cX4_image 5 = .ok (.getfield 10, 3) := by decide +kernel
theorem dX4_image_8 : decode cX4_image 8 = .ok (.invokevirtual 191, 3) := by decide +kernel
theorem dX4_image_11 : decode cX4_image 11 = .ok (.aload_n 0, 1) := by decide +kernel
theorem dX4_image_12 : decode cX4_image 12 = .ok (.iconst 1, 1) := by decide +kernel
theorem dX4_image_13 : decode cX4_image 13 = .ok (.putfield 22, 3) := by decide +kernel
theorem dX4_image_16 : decode cX4_image 16 = .ok (.aload_n 0, 1) := by decide +kernel
theorem dX4_image_17 : decode cX4_image 17 = .ok (.getfield 10, 3) := by decide +kernel
theorem dX4_image_20 : decode cX4_image 20 = .ok (.getfield 235, 3) := by decide +kernel
theorem dX4_image_23 : decode cX4_image 23 = .ok (.ireturn, 1) := by decide +kernel
theorem dX4_restore_0 : decode cX4_restore 0 = .ok (.aload_n 0, 1) := by decide +kernel
theorem dX4_restore_1 : decode cX4_restore 1 = .ok (.getfield 22, 3) := by decide +kernel
theorem dX4_restore_4 : decode cX4_restore 4 = .ok (.ifCond .ne 10, 3) := by decide +kernel
theorem dX4_restore_7 : decode cX4_restore 7 = .ok (.aload_n 0, 1) := by decide +kernel
theorem dX4_restore_8 : decode cX4_restore 8 = .ok (.bipush (-3), 2) := by decide +kernel
theorem dX4_restore_10 : decode cX4_restore 10 = .ok (.invokevirtual 51, 3) := by decide +kernel
theorem dX4_restore_13 : decode cX4_restore 13 = .ok (.ireturn, 1) := by decide +kernel
theorem dX4_restore_14 : decode cX4_restore 14 = .ok (.aload_n 0, 1) := by decide +kernel
theorem dX4_restore_15 : decode cX4_restore 15 = .ok (.getfield 10, 3) := by decide +kernel
theorem dX4_restore_18 : decode cX4_restore 18 = .ok (.aload_n 0, 1) := by decide +kernel
theorem dX4_restore_19 : decode cX4_restore 19 = .ok (.getfield 19, 3) := by decide +kernel
theorem dX4_restore_22 : decode cX4_restore 22 = .ok (.invokevirtual 191, 3) := by decide +kernel
theorem dX4_restore_25 : decode cX4_restore 25 = .ok (.aload_n 0, 1) := by decide +kernel
theorem dX4_restore_26 : decode cX4_restore 26 = .ok (.getfield 10, 3) := by decide +kernel
theorem dX4_restore_29 : decode cX4_restore 29 = .ok (.getfield 235, 3) := by decide +kernel
theorem dX4_restore_32 : decode cX4_restore 32 = .ok (.ireturn, 1) := by decide +kernel
theorem dX4_count_0 : decode cX4_count 0 = .ok (.iload_n 1, 1) := by decide +kernel
theorem dX4_count_1 : decode cX4_count 1 = .ok (.tableswitch 132 0 9 #[55, 63, 71, 79, 87, 95, 103, 111, 119, 127], 55) := by decide +kernel
theorem dX4_count_56 : decode cX4_count 56 = .ok (.aload_n 0, 1) := by decide +kernel
theorem dX4_count_57 : decode cX4_count 57 = .ok (.getfield 10, 3) := by decide +kernel
theorem dX4_count_60 : decode cX4_count 60 = .ok (.getfield 149, 3) := by decide +kernel
theorem dX4_count_63 : decode cX4_count 63 = .ok (.ireturn, 1) := by decide +kernel
theorem dX4_count_64 : decode cX4_count 64 = .ok (.aload_n 0, 1) := by decide +kernel
theorem dX4_count_65 : decode cX4_count 65 = .ok (.getfield 10, 3) := by decide +kernel
theorem dX4_count_68 : decode cX4_count 68 = .ok (.getfield 146, 3) := by decide +kernel
theorem dX4_count_71 : decode cX4_count 71 = .ok (.ireturn, 1) := by decide +kernel
theorem dX4_count_72 : decode cX4_count 72 = .ok (.aload_n 0, 1) := by decide +kernel
theorem dX4_count_73 : decode cX4_count 73 = .ok (.getfield 10, 3) := by decide +kernel
theorem dX4_count_76 : decode cX4_count 76 = .ok (.getfield 109, 3) := by decide +kernel
theorem dX4_count_79 : decode cX4_count 79 = .ok (.ireturn, 1) := by decide +kernel
theorem dX4_count_80 : decode cX4_count 80 = .ok (.aload_n 0, 1) := by decide +kernel
theorem dX4_count_81 : decode cX4_count 81 = .ok (.getfield 10, 3) := by decide +kernel
theorem dX4_count_84 : decode cX4_count 84 = .ok (.getfield 235, 3) := by decide +kernel
theorem dX4_count_87 : decode cX4_count 87 = .ok (.ireturn, 1) := by decide +kernel
theorem dX4_count_88 : decode cX4_count 88 = .ok (.aload_n 0, 1) := by decide +kernel
theorem dX4_count_89 : decode cX4_count 89 = .ok (.getfield 10, 3) := by decide +kernel
theorem dX4_count_92 : decode cX4_count 92 = .ok (.invokevirtual 137, 3) := by decide +kernel
theorem dX4_count_95 : decode cX4_count 95 = .ok (.ireturn, 1) := by decide +kernel
theorem dX4_count_96 : decode cX4_count 96 = .ok (.aload_n 0, 1) := by decide +kernel
theorem dX4_count_97 : decode cX4_count 97 = .ok (.getfield 10, 3) := by decide +kernel
theorem dX4_count_100 : decode cX4_count 100 = .ok (.invokevirtual 140, 3) := by decide +kernel
theorem dX4_count_103 : decode cX4_count 103 = .ok (.ireturn, 1) := by decide +kernel
theorem dX4_count_104 : decode cX4_count 104 = .ok (.aload_n 0, 1) := by decide +kernel
theorem dX4_count_105 : decode cX4_count 105 = .ok (.getfield 10, 3) := by decide +kernel
theorem dX4_count_108 : decode cX4_count 108 = .ok (.invokevirtual 238, 3) := by decide +kernel
theorem dX4_count_111 : decode cX4_count 111 = .ok (.ireturn, 1) := by decide +kernel
theorem dX4_count_112 : decode cX4_count 112 = .ok (.aload_n 0, 1) := by decide +kernel
theorem dX4_count_113 : decode cX4_count 113 = .ok (.getfield 10, 3) := by decide +kernel
theorem dX4_count_116 : decode cX4_count 116 = .ok (.invokevirtual 241, 3) := by decide +kernel
theorem dX4_count_119 : decode cX4_count 119 = .ok (.ireturn, 1) := by decide +kernel
theorem dX4_count_120 : decode cX4_count 120 = .ok (.aload_n 0, 1) := by decide +kernel
theorem dX4_count_121 : decode cX4_count 121 = .ok (.getfield 29, 3) := by decide +kernel
theorem dX4_count_124 : decode cX4_count 124 = .ok (.getfield 55, 3) := by decide +kernel
theorem dX4_count_127 : decode cX4_count 127 = .ok (.ireturn, 1) := by decide +kernel
theorem dX4_count_128 : decode cX4_count 128 = .ok (.aload_n 0, 1) := by decide +kernel
theorem dX4_count_129 : decode cX4_count 129 = .ok (.getfield 44, 3) := by decide +kernel
theorem dX4_count_132 : decode cX4_count 132 = .ok (.ireturn, 1) := by decide +kernel
theorem dX4_count_133 : decode cX4_count 133 = .ok (.iload_n 1, 1) := by decide +kernel
theorem dX4_count_134 : decode cX4_count 134 = .ok (.bipush 11, 2) := by decide +kernel
theorem dX4_count_136 : decode cX4_count 136 = .ok (.if_icmp .lt 21, 3) := by decide +kernel
theorem dX4_count_139 : decode cX4_count 139 = .ok (.iload_n 1, 1) := by decide +kernel
theorem dX4_count_140 : decode cX4_count 140 = .ok (.bipush 16, 2) := by decide +kernel
theorem dX4_count_142 : decode cX4_count 142 = .ok (.if_icmp .gt 15, 3) := by decide +kernel
theorem dX4_count_145 : decode cX4_count 145 = .ok (.aload_n 0, 1) := by decide +kernel
theorem dX4_count_146 : decode cX4_count 146 = .ok (.getfield 48, 3) := by decide +kernel
theorem dX4_count_149 : decode cX4_count 149 = .ok (.iload_n 1, 1) := by decide +kernel
theorem dX4_count_150 : decode cX4_count 150 = .ok (.bipush 10, 2) := by decide +kernel
theorem dX4_count_152 : decode cX4_count 152 = .ok (.isub, 1) := by decide +kernel
theorem dX4_count_153 : decode cX4_count 153 = .ok (.iaload, 1) := by decide +kernel
theorem dX4_count_154 : decode cX4_count 154 = .ok (.goto 5, 3) := by decide +kernel
theorem dX4_count_157 : decode cX4_count 157 = .ok (.bipush (-9), 2) := by decide +kernel
theorem dX4_count_159 : decode cX4_count 159 = .ok (.ireturn, 1) := by decide +kernel
theorem dX4_refuse_0 : decode cX4_refuse 0 = .ok (.aload_n 0, 1) := by decide +kernel
theorem dX4_refuse_1 : decode cX4_refuse 1 = .ok (.getfield 48, 3) := by decide +kernel
theorem dX4_refuse_4 : decode cX4_refuse 4 = .ok (.iload_n 1, 1) := by decide +kernel
theorem dX4_refuse_5 : decode cX4_refuse 5 = .ok (.ineg, 1) := by decide +kernel
theorem dX4_refuse_6 : decode cX4_refuse 6 = .ok (.dup2, 1) := by decide +kernel
theorem dX4_refuse_7 : decode cX4_refuse 7 = .ok (.iaload, 1) := by decide +kernel
theorem dX4_refuse_8 : decode cX4_refuse 8 = .ok (.iconst 1, 1) := by decide +kernel
theorem dX4_refuse_9 : decode cX4_refuse 9 = .ok (.iadd, 1) := by decide +kernel
theorem dX4_refuse_10 : decode cX4_refuse 10 = .ok (.iastore, 1) := by decide +kernel
theorem dX4_refuse_11 : decode cX4_refuse 11 = .ok (.iload_n 1, 1) := by decide +kernel
theorem dX4_refuse_12 : decode cX4_refuse 12 = .ok (.ireturn, 1) := by decide +kernel
theorem dX4_tellRiver_0 : decode cX4_tellRiver 0 = .ok (.aload_n 0, 1) := by decide +kernel
theorem dX4_tellRiver_1 : decode cX4_tellRiver 1 = .ok (.getfield 29, 3) := by decide +kernel
theorem dX4_tellRiver_4 : decode cX4_tellRiver 4 = .ok (.invokevirtual 244, 3) := by decide +kernel
theorem dX4_tellRiver_7 : decode cX4_tellRiver 7 = .ok (.istore_n 1, 1) := by decide +kernel
theorem dX4_tellRiver_8 : decode cX4_tellRiver 8 = .ok (.iload_n 1, 1) := by decide +kernel
theorem dX4_tellRiver_9 : decode cX4_tellRiver 9 = .ok (.bipush (-9), 2) := by decide +kernel
theorem dX4_tellRiver_11 : decode cX4_tellRiver 11 = .ok (.if_icmp .eq 9, 3) := by decide +kernel
theorem dX4_tellRiver_14 : decode cX4_tellRiver 14 = .ok (.sipush (-1000), 3) := by decide +kernel
theorem dX4_tellRiver_17 : decode cX4_tellRiver 17 = .ok (.iload_n 1, 1) := by decide +kernel
theorem dX4_tellRiver_18 : decode cX4_tellRiver 18 = .ok (.isub, 1) := by decide +kernel
theorem dX4_tellRiver_19 : decode cX4_tellRiver 19 = .ok (.ireturn, 1) := by decide +kernel
theorem dX4_tellRiver_20 : decode cX4_tellRiver 20 = .ok (.aload_n 0, 1) := by decide +kernel
theorem dX4_tellRiver_21 : decode cX4_tellRiver 21 = .ok (.getfield 16, 3) := by decide +kernel
theorem dX4_tellRiver_24 : decode cX4_tellRiver 24 = .ok (.aload_n 0, 1) := by decide +kernel
theorem dX4_tellRiver_25 : decode cX4_tellRiver 25 = .ok (.getfield 10, 3) := by decide +kernel
theorem dX4_tellRiver_28 : decode cX4_tellRiver 28 = .ok (.invokevirtual 191, 3) := by decide +kernel
theorem dX4_tellRiver_31 : decode cX4_tellRiver 31 = .ok (.aload_n 0, 1) := by decide +kernel
theorem dX4_tellRiver_32 : decode cX4_tellRiver 32 = .ok (.getfield 29, 3) := by decide +kernel
theorem dX4_tellRiver_35 : decode cX4_tellRiver 35 = .ok (.aload_n 0, 1) := by decide +kernel
theorem dX4_tellRiver_36 : decode cX4_tellRiver 36 = .ok (.getfield 16, 3) := by decide +kernel
theorem dX4_tellRiver_39 : decode cX4_tellRiver 39 = .ok (.invokevirtual 247, 3) := by decide +kernel
theorem dX4_tellRiver_42 : decode cX4_tellRiver 42 = .ok (.istore_n 2, 1) := by decide +kernel
theorem dX4_tellRiver_43 : decode cX4_tellRiver 43 = .ok (.iload_n 2, 1) := by decide +kernel
theorem dX4_tellRiver_44 : decode cX4_tellRiver 44 = .ok (.ifCond .lt 14, 3) := by decide +kernel
theorem dX4_tellRiver_47 : decode cX4_tellRiver 47 = .ok (.aload_n 0, 1) := by decide +kernel
theorem dX4_tellRiver_48 : decode cX4_tellRiver 48 = .ok (.getfield 10, 3) := by decide +kernel
theorem dX4_tellRiver_51 : decode cX4_tellRiver 51 = .ok (.aload_n 0, 1) := by decide +kernel
theorem dX4_tellRiver_52 : decode cX4_tellRiver 52 = .ok (.getfield 16, 3) := by decide +kernel
theorem dX4_tellRiver_55 : decode cX4_tellRiver 55 = .ok (.invokevirtual 191, 3) := by decide +kernel
theorem dX4_tellRiver_58 : decode cX4_tellRiver 58 = .ok (.iload_n 2, 1) := by decide +kernel
theorem dX4_tellRiver_59 : decode cX4_tellRiver 59 = .ok (.ireturn, 1) := by decide +kernel
theorem dX5_init_0 : decode cX5_init 0 = .ok (.aload_n 0, 1) := by decide +kernel
theorem dX5_init_1 : decode cX5_init 1 = .ok (.invokespecial 1, 3) := by decide +kernel
theorem dX5_init_4 : decode cX5_init 4 = .ok (.aload_n 0, 1) := by decide +kernel
theorem dX5_init_5 : decode cX5_init 5 = .ok (.bipush 7, 2) := by decide +kernel
theorem dX5_init_7 : decode cX5_init 7 = .ok (.newarray .int, 2) := by decide +kernel
theorem dX5_init_9 : decode cX5_init 9 = .ok (.putfield 7, 3) := by decide +kernel
theorem dX5_init_12 : decode cX5_init 12 = .ok (.aload_n 0, 1) := by decide +kernel
theorem dX5_init_13 : decode cX5_init 13 = .ok (.iconst 5, 1) := by decide +kernel
theorem dX5_init_14 : decode cX5_init 14 = .ok (.newarray .int, 2) := by decide +kernel
theorem dX5_init_16 : decode cX5_init 16 = .ok (.dup, 1) := by decide +kernel
theorem dX5_init_17 : decode cX5_init 17 = .ok (.iconst 0, 1) := by decide +kernel
theorem dX5_init_18 : decode cX5_init 18 = .ok (.iconst 2, 1) := by decide +kernel
theorem dX5_init_19 : decode cX5_init 19 = .ok (.iastore, 1) := by decide +kernel
theorem dX5_init_20 : decode cX5_init 20 = .ok (.dup, 1) := by decide +kernel
theorem dX5_init_21 : decode cX5_init 21 = .ok (.iconst 1, 1) := by decide +kernel
theorem dX5_init_22 : decode cX5_init 22 = .ok (.iconst 2, 1) := by decide +kernel
theorem dX5_init_23 : decode cX5_init 23 = .ok (.iastore, 1) := by decide +kernel
theorem dX5_init_24 : decode cX5_init 24 = .ok (.dup, 1) := by decide +kernel
theorem dX5_init_25 : decode cX5_init 25 = .ok (.iconst 2, 1) := by decide +kernel
theorem dX5_init_26 : decode cX5_init 26 = .ok (.iconst 2, 1) := by decide +kernel
theorem dX5_init_27 : decode cX5_init 27 = .ok (.iastore, 1) := by decide +kernel
theorem dX5_init_28 : decode cX5_init 28 = .ok (.dup, 1) := by decide +kernel
theorem dX5_init_29 : decode cX5_init 29 = .ok (.iconst 3, 1) := by decide +kernel
theorem dX5_init_30 : decode cX5_init 30 = .ok (.iconst 2, 1) := by decide +kernel
theorem dX5_init_31 : decode cX5_init 31 = .ok (.iastore, 1) := by decide +kernel
theorem dX5_init_32 : decode cX5_init 32 = .ok (.dup, 1) := by decide +kernel
theorem dX5_init_33 : decode cX5_init 33 = .ok (.iconst 4, 1) := by decide +kernel
theorem dX5_init_34 : decode cX5_init 34 = .ok (.iconst 2, 1) := by decide +kernel
theorem dX5_init_35 : decode cX5_init 35 = .ok (.iastore, 1) := by decide +kernel
theorem dX5_init_36 : decode cX5_init 36 = .ok (.putfield 13, 3) := by decide +kernel
theorem dX5_init_39 : decode cX5_init 39 = .ok (.aload_n 0, 1) := by decide +kernel
theorem dX5_init_40 : decode cX5_init 40 = .ok (.iconst 5, 1) := by decide +kernel
theorem dX5_init_41 : decode cX5_init 41 = .ok (.newarray .int, 2) := by decide +kernel
theorem dX5_init_43 : decode cX5_init 43 = .ok (.dup, 1) := by decide +kernel
theorem dX5_init_44 : decode cX5_init 44 = .ok (.iconst 0, 1) := by decide +kernel
theorem dX5_init_45 : decode cX5_init 45 = .ok (.iconst 2, 1) := by decide +kernel
theorem dX5_init_46 : decode cX5_init 46 = .ok (.iastore, 1) := by decide +kernel
theorem dX5_init_47 : decode cX5_init 47 = .ok (.dup, 1) := by decide +kernel
theorem dX5_init_48 : decode cX5_init 48 = .ok (.iconst 1, 1) := by decide +kernel
theorem dX5_init_49 : decode cX5_init 49 = .ok (.iconst 2, 1) := by decide +kernel
theorem dX5_init_50 : decode cX5_init 50 = .ok (.iastore, 1) := by decide +kernel
theorem dX5_init_51 : decode cX5_init 51 = .ok (.dup, 1) := by decide +kernel
theorem dX5_init_52 : decode cX5_init 52 = .ok (.iconst 2, 1) := by decide +kernel
theorem dX5_init_53 : decode cX5_init 53 = .ok (.iconst 2, 1) := by decide +kernel
theorem dX5_init_54 : decode cX5_init 54 = .ok (.iastore, 1) := by decide +kernel
theorem dX5_init_55 : decode cX5_init 55 = .ok (.dup, 1) := by decide +kernel
theorem dX5_init_56 : decode cX5_init 56 = .ok (.iconst 3, 1) := by decide +kernel
theorem dX5_init_57 : decode cX5_init 57 = .ok (.iconst 2, 1) := by decide +kernel
theorem dX5_init_58 : decode cX5_init 58 = .ok (.iastore, 1) := by decide +kernel
theorem dX5_init_59 : decode cX5_init 59 = .ok (.dup, 1) := by decide +kernel
theorem dX5_init_60 : decode cX5_init 60 = .ok (.iconst 4, 1) := by decide +kernel
theorem dX5_init_61 : decode cX5_init 61 = .ok (.iconst 2, 1) := by decide +kernel
theorem dX5_init_62 : decode cX5_init 62 = .ok (.iastore, 1) := by decide +kernel
theorem dX5_init_63 : decode cX5_init 63 = .ok (.putfield 16, 3) := by decide +kernel
theorem dX5_init_66 : decode cX5_init 66 = .ok (.aload_n 0, 1) := by decide +kernel
theorem dX5_init_67 : decode cX5_init 67 = .ok (.iconst 5, 1) := by decide +kernel
theorem dX5_init_68 : decode cX5_init 68 = .ok (.newarray .int, 2) := by decide +kernel
theorem dX5_init_70 : decode cX5_init 70 = .ok (.dup, 1) := by decide +kernel
theorem dX5_init_71 : decode cX5_init 71 = .ok (.iconst 0, 1) := by decide +kernel
theorem dX5_init_72 : decode cX5_init 72 = .ok (.bipush (-9), 2) := by decide +kernel
theorem dX5_init_74 : decode cX5_init 74 = .ok (.iastore, 1) := by decide +kernel
theorem dX5_init_75 : decode cX5_init 75 = .ok (.dup, 1) := by decide +kernel
theorem dX5_init_76 : decode cX5_init 76 = .ok (.iconst 1, 1) := by decide +kernel
theorem dX5_init_77 : decode cX5_init 77 = .ok (.bipush (-9), 2) := by decide +kernel
theorem dX5_init_79 : decode cX5_init 79 = .ok (.iastore, 1) := by decide +kernel
theorem dX5_init_80 : decode cX5_init 80 = .ok (.dup, 1) := by decide +kernel
theorem dX5_init_81 : decode cX5_init 81 = .ok (.iconst 2, 1) := by decide +kernel
theorem dX5_init_82 : decode cX5_init 82 = .ok (.bipush (-9), 2) := by decide +kernel
theorem dX5_init_84 : decode cX5_init 84 = .ok (.iastore, 1) := by decide +kernel
theorem dX5_init_85 : decode cX5_init 85 = .ok (.dup, 1) := by decide +kernel
theorem dX5_init_86 : decode cX5_init 86 = .ok (.iconst 3, 1) := by decide +kernel
theorem dX5_init_87 : decode cX5_init 87 = .ok (.bipush (-9), 2) := by decide +kernel
theorem dX5_init_89 : decode cX5_init 89 = .ok (.iastore, 1) := by decide +kernel
theorem dX5_init_90 : decode cX5_init 90 = .ok (.dup, 1) := by decide +kernel
theorem dX5_init_91 : decode cX5_init 91 = .ok (.iconst 4, 1) := by decide +kernel
theorem dX5_init_92 : decode cX5_init 92 = .ok (.bipush (-9), 2) := by decide +kernel
theorem dX5_init_94 : decode cX5_init 94 = .ok (.iastore, 1) := by decide +kernel
theorem dX5_init_95 : decode cX5_init 95 = .ok (.putfield 19, 3) := by decide +kernel
theorem dX5_init_98 : decode cX5_init 98 = .ok (.aload_n 0, 1) := by decide +kernel
theorem dX5_init_99 : decode cX5_init 99 = .ok (.bipush 7, 2) := by decide +kernel
theorem dX5_init_101 : decode cX5_init 101 = .ok (.newarray .int, 2) := by decide +kernel
theorem dX5_init_103 : decode cX5_init 103 = .ok (.putfield 22, 3) := by decide +kernel
theorem dX5_init_106 : decode cX5_init 106 = .ok (.aload_n 0, 1) := by decide +kernel
theorem dX5_init_107 : decode cX5_init 107 = .ok (.bipush 7, 2) := by decide +kernel
theorem dX5_init_109 : decode cX5_init 109 = .ok (.newarray .int, 2) := by decide +kernel
theorem dX5_init_111 : decode cX5_init 111 = .ok (.putfield 25, 3) := by decide +kernel
theorem dX5_init_114 : decode cX5_init 114 = .ok (.aload_n 0, 1) := by decide +kernel
theorem dX5_init_115 : decode cX5_init 115 = .ok (.bipush 7, 2) := by decide +kernel
theorem dX5_init_117 : decode cX5_init 117 = .ok (.newarray .int, 2) := by decide +kernel
theorem dX5_init_119 : decode cX5_init 119 = .ok (.putfield 28, 3) := by decide +kernel
theorem dX5_init_122 : decode cX5_init 122 = .ok (.aload_n 0, 1) := by decide +kernel
theorem dX5_init_123 : decode cX5_init 123 = .ok (.bipush 7, 2) := by decide +kernel
theorem dX5_init_125 : decode cX5_init 125 = .ok (.newarray .int, 2) := by decide +kernel
theorem dX5_init_127 : decode cX5_init 127 = .ok (.putfield 31, 3) := by decide +kernel
theorem dX5_init_130 : decode cX5_init 130 = .ok (.aload_n 0, 1) := by decide +kernel
theorem dX5_init_131 : decode cX5_init 131 = .ok (.bipush 7, 2) := by decide +kernel
theorem dX5_init_133 : decode cX5_init 133 = .ok (.newarray .int, 2) := by decide +kernel
theorem dX5_init_135 : decode cX5_init 135 = .ok (.putfield 34, 3) := by decide +kernel
theorem dX5_init_138 : decode cX5_init 138 = .ok (.aload_n 0, 1) := by decide +kernel
theorem dX5_init_139 : decode cX5_init 139 = .ok (.bipush 7, 2) := by decide +kernel
theorem dX5_init_141 : decode cX5_init 141 = .ok (.newarray .int, 2) := by decide +kernel
theorem dX5_init_143 : decode cX5_init 143 = .ok (.putfield 37, 3) := by decide +kernel
theorem dX5_init_146 : decode cX5_init 146 = .ok (.aload_n 0, 1) := by decide +kernel
theorem dX5_init_147 : decode cX5_init 147 = .ok (.bipush 49, 2) := by decide +kernel
theorem dX5_init_149 : decode cX5_init 149 = .ok (.newarray .int, 2) := by decide +kernel
theorem dX5_init_151 : decode cX5_init 151 = .ok (.putfield 40, 3) := by decide +kernel
theorem dX5_init_154 : decode cX5_init 154 = .ok (.aload_n 0, 1) := by decide +kernel
theorem dX5_init_155 : decode cX5_init 155 = .ok (.bipush 49, 2) := by decide +kernel
theorem dX5_init_157 : decode cX5_init 157 = .ok (.newarray .int, 2) := by decide +kernel
theorem dX5_init_159 : decode cX5_init 159 = .ok (.putfield 43, 3) := by decide +kernel
theorem dX5_init_162 : decode cX5_init 162 = .ok (.aload_n 0, 1) := by decide +kernel
theorem dX5_init_163 : decode cX5_init 163 = .ok (.iconst 3, 1) := by decide +kernel
theorem dX5_init_164 : decode cX5_init 164 = .ok (.putfield 46, 3) := by decide +kernel
theorem dX5_init_167 : decode cX5_init 167 = .ok (.aload_n 0, 1) := by decide +kernel
theorem dX5_init_168 : decode cX5_init 168 = .ok (.iconst 1, 1) := by decide +kernel
theorem dX5_init_169 : decode cX5_init 169 = .ok (.putfield 50, 3) := by decide +kernel
theorem dX5_init_172 : decode cX5_init 172 = .ok (.aload_n 0, 1) := by decide +kernel
theorem dX5_init_173 : decode cX5_init 173 = .ok (.bipush 80, 2) := by decide +kernel
theorem dX5_init_175 : decode cX5_init 175 = .ok (.newarray .int, 2) := by decide +kernel
theorem dX5_init_177 : decode cX5_init 177 = .ok (.putfield 53, 3) := by decide +kernel
theorem dX5_init_180 : decode cX5_init 180 = .ok (.aload_n 0, 1) := by decide +kernel
theorem dX5_init_181 : decode cX5_init 181 = .ok (.bipush 40, 2) := by decide +kernel
theorem dX5_init_183 : decode cX5_init 183 = .ok (.newarray .int, 2) := by decide +kernel
theorem dX5_init_185 : decode cX5_init 185 = .ok (.putfield 56, 3) := by decide +kernel
theorem dX5_init_188 : decode cX5_init 188 = .ok (.aload_n 0, 1) := by decide +kernel
theorem dX5_init_189 : decode cX5_init 189 = .ok (.bipush 40, 2) := by decide +kernel
theorem dX5_init_191 : decode cX5_init 191 = .ok (.newarray .int, 2) := by decide +kernel
theorem dX5_init_193 : decode cX5_init 193 = .ok (.putfield 59, 3) := by decide +kernel
theorem dX5_init_196 : decode cX5_init 196 = .ok (.aload_n 0, 1) := by decide +kernel
theorem dX5_init_197 : decode cX5_init 197 = .ok (.sipush 200, 3) := by decide +kernel
theorem dX5_init_200 : decode cX5_init 200 = .ok (.newarray .int, 2) := by decide +kernel
theorem dX5_init_202 : decode cX5_init 202 = .ok (.putfield 62, 3) := by decide +kernel
theorem dX5_init_205 : decode cX5_init 205 = .ok (.aload_n 0, 1) := by decide +kernel
theorem dX5_init_206 : decode cX5_init 206 = .ok (.sipush 340, 3) := by decide +kernel
theorem dX5_init_209 : decode cX5_init 209 = .ok (.newarray .int, 2) := by decide +kernel
theorem dX5_init_211 : decode cX5_init 211 = .ok (.putfield 65, 3) := by decide +kernel
theorem dX5_init_214 : decode cX5_init 214 = .ok (.aload_n 0, 1) := by decide +kernel
theorem dX5_init_215 : decode cX5_init 215 = .ok (.iconst 5, 1) := by decide +kernel
theorem dX5_init_216 : decode cX5_init 216 = .ok (.newarray .int, 2) := by decide +kernel
theorem dX5_init_218 : decode cX5_init 218 = .ok (.putfield 68, 3) := by decide +kernel
theorem dX5_init_221 : decode cX5_init 221 = .ok (.aload_n 0, 1) := by decide +kernel
theorem dX5_init_222 : decode cX5_init 222 = .ok (.iconst 5, 1) := by decide +kernel
theorem dX5_init_223 : decode cX5_init 223 = .ok (.newarray .int, 2) := by decide +kernel
theorem dX5_init_225 : decode cX5_init 225 = .ok (.putfield 71, 3) := by decide +kernel
theorem dX5_init_228 : decode cX5_init 228 = .ok (.aload_n 0, 1) := by decide +kernel
theorem dX5_init_229 : decode cX5_init 229 = .ok (.iconst 5, 1) := by decide +kernel
theorem dX5_init_230 : decode cX5_init 230 = .ok (.newarray .int, 2) := by decide +kernel
theorem dX5_init_232 : decode cX5_init 232 = .ok (.putfield 74, 3) := by decide +kernel
theorem dX5_init_235 : decode cX5_init 235 = .ok (.return_, 1) := by decide +kernel
theorem dX5_no_0 : decode cX5_no 0 = .ok (.aload_n 0, 1) := by decide +kernel
theorem dX5_no_1 : decode cX5_no 1 = .ok (.getfield 7, 3) := by decide +kernel
theorem dX5_no_4 : decode cX5_no 4 = .ok (.iload_n 1, 1) := by decide +kernel
theorem dX5_no_5 : decode cX5_no 5 = .ok (.ineg, 1) := by decide +kernel
theorem dX5_no_6 : decode cX5_no 6 = .ok (.dup2, 1) := by decide +kernel
theorem dX5_no_7 : decode cX5_no 7 = .ok (.iaload, 1) := by decide +kernel
theorem dX5_no_8 : decode cX5_no 8 = .ok (.iconst 1, 1) := by decide +kernel
theorem dX5_no_9 : decode cX5_no 9 = .ok (.iadd, 1) := by decide +kernel
theorem dX5_no_10 : decode cX5_no 10 = .ok (.iastore, 1) := by decide +kernel
theorem dX5_no_11 : decode cX5_no 11 = .ok (.iload_n 1, 1) := by decide +kernel
theorem dX5_no_12 : decode cX5_no 12 = .ok (.ireturn, 1) := by decide +kernel
theorem dX5_lower_0 : decode cX5_lower 0 = .ok (.aload_n 0, 1) := by decide +kernel
theorem dX5_lower_1 : decode cX5_lower 1 = .ok (.getfield 7, 3) := by decide +kernel
theorem dX5_lower_4 : decode cX5_lower 4 = .ok (.iload_n 1, 1) := by decide +kernel
theorem dX5_lower_5 : decode cX5_lower 5 = .ok (.ineg, 1) := by decide +kernel
theorem dX5_lower_6 : decode cX5_lower 6 = .ok (.dup2, 1) := by decide +kernel
theorem dX5_lower_7 : decode cX5_lower 7 = .ok (.iaload, 1) := by decide +kernel
theorem dX5_lower_8 : decode cX5_lower 8 = .ok (.iconst 1, 1) := by decide +kernel
theorem dX5_lower_9 : decode cX5_lower 9 = .ok (.iadd, 1) := by decide +kernel
theorem dX5_lower_10 : decode cX5_lower 10 = .ok (.iastore, 1) := by decide +kernel
theorem dX5_lower_11 : decode cX5_lower 11 = .ok (.ldc 77, 2) := by decide +kernel
theorem dX5_lower_13 : decode cX5_lower 13 = .ok (.iload_n 1, 1) := by decide +kernel
theorem dX5_lower_14 : decode cX5_lower 14 = .ok (.isub, 1) := by decide +kernel
theorem dX5_lower_15 : decode cX5_lower 15 = .ok (.ireturn, 1) := by decide +kernel
theorem dX5_isIn_0 : decode cX5_isIn 0 = .ok (.iload_n 0, 1) := by decide +kernel
theorem dX5_isIn_1 : decode cX5_isIn 1 = .ok (.iload_n 1, 1) := by decide +kernel
theorem dX5_isIn_2 : decode cX5_isIn 2 = .ok (.if_icmp .lt 12, 3) := by decide +kernel
theorem dX5_isIn_5 : decode cX5_isIn 5 = .ok (.iload_n 0, 1) := by decide +kernel
theorem dX5_isIn_6 : decode cX5_isIn 6 = .ok (.iload_n 2, 1) := by decide +kernel
theorem dX5_isIn_7 : decode cX5_isIn 7 = .ok (.if_icmp .gt 7, 3) := by decide +kernel
theorem dX5_isIn_10 : decode cX5_isIn 10 = .ok (.iconst 1, 1) := by decide +kernel
theorem dX5_isIn_11 : decode cX5_isIn 11 = .ok (.goto 4, 3) := by decide +kernel
theorem dX5_isIn_14 : decode cX5_isIn 14 = .ok (.iconst 0, 1) := by decide +kernel
theorem dX5_isIn_15 : decode cX5_isIn 15 = .ok (.ireturn, 1) := by decide +kernel
theorem dX5_bound_0 : decode cX5_bound 0 = .ok (.iload_n 0, 1) := by decide +kernel
theorem dX5_bound_1 : decode cX5_bound 1 = .ok (.iload_n 1, 1) := by decide +kernel
theorem dX5_bound_2 : decode cX5_bound 2 = .ok (.if_icmp .ge 8, 3) := by decide +kernel
theorem dX5_bound_5 : decode cX5_bound 5 = .ok (.bipush (-4), 2) := by decide +kernel
theorem dX5_bound_7 : decode cX5_bound 7 = .ok (.goto 14, 3) := by decide +kernel
theorem dX5_bound_10 : decode cX5_bound 10 = .ok (.iload_n 0, 1) := by decide +kernel
theorem dX5_bound_11 : decode cX5_bound 11 = .ok (.iload_n 2, 1) := by decide +kernel
theorem dX5_bound_12 : decode cX5_bound 12 = .ok (.if_icmp .le 8, 3) := by decide +kernel
theorem dX5_bound_15 : decode cX5_bound 15 = .ok (.bipush (-6), 2) := by decide +kernel
theorem dX5_bound_17 : decode cX5_bound 17 = .ok (.goto 4, 3) := by decide +kernel
theorem dX5_bound_20 : decode cX5_bound 20 = .ok (.iconst 0, 1) := by decide +kernel
theorem dX5_bound_21 : decode cX5_bound 21 = .ok (.ireturn, 1) := by decide +kernel
theorem dX5_least_0 : decode cX5_least 0 = .ok (.iload_n 0, 1) := by decide +kernel
theorem dX5_least_1 : decode cX5_least 1 = .ok (.iload_n 1, 1) := by decide +kernel
theorem dX5_least_2 : decode cX5_least 2 = .ok (.if_icmp .ge 7, 3) := by decide +kernel
theorem dX5_least_5 : decode cX5_least 5 = .ok (.iload_n 0, 1) := by decide +kernel
theorem dX5_least_6 : decode cX5_least 6 = .ok (.goto 4, 3) := by decide +kernel
theorem dX5_least_9 : decode cX5_least 9 = .ok (.iload_n 1, 1) := by decide +kernel
theorem dX5_least_10 : decode cX5_least 10 = .ok (.ireturn, 1) := by decide +kernel
theorem dX5_isYard_0 : decode cX5_isYard 0 = .ok (.iload_n 1, 1) := by decide +kernel
theorem dX5_isYard_1 : decode cX5_isYard 1 = .ok (.ifCond .lt 15, 3) := by decide +kernel
theorem dX5_isYard_4 : decode cX5_isYard 4 = .ok (.iload_n 1, 1) := by decide +kernel
theorem dX5_isYard_5 : decode cX5_isYard 5 = .ok (.aload_n 0, 1) := by decide +kernel
theorem dX5_isYard_6 : decode cX5_isYard 6 = .ok (.getfield 46, 3) := by decide +kernel
theorem dX5_isYard_9 : decode cX5_isYard 9 = .ok (.if_icmp .ge 7, 3) := by decide +kernel
theorem dX5_isYard_12 : decode cX5_isYard 12 = .ok (.iconst 1, 1) := by decide +kernel
theorem dX5_isYard_13 : decode cX5_isYard 13 = .ok (.goto 4, 3) := by decide +kernel
theorem dX5_isYard_16 : decode cX5_isYard 16 = .ok (.iconst 0, 1) := by decide +kernel
theorem dX5_isYard_17 : decode cX5_isYard 17 = .ok (.ireturn, 1) := by decide +kernel
theorem dX5_isOne_0 : decode cX5_isOne 0 = .ok (.iload_n 1, 1) := by decide +kernel
theorem dX5_isOne_1 : decode cX5_isOne 1 = .ok (.ifCond .lt 15, 3) := by decide +kernel
theorem dX5_isOne_4 : decode cX5_isOne 4 = .ok (.iload_n 1, 1) := by decide +kernel
theorem dX5_isOne_5 : decode cX5_isOne 5 = .ok (.aload_n 0, 1) := by decide +kernel
theorem dX5_isOne_6 : decode cX5_isOne 6 = .ok (.getfield 78, 3) := by decide +kernel
theorem dX5_isOne_9 : decode cX5_isOne 9 = .ok (.if_icmp .ge 7, 3) := by decide +kernel
theorem dX5_isOne_12 : decode cX5_isOne 12 = .ok (.iconst 1, 1) := by decide +kernel
theorem dX5_isOne_13 : decode cX5_isOne 13 = .ok (.goto 4, 3) := by decide +kernel
theorem dX5_isOne_16 : decode cX5_isOne 16 = .ok (.iconst 0, 1) := by decide +kernel
theorem dX5_isOne_17 : decode cX5_isOne 17 = .ok (.ireturn, 1) := by decide +kernel
theorem dX5_areTwo_0 : decode cX5_areTwo 0 = .ok (.aload_n 0, 1) := by decide +kernel
theorem dX5_areTwo_1 : decode cX5_areTwo 1 = .ok (.iload_n 1, 1) := by decide +kernel
theorem dX5_areTwo_2 : decode cX5_areTwo 2 = .ok (.invokevirtual 81, 3) := by decide +kernel
theorem dX5_areTwo_5 : decode cX5_areTwo 5 = .ok (.ifCond .eq 20, 3) := by decide +kernel
theorem dX5_areTwo_8 : decode cX5_areTwo 8 = .ok (.aload_n 0, 1) := by decide +kernel
theorem dX5_areTwo_9 : decode cX5_areTwo 9 = .ok (.iload_n 2, 1) := by decide +kernel
theorem dX5_areTwo_10 : decode cX5_areTwo 10 = .ok (.invokevirtual 81, 3) := by decide +kernel
theorem dX5_areTwo_13 : decode cX5_areTwo 13 = .ok (.ifCond .eq 12, 3) := by decide +kernel
theorem dX5_areTwo_16 : decode cX5_areTwo 16 = .ok (.iload_n 1, 1) := by decide +kernel
theorem dX5_areTwo_17 : decode cX5_areTwo 17 = .ok (.iload_n 2, 1) := by decide +kernel
theorem dX5_areTwo_18 : decode cX5_areTwo 18 = .ok (.if_icmp .eq 7, 3) := by decide +kernel
theorem dX5_areTwo_21 : decode cX5_areTwo 21 = .ok (.iconst 1, 1) := by decide +kernel
theorem dX5_areTwo_22 : decode cX5_areTwo 22 = .ok (.goto 4, 3) := by decide +kernel
theorem dX5_areTwo_25 : decode cX5_areTwo 25 = .ok (.iconst 0, 1) := by decide +kernel
theorem dX5_areTwo_26 : decode cX5_areTwo 26 = .ok (.ireturn, 1) := by decide +kernel
theorem dX5_yardOf_0 : decode cX5_yardOf 0 = .ok (.iconst 0, 1) := by decide +kernel
theorem dX5_yardOf_1 : decode cX5_yardOf 1 = .ok (.istore_n 2, 1) := by decide +kernel
theorem dX5_yardOf_2 : decode cX5_yardOf 2 = .ok (.iload_n 2, 1) := by decide +kernel
theorem dX5_yardOf_3 : decode cX5_yardOf 3 = .ok (.aload_n 0, 1) := by decide +kernel
theorem dX5_yardOf_4 : decode cX5_yardOf 4 = .ok (.getfield 46, 3) := by decide +kernel
theorem dX5_yardOf_7 : decode cX5_yardOf 7 = .ok (.if_icmp .ge 21, 3) := by decide +kernel
theorem dX5_yardOf_10 : decode cX5_yardOf 10 = .ok (.aload_n 0, 1) := by decide +kernel
theorem dX5_yardOf_11 : decode cX5_yardOf 11 = .ok (.getfield 19, 3) := by decide +kernel
theorem dX5_yardOf_14 : decode cX5_yardOf 14 = .ok (.iload_n 2, 1) := by decide +kernel
theorem dX5_yardOf_15 : decode cX5_yardOf 15 = .ok (.iaload, 1) := by decide +kernel
theorem dX5_yardOf_16 : decode cX5_yardOf 16 = .ok (.iload_n 1, 1) := by decide +kernel
theorem dX5_yardOf_17 : decode cX5_yardOf 17 = .ok (.if_icmp .ne 5, 3) := by decide +kernel
theorem dX5_yardOf_20 : decode cX5_yardOf 20 = .ok (.iload_n 2, 1) := by decide +kernel
theorem dX5_yardOf_21 : decode cX5_yardOf 21 = .ok (.ireturn, 1) := by decide +kernel
theorem dX5_yardOf_22 : decode cX5_yardOf 22 = .ok (.iinc 2 1, 3) := by decide +kernel
theorem dX5_yardOf_25 : decode cX5_yardOf 25 = .ok (.goto (-23), 3) := by decide +kernel
theorem dX5_yardOf_28 : decode cX5_yardOf 28 = .ok (.aload_n 0, 1) := by decide +kernel
theorem dX5_yardOf_29 : decode cX5_yardOf 29 = .ok (.getfield 37, 3) := by decide +kernel
theorem dX5_yardOf_32 : decode cX5_yardOf 32 = .ok (.iload_n 1, 1) := by decide +kernel
theorem dX5_yardOf_33 : decode cX5_yardOf 33 = .ok (.iaload, 1) := by decide +kernel
theorem dX5_yardOf_34 : decode cX5_yardOf 34 = .ok (.iconst 1, 1) := by decide +kernel
theorem dX5_yardOf_35 : decode cX5_yardOf 35 = .ok (.if_icmp .ne 8, 3) := by decide +kernel
theorem dX5_yardOf_38 : decode cX5_yardOf 38 = .ok (.bipush 9, 2) := by decide +kernel
theorem dX5_yardOf_40 : decode cX5_yardOf 40 = .ok (.goto 5, 3) := by decide +kernel
theorem dX5_yardOf_43 : decode cX5_yardOf 43 = .ok (.bipush (-9), 2) := by decide +kernel
theorem dX5_yardOf_45 : decode cX5_yardOf 45 = .ok (.ireturn, 1) := by decide +kernel
theorem dX5_feed_0 : decode cX5_feed 0 = .ok (.iload_n 1, 1) := by decide +kernel
theorem dX5_feed_1 : decode cX5_feed 1 = .ok (.iconst 0, 1) := by decide +kernel
theorem dX5_feed_2 : decode cX5_feed 2 = .ok (.sipush 255, 3) := by decide +kernel
theorem dX5_feed_5 : decode cX5_feed 5 = .ok (.invokestatic 85, 3) := by decide +kernel
theorem dX5_feed_8 : decode cX5_feed 8 = .ok (.istore_n 2, 1) := by decide +kernel
theorem dX5_feed_9 : decode cX5_feed 9 = .ok (.iload_n 2, 1) := by decide +kernel
theorem dX5_feed_10 : decode cX5_feed 10 = .ok (.ifCond .ne 15, 3) := by decide +kernel
theorem dX5_feed_13 : decode cX5_feed 13 = .ok (.aload_n 0, 1) := by decide +kernel
theorem dX5_feed_14 : decode cX5_feed 14 = .ok (.getfield 89, 3) := by decide +kernel
theorem dX5_feed_17 : decode cX5_feed 17 = .ok (.bipush 80, 2) := by decide +kernel
theorem dX5_feed_19 : decode cX5_feed 19 = .ok (.if_icmp .ne 6, 3) := by decide +kernel
theorem dX5_feed_22 : decode cX5_feed 22 = .ok (.bipush (-6), 2) := by decide +kernel
theorem dX5_feed_24 : decode cX5_feed 24 = .ok (.istore_n 2, 1) := by decide +kernel
theorem dX5_feed_25 : decode cX5_feed 25 = .ok (.iload_n 2, 1) := by decide +kernel
theorem dX5_feed_26 : decode cX5_feed 26 = .ok (.ifCond .eq 9, 3) := by decide +kernel
theorem dX5_feed_29 : decode cX5_feed 29 = .ok (.aload_n 0, 1) := by decide +kernel
theorem dX5_feed_30 : decode cX5_feed 30 = .ok (.iload_n 2, 1) := by decide +kernel
theorem dX5_feed_31 : decode cX5_feed 31 = .ok (.invokevirtual 92, 3) := by decide +kernel
theorem dX5_feed_34 : decode cX5_feed 34 = .ok (.ireturn, 1) := by decide +kernel
theorem dX5_feed_35 : decode cX5_feed 35 = .ok (.aload_n 0, 1) := by decide +kernel
theorem dX5_feed_36 : decode cX5_feed 36 = .ok (.getfield 53, 3) := by decide +kernel
theorem dX5_feed_39 : decode cX5_feed 39 = .ok (.aload_n 0, 1) := by decide +kernel
theorem dX5_feed_40 : decode cX5_feed 40 = .ok (.getfield 89, 3) := by decide +kernel
theorem dX5_feed_43 : decode cX5_feed 43 = .ok (.iload_n 1, 1) := by decide +kernel
theorem dX5_feed_44 : decode cX5_feed 44 = .ok (.iastore, 1) := by decide +kernel
theorem dX5_feed_45 : decode cX5_feed 45 = .ok (.aload_n 0, 1) := by decide +kernel
theorem dX5_feed_46 : decode cX5_feed 46 = .ok (.dup, 1) := by decide +kernel
theorem dX5_feed_47 : decode cX5_feed 47 = .ok (.getfield 89, 3) := by decide +kernel
theorem dX5_feed_50 : decode cX5_feed 50 = .ok (.iconst 1, 1) := by decide +kernel
theorem dX5_feed_51 : decode cX5_feed 51 = .ok (.iadd, 1) := by decide +kernel
theorem dX5_feed_52 : decode cX5_feed 52 = .ok (.putfield 89, 3) := by decide +kernel
theorem dX5_feed_55 : decode cX5_feed 55 = .ok (.aload_n 0, 1) := by decide +kernel
theorem dX5_feed_56 : decode cX5_feed 56 = .ok (.getfield 89, 3) := by decide +kernel
theorem dX5_feed_59 : decode cX5_feed 59 = .ok (.ireturn, 1) := by decide +kernel
theorem dX5_next_0 : decode cX5_next 0 = .ok (.aload_n 0, 1) := by decide +kernel
theorem dX5_next_1 : decode cX5_next 1 = .ok (.getfield 96, 3) := by decide +kernel
theorem dX5_next_4 : decode cX5_next 4 = .ok (.aload_n 0, 1) := by decide +kernel
theorem dX5_next_5 : decode cX5_next 5 = .ok (.getfield 89, 3) := by decide +kernel
theorem dX5_next_8 : decode cX5_next 8 = .ok (.if_icmp .ge 15, 3) := by decide +kernel
theorem dX5_next_11 : decode cX5_next 11 = .ok (.aload_n 0, 1) := by decide +kernel
theorem dX5_next_12 : decode cX5_next 12 = .ok (.getfield 53, 3) := by decide +kernel
theorem dX5_next_15 : decode cX5_next 15 = .ok (.aload_n 0, 1) := by decide +kernel
theorem dX5_next_16 : decode cX5_next 16 = .ok (.getfield 96, 3) := by decide +kernel
theorem dX5_next_19 : decode cX5_next 19 = .ok (.iaload, 1) := by decide +kernel
theorem dX5_next_20 : decode cX5_next 20 = .ok (.goto 4, 3) := by decide +kernel
theorem dX5_next_23 : decode cX5_next 23 = .ok (.iconst (-1), 1) := by decide +kernel
theorem dX5_next_24 : decode cX5_next 24 = .ok (.ireturn, 1) := by decide +kernel
theorem dX5_readsNumber_0 : decode cX5_readsNumber 0 = .ok (.aload_n 0, 1) := by decide +kernel
theorem dX5_readsNumber_1 : decode cX5_readsNumber 1 = .ok (.invokevirtual 99, 3) := by decide +kernel
theorem dX5_readsNumber_4 : decode cX5_readsNumber 4 = .ok (.bipush 48, 2) := by decide +kernel
theorem dX5_readsNumber_6 : decode cX5_readsNumber 6 = .ok (.bipush 57, 2) := by decide +kernel
theorem dX5_readsNumber_8 : decode cX5_readsNumber 8 = .ok (.invokestatic 103, 3) := by decide +kernel
theorem dX5_readsNumber_11 : decode cX5_readsNumber 11 = .ok (.ifCond .ne 5, 3) := by decide +kernel
theorem dX5_readsNumber_14 : decode cX5_readsNumber 14 = .ok (.iconst 0, 1) := by decide +kernel
theorem dX5_readsNumber_15 : decode cX5_readsNumber 15 = .ok (.ireturn, 1) := by decide +kernel
theorem dX5_readsNumber_16 : decode cX5_readsNumber 16 = .ok (.iconst 0, 1) := by decide +kernel
theorem dX5_readsNumber_17 : decode cX5_readsNumber 17 = .ok (.istore_n 3, 1) := by decide +kernel
theorem dX5_readsNumber_18 : decode cX5_readsNumber 18 = .ok (.iconst 0, 1) := by decide +kernel
theorem dX5_readsNumber_19 : decode cX5_readsNumber 19 = .ok (.istore 4, 2) := by decide +kernel
theorem dX5_readsNumber_21 : decode cX5_readsNumber 21 = .ok (.iload 4, 2) := by decide +kernel
theorem dX5_readsNumber_23 : decode cX5_readsNumber 23 = .ok (.iload_n 2, 1) := by decide +kernel
theorem dX5_readsNumber_24 : decode cX5_readsNumber 24 = .ok (.if_icmp .ge 46, 3) := by decide +kernel
theorem dX5_readsNumber_27 : decode cX5_readsNumber 27 = .ok (.aload_n 0, 1) := by decide +kernel
theorem dX5_readsNumber_28 : decode cX5_readsNumber 28 = .ok (.invokevirtual 99, 3) := by decide +kernel
theorem dX5_readsNumber_31 : decode cX5_readsNumber 31 = .ok (.bipush 48, 2) := by decide +kernel
theorem dX5_readsNumber_33 : decode cX5_readsNumber 33 = .ok (.bipush 57, 2) := by decide +kernel
theorem dX5_readsNumber_35 : decode cX5_readsNumber 35 = .ok (.invokestatic 103, 3) := by decide +kernel
theorem dX5_readsNumber_38 : decode cX5_readsNumber 38 = .ok (.ifCond .eq 32, 3) := by decide +kernel
theorem dX5_readsNumber_41 : decode cX5_readsNumber 41 = .ok (.bipush 10, 2) := by decide +kernel
theorem dX5_readsNumber_43 : decode cX5_readsNumber 43 = .ok (.iload_n 3, 1) := by decide +kernel
theorem dX5_readsNumber_44 : decode cX5_readsNumber 44 = .ok (.imul, 1) := by decide +kernel
theorem dX5_readsNumber_45 : decode cX5_readsNumber 45 = .ok (.aload_n 0, 1) := by decide +kernel
theorem dX5_readsNumber_46 : decode cX5_readsNumber 46 = .ok (.invokevirtual 99, 3) := by decide +kernel
theorem dX5_readsNumber_49 : decode cX5_readsNumber 49 = .ok (.iadd, 1) := by decide +kernel
theorem dX5_readsNumber_50 : decode cX5_readsNumber 50 = .ok (.bipush 48, 2) := by decide +kernel
theorem dX5_readsNumber_52 : decode cX5_readsNumber 52 = .ok (.isub, 1) := by decide +kernel
theorem dX5_readsNumber_53 : decode cX5_readsNumber 53 = .ok (.istore_n 3, 1) := by decide +kernel
theorem dX5_readsNumber_54 : decode cX5_readsNumber 54 = .ok (.aload_n 0, 1) := by decide +kernel
theorem dX5_readsNumber_55 : decode cX5_readsNumber 55 = .ok (.dup, 1) := by decide +kernel
theorem dX5_readsNumber_56 : decode cX5_readsNumber 56 = .ok (.getfield 96, 3) := by decide +kernel
theorem dX5_readsNumber_59 : decode cX5_readsNumber 59 = .ok (.iconst 1, 1) := by decide +kernel
theorem dX5_readsNumber_60 : decode cX5_readsNumber 60 = .ok (.iadd, 1) := by decide +kernel
theorem dX5_readsNumber_61 : decode cX5_readsNumber 61 = .ok (.putfield 96, 3) := by decide +kernel
theorem dX5_readsNumber_64 : decode cX5_readsNumber 64 = .ok (.iinc 4 1, 3) := by decide +kernel
theorem dX5_readsNumber_67 : decode cX5_readsNumber 67 = .ok (.goto (-46), 3) := by decide +kernel
theorem dX5_readsNumber_70 : decode cX5_readsNumber 70 = .ok (.aload_n 0, 1) := by decide +kernel
theorem dX5_readsNumber_71 : decode cX5_readsNumber 71 = .ok (.getfield 62, 3) := by decide +kernel
theorem dX5_readsNumber_74 : decode cX5_readsNumber 74 = .ok (.iload_n 1, 1) := by decide +kernel
theorem dX5_readsNumber_75 : decode cX5_readsNumber 75 = .ok (.iload_n 3, 1) := by decide +kernel
theorem dX5_readsNumber_76 : decode cX5_readsNumber 76 = .ok (.iastore, 1) := by decide +kernel
theorem dX5_readsNumber_77 : decode cX5_readsNumber 77 = .ok (.iconst 1, 1) := by decide +kernel
theorem dX5_readsNumber_78 : decode cX5_readsNumber 78 = .ok (.ireturn, 1) := by decide +kernel
theorem dX5_onesOf_0 : decode cX5_onesOf 0 = .ok (.iload_n 0, 1) := by decide +kernel
