/-! decode rows (printed) -/
theorem d_CS_tired_0 : decode b_CS_tired 0 = .ok (.aload_n 0, 1) := by decide +kernel
theorem d_CS_tired_1 : decode b_CS_tired 1 = .ok (.getfield 44, 3) := by decide +kernel
theorem d_CS_tired_4 : decode b_CS_tired 4 = .ok (.invokevirtual 176, 3) := by decide +kernel
theorem d_CS_tired_7 : decode b_CS_tired 7 = .ok (.ireturn, 1) := by decide +kernel
theorem d_CS_last_0 : decode b_CS_last 0 = .ok (.aload_n 0, 1) := by decide +kernel
theorem d_CS_last_1 : decode b_CS_last 1 = .ok (.iload_n 1, 1) := by decide +kernel
theorem d_CS_last_2 : decode b_CS_last 2 = .ok (.invokevirtual 96, 3) := by decide +kernel
theorem d_CS_last_5 : decode b_CS_last 5 = .ok (.ifCond .eq 10, 3) := by decide +kernel
theorem d_CS_last_8 : decode b_CS_last 8 = .ok (.iload_n 2, 1) := by decide +kernel
theorem d_CS_last_9 : decode b_CS_last 9 = .ok (.invokestatic 121, 3) := by decide +kernel
theorem d_CS_last_12 : decode b_CS_last 12 = .ok (.ifCond .ne 6, 3) := by decide +kernel
theorem d_CS_last_15 : decode b_CS_last 15 = .ok (.bipush (-2), 2) := by decide +kernel
theorem d_CS_last_17 : decode b_CS_last 17 = .ok (.ireturn, 1) := by decide +kernel
theorem d_CS_last_18 : decode b_CS_last 18 = .ok (.aload_n 0, 1) := by decide +kernel
theorem d_CS_last_19 : decode b_CS_last 19 = .ok (.getfield 44, 3) := by decide +kernel
theorem d_CS_last_22 : decode b_CS_last 22 = .ok (.iload_n 1, 1) := by decide +kernel
theorem d_CS_last_23 : decode b_CS_last 23 = .ok (.invokevirtual 151, 3) := by decide +kernel
theorem d_CS_last_26 : decode b_CS_last 26 = .ok (.iload_n 2, 1) := by decide +kernel
theorem d_CS_last_27 : decode b_CS_last 27 = .ok (.bipush 6, 2) := by decide +kernel
theorem d_CS_last_29 : decode b_CS_last 29 = .ok (.invokevirtual 155, 3) := by decide +kernel
theorem d_CS_last_32 : decode b_CS_last 32 = .ok (.istore_n 3, 1) := by decide +kernel
theorem d_CS_last_33 : decode b_CS_last 33 = .ok (.iload_n 3, 1) := by decide +kernel
theorem d_CS_last_34 : decode b_CS_last 34 = .ok (.iconst 1, 1) := by decide +kernel
theorem d_CS_last_35 : decode b_CS_last 35 = .ok (.if_icmp .lt 13, 3) := by decide +kernel
theorem d_CS_last_38 : decode b_CS_last 38 = .ok (.iload_n 3, 1) := by decide +kernel
theorem d_CS_last_39 : decode b_CS_last 39 = .ok (.bipush 9, 2) := by decide +kernel
theorem d_CS_last_41 : decode b_CS_last 41 = .ok (.if_icmp .gt 7, 3) := by decide +kernel
theorem d_CS_last_44 : decode b_CS_last 44 = .ok (.iload_n 3, 1) := by decide +kernel
theorem d_CS_last_45 : decode b_CS_last 45 = .ok (.goto 4, 3) := by decide +kernel
theorem d_CS_last_48 : decode b_CS_last 48 = .ok (.iconst (-1), 1) := by decide +kernel
theorem d_CS_last_49 : decode b_CS_last 49 = .ok (.ireturn, 1) := by decide +kernel
theorem d_Pl_beginChoice_0 : decode b_Pl_beginChoice 0 = .ok (.aload_n 0, 1) := by decide +kernel
theorem d_Pl_beginChoice_1 : decode b_Pl_beginChoice 1 = .ok (.iconst (-1), 1) := by decide +kernel
theorem d_Pl_beginChoice_2 : decode b_Pl_beginChoice 2 = .ok (.putfield 44, 3) := by decide +kernel
theorem d_Pl_beginChoice_5 : decode b_Pl_beginChoice 5 = .ok (.aload_n 0, 1) := by decide +kernel
theorem d_Pl_beginChoice_6 : decode b_Pl_beginChoice 6 = .ok (.iconst (-1), 1) := by decide +kernel
theorem d_Pl_beginChoice_7 : decode b_Pl_beginChoice 7 = .ok (.putfield 48, 3) := by decide +kernel
theorem d_Pl_beginChoice_10 : decode b_Pl_beginChoice 10 = .ok (.return_, 1) := by decide +kernel
theorem d_Pl_choose_0 : decode b_Pl_choose 0 = .ok (.iload_n 2, 1) := by decide +kernel
theorem d_Pl_choose_1 : decode b_Pl_choose 1 = .ok (.aload_n 0, 1) := by decide +kernel
theorem d_Pl_choose_2 : decode b_Pl_choose 2 = .ok (.getfield 48, 3) := by decide +kernel
theorem d_Pl_choose_5 : decode b_Pl_choose 5 = .ok (.if_icmp .le 13, 3) := by decide +kernel
theorem d_Pl_choose_8 : decode b_Pl_choose 8 = .ok (.aload_n 0, 1) := by decide +kernel
theorem d_Pl_choose_9 : decode b_Pl_choose 9 = .ok (.iload_n 1, 1) := by decide +kernel
theorem d_Pl_choose_10 : decode b_Pl_choose 10 = .ok (.putfield 44, 3) := by decide +kernel
theorem d_Pl_choose_13 : decode b_Pl_choose 13 = .ok (.aload_n 0, 1) := by decide +kernel
theorem d_Pl_choose_14 : decode b_Pl_choose 14 = .ok (.iload_n 2, 1) := by decide +kernel
theorem d_Pl_choose_15 : decode b_Pl_choose 15 = .ok (.putfield 48, 3) := by decide +kernel
theorem d_Pl_choose_18 : decode b_Pl_choose 18 = .ok (.return_, 1) := by decide +kernel
theorem d_Pl_tryCamels_0 : decode b_Pl_tryCamels 0 = .ok (.aload_n 0, 1) := by decide +kernel
theorem d_Pl_tryCamels_1 : decode b_Pl_tryCamels 1 = .ok (.getfield 9, 3) := by decide +kernel
theorem d_Pl_tryCamels_4 : decode b_Pl_tryCamels 4 = .ok (.getfield 15, 3) := by decide +kernel
theorem d_Pl_tryCamels_7 : decode b_Pl_tryCamels 7 = .ok (.getfield 21, 3) := by decide +kernel
theorem d_Pl_tryCamels_10 : decode b_Pl_tryCamels 10 = .ok (.astore_n 2, 1) := by decide +kernel
theorem d_Pl_tryCamels_11 : decode b_Pl_tryCamels 11 = .ok (.aload_n 2, 1) := by decide +kernel
theorem d_Pl_tryCamels_12 : decode b_Pl_tryCamels 12 = .ok (.iload_n 1, 1) := by decide +kernel
theorem d_Pl_tryCamels_13 : decode b_Pl_tryCamels 13 = .ok (.iaload, 1) := by decide +kernel
theorem d_Pl_tryCamels_14 : decode b_Pl_tryCamels 14 = .ok (.istore_n 3, 1) := by decide +kernel
theorem d_Pl_tryCamels_15 : decode b_Pl_tryCamels 15 = .ok (.aload_n 2, 1) := by decide +kernel
theorem d_Pl_tryCamels_16 : decode b_Pl_tryCamels 16 = .ok (.iload_n 1, 1) := by decide +kernel
theorem d_Pl_tryCamels_17 : decode b_Pl_tryCamels 17 = .ok (.iconst (-1), 1) := by decide +kernel
theorem d_Pl_tryCamels_18 : decode b_Pl_tryCamels 18 = .ok (.iastore, 1) := by decide +kernel
theorem d_Pl_tryCamels_19 : decode b_Pl_tryCamels 19 = .ok (.aload_n 0, 1) := by decide +kernel
theorem d_Pl_tryCamels_20 : decode b_Pl_tryCamels 20 = .ok (.getfield 9, 3) := by decide +kernel
theorem d_Pl_tryCamels_23 : decode b_Pl_tryCamels 23 = .ok (.iconst 4, 1) := by decide +kernel
theorem d_Pl_tryCamels_24 : decode b_Pl_tryCamels 24 = .ok (.invokevirtual 27, 3) := by decide +kernel
theorem d_Pl_tryCamels_27 : decode b_Pl_tryCamels 27 = .ok (.istore 4, 2) := by decide +kernel
theorem d_Pl_tryCamels_29 : decode b_Pl_tryCamels 29 = .ok (.aload_n 0, 1) := by decide +kernel
theorem d_Pl_tryCamels_30 : decode b_Pl_tryCamels 30 = .ok (.invokevirtual 31, 3) := by decide +kernel
theorem d_Pl_tryCamels_33 : decode b_Pl_tryCamels 33 = .ok (.iconst 0, 1) := by decide +kernel
theorem d_Pl_tryCamels_34 : decode b_Pl_tryCamels 34 = .ok (.istore 5, 2) := by decide +kernel
theorem d_Pl_tryCamels_36 : decode b_Pl_tryCamels 36 = .ok (.iload 5, 2) := by decide +kernel
theorem d_Pl_tryCamels_38 : decode b_Pl_tryCamels 38 = .ok (.bipush 8, 2) := by decide +kernel
theorem d_Pl_tryCamels_40 : decode b_Pl_tryCamels 40 = .ok (.if_icmp .ge 50, 3) := by decide +kernel
theorem d_Pl_tryCamels_43 : decode b_Pl_tryCamels 43 = .ok (.aload_n 2, 1) := by decide +kernel
theorem d_Pl_tryCamels_44 : decode b_Pl_tryCamels 44 = .ok (.iload_n 1, 1) := by decide +kernel
theorem d_Pl_tryCamels_45 : decode b_Pl_tryCamels 45 = .ok (.iconst (-1), 1) := by decide +kernel
theorem d_Pl_tryCamels_46 : decode b_Pl_tryCamels 46 = .ok (.iastore, 1) := by decide +kernel
theorem d_Pl_tryCamels_47 : decode b_Pl_tryCamels 47 = .ok (.iload 4, 2) := by decide +kernel
theorem d_Pl_tryCamels_49 : decode b_Pl_tryCamels 49 = .ok (.aload_n 0, 1) := by decide +kernel
theorem d_Pl_tryCamels_50 : decode b_Pl_tryCamels 50 = .ok (.getfield 9, 3) := by decide +kernel
theorem d_Pl_tryCamels_53 : decode b_Pl_tryCamels 53 = .ok (.iload 5, 2) := by decide +kernel
theorem d_Pl_tryCamels_55 : decode b_Pl_tryCamels 55 = .ok (.invokevirtual 34, 3) := by decide +kernel
theorem d_Pl_tryCamels_58 : decode b_Pl_tryCamels 58 = .ok (.isub, 1) := by decide +kernel
theorem d_Pl_tryCamels_59 : decode b_Pl_tryCamels 59 = .ok (.istore 6, 2) := by decide +kernel
theorem d_Pl_tryCamels_61 : decode b_Pl_tryCamels 61 = .ok (.aload_n 2, 1) := by decide +kernel
theorem d_Pl_tryCamels_62 : decode b_Pl_tryCamels 62 = .ok (.iload_n 1, 1) := by decide +kernel
theorem d_Pl_tryCamels_63 : decode b_Pl_tryCamels 63 = .ok (.iload 5, 2) := by decide +kernel
theorem d_Pl_tryCamels_65 : decode b_Pl_tryCamels 65 = .ok (.iastore, 1) := by decide +kernel
theorem d_Pl_tryCamels_66 : decode b_Pl_tryCamels 66 = .ok (.aload_n 0, 1) := by decide +kernel
theorem d_Pl_tryCamels_67 : decode b_Pl_tryCamels 67 = .ok (.iload 5, 2) := by decide +kernel
theorem d_Pl_tryCamels_69 : decode b_Pl_tryCamels 69 = .ok (.iload 6, 2) := by decide +kernel
theorem d_Pl_tryCamels_71 : decode b_Pl_tryCamels 71 = .ok (.aload_n 0, 1) := by decide +kernel
theorem d_Pl_tryCamels_72 : decode b_Pl_tryCamels 72 = .ok (.getfield 9, 3) := by decide +kernel
theorem d_Pl_tryCamels_75 : decode b_Pl_tryCamels 75 = .ok (.iload 5, 2) := by decide +kernel
theorem d_Pl_tryCamels_77 : decode b_Pl_tryCamels 77 = .ok (.invokevirtual 34, 3) := by decide +kernel
theorem d_Pl_tryCamels_80 : decode b_Pl_tryCamels 80 = .ok (.iadd, 1) := by decide +kernel
theorem d_Pl_tryCamels_81 : decode b_Pl_tryCamels 81 = .ok (.invokevirtual 37, 3) := by decide +kernel
theorem d_Pl_tryCamels_84 : decode b_Pl_tryCamels 84 = .ok (.iinc 5 1, 3) := by decide +kernel
theorem d_Pl_tryCamels_87 : decode b_Pl_tryCamels 87 = .ok (.goto (-51), 3) := by decide +kernel
theorem d_Pl_tryCamels_90 : decode b_Pl_tryCamels 90 = .ok (.aload_n 2, 1) := by decide +kernel
theorem d_Pl_tryCamels_91 : decode b_Pl_tryCamels 91 = .ok (.iload_n 1, 1) := by decide +kernel
theorem d_Pl_tryCamels_92 : decode b_Pl_tryCamels 92 = .ok (.iload_n 3, 1) := by decide +kernel
theorem d_Pl_tryCamels_93 : decode b_Pl_tryCamels 93 = .ok (.iastore, 1) := by decide +kernel
theorem d_Pl_tryCamels_94 : decode b_Pl_tryCamels 94 = .ok (.return_, 1) := by decide +kernel
theorem d_CS_bear_0 : decode b_CS_bear 0 = .ok (.aload_n 0, 1) := by decide +kernel
theorem d_CS_bear_1 : decode b_CS_bear 1 = .ok (.iload_n 1, 1) := by decide +kernel
theorem d_CS_bear_2 : decode b_CS_bear 2 = .ok (.invokevirtual 110, 3) := by decide +kernel
theorem d_CS_bear_5 : decode b_CS_bear 5 = .ok (.ifCond .eq 12, 3) := by decide +kernel
theorem d_CS_bear_8 : decode b_CS_bear 8 = .ok (.iload_n 2, 1) := by decide +kernel
theorem d_CS_bear_9 : decode b_CS_bear 9 = .ok (.ifCond .lt 8, 3) := by decide +kernel
theorem d_CS_bear_12 : decode b_CS_bear 12 = .ok (.iload_n 2, 1) := by decide +kernel
theorem d_CS_bear_13 : decode b_CS_bear 13 = .ok (.iconst 1, 1) := by decide +kernel
theorem d_CS_bear_14 : decode b_CS_bear 14 = .ok (.if_icmp .le 6, 3) := by decide +kernel
theorem d_CS_bear_17 : decode b_CS_bear 17 = .ok (.bipush (-2), 2) := by decide +kernel
theorem d_CS_bear_19 : decode b_CS_bear 19 = .ok (.ireturn, 1) := by decide +kernel
theorem d_CS_bear_20 : decode b_CS_bear 20 = .ok (.aload_n 0, 1) := by decide +kernel
theorem d_CS_bear_21 : decode b_CS_bear 21 = .ok (.getfield 53, 3) := by decide +kernel
theorem d_CS_bear_24 : decode b_CS_bear 24 = .ok (.iload_n 1, 1) := by decide +kernel
theorem d_CS_bear_25 : decode b_CS_bear 25 = .ok (.invokevirtual 179, 3) := by decide +kernel
theorem d_CS_bear_28 : decode b_CS_bear 28 = .ok (.iload_n 2, 1) := by decide +kernel
theorem d_CS_bear_29 : decode b_CS_bear 29 = .ok (.ifCond .ne 13, 3) := by decide +kernel
theorem d_CS_bear_32 : decode b_CS_bear 32 = .ok (.aload_n 0, 1) := by decide +kernel
theorem d_CS_bear_33 : decode b_CS_bear 33 = .ok (.getfield 53, 3) := by decide +kernel
theorem d_CS_bear_36 : decode b_CS_bear 36 = .ok (.getfield 182, 3) := by decide +kernel
theorem d_CS_bear_39 : decode b_CS_bear 39 = .ok (.goto 10, 3) := by decide +kernel
theorem d_CS_bear_42 : decode b_CS_bear 42 = .ok (.aload_n 0, 1) := by decide +kernel
theorem d_CS_bear_43 : decode b_CS_bear 43 = .ok (.getfield 53, 3) := by decide +kernel
theorem d_CS_bear_46 : decode b_CS_bear 46 = .ok (.getfield 185, 3) := by decide +kernel
theorem d_CS_bear_49 : decode b_CS_bear 49 = .ok (.ireturn, 1) := by decide +kernel
theorem d_Pl_tryDays_0 : decode b_Pl_tryDays 0 = .ok (.aload_n 0, 1) := by decide +kernel
theorem d_Pl_tryDays_1 : decode b_Pl_tryDays 1 = .ok (.getfield 9, 3) := by decide +kernel
theorem d_Pl_tryDays_4 : decode b_Pl_tryDays 4 = .ok (.getfield 15, 3) := by decide +kernel
theorem d_Pl_tryDays_7 : decode b_Pl_tryDays 7 = .ok (.getfield 41, 3) := by decide +kernel
theorem d_Pl_tryDays_10 : decode b_Pl_tryDays 10 = .ok (.astore_n 2, 1) := by decide +kernel
theorem d_Pl_tryDays_11 : decode b_Pl_tryDays 11 = .ok (.aload_n 2, 1) := by decide +kernel
theorem d_Pl_tryDays_12 : decode b_Pl_tryDays 12 = .ok (.iload_n 1, 1) := by decide +kernel
theorem d_Pl_tryDays_13 : decode b_Pl_tryDays 13 = .ok (.iaload, 1) := by decide +kernel
theorem d_Pl_tryDays_14 : decode b_Pl_tryDays 14 = .ok (.istore_n 3, 1) := by decide +kernel
theorem d_Pl_tryDays_15 : decode b_Pl_tryDays 15 = .ok (.aload_n 0, 1) := by decide +kernel
theorem d_Pl_tryDays_16 : decode b_Pl_tryDays 16 = .ok (.getfield 9, 3) := by decide +kernel
theorem d_Pl_tryDays_19 : decode b_Pl_tryDays 19 = .ok (.getfield 15, 3) := by decide +kernel
theorem d_Pl_tryDays_22 : decode b_Pl_tryDays 22 = .ok (.getfield 21, 3) := by decide +kernel
theorem d_Pl_tryDays_25 : decode b_Pl_tryDays 25 = .ok (.iload_n 1, 1) := by decide +kernel
theorem d_Pl_tryDays_26 : decode b_Pl_tryDays 26 = .ok (.iaload, 1) := by decide +kernel
theorem d_Pl_tryDays_27 : decode b_Pl_tryDays 27 = .ok (.istore 4, 2) := by decide +kernel
theorem d_Pl_tryDays_29 : decode b_Pl_tryDays 29 = .ok (.aload_n 0, 1) := by decide +kernel
theorem d_Pl_tryDays_30 : decode b_Pl_tryDays 30 = .ok (.getfield 9, 3) := by decide +kernel
theorem d_Pl_tryDays_33 : decode b_Pl_tryDays 33 = .ok (.iconst 4, 1) := by decide +kernel
theorem d_Pl_tryDays_34 : decode b_Pl_tryDays 34 = .ok (.invokevirtual 27, 3) := by decide +kernel
theorem d_Pl_tryDays_37 : decode b_Pl_tryDays 37 = .ok (.aload_n 0, 1) := by decide +kernel
theorem d_Pl_tryDays_38 : decode b_Pl_tryDays 38 = .ok (.getfield 9, 3) := by decide +kernel
theorem d_Pl_tryDays_41 : decode b_Pl_tryDays 41 = .ok (.iload 4, 2) := by decide +kernel
theorem d_Pl_tryDays_43 : decode b_Pl_tryDays 43 = .ok (.invokevirtual 34, 3) := by decide +kernel
theorem d_Pl_tryDays_46 : decode b_Pl_tryDays 46 = .ok (.isub, 1) := by decide +kernel
theorem d_Pl_tryDays_47 : decode b_Pl_tryDays 47 = .ok (.istore 5, 2) := by decide +kernel
theorem d_Pl_tryDays_49 : decode b_Pl_tryDays 49 = .ok (.aload_n 0, 1) := by decide +kernel
theorem d_Pl_tryDays_50 : decode b_Pl_tryDays 50 = .ok (.invokevirtual 31, 3) := by decide +kernel
theorem d_Pl_tryDays_53 : decode b_Pl_tryDays 53 = .ok (.iconst 0, 1) := by decide +kernel
theorem d_Pl_tryDays_54 : decode b_Pl_tryDays 54 = .ok (.istore 6, 2) := by decide +kernel
theorem d_Pl_tryDays_56 : decode b_Pl_tryDays 56 = .ok (.iload 6, 2) := by decide +kernel
theorem d_Pl_tryDays_58 : decode b_Pl_tryDays 58 = .ok (.bipush 24, 2) := by decide +kernel
theorem d_Pl_tryDays_60 : decode b_Pl_tryDays 60 = .ok (.if_icmp .ge 32, 3) := by decide +kernel
theorem d_Pl_tryDays_63 : decode b_Pl_tryDays 63 = .ok (.aload_n 2, 1) := by decide +kernel
theorem d_Pl_tryDays_64 : decode b_Pl_tryDays 64 = .ok (.iload_n 1, 1) := by decide +kernel
theorem d_Pl_tryDays_65 : decode b_Pl_tryDays 65 = .ok (.iload 6, 2) := by decide +kernel
theorem d_Pl_tryDays_67 : decode b_Pl_tryDays 67 = .ok (.iastore, 1) := by decide +kernel
theorem d_Pl_tryDays_68 : decode b_Pl_tryDays 68 = .ok (.aload_n 0, 1) := by decide +kernel
theorem d_Pl_tryDays_69 : decode b_Pl_tryDays 69 = .ok (.iload 6, 2) := by decide +kernel
theorem d_Pl_tryDays_71 : decode b_Pl_tryDays 71 = .ok (.iload 5, 2) := by decide +kernel
theorem d_Pl_tryDays_73 : decode b_Pl_tryDays 73 = .ok (.aload_n 0, 1) := by decide +kernel
theorem d_Pl_tryDays_74 : decode b_Pl_tryDays 74 = .ok (.getfield 9, 3) := by decide +kernel
theorem d_Pl_tryDays_77 : decode b_Pl_tryDays 77 = .ok (.iload 4, 2) := by decide +kernel
theorem d_Pl_tryDays_79 : decode b_Pl_tryDays 79 = .ok (.invokevirtual 34, 3) := by decide +kernel
theorem d_Pl_tryDays_82 : decode b_Pl_tryDays 82 = .ok (.iadd, 1) := by decide +kernel
theorem d_Pl_tryDays_83 : decode b_Pl_tryDays 83 = .ok (.invokevirtual 37, 3) := by decide +kernel
theorem d_Pl_tryDays_86 : decode b_Pl_tryDays 86 = .ok (.iinc 6 1, 3) := by decide +kernel
theorem d_Pl_tryDays_89 : decode b_Pl_tryDays 89 = .ok (.goto (-33), 3) := by decide +kernel
theorem d_Pl_tryDays_92 : decode b_Pl_tryDays 92 = .ok (.aload_n 2, 1) := by decide +kernel
theorem d_Pl_tryDays_93 : decode b_Pl_tryDays 93 = .ok (.iload_n 1, 1) := by decide +kernel
theorem d_Pl_tryDays_94 : decode b_Pl_tryDays 94 = .ok (.iload_n 3, 1) := by decide +kernel
theorem d_Pl_tryDays_95 : decode b_Pl_tryDays 95 = .ok (.iastore, 1) := by decide +kernel
theorem d_Pl_tryDays_96 : decode b_Pl_tryDays 96 = .ok (.return_, 1) := by decide +kernel
theorem d_CS_when_0 : decode b_CS_when 0 = .ok (.aload_n 0, 1) := by decide +kernel
theorem d_CS_when_1 : decode b_CS_when 1 = .ok (.iload_n 1, 1) := by decide +kernel
theorem d_CS_when_2 : decode b_CS_when 2 = .ok (.invokevirtual 110, 3) := by decide +kernel
theorem d_CS_when_5 : decode b_CS_when 5 = .ok (.ifCond .eq 12, 3) := by decide +kernel
theorem d_CS_when_8 : decode b_CS_when 8 = .ok (.iload_n 2, 1) := by decide +kernel
theorem d_CS_when_9 : decode b_CS_when 9 = .ok (.ifCond .lt 8, 3) := by decide +kernel
theorem d_CS_when_12 : decode b_CS_when 12 = .ok (.iload_n 2, 1) := by decide +kernel
theorem d_CS_when_13 : decode b_CS_when 13 = .ok (.iconst 1, 1) := by decide +kernel
theorem d_CS_when_14 : decode b_CS_when 14 = .ok (.if_icmp .le 6, 3) := by decide +kernel
theorem d_CS_when_17 : decode b_CS_when 17 = .ok (.bipush (-2), 2) := by decide +kernel
theorem d_CS_when_19 : decode b_CS_when 19 = .ok (.ireturn, 1) := by decide +kernel
theorem d_CS_when_20 : decode b_CS_when 20 = .ok (.aload_n 0, 1) := by decide +kernel
theorem d_CS_when_21 : decode b_CS_when 21 = .ok (.getfield 53, 3) := by decide +kernel
theorem d_CS_when_24 : decode b_CS_when 24 = .ok (.iload_n 1, 1) := by decide +kernel
theorem d_CS_when_25 : decode b_CS_when 25 = .ok (.invokevirtual 188, 3) := by decide +kernel
theorem d_CS_when_28 : decode b_CS_when 28 = .ok (.iload_n 2, 1) := by decide +kernel
theorem d_CS_when_29 : decode b_CS_when 29 = .ok (.ifCond .ne 13, 3) := by decide +kernel
theorem d_CS_when_32 : decode b_CS_when 32 = .ok (.aload_n 0, 1) := by decide +kernel
theorem d_CS_when_33 : decode b_CS_when 33 = .ok (.getfield 53, 3) := by decide +kernel
theorem d_CS_when_36 : decode b_CS_when 36 = .ok (.getfield 182, 3) := by decide +kernel
theorem d_CS_when_39 : decode b_CS_when 39 = .ok (.goto 10, 3) := by decide +kernel
theorem d_CS_when_42 : decode b_CS_when 42 = .ok (.aload_n 0, 1) := by decide +kernel
theorem d_CS_when_43 : decode b_CS_when 43 = .ok (.getfield 53, 3) := by decide +kernel
theorem d_CS_when_46 : decode b_CS_when 46 = .ok (.getfield 185, 3) := by decide +kernel
theorem d_CS_when_49 : decode b_CS_when 49 = .ok (.ireturn, 1) := by decide +kernel
theorem d_Pl_allStandWithout_0 : decode b_Pl_allStandWithout 0 = .ok (.aload_n 0, 1) := by decide +kernel
theorem d_Pl_allStandWithout_1 : decode b_Pl_allStandWithout 1 = .ok (.getfield 9, 3) := by decide +kernel
theorem d_Pl_allStandWithout_4 : decode b_Pl_allStandWithout 4 = .ok (.iload_n 1, 1) := by decide +kernel
theorem d_Pl_allStandWithout_5 : decode b_Pl_allStandWithout 5 = .ok (.putfield 64, 3) := by decide +kernel
theorem d_Pl_allStandWithout_8 : decode b_Pl_allStandWithout 8 = .ok (.aload_n 0, 1) := by decide +kernel
theorem d_Pl_allStandWithout_9 : decode b_Pl_allStandWithout 9 = .ok (.getfield 9, 3) := by decide +kernel
theorem d_Pl_allStandWithout_12 : decode b_Pl_allStandWithout 12 = .ok (.invokevirtual 67, 3) := by decide +kernel
theorem d_Pl_allStandWithout_15 : decode b_Pl_allStandWithout 15 = .ok (.iconst (-1), 1) := by decide +kernel
theorem d_Pl_allStandWithout_16 : decode b_Pl_allStandWithout 16 = .ok (.if_icmp .ne 7, 3) := by decide +kernel
theorem d_Pl_allStandWithout_19 : decode b_Pl_allStandWithout 19 = .ok (.iconst 1, 1) := by decide +kernel
theorem d_Pl_allStandWithout_20 : decode b_Pl_allStandWithout 20 = .ok (.goto 4, 3) := by decide +kernel
theorem d_Pl_allStandWithout_23 : decode b_Pl_allStandWithout 23 = .ok (.iconst 0, 1) := by decide +kernel
theorem d_Pl_allStandWithout_24 : decode b_Pl_allStandWithout 24 = .ok (.istore_n 2, 1) := by decide +kernel
theorem d_Pl_allStandWithout_25 : decode b_Pl_allStandWithout 25 = .ok (.aload_n 0, 1) := by decide +kernel
theorem d_Pl_allStandWithout_26 : decode b_Pl_allStandWithout 26 = .ok (.getfield 9, 3) := by decide +kernel
theorem d_Pl_allStandWithout_29 : decode b_Pl_allStandWithout 29 = .ok (.iconst 0, 1) := by decide +kernel
theorem d_Pl_allStandWithout_30 : decode b_Pl_allStandWithout 30 = .ok (.putfield 64, 3) := by decide +kernel
theorem d_Pl_allStandWithout_33 : decode b_Pl_allStandWithout 33 = .ok (.iload_n 2, 1) := by decide +kernel
theorem d_Pl_allStandWithout_34 : decode b_Pl_allStandWithout 34 = .ok (.ireturn, 1) := by decide +kernel
theorem d_Pl_sparedStraws_0 : decode b_Pl_sparedStraws 0 = .ok (.aload_n 0, 1) := by decide +kernel
theorem d_Pl_sparedStraws_1 : decode b_Pl_sparedStraws 1 = .ok (.iconst 0, 1) := by decide +kernel
theorem d_Pl_sparedStraws_2 : decode b_Pl_sparedStraws 2 = .ok (.invokevirtual 51, 3) := by decide +kernel
theorem d_Pl_sparedStraws_5 : decode b_Pl_sparedStraws 5 = .ok (.ifCond .eq 5, 3) := by decide +kernel
theorem d_Pl_sparedStraws_8 : decode b_Pl_sparedStraws 8 = .ok (.iconst 0, 1) := by decide +kernel
theorem d_Pl_sparedStraws_9 : decode b_Pl_sparedStraws 9 = .ok (.ireturn, 1) := by decide +kernel
theorem d_Pl_sparedStraws_10 : decode b_Pl_sparedStraws 10 = .ok (.aload_n 0, 1) := by decide +kernel
theorem d_Pl_sparedStraws_11 : decode b_Pl_sparedStraws 11 = .ok (.getfield 9, 3) := by decide +kernel
theorem d_Pl_sparedStraws_14 : decode b_Pl_sparedStraws 14 = .ok (.getfield 55, 3) := by decide +kernel
theorem d_Pl_sparedStraws_17 : decode b_Pl_sparedStraws 17 = .ok (.getfield 59, 3) := by decide +kernel
theorem d_Pl_sparedStraws_20 : decode b_Pl_sparedStraws 20 = .ok (.istore_n 1, 1) := by decide +kernel
theorem d_Pl_sparedStraws_21 : decode b_Pl_sparedStraws 21 = .ok (.iconst 0, 1) := by decide +kernel
theorem d_Pl_sparedStraws_22 : decode b_Pl_sparedStraws 22 = .ok (.istore_n 2, 1) := by decide +kernel
theorem d_Pl_sparedStraws_23 : decode b_Pl_sparedStraws 23 = .ok (.iload_n 2, 1) := by decide +kernel
theorem d_Pl_sparedStraws_24 : decode b_Pl_sparedStraws 24 = .ok (.iload_n 1, 1) := by decide +kernel
theorem d_Pl_sparedStraws_25 : decode b_Pl_sparedStraws 25 = .ok (.if_icmp .ge 23, 3) := by decide +kernel
theorem d_Pl_sparedStraws_28 : decode b_Pl_sparedStraws 28 = .ok (.aload_n 0, 1) := by decide +kernel
theorem d_Pl_sparedStraws_29 : decode b_Pl_sparedStraws 29 = .ok (.iconst 1, 1) := by decide +kernel
theorem d_Pl_sparedStraws_30 : decode b_Pl_sparedStraws 30 = .ok (.iload_n 2, 1) := by decide +kernel
theorem d_Pl_sparedStraws_31 : decode b_Pl_sparedStraws 31 = .ok (.ishl, 1) := by decide +kernel
theorem d_Pl_sparedStraws_32 : decode b_Pl_sparedStraws 32 = .ok (.invokevirtual 51, 3) := by decide +kernel
theorem d_Pl_sparedStraws_35 : decode b_Pl_sparedStraws 35 = .ok (.ifCond .eq 7, 3) := by decide +kernel
theorem d_Pl_sparedStraws_38 : decode b_Pl_sparedStraws 38 = .ok (.iconst 1, 1) := by decide +kernel
theorem d_Pl_sparedStraws_39 : decode b_Pl_sparedStraws 39 = .ok (.iload_n 2, 1) := by decide +kernel
theorem d_Pl_sparedStraws_40 : decode b_Pl_sparedStraws 40 = .ok (.ishl, 1) := by decide +kernel
theorem d_Pl_sparedStraws_41 : decode b_Pl_sparedStraws 41 = .ok (.ireturn, 1) := by decide +kernel
theorem d_Pl_sparedStraws_42 : decode b_Pl_sparedStraws 42 = .ok (.iinc 2 1, 3) := by decide +kernel
theorem d_Pl_sparedStraws_45 : decode b_Pl_sparedStraws 45 = .ok (.goto (-22), 3) := by decide +kernel
theorem d_Pl_sparedStraws_48 : decode b_Pl_sparedStraws 48 = .ok (.iconst 0, 1) := by decide +kernel
theorem d_Pl_sparedStraws_49 : decode b_Pl_sparedStraws 49 = .ok (.istore_n 2, 1) := by decide +kernel
theorem d_Pl_sparedStraws_50 : decode b_Pl_sparedStraws 50 = .ok (.iload_n 2, 1) := by decide +kernel
theorem d_Pl_sparedStraws_51 : decode b_Pl_sparedStraws 51 = .ok (.iload_n 1, 1) := by decide +kernel
theorem d_Pl_sparedStraws_52 : decode b_Pl_sparedStraws 52 = .ok (.if_icmp .ge 46, 3) := by decide +kernel
theorem d_Pl_sparedStraws_55 : decode b_Pl_sparedStraws 55 = .ok (.iload_n 2, 1) := by decide +kernel
theorem d_Pl_sparedStraws_56 : decode b_Pl_sparedStraws 56 = .ok (.iconst 1, 1) := by decide +kernel
theorem d_Pl_sparedStraws_57 : decode b_Pl_sparedStraws 57 = .ok (.iadd, 1) := by decide +kernel
theorem d_Pl_sparedStraws_58 : decode b_Pl_sparedStraws 58 = .ok (.istore_n 3, 1) := by decide +kernel
theorem d_Pl_sparedStraws_59 : decode b_Pl_sparedStraws 59 = .ok (.iload_n 3, 1) := by decide +kernel
theorem d_Pl_sparedStraws_60 : decode b_Pl_sparedStraws 60 = .ok (.iload_n 1, 1) := by decide +kernel
theorem d_Pl_sparedStraws_61 : decode b_Pl_sparedStraws 61 = .ok (.if_icmp .ge 31, 3) := by decide +kernel
theorem d_Pl_sparedStraws_64 : decode b_Pl_sparedStraws 64 = .ok (.aload_n 0, 1) := by decide +kernel
theorem d_Pl_sparedStraws_65 : decode b_Pl_sparedStraws 65 = .ok (.iconst 1, 1) := by decide +kernel
theorem d_Pl_sparedStraws_66 : decode b_Pl_sparedStraws 66 = .ok (.iload_n 2, 1) := by decide +kernel
theorem d_Pl_sparedStraws_67 : decode b_Pl_sparedStraws 67 = .ok (.ishl, 1) := by decide +kernel
theorem d_Pl_sparedStraws_68 : decode b_Pl_sparedStraws 68 = .ok (.iconst 1, 1) := by decide +kernel
theorem d_Pl_sparedStraws_69 : decode b_Pl_sparedStraws 69 = .ok (.iload_n 3, 1) := by decide +kernel
theorem d_Pl_sparedStraws_70 : decode b_Pl_sparedStraws 70 = .ok (.ishl, 1) := by decide +kernel
theorem d_Pl_sparedStraws_71 : decode b_Pl_sparedStraws 71 = .ok (.ior, 1) := by decide +kernel
theorem d_Pl_sparedStraws_72 : decode b_Pl_sparedStraws 72 = .ok (.invokevirtual 51, 3) := by decide +kernel
theorem d_Pl_sparedStraws_75 : decode b_Pl_sparedStraws 75 = .ok (.ifCond .eq 11, 3) := by decide +kernel
theorem d_Pl_sparedStraws_78 : decode b_Pl_sparedStraws 78 = .ok (.iconst 1, 1) := by decide +kernel
theorem d_Pl_sparedStraws_79 : decode b_Pl_sparedStraws 79 = .ok (.iload_n 2, 1) := by decide +kernel
theorem d_Pl_sparedStraws_80 : decode b_Pl_sparedStraws 80 = .ok (.ishl, 1) := by decide +kernel
theorem d_Pl_sparedStraws_81 : decode b_Pl_sparedStraws 81 = .ok (.iconst 1, 1) := by decide +kernel
theorem d_Pl_sparedStraws_82 : decode b_Pl_sparedStraws 82 = .ok (.iload_n 3, 1) := by decide +kernel
theorem d_Pl_sparedStraws_83 : decode b_Pl_sparedStraws 83 = .ok (.ishl, 1) := by decide +kernel
theorem d_Pl_sparedStraws_84 : decode b_Pl_sparedStraws 84 = .ok (.ior, 1) := by decide +kernel
theorem d_Pl_sparedStraws_85 : decode b_Pl_sparedStraws 85 = .ok (.ireturn, 1) := by decide +kernel
theorem d_Pl_sparedStraws_86 : decode b_Pl_sparedStraws 86 = .ok (.iinc 3 1, 3) := by decide +kernel
theorem d_Pl_sparedStraws_89 : decode b_Pl_sparedStraws 89 = .ok (.goto (-30), 3) := by decide +kernel
theorem d_Pl_sparedStraws_92 : decode b_Pl_sparedStraws 92 = .ok (.iinc 2 1, 3) := by decide +kernel
theorem d_Pl_sparedStraws_95 : decode b_Pl_sparedStraws 95 = .ok (.goto (-45), 3) := by decide +kernel
theorem d_Pl_sparedStraws_98 : decode b_Pl_sparedStraws 98 = .ok (.iconst (-1), 1) := by decide +kernel
theorem d_Pl_sparedStraws_99 : decode b_Pl_sparedStraws 99 = .ok (.ireturn, 1) := by decide +kernel
theorem d_In_bitCount_0 : decode b_In_bitCount 0 = .ok (.iload_n 0, 1) := by decide +kernel
theorem d_In_bitCount_1 : decode b_In_bitCount 1 = .ok (.iload_n 0, 1) := by decide +kernel
theorem d_In_bitCount_2 : decode b_In_bitCount 2 = .ok (.iconst 1, 1) := by decide +kernel
theorem d_In_bitCount_3 : decode b_In_bitCount 3 = .ok (.iushr, 1) := by decide +kernel
theorem d_In_bitCount_4 : decode b_In_bitCount 4 = .ok (.ldc_w 265, 3) := by decide +kernel
theorem d_In_bitCount_7 : decode b_In_bitCount 7 = .ok (.iand, 1) := by decide +kernel
theorem d_In_bitCount_8 : decode b_In_bitCount 8 = .ok (.isub, 1) := by decide +kernel
theorem d_In_bitCount_9 : decode b_In_bitCount 9 = .ok (.istore_n 0, 1) := by decide +kernel
theorem d_In_bitCount_10 : decode b_In_bitCount 10 = .ok (.iload_n 0, 1) := by decide +kernel
theorem d_In_bitCount_11 : decode b_In_bitCount 11 = .ok (.ldc_w 266, 3) := by decide +kernel
theorem d_In_bitCount_14 : decode b_In_bitCount 14 = .ok (.iand, 1) := by decide +kernel
theorem d_In_bitCount_15 : decode b_In_bitCount 15 = .ok (.iload_n 0, 1) := by decide +kernel
theorem d_In_bitCount_16 : decode b_In_bitCount 16 = .ok (.iconst 2, 1) := by decide +kernel
theorem d_In_bitCount_17 : decode b_In_bitCount 17 = .ok (.iushr, 1) := by decide +kernel
theorem d_In_bitCount_18 : decode b_In_bitCount 18 = .ok (.ldc_w 266, 3) := by decide +kernel
theorem d_In_bitCount_21 : decode b_In_bitCount 21 = .ok (.iand, 1) := by decide +kernel
theorem d_In_bitCount_22 : decode b_In_bitCount 22 = .ok (.iadd, 1) := by decide +kernel
theorem d_In_bitCount_23 : decode b_In_bitCount 23 = .ok (.istore_n 0, 1) := by decide +kernel
theorem d_In_bitCount_24 : decode b_In_bitCount 24 = .ok (.iload_n 0, 1) := by decide +kernel
theorem d_In_bitCount_25 : decode b_In_bitCount 25 = .ok (.iload_n 0, 1) := by decide +kernel
theorem d_In_bitCount_26 : decode b_In_bitCount 26 = .ok (.iconst 4, 1) := by decide +kernel
theorem d_In_bitCount_27 : decode b_In_bitCount 27 = .ok (.iushr, 1) := by decide +kernel
theorem d_In_bitCount_28 : decode b_In_bitCount 28 = .ok (.iadd, 1) := by decide +kernel
theorem d_In_bitCount_29 : decode b_In_bitCount 29 = .ok (.ldc_w 267, 3) := by decide +kernel
theorem d_In_bitCount_32 : decode b_In_bitCount 32 = .ok (.iand, 1) := by decide +kernel
theorem d_In_bitCount_33 : decode b_In_bitCount 33 = .ok (.istore_n 0, 1) := by decide +kernel
theorem d_In_bitCount_34 : decode b_In_bitCount 34 = .ok (.iload_n 0, 1) := by decide +kernel
theorem d_In_bitCount_35 : decode b_In_bitCount 35 = .ok (.iload_n 0, 1) := by decide +kernel
theorem d_In_bitCount_36 : decode b_In_bitCount 36 = .ok (.bipush 8, 2) := by decide +kernel
theorem d_In_bitCount_38 : decode b_In_bitCount 38 = .ok (.iushr, 1) := by decide +kernel
theorem d_In_bitCount_39 : decode b_In_bitCount 39 = .ok (.iadd, 1) := by decide +kernel
theorem d_In_bitCount_40 : decode b_In_bitCount 40 = .ok (.istore_n 0, 1) := by decide +kernel
theorem d_In_bitCount_41 : decode b_In_bitCount 41 = .ok (.iload_n 0, 1) := by decide +kernel
theorem d_In_bitCount_42 : decode b_In_bitCount 42 = .ok (.iload_n 0, 1) := by decide +kernel
theorem d_In_bitCount_43 : decode b_In_bitCount 43 = .ok (.bipush 16, 2) := by decide +kernel
theorem d_In_bitCount_45 : decode b_In_bitCount 45 = .ok (.iushr, 1) := by decide +kernel
theorem d_In_bitCount_46 : decode b_In_bitCount 46 = .ok (.iadd, 1) := by decide +kernel
theorem d_In_bitCount_47 : decode b_In_bitCount 47 = .ok (.istore_n 0, 1) := by decide +kernel
theorem d_In_bitCount_48 : decode b_In_bitCount 48 = .ok (.iload_n 0, 1) := by decide +kernel
theorem d_In_bitCount_49 : decode b_In_bitCount 49 = .ok (.bipush 63, 2) := by decide +kernel
theorem d_In_bitCount_51 : decode b_In_bitCount 51 = .ok (.iand, 1) := by decide +kernel
theorem d_In_bitCount_52 : decode b_In_bitCount 52 = .ok (.ireturn, 1) := by decide +kernel
theorem d_In_numberOfTrailingZeros_0 : decode b_In_numberOfTrailingZeros 0 = .ok (.iload_n 0, 1) := by decide +kernel
theorem d_In_numberOfTrailingZeros_1 : decode b_In_numberOfTrailingZeros 1 = .ok (.iconst (-1), 1) := by decide +kernel
theorem d_In_numberOfTrailingZeros_2 : decode b_In_numberOfTrailingZeros 2 = .ok (.ixor, 1) := by decide +kernel
theorem d_In_numberOfTrailingZeros_3 : decode b_In_numberOfTrailingZeros 3 = .ok (.iload_n 0, 1) := by decide +kernel
theorem d_In_numberOfTrailingZeros_4 : decode b_In_numberOfTrailingZeros 4 = .ok (.iconst 1, 1) := by decide +kernel
theorem d_In_numberOfTrailingZeros_5 : decode b_In_numberOfTrailingZeros 5 = .ok (.isub, 1) := by decide +kernel
theorem d_In_numberOfTrailingZeros_6 : decode b_In_numberOfTrailingZeros 6 = .ok (.iand, 1) := by decide +kernel
theorem d_In_numberOfTrailingZeros_7 : decode b_In_numberOfTrailingZeros 7 = .ok (.istore_n 0, 1) := by decide +kernel
theorem d_In_numberOfTrailingZeros_8 : decode b_In_numberOfTrailingZeros 8 = .ok (.iload_n 0, 1) := by decide +kernel
theorem d_In_numberOfTrailingZeros_9 : decode b_In_numberOfTrailingZeros 9 = .ok (.ifCond .gt 8, 3) := by decide +kernel
theorem d_In_numberOfTrailingZeros_12 : decode b_In_numberOfTrailingZeros 12 = .ok (.iload_n 0, 1) := by decide +kernel
theorem d_In_numberOfTrailingZeros_13 : decode b_In_numberOfTrailingZeros 13 = .ok (.bipush 32, 2) := by decide +kernel
theorem d_In_numberOfTrailingZeros_15 : decode b_In_numberOfTrailingZeros 15 = .ok (.iand, 1) := by decide +kernel
theorem d_In_numberOfTrailingZeros_16 : decode b_In_numberOfTrailingZeros 16 = .ok (.ireturn, 1) := by decide +kernel
theorem d_In_numberOfTrailingZeros_17 : decode b_In_numberOfTrailingZeros 17 = .ok (.iconst 1, 1) := by decide +kernel
theorem d_In_numberOfTrailingZeros_18 : decode b_In_numberOfTrailingZeros 18 = .ok (.istore_n 1, 1) := by decide +kernel
theorem d_In_numberOfTrailingZeros_19 : decode b_In_numberOfTrailingZeros 19 = .ok (.iload_n 0, 1) := by decide +kernel
theorem d_In_numberOfTrailingZeros_20 : decode b_In_numberOfTrailingZeros 20 = .ok (.ldc_w 264, 3) := by decide +kernel
theorem d_In_numberOfTrailingZeros_23 : decode b_In_numberOfTrailingZeros 23 = .ok (.if_icmp .le 11, 3) := by decide +kernel
theorem d_In_numberOfTrailingZeros_26 : decode b_In_numberOfTrailingZeros 26 = .ok (.iinc 1 16, 3) := by decide +kernel
theorem d_In_numberOfTrailingZeros_29 : decode b_In_numberOfTrailingZeros 29 = .ok (.iload_n 0, 1) := by decide +kernel
theorem d_In_numberOfTrailingZeros_30 : decode b_In_numberOfTrailingZeros 30 = .ok (.bipush 16, 2) := by decide +kernel
theorem d_In_numberOfTrailingZeros_32 : decode b_In_numberOfTrailingZeros 32 = .ok (.iushr, 1) := by decide +kernel
theorem d_In_numberOfTrailingZeros_33 : decode b_In_numberOfTrailingZeros 33 = .ok (.istore_n 0, 1) := by decide +kernel
theorem d_In_numberOfTrailingZeros_34 : decode b_In_numberOfTrailingZeros 34 = .ok (.iload_n 0, 1) := by decide +kernel
theorem d_In_numberOfTrailingZeros_35 : decode b_In_numberOfTrailingZeros 35 = .ok (.sipush 256, 3) := by decide +kernel
theorem d_In_numberOfTrailingZeros_38 : decode b_In_numberOfTrailingZeros 38 = .ok (.if_icmp .le 11, 3) := by decide +kernel
theorem d_In_numberOfTrailingZeros_41 : decode b_In_numberOfTrailingZeros 41 = .ok (.iinc 1 8, 3) := by decide +kernel
theorem d_In_numberOfTrailingZeros_44 : decode b_In_numberOfTrailingZeros 44 = .ok (.iload_n 0, 1) := by decide +kernel
theorem d_In_numberOfTrailingZeros_45 : decode b_In_numberOfTrailingZeros 45 = .ok (.bipush 8, 2) := by decide +kernel
theorem d_In_numberOfTrailingZeros_47 : decode b_In_numberOfTrailingZeros 47 = .ok (.iushr, 1) := by decide +kernel
theorem d_In_numberOfTrailingZeros_48 : decode b_In_numberOfTrailingZeros 48 = .ok (.istore_n 0, 1) := by decide +kernel
theorem d_In_numberOfTrailingZeros_49 : decode b_In_numberOfTrailingZeros 49 = .ok (.iload_n 0, 1) := by decide +kernel
theorem d_In_numberOfTrailingZeros_50 : decode b_In_numberOfTrailingZeros 50 = .ok (.bipush 16, 2) := by decide +kernel
theorem d_In_numberOfTrailingZeros_52 : decode b_In_numberOfTrailingZeros 52 = .ok (.if_icmp .le 10, 3) := by decide +kernel
theorem d_In_numberOfTrailingZeros_55 : decode b_In_numberOfTrailingZeros 55 = .ok (.iinc 1 4, 3) := by decide +kernel
theorem d_In_numberOfTrailingZeros_58 : decode b_In_numberOfTrailingZeros 58 = .ok (.iload_n 0, 1) := by decide +kernel
theorem d_In_numberOfTrailingZeros_59 : decode b_In_numberOfTrailingZeros 59 = .ok (.iconst 4, 1) := by decide +kernel
theorem d_In_numberOfTrailingZeros_60 : decode b_In_numberOfTrailingZeros 60 = .ok (.iushr, 1) := by decide +kernel
theorem d_In_numberOfTrailingZeros_61 : decode b_In_numberOfTrailingZeros 61 = .ok (.istore_n 0, 1) := by decide +kernel
theorem d_In_numberOfTrailingZeros_62 : decode b_In_numberOfTrailingZeros 62 = .ok (.iload_n 0, 1) := by decide +kernel
theorem d_In_numberOfTrailingZeros_63 : decode b_In_numberOfTrailingZeros 63 = .ok (.iconst 4, 1) := by decide +kernel
theorem d_In_numberOfTrailingZeros_64 : decode b_In_numberOfTrailingZeros 64 = .ok (.if_icmp .le 10, 3) := by decide +kernel
theorem d_In_numberOfTrailingZeros_67 : decode b_In_numberOfTrailingZeros 67 = .ok (.iinc 1 2, 3) := by decide +kernel
theorem d_In_numberOfTrailingZeros_70 : decode b_In_numberOfTrailingZeros 70 = .ok (.iload_n 0, 1) := by decide +kernel
theorem d_In_numberOfTrailingZeros_71 : decode b_In_numberOfTrailingZeros 71 = .ok (.iconst 2, 1) := by decide +kernel
theorem d_In_numberOfTrailingZeros_72 : decode b_In_numberOfTrailingZeros 72 = .ok (.iushr, 1) := by decide +kernel
theorem d_In_numberOfTrailingZeros_73 : decode b_In_numberOfTrailingZeros 73 = .ok (.istore_n 0, 1) := by decide +kernel
theorem d_In_numberOfTrailingZeros_74 : decode b_In_numberOfTrailingZeros 74 = .ok (.iload_n 1, 1) := by decide +kernel
theorem d_In_numberOfTrailingZeros_75 : decode b_In_numberOfTrailingZeros 75 = .ok (.iload_n 0, 1) := by decide +kernel
theorem d_In_numberOfTrailingZeros_76 : decode b_In_numberOfTrailingZeros 76 = .ok (.iconst 1, 1) := by decide +kernel
theorem d_In_numberOfTrailingZeros_77 : decode b_In_numberOfTrailingZeros 77 = .ok (.iushr, 1) := by decide +kernel
theorem d_In_numberOfTrailingZeros_78 : decode b_In_numberOfTrailingZeros 78 = .ok (.iadd, 1) := by decide +kernel
theorem d_In_numberOfTrailingZeros_79 : decode b_In_numberOfTrailingZeros 79 = .ok (.ireturn, 1) := by decide +kernel
theorem d_CS_spare_0 : decode b_CS_spare 0 = .ok (.iload_n 1, 1) := by decide +kernel
theorem d_CS_spare_1 : decode b_CS_spare 1 = .ok (.iconst (-1), 1) := by decide +kernel
theorem d_CS_spare_2 : decode b_CS_spare 2 = .ok (.if_icmp .eq 15, 3) := by decide +kernel
theorem d_CS_spare_5 : decode b_CS_spare 5 = .ok (.iload_n 1, 1) := by decide +kernel
theorem d_CS_spare_6 : decode b_CS_spare 6 = .ok (.ifCond .lt 8, 3) := by decide +kernel
theorem d_CS_spare_9 : decode b_CS_spare 9 = .ok (.iload_n 1, 1) := by decide +kernel
theorem d_CS_spare_10 : decode b_CS_spare 10 = .ok (.iconst 2, 1) := by decide +kernel
theorem d_CS_spare_11 : decode b_CS_spare 11 = .ok (.if_icmp .lt 6, 3) := by decide +kernel
theorem d_CS_spare_14 : decode b_CS_spare 14 = .ok (.bipush (-2), 2) := by decide +kernel
theorem d_CS_spare_16 : decode b_CS_spare 16 = .ok (.ireturn, 1) := by decide +kernel
theorem d_CS_spare_17 : decode b_CS_spare 17 = .ok (.aload_n 0, 1) := by decide +kernel
theorem d_CS_spare_18 : decode b_CS_spare 18 = .ok (.getfield 53, 3) := by decide +kernel
theorem d_CS_spare_21 : decode b_CS_spare 21 = .ok (.invokevirtual 191, 3) := by decide +kernel
theorem d_CS_spare_24 : decode b_CS_spare 24 = .ok (.istore_n 2, 1) := by decide +kernel
theorem d_CS_spare_25 : decode b_CS_spare 25 = .ok (.iload_n 2, 1) := by decide +kernel
theorem d_CS_spare_26 : decode b_CS_spare 26 = .ok (.iconst (-1), 1) := by decide +kernel
theorem d_CS_spare_27 : decode b_CS_spare 27 = .ok (.if_icmp .ne 5, 3) := by decide +kernel
theorem d_CS_spare_30 : decode b_CS_spare 30 = .ok (.iconst (-1), 1) := by decide +kernel
theorem d_CS_spare_31 : decode b_CS_spare 31 = .ok (.ireturn, 1) := by decide +kernel
theorem d_CS_spare_32 : decode b_CS_spare 32 = .ok (.iload_n 1, 1) := by decide +kernel
theorem d_CS_spare_33 : decode b_CS_spare 33 = .ok (.iconst (-1), 1) := by decide +kernel
theorem d_CS_spare_34 : decode b_CS_spare 34 = .ok (.if_icmp .ne 8, 3) := by decide +kernel
theorem d_CS_spare_37 : decode b_CS_spare 37 = .ok (.iload_n 2, 1) := by decide +kernel
theorem d_CS_spare_38 : decode b_CS_spare 38 = .ok (.invokestatic 194, 3) := by decide +kernel
theorem d_CS_spare_41 : decode b_CS_spare 41 = .ok (.ireturn, 1) := by decide +kernel
theorem d_CS_spare_42 : decode b_CS_spare 42 = .ok (.iload_n 1, 1) := by decide +kernel
theorem d_CS_spare_43 : decode b_CS_spare 43 = .ok (.ifCond .ne 7, 3) := by decide +kernel
theorem d_CS_spare_46 : decode b_CS_spare 46 = .ok (.iload_n 2, 1) := by decide +kernel
theorem d_CS_spare_47 : decode b_CS_spare 47 = .ok (.goto 8, 3) := by decide +kernel
theorem d_CS_spare_50 : decode b_CS_spare 50 = .ok (.iload_n 2, 1) := by decide +kernel
theorem d_CS_spare_51 : decode b_CS_spare 51 = .ok (.iload_n 2, 1) := by decide +kernel
theorem d_CS_spare_52 : decode b_CS_spare 52 = .ok (.iconst 1, 1) := by decide +kernel
theorem d_CS_spare_53 : decode b_CS_spare 53 = .ok (.isub, 1) := by decide +kernel
theorem d_CS_spare_54 : decode b_CS_spare 54 = .ok (.iand, 1) := by decide +kernel
theorem d_CS_spare_55 : decode b_CS_spare 55 = .ok (.istore_n 3, 1) := by decide +kernel
theorem d_CS_spare_56 : decode b_CS_spare 56 = .ok (.iload_n 3, 1) := by decide +kernel
theorem d_CS_spare_57 : decode b_CS_spare 57 = .ok (.ifCond .ne 7, 3) := by decide +kernel
theorem d_CS_spare_60 : decode b_CS_spare 60 = .ok (.iconst (-1), 1) := by decide +kernel
theorem d_CS_spare_61 : decode b_CS_spare 61 = .ok (.goto 7, 3) := by decide +kernel
theorem d_CS_spare_64 : decode b_CS_spare 64 = .ok (.iload_n 3, 1) := by decide +kernel
theorem d_CS_spare_65 : decode b_CS_spare 65 = .ok (.invokestatic 199, 3) := by decide +kernel
theorem d_CS_spare_68 : decode b_CS_spare 68 = .ok (.ireturn, 1) := by decide +kernel
theorem d_Gu_append_0 : decode b_Gu_append 0 = .ok (.aload_n 0, 1) := by decide +kernel
theorem d_Gu_append_1 : decode b_Gu_append 1 = .ok (.getfield 28, 3) := by decide +kernel
theorem d_Gu_append_4 : decode b_Gu_append 4 = .ok (.bipush 8, 2) := by decide +kernel
theorem d_Gu_append_6 : decode b_Gu_append 6 = .ok (.if_icmp .lt 5, 3) := by decide +kernel
theorem d_Gu_append_9 : decode b_Gu_append 9 = .ok (.iconst 0, 1) := by decide +kernel
theorem d_Gu_append_10 : decode b_Gu_append 10 = .ok (.ireturn, 1) := by decide +kernel
theorem d_Gu_append_11 : decode b_Gu_append 11 = .ok (.aload_n 0, 1) := by decide +kernel
theorem d_Gu_append_12 : decode b_Gu_append 12 = .ok (.getfield 9, 3) := by decide +kernel
theorem d_Gu_append_15 : decode b_Gu_append 15 = .ok (.aload_n 0, 1) := by decide +kernel
theorem d_Gu_append_16 : decode b_Gu_append 16 = .ok (.getfield 28, 3) := by decide +kernel
theorem d_Gu_append_19 : decode b_Gu_append 19 = .ok (.iload_n 1, 1) := by decide +kernel
theorem d_Gu_append_20 : decode b_Gu_append 20 = .ok (.iastore, 1) := by decide +kernel
theorem d_Gu_append_21 : decode b_Gu_append 21 = .ok (.aload_n 0, 1) := by decide +kernel
theorem d_Gu_append_22 : decode b_Gu_append 22 = .ok (.getfield 15, 3) := by decide +kernel
theorem d_Gu_append_25 : decode b_Gu_append 25 = .ok (.aload_n 0, 1) := by decide +kernel
theorem d_Gu_append_26 : decode b_Gu_append 26 = .ok (.getfield 28, 3) := by decide +kernel
theorem d_Gu_append_29 : decode b_Gu_append 29 = .ok (.iload_n 2, 1) := by decide +kernel
theorem d_Gu_append_30 : decode b_Gu_append 30 = .ok (.iastore, 1) := by decide +kernel
theorem d_Gu_append_31 : decode b_Gu_append 31 = .ok (.aload_n 0, 1) := by decide +kernel
theorem d_Gu_append_32 : decode b_Gu_append 32 = .ok (.getfield 18, 3) := by decide +kernel
theorem d_Gu_append_35 : decode b_Gu_append 35 = .ok (.aload_n 0, 1) := by decide +kernel
theorem d_Gu_append_36 : decode b_Gu_append 36 = .ok (.getfield 28, 3) := by decide +kernel
theorem d_Gu_append_39 : decode b_Gu_append 39 = .ok (.iload_n 3, 1) := by decide +kernel
theorem d_Gu_append_40 : decode b_Gu_append 40 = .ok (.iastore, 1) := by decide +kernel
theorem d_Gu_append_41 : decode b_Gu_append 41 = .ok (.aload_n 0, 1) := by decide +kernel
theorem d_Gu_append_42 : decode b_Gu_append 42 = .ok (.dup, 1) := by decide +kernel
theorem d_Gu_append_43 : decode b_Gu_append 43 = .ok (.getfield 28, 3) := by decide +kernel
theorem d_Gu_append_46 : decode b_Gu_append 46 = .ok (.iconst 1, 1) := by decide +kernel
theorem d_Gu_append_47 : decode b_Gu_append 47 = .ok (.iadd, 1) := by decide +kernel
theorem d_Gu_append_48 : decode b_Gu_append 48 = .ok (.putfield 28, 3) := by decide +kernel
theorem d_Gu_append_51 : decode b_Gu_append 51 = .ok (.iconst 1, 1) := by decide +kernel
theorem d_Gu_append_52 : decode b_Gu_append 52 = .ok (.ireturn, 1) := by decide +kernel
theorem d_CS_seen_0 : decode b_CS_seen 0 = .ok (.iload_n 1, 1) := by decide +kernel
theorem d_CS_seen_1 : decode b_CS_seen 1 = .ok (.invokestatic 121, 3) := by decide +kernel
theorem d_CS_seen_4 : decode b_CS_seen 4 = .ok (.ifCond .eq 20, 3) := by decide +kernel
theorem d_CS_seen_7 : decode b_CS_seen 7 = .ok (.iload_n 2, 1) := by decide +kernel
theorem d_CS_seen_8 : decode b_CS_seen 8 = .ok (.invokestatic 124, 3) := by decide +kernel
theorem d_CS_seen_11 : decode b_CS_seen 11 = .ok (.ifCond .eq 13, 3) := by decide +kernel
theorem d_CS_seen_14 : decode b_CS_seen 14 = .ok (.iload_n 3, 1) := by decide +kernel
theorem d_CS_seen_15 : decode b_CS_seen 15 = .ok (.ifCond .lt 9, 3) := by decide +kernel
theorem d_CS_seen_18 : decode b_CS_seen 18 = .ok (.iload_n 3, 1) := by decide +kernel
theorem d_CS_seen_19 : decode b_CS_seen 19 = .ok (.bipush 99, 2) := by decide +kernel
theorem d_CS_seen_21 : decode b_CS_seen 21 = .ok (.if_icmp .le 6, 3) := by decide +kernel
theorem d_CS_seen_24 : decode b_CS_seen 24 = .ok (.bipush (-2), 2) := by decide +kernel
theorem d_CS_seen_26 : decode b_CS_seen 26 = .ok (.ireturn, 1) := by decide +kernel
theorem d_CS_seen_27 : decode b_CS_seen 27 = .ok (.aload_n 0, 1) := by decide +kernel
theorem d_CS_seen_28 : decode b_CS_seen 28 = .ok (.getfield 60, 3) := by decide +kernel
theorem d_CS_seen_31 : decode b_CS_seen 31 = .ok (.iload_n 1, 1) := by decide +kernel
theorem d_CS_seen_32 : decode b_CS_seen 32 = .ok (.iload_n 2, 1) := by decide +kernel
theorem d_CS_seen_33 : decode b_CS_seen 33 = .ok (.iload_n 3, 1) := by decide +kernel
theorem d_CS_seen_34 : decode b_CS_seen 34 = .ok (.invokevirtual 202, 3) := by decide +kernel
theorem d_CS_seen_37 : decode b_CS_seen 37 = .ok (.ifCond .eq 13, 3) := by decide +kernel
theorem d_CS_seen_40 : decode b_CS_seen 40 = .ok (.aload_n 0, 1) := by decide +kernel
theorem d_CS_seen_41 : decode b_CS_seen 41 = .ok (.getfield 60, 3) := by decide +kernel
theorem d_CS_seen_44 : decode b_CS_seen 44 = .ok (.getfield 205, 3) := by decide +kernel
theorem d_CS_seen_47 : decode b_CS_seen 47 = .ok (.goto 5, 3) := by decide +kernel
theorem d_CS_seen_50 : decode b_CS_seen 50 = .ok (.bipush (-4), 2) := by decide +kernel
theorem d_CS_seen_52 : decode b_CS_seen 52 = .ok (.ireturn, 1) := by decide +kernel
theorem d_CS_forget_0 : decode b_CS_forget 0 = .ok (.aload_n 0, 1) := by decide +kernel
theorem d_CS_forget_1 : decode b_CS_forget 1 = .ok (.getfield 60, 3) := by decide +kernel
theorem d_CS_forget_4 : decode b_CS_forget 4 = .ok (.getfield 205, 3) := by decide +kernel
theorem d_CS_forget_7 : decode b_CS_forget 7 = .ok (.istore_n 1, 1) := by decide +kernel
theorem d_CS_forget_8 : decode b_CS_forget 8 = .ok (.aload_n 0, 1) := by decide +kernel
theorem d_CS_forget_9 : decode b_CS_forget 9 = .ok (.getfield 60, 3) := by decide +kernel
theorem d_CS_forget_12 : decode b_CS_forget 12 = .ok (.iconst 0, 1) := by decide +kernel
theorem d_CS_forget_13 : decode b_CS_forget 13 = .ok (.putfield 205, 3) := by decide +kernel
theorem d_CS_forget_16 : decode b_CS_forget 16 = .ok (.iload_n 1, 1) := by decide +kernel
theorem d_CS_forget_17 : decode b_CS_forget 17 = .ok (.ireturn, 1) := by decide +kernel
theorem d_Gu_allComesOut_0 : decode b_Gu_allComesOut 0 = .ok (.iconst 0, 1) := by decide +kernel
theorem d_Gu_allComesOut_1 : decode b_Gu_allComesOut 1 = .ok (.istore_n 1, 1) := by decide +kernel
theorem d_Gu_allComesOut_2 : decode b_Gu_allComesOut 2 = .ok (.iload_n 1, 1) := by decide +kernel
theorem d_Gu_allComesOut_3 : decode b_Gu_allComesOut 3 = .ok (.aload_n 0, 1) := by decide +kernel
theorem d_Gu_allComesOut_4 : decode b_Gu_allComesOut 4 = .ok (.getfield 28, 3) := by decide +kernel
theorem d_Gu_allComesOut_7 : decode b_Gu_allComesOut 7 = .ok (.if_icmp .ge 64, 3) := by decide +kernel
theorem d_Gu_allComesOut_10 : decode b_Gu_allComesOut 10 = .ok (.aload_n 0, 1) := by decide +kernel
theorem d_Gu_allComesOut_11 : decode b_Gu_allComesOut 11 = .ok (.getfield 15, 3) := by decide +kernel
theorem d_Gu_allComesOut_14 : decode b_Gu_allComesOut 14 = .ok (.iload_n 1, 1) := by decide +kernel
theorem d_Gu_allComesOut_15 : decode b_Gu_allComesOut 15 = .ok (.iaload, 1) := by decide +kernel
theorem d_Gu_allComesOut_16 : decode b_Gu_allComesOut 16 = .ok (.aload_n 0, 1) := by decide +kernel
theorem d_Gu_allComesOut_17 : decode b_Gu_allComesOut 17 = .ok (.getfield 24, 3) := by decide +kernel
theorem d_Gu_allComesOut_20 : decode b_Gu_allComesOut 20 = .ok (.getfield 32, 3) := by decide +kernel
theorem d_Gu_allComesOut_23 : decode b_Gu_allComesOut 23 = .ok (.getfield 38, 3) := by decide +kernel
theorem d_Gu_allComesOut_26 : decode b_Gu_allComesOut 26 = .ok (.if_icmp .lt 5, 3) := by decide +kernel
theorem d_Gu_allComesOut_29 : decode b_Gu_allComesOut 29 = .ok (.iconst 0, 1) := by decide +kernel
theorem d_Gu_allComesOut_30 : decode b_Gu_allComesOut 30 = .ok (.ireturn, 1) := by decide +kernel
theorem d_Gu_allComesOut_31 : decode b_Gu_allComesOut 31 = .ok (.aload_n 0, 1) := by decide +kernel
theorem d_Gu_allComesOut_32 : decode b_Gu_allComesOut 32 = .ok (.getfield 24, 3) := by decide +kernel
theorem d_Gu_allComesOut_35 : decode b_Gu_allComesOut 35 = .ok (.aload_n 0, 1) := by decide +kernel
theorem d_Gu_allComesOut_36 : decode b_Gu_allComesOut 36 = .ok (.getfield 15, 3) := by decide +kernel
theorem d_Gu_allComesOut_39 : decode b_Gu_allComesOut 39 = .ok (.iload_n 1, 1) := by decide +kernel
theorem d_Gu_allComesOut_40 : decode b_Gu_allComesOut 40 = .ok (.iaload, 1) := by decide +kernel
theorem d_Gu_allComesOut_41 : decode b_Gu_allComesOut 41 = .ok (.invokevirtual 43, 3) := by decide +kernel
theorem d_Gu_allComesOut_44 : decode b_Gu_allComesOut 44 = .ok (.aload_n 0, 1) := by decide +kernel
theorem d_Gu_allComesOut_45 : decode b_Gu_allComesOut 45 = .ok (.getfield 9, 3) := by decide +kernel
theorem d_Gu_allComesOut_48 : decode b_Gu_allComesOut 48 = .ok (.iload_n 1, 1) := by decide +kernel
theorem d_Gu_allComesOut_49 : decode b_Gu_allComesOut 49 = .ok (.iaload, 1) := by decide +kernel
theorem d_Gu_allComesOut_50 : decode b_Gu_allComesOut 50 = .ok (.iconst 0, 1) := by decide +kernel
theorem d_Gu_allComesOut_51 : decode b_Gu_allComesOut 51 = .ok (.invokevirtual 47, 3) := by decide +kernel
theorem d_Gu_allComesOut_54 : decode b_Gu_allComesOut 54 = .ok (.aload_n 0, 1) := by decide +kernel
theorem d_Gu_allComesOut_55 : decode b_Gu_allComesOut 55 = .ok (.getfield 18, 3) := by decide +kernel
theorem d_Gu_allComesOut_58 : decode b_Gu_allComesOut 58 = .ok (.iload_n 1, 1) := by decide +kernel
theorem d_Gu_allComesOut_59 : decode b_Gu_allComesOut 59 = .ok (.iaload, 1) := by decide +kernel
theorem d_Gu_allComesOut_60 : decode b_Gu_allComesOut 60 = .ok (.if_icmp .eq 5, 3) := by decide +kernel
theorem d_Gu_allComesOut_63 : decode b_Gu_allComesOut 63 = .ok (.iconst 0, 1) := by decide +kernel
theorem d_Gu_allComesOut_64 : decode b_Gu_allComesOut 64 = .ok (.ireturn, 1) := by decide +kernel
theorem d_Gu_allComesOut_65 : decode b_Gu_allComesOut 65 = .ok (.iinc 1 1, 3) := by decide +kernel
theorem d_Gu_allComesOut_68 : decode b_Gu_allComesOut 68 = .ok (.goto (-66), 3) := by decide +kernel
theorem d_Gu_allComesOut_71 : decode b_Gu_allComesOut 71 = .ok (.iconst 1, 1) := by decide +kernel
theorem d_Gu_allComesOut_72 : decode b_Gu_allComesOut 72 = .ok (.ireturn, 1) := by decide +kernel
theorem d_Gu_strawsThatNeverWere_0 : decode b_Gu_strawsThatNeverWere 0 = .ok (.iconst 0, 1) := by decide +kernel
theorem d_Gu_strawsThatNeverWere_1 : decode b_Gu_strawsThatNeverWere 1 = .ok (.istore_n 1, 1) := by decide +kernel
theorem d_Gu_strawsThatNeverWere_2 : decode b_Gu_strawsThatNeverWere 2 = .ok (.iconst 0, 1) := by decide +kernel
theorem d_Gu_strawsThatNeverWere_3 : decode b_Gu_strawsThatNeverWere 3 = .ok (.istore_n 2, 1) := by decide +kernel
theorem d_Gu_strawsThatNeverWere_4 : decode b_Gu_strawsThatNeverWere 4 = .ok (.iload_n 2, 1) := by decide +kernel
theorem d_Gu_strawsThatNeverWere_5 : decode b_Gu_strawsThatNeverWere 5 = .ok (.aload_n 0, 1) := by decide +kernel
theorem d_Gu_strawsThatNeverWere_6 : decode b_Gu_strawsThatNeverWere 6 = .ok (.getfield 24, 3) := by decide +kernel
theorem d_Gu_strawsThatNeverWere_9 : decode b_Gu_strawsThatNeverWere 9 = .ok (.getfield 53, 3) := by decide +kernel
theorem d_Gu_strawsThatNeverWere_12 : decode b_Gu_strawsThatNeverWere 12 = .ok (.getfield 57, 3) := by decide +kernel
theorem d_Gu_strawsThatNeverWere_15 : decode b_Gu_strawsThatNeverWere 15 = .ok (.if_icmp .ge 32, 3) := by decide +kernel
theorem d_Gu_strawsThatNeverWere_18 : decode b_Gu_strawsThatNeverWere 18 = .ok (.aload_n 0, 1) := by decide +kernel
theorem d_Gu_strawsThatNeverWere_19 : decode b_Gu_strawsThatNeverWere 19 = .ok (.getfield 24, 3) := by decide +kernel
theorem d_Gu_strawsThatNeverWere_22 : decode b_Gu_strawsThatNeverWere 22 = .ok (.iconst 1, 1) := by decide +kernel
theorem d_Gu_strawsThatNeverWere_23 : decode b_Gu_strawsThatNeverWere 23 = .ok (.iload_n 2, 1) := by decide +kernel
theorem d_Gu_strawsThatNeverWere_24 : decode b_Gu_strawsThatNeverWere 24 = .ok (.ishl, 1) := by decide +kernel
theorem d_Gu_strawsThatNeverWere_25 : decode b_Gu_strawsThatNeverWere 25 = .ok (.putfield 60, 3) := by decide +kernel
theorem d_Gu_strawsThatNeverWere_28 : decode b_Gu_strawsThatNeverWere 28 = .ok (.aload_n 0, 1) := by decide +kernel
theorem d_Gu_strawsThatNeverWere_29 : decode b_Gu_strawsThatNeverWere 29 = .ok (.invokevirtual 63, 3) := by decide +kernel
theorem d_Gu_strawsThatNeverWere_32 : decode b_Gu_strawsThatNeverWere 32 = .ok (.ifCond .eq 9, 3) := by decide +kernel
theorem d_Gu_strawsThatNeverWere_35 : decode b_Gu_strawsThatNeverWere 35 = .ok (.iload_n 1, 1) := by decide +kernel
theorem d_Gu_strawsThatNeverWere_36 : decode b_Gu_strawsThatNeverWere 36 = .ok (.iconst 1, 1) := by decide +kernel
theorem d_Gu_strawsThatNeverWere_37 : decode b_Gu_strawsThatNeverWere 37 = .ok (.iload_n 2, 1) := by decide +kernel
theorem d_Gu_strawsThatNeverWere_38 : decode b_Gu_strawsThatNeverWere 38 = .ok (.ishl, 1) := by decide +kernel
theorem d_Gu_strawsThatNeverWere_39 : decode b_Gu_strawsThatNeverWere 39 = .ok (.ior, 1) := by decide +kernel
theorem d_Gu_strawsThatNeverWere_40 : decode b_Gu_strawsThatNeverWere 40 = .ok (.istore_n 1, 1) := by decide +kernel
theorem d_Gu_strawsThatNeverWere_41 : decode b_Gu_strawsThatNeverWere 41 = .ok (.iinc 2 1, 3) := by decide +kernel
theorem d_Gu_strawsThatNeverWere_44 : decode b_Gu_strawsThatNeverWere 44 = .ok (.goto (-40), 3) := by decide +kernel
theorem d_Gu_strawsThatNeverWere_47 : decode b_Gu_strawsThatNeverWere 47 = .ok (.aload_n 0, 1) := by decide +kernel
theorem d_Gu_strawsThatNeverWere_48 : decode b_Gu_strawsThatNeverWere 48 = .ok (.getfield 24, 3) := by decide +kernel
theorem d_Gu_strawsThatNeverWere_51 : decode b_Gu_strawsThatNeverWere 51 = .ok (.iconst 0, 1) := by decide +kernel
theorem d_Gu_strawsThatNeverWere_52 : decode b_Gu_strawsThatNeverWere 52 = .ok (.putfield 60, 3) := by decide +kernel
theorem d_Gu_strawsThatNeverWere_55 : decode b_Gu_strawsThatNeverWere 55 = .ok (.iload_n 1, 1) := by decide +kernel
theorem d_Gu_strawsThatNeverWere_56 : decode b_Gu_strawsThatNeverWere 56 = .ok (.ireturn, 1) := by decide +kernel
theorem d_CS_never_0 : decode b_CS_never 0 = .ok (.aload_n 0, 1) := by decide +kernel
theorem d_CS_never_1 : decode b_CS_never 1 = .ok (.getfield 60, 3) := by decide +kernel
theorem d_CS_never_4 : decode b_CS_never 4 = .ok (.invokevirtual 206, 3) := by decide +kernel
theorem d_CS_never_7 : decode b_CS_never 7 = .ok (.ireturn, 1) := by decide +kernel
theorem d_Gu_valuesThatFit_0 : decode b_Gu_valuesThatFit 0 = .ok (.aload_n 1, 1) := by decide +kernel
theorem d_Gu_valuesThatFit_1 : decode b_Gu_valuesThatFit 1 = .ok (.iload_n 2, 1) := by decide +kernel
theorem d_Gu_valuesThatFit_2 : decode b_Gu_valuesThatFit 2 = .ok (.iaload, 1) := by decide +kernel
theorem d_Gu_valuesThatFit_3 : decode b_Gu_valuesThatFit 3 = .ok (.istore 5, 2) := by decide +kernel
theorem d_Gu_valuesThatFit_5 : decode b_Gu_valuesThatFit 5 = .ok (.iconst 0, 1) := by decide +kernel
theorem d_Gu_valuesThatFit_6 : decode b_Gu_valuesThatFit 6 = .ok (.istore 6, 2) := by decide +kernel
theorem d_Gu_valuesThatFit_8 : decode b_Gu_valuesThatFit 8 = .ok (.iload_n 3, 1) := by decide +kernel
theorem d_Gu_valuesThatFit_9 : decode b_Gu_valuesThatFit 9 = .ok (.istore 7, 2) := by decide +kernel
theorem d_Gu_valuesThatFit_11 : decode b_Gu_valuesThatFit 11 = .ok (.iload 7, 2) := by decide +kernel
theorem d_Gu_valuesThatFit_13 : decode b_Gu_valuesThatFit 13 = .ok (.iload 4, 2) := by decide +kernel
theorem d_Gu_valuesThatFit_15 : decode b_Gu_valuesThatFit 15 = .ok (.if_icmp .gt 30, 3) := by decide +kernel
theorem d_Gu_valuesThatFit_18 : decode b_Gu_valuesThatFit 18 = .ok (.aload_n 1, 1) := by decide +kernel
theorem d_Gu_valuesThatFit_19 : decode b_Gu_valuesThatFit 19 = .ok (.iload_n 2, 1) := by decide +kernel
theorem d_Gu_valuesThatFit_20 : decode b_Gu_valuesThatFit 20 = .ok (.iload 7, 2) := by decide +kernel
theorem d_Gu_valuesThatFit_22 : decode b_Gu_valuesThatFit 22 = .ok (.iastore, 1) := by decide +kernel
theorem d_Gu_valuesThatFit_23 : decode b_Gu_valuesThatFit 23 = .ok (.aload_n 0, 1) := by decide +kernel
theorem d_Gu_valuesThatFit_24 : decode b_Gu_valuesThatFit 24 = .ok (.invokevirtual 63, 3) := by decide +kernel
theorem d_Gu_valuesThatFit_27 : decode b_Gu_valuesThatFit 27 = .ok (.ifCond .eq 12, 3) := by decide +kernel
theorem d_Gu_valuesThatFit_30 : decode b_Gu_valuesThatFit 30 = .ok (.iload 6, 2) := by decide +kernel
theorem d_Gu_valuesThatFit_32 : decode b_Gu_valuesThatFit 32 = .ok (.iconst 1, 1) := by decide +kernel
theorem d_Gu_valuesThatFit_33 : decode b_Gu_valuesThatFit 33 = .ok (.iload 7, 2) := by decide +kernel
theorem d_Gu_valuesThatFit_35 : decode b_Gu_valuesThatFit 35 = .ok (.ishl, 1) := by decide +kernel
theorem d_Gu_valuesThatFit_36 : decode b_Gu_valuesThatFit 36 = .ok (.ior, 1) := by decide +kernel
theorem d_Gu_valuesThatFit_37 : decode b_Gu_valuesThatFit 37 = .ok (.istore 6, 2) := by decide +kernel
theorem d_Gu_valuesThatFit_39 : decode b_Gu_valuesThatFit 39 = .ok (.iinc 7 1, 3) := by decide +kernel
theorem d_Gu_valuesThatFit_42 : decode b_Gu_valuesThatFit 42 = .ok (.goto (-31), 3) := by decide +kernel
theorem d_Gu_valuesThatFit_45 : decode b_Gu_valuesThatFit 45 = .ok (.aload_n 1, 1) := by decide +kernel
theorem d_Gu_valuesThatFit_46 : decode b_Gu_valuesThatFit 46 = .ok (.iload_n 2, 1) := by decide +kernel
theorem d_Gu_valuesThatFit_47 : decode b_Gu_valuesThatFit 47 = .ok (.iload 5, 2) := by decide +kernel
theorem d_Gu_valuesThatFit_49 : decode b_Gu_valuesThatFit 49 = .ok (.iastore, 1) := by decide +kernel
theorem d_Gu_valuesThatFit_50 : decode b_Gu_valuesThatFit 50 = .ok (.iload 6, 2) := by decide +kernel
theorem d_Gu_valuesThatFit_52 : decode b_Gu_valuesThatFit 52 = .ok (.ireturn, 1) := by decide +kernel
theorem d_CS_was_0 : decode b_CS_was 0 = .ok (.aload_n 0, 1) := by decide +kernel
theorem d_CS_was_1 : decode b_CS_was 1 = .ok (.iload_n 1, 1) := by decide +kernel
theorem d_CS_was_2 : decode b_CS_was 2 = .ok (.invokevirtual 96, 3) := by decide +kernel
theorem d_CS_was_5 : decode b_CS_was 5 = .ok (.ifCond .eq 12, 3) := by decide +kernel
theorem d_CS_was_8 : decode b_CS_was 8 = .ok (.iload_n 2, 1) := by decide +kernel
theorem d_CS_was_9 : decode b_CS_was 9 = .ok (.ifCond .lt 8, 3) := by decide +kernel
theorem d_CS_was_12 : decode b_CS_was 12 = .ok (.iload_n 2, 1) := by decide +kernel
theorem d_CS_was_13 : decode b_CS_was 13 = .ok (.iconst 1, 1) := by decide +kernel
theorem d_CS_was_14 : decode b_CS_was 14 = .ok (.if_icmp .le 6, 3) := by decide +kernel
theorem d_CS_was_17 : decode b_CS_was 17 = .ok (.bipush (-2), 2) := by decide +kernel
theorem d_CS_was_19 : decode b_CS_was 19 = .ok (.ireturn, 1) := by decide +kernel
theorem d_CS_was_20 : decode b_CS_was 20 = .ok (.iload_n 2, 1) := by decide +kernel
theorem d_CS_was_21 : decode b_CS_was 21 = .ok (.ifCond .ne 23, 3) := by decide +kernel
theorem d_CS_was_24 : decode b_CS_was 24 = .ok (.aload_n 0, 1) := by decide +kernel
theorem d_CS_was_25 : decode b_CS_was 25 = .ok (.getfield 60, 3) := by decide +kernel
theorem d_CS_was_28 : decode b_CS_was 28 = .ok (.aload_n 0, 1) := by decide +kernel
theorem d_CS_was_29 : decode b_CS_was 29 = .ok (.getfield 10, 3) := by decide +kernel
theorem d_CS_was_32 : decode b_CS_was 32 = .ok (.getfield 99, 3) := by decide +kernel
theorem d_CS_was_35 : decode b_CS_was 35 = .ok (.iload_n 1, 1) := by decide +kernel
theorem d_CS_was_36 : decode b_CS_was 36 = .ok (.iconst 0, 1) := by decide +kernel
theorem d_CS_was_37 : decode b_CS_was 37 = .ok (.iconst 2, 1) := by decide +kernel
theorem d_CS_was_38 : decode b_CS_was 38 = .ok (.invokevirtual 209, 3) := by decide +kernel
theorem d_CS_was_41 : decode b_CS_was 41 = .ok (.goto 21, 3) := by decide +kernel
theorem d_CS_was_44 : decode b_CS_was 44 = .ok (.aload_n 0, 1) := by decide +kernel
theorem d_CS_was_45 : decode b_CS_was 45 = .ok (.getfield 60, 3) := by decide +kernel
theorem d_CS_was_48 : decode b_CS_was 48 = .ok (.aload_n 0, 1) := by decide +kernel
theorem d_CS_was_49 : decode b_CS_was 49 = .ok (.getfield 10, 3) := by decide +kernel
theorem d_CS_was_52 : decode b_CS_was 52 = .ok (.getfield 103, 3) := by decide +kernel
theorem d_CS_was_55 : decode b_CS_was 55 = .ok (.iload_n 1, 1) := by decide +kernel
theorem d_CS_was_56 : decode b_CS_was 56 = .ok (.iconst 1, 1) := by decide +kernel
theorem d_CS_was_57 : decode b_CS_was 57 = .ok (.bipush 9, 2) := by decide +kernel
theorem d_CS_was_59 : decode b_CS_was 59 = .ok (.invokevirtual 209, 3) := by decide +kernel
theorem d_CS_was_62 : decode b_CS_was 62 = .ok (.ireturn, 1) := by decide +kernel
theorem d_Gu_noteLoads_0 : decode b_Gu_noteLoads 0 = .ok (.aload_n 0, 1) := by decide +kernel
theorem d_Gu_noteLoads_1 : decode b_Gu_noteLoads 1 = .ok (.getfield 24, 3) := by decide +kernel
theorem d_Gu_noteLoads_4 : decode b_Gu_noteLoads 4 = .ok (.getfield 32, 3) := by decide +kernel
theorem d_Gu_noteLoads_7 : decode b_Gu_noteLoads 7 = .ok (.getfield 74, 3) := by decide +kernel
theorem d_Gu_noteLoads_10 : decode b_Gu_noteLoads 10 = .ok (.astore_n 3, 1) := by decide +kernel
theorem d_Gu_noteLoads_11 : decode b_Gu_noteLoads 11 = .ok (.aload_n 3, 1) := by decide +kernel
theorem d_Gu_noteLoads_12 : decode b_Gu_noteLoads 12 = .ok (.iload_n 1, 1) := by decide +kernel
theorem d_Gu_noteLoads_13 : decode b_Gu_noteLoads 13 = .ok (.iaload, 1) := by decide +kernel
theorem d_Gu_noteLoads_14 : decode b_Gu_noteLoads 14 = .ok (.istore 4, 2) := by decide +kernel
theorem d_Gu_noteLoads_16 : decode b_Gu_noteLoads 16 = .ok (.iconst 1, 1) := by decide +kernel
theorem d_Gu_noteLoads_17 : decode b_Gu_noteLoads 17 = .ok (.istore 5, 2) := by decide +kernel
theorem d_Gu_noteLoads_19 : decode b_Gu_noteLoads 19 = .ok (.iload 5, 2) := by decide +kernel
theorem d_Gu_noteLoads_21 : decode b_Gu_noteLoads 21 = .ok (.bipush 9, 2) := by decide +kernel
theorem d_Gu_noteLoads_23 : decode b_Gu_noteLoads 23 = .ok (.if_icmp .gt 70, 3) := by decide +kernel
theorem d_Gu_noteLoads_26 : decode b_Gu_noteLoads 26 = .ok (.iload_n 2, 1) := by decide +kernel
theorem d_Gu_noteLoads_27 : decode b_Gu_noteLoads 27 = .ok (.iload 5, 2) := by decide +kernel
theorem d_Gu_noteLoads_29 : decode b_Gu_noteLoads 29 = .ok (.ishr, 1) := by decide +kernel
theorem d_Gu_noteLoads_30 : decode b_Gu_noteLoads 30 = .ok (.iconst 1, 1) := by decide +kernel
theorem d_Gu_noteLoads_31 : decode b_Gu_noteLoads 31 = .ok (.iand, 1) := by decide +kernel
theorem d_Gu_noteLoads_32 : decode b_Gu_noteLoads 32 = .ok (.ifCond .eq 55, 3) := by decide +kernel
theorem d_Gu_noteLoads_35 : decode b_Gu_noteLoads 35 = .ok (.aload_n 3, 1) := by decide +kernel
theorem d_Gu_noteLoads_36 : decode b_Gu_noteLoads 36 = .ok (.iload_n 1, 1) := by decide +kernel
theorem d_Gu_noteLoads_37 : decode b_Gu_noteLoads 37 = .ok (.iload 5, 2) := by decide +kernel
theorem d_Gu_noteLoads_39 : decode b_Gu_noteLoads 39 = .ok (.iastore, 1) := by decide +kernel
theorem d_Gu_noteLoads_40 : decode b_Gu_noteLoads 40 = .ok (.aload_n 0, 1) := by decide +kernel
theorem d_Gu_noteLoads_41 : decode b_Gu_noteLoads 41 = .ok (.getfield 24, 3) := by decide +kernel
theorem d_Gu_noteLoads_44 : decode b_Gu_noteLoads 44 = .ok (.iload_n 1, 1) := by decide +kernel
theorem d_Gu_noteLoads_45 : decode b_Gu_noteLoads 45 = .ok (.invokevirtual 43, 3) := by decide +kernel
theorem d_Gu_noteLoads_48 : decode b_Gu_noteLoads 48 = .ok (.astore 6, 2) := by decide +kernel
theorem d_Gu_noteLoads_50 : decode b_Gu_noteLoads 50 = .ok (.iconst 0, 1) := by decide +kernel
theorem d_Gu_noteLoads_51 : decode b_Gu_noteLoads 51 = .ok (.istore 7, 2) := by decide +kernel
theorem d_Gu_noteLoads_53 : decode b_Gu_noteLoads 53 = .ok (.iload 7, 2) := by decide +kernel
theorem d_Gu_noteLoads_55 : decode b_Gu_noteLoads 55 = .ok (.bipush 24, 2) := by decide +kernel
theorem d_Gu_noteLoads_57 : decode b_Gu_noteLoads 57 = .ok (.if_icmp .ge 30, 3) := by decide +kernel
theorem d_Gu_noteLoads_60 : decode b_Gu_noteLoads 60 = .ok (.aload_n 0, 1) := by decide +kernel
theorem d_Gu_noteLoads_61 : decode b_Gu_noteLoads 61 = .ok (.getfield 21, 3) := by decide +kernel
theorem d_Gu_noteLoads_64 : decode b_Gu_noteLoads 64 = .ok (.iload 5, 2) := by decide +kernel
theorem d_Gu_noteLoads_66 : decode b_Gu_noteLoads 66 = .ok (.bipush 24, 2) := by decide +kernel
theorem d_Gu_noteLoads_68 : decode b_Gu_noteLoads 68 = .ok (.imul, 1) := by decide +kernel
theorem d_Gu_noteLoads_69 : decode b_Gu_noteLoads 69 = .ok (.iload 7, 2) := by decide +kernel
theorem d_Gu_noteLoads_71 : decode b_Gu_noteLoads 71 = .ok (.iadd, 1) := by decide +kernel
theorem d_Gu_noteLoads_72 : decode b_Gu_noteLoads 72 = .ok (.aload 6, 2) := by decide +kernel
theorem d_Gu_noteLoads_74 : decode b_Gu_noteLoads 74 = .ok (.iload 7, 2) := by decide +kernel
theorem d_Gu_noteLoads_76 : decode b_Gu_noteLoads 76 = .ok (.iconst 0, 1) := by decide +kernel
theorem d_Gu_noteLoads_77 : decode b_Gu_noteLoads 77 = .ok (.invokevirtual 47, 3) := by decide +kernel
theorem d_Gu_noteLoads_80 : decode b_Gu_noteLoads 80 = .ok (.iastore, 1) := by decide +kernel
theorem d_Gu_noteLoads_81 : decode b_Gu_noteLoads 81 = .ok (.iinc 7 1, 3) := by decide +kernel
theorem d_Gu_noteLoads_84 : decode b_Gu_noteLoads 84 = .ok (.goto (-31), 3) := by decide +kernel
theorem d_Gu_noteLoads_87 : decode b_Gu_noteLoads 87 = .ok (.iinc 5 1, 3) := by decide +kernel
theorem d_Gu_noteLoads_90 : decode b_Gu_noteLoads 90 = .ok (.goto (-71), 3) := by decide +kernel
theorem d_Gu_noteLoads_93 : decode b_Gu_noteLoads 93 = .ok (.aload_n 3, 1) := by decide +kernel
theorem d_Gu_noteLoads_94 : decode b_Gu_noteLoads 94 = .ok (.iload_n 1, 1) := by decide +kernel
theorem d_Gu_noteLoads_95 : decode b_Gu_noteLoads 95 = .ok (.iload 4, 2) := by decide +kernel
theorem d_Gu_noteLoads_97 : decode b_Gu_noteLoads 97 = .ok (.iastore, 1) := by decide +kernel
theorem d_Gu_noteLoads_98 : decode b_Gu_noteLoads 98 = .ok (.return_, 1) := by decide +kernel
theorem d_Gu_mostAlike_0 : decode b_Gu_mostAlike 0 = .ok (.iconst 0, 1) := by decide +kernel
theorem d_Gu_mostAlike_1 : decode b_Gu_mostAlike 1 = .ok (.istore_n 3, 1) := by decide +kernel
theorem d_Gu_mostAlike_2 : decode b_Gu_mostAlike 2 = .ok (.iconst 1, 1) := by decide +kernel
theorem d_Gu_mostAlike_3 : decode b_Gu_mostAlike 3 = .ok (.istore 4, 2) := by decide +kernel
theorem d_Gu_mostAlike_5 : decode b_Gu_mostAlike 5 = .ok (.iload 4, 2) := by decide +kernel
theorem d_Gu_mostAlike_7 : decode b_Gu_mostAlike 7 = .ok (.bipush 9, 2) := by decide +kernel
theorem d_Gu_mostAlike_9 : decode b_Gu_mostAlike 9 = .ok (.if_icmp .gt 91, 3) := by decide +kernel
theorem d_Gu_mostAlike_12 : decode b_Gu_mostAlike 12 = .ok (.iconst 0, 1) := by decide +kernel
theorem d_Gu_mostAlike_13 : decode b_Gu_mostAlike 13 = .ok (.istore 5, 2) := by decide +kernel
theorem d_Gu_mostAlike_15 : decode b_Gu_mostAlike 15 = .ok (.iconst 1, 1) := by decide +kernel
theorem d_Gu_mostAlike_16 : decode b_Gu_mostAlike 16 = .ok (.istore 6, 2) := by decide +kernel
theorem d_Gu_mostAlike_18 : decode b_Gu_mostAlike 18 = .ok (.iload 6, 2) := by decide +kernel
theorem d_Gu_mostAlike_20 : decode b_Gu_mostAlike 20 = .ok (.bipush 9, 2) := by decide +kernel
theorem d_Gu_mostAlike_22 : decode b_Gu_mostAlike 22 = .ok (.if_icmp .gt 65, 3) := by decide +kernel
theorem d_Gu_mostAlike_25 : decode b_Gu_mostAlike 25 = .ok (.iload_n 2, 1) := by decide +kernel
theorem d_Gu_mostAlike_26 : decode b_Gu_mostAlike 26 = .ok (.iload 4, 2) := by decide +kernel
theorem d_Gu_mostAlike_28 : decode b_Gu_mostAlike 28 = .ok (.ishr, 1) := by decide +kernel
theorem d_Gu_mostAlike_29 : decode b_Gu_mostAlike 29 = .ok (.iload_n 2, 1) := by decide +kernel
theorem d_Gu_mostAlike_30 : decode b_Gu_mostAlike 30 = .ok (.iload 6, 2) := by decide +kernel
theorem d_Gu_mostAlike_32 : decode b_Gu_mostAlike 32 = .ok (.ishr, 1) := by decide +kernel
theorem d_Gu_mostAlike_33 : decode b_Gu_mostAlike 33 = .ok (.iand, 1) := by decide +kernel
theorem d_Gu_mostAlike_34 : decode b_Gu_mostAlike 34 = .ok (.iconst 1, 1) := by decide +kernel
theorem d_Gu_mostAlike_35 : decode b_Gu_mostAlike 35 = .ok (.iand, 1) := by decide +kernel
theorem d_Gu_mostAlike_36 : decode b_Gu_mostAlike 36 = .ok (.ifCond .eq 7, 3) := by decide +kernel
theorem d_Gu_mostAlike_39 : decode b_Gu_mostAlike 39 = .ok (.iconst 1, 1) := by decide +kernel
theorem d_Gu_mostAlike_40 : decode b_Gu_mostAlike 40 = .ok (.goto 4, 3) := by decide +kernel
theorem d_Gu_mostAlike_43 : decode b_Gu_mostAlike 43 = .ok (.iconst 0, 1) := by decide +kernel
theorem d_Gu_mostAlike_44 : decode b_Gu_mostAlike 44 = .ok (.istore 7, 2) := by decide +kernel
theorem d_Gu_mostAlike_46 : decode b_Gu_mostAlike 46 = .ok (.iload 7, 2) := by decide +kernel
theorem d_Gu_mostAlike_48 : decode b_Gu_mostAlike 48 = .ok (.ifCond .eq 33, 3) := by decide +kernel
theorem d_Gu_mostAlike_51 : decode b_Gu_mostAlike 51 = .ok (.aload_n 0, 1) := by decide +kernel
theorem d_Gu_mostAlike_52 : decode b_Gu_mostAlike 52 = .ok (.getfield 21, 3) := by decide +kernel
theorem d_Gu_mostAlike_55 : decode b_Gu_mostAlike 55 = .ok (.iload 4, 2) := by decide +kernel
theorem d_Gu_mostAlike_57 : decode b_Gu_mostAlike 57 = .ok (.bipush 24, 2) := by decide +kernel
theorem d_Gu_mostAlike_59 : decode b_Gu_mostAlike 59 = .ok (.imul, 1) := by decide +kernel
theorem d_Gu_mostAlike_60 : decode b_Gu_mostAlike 60 = .ok (.iload_n 1, 1) := by decide +kernel
theorem d_Gu_mostAlike_61 : decode b_Gu_mostAlike 61 = .ok (.iadd, 1) := by decide +kernel
theorem d_Gu_mostAlike_62 : decode b_Gu_mostAlike 62 = .ok (.iaload, 1) := by decide +kernel
theorem d_Gu_mostAlike_63 : decode b_Gu_mostAlike 63 = .ok (.aload_n 0, 1) := by decide +kernel
theorem d_Gu_mostAlike_64 : decode b_Gu_mostAlike 64 = .ok (.getfield 21, 3) := by decide +kernel
theorem d_Gu_mostAlike_67 : decode b_Gu_mostAlike 67 = .ok (.iload 6, 2) := by decide +kernel
theorem d_Gu_mostAlike_69 : decode b_Gu_mostAlike 69 = .ok (.bipush 24, 2) := by decide +kernel
theorem d_Gu_mostAlike_71 : decode b_Gu_mostAlike 71 = .ok (.imul, 1) := by decide +kernel
theorem d_Gu_mostAlike_72 : decode b_Gu_mostAlike 72 = .ok (.iload_n 1, 1) := by decide +kernel
theorem d_Gu_mostAlike_73 : decode b_Gu_mostAlike 73 = .ok (.iadd, 1) := by decide +kernel
theorem d_Gu_mostAlike_74 : decode b_Gu_mostAlike 74 = .ok (.iaload, 1) := by decide +kernel
theorem d_Gu_mostAlike_75 : decode b_Gu_mostAlike 75 = .ok (.if_icmp .ne 6, 3) := by decide +kernel
theorem d_Gu_mostAlike_78 : decode b_Gu_mostAlike 78 = .ok (.iinc 5 1, 3) := by decide +kernel
theorem d_Gu_mostAlike_81 : decode b_Gu_mostAlike 81 = .ok (.iinc 6 1, 3) := by decide +kernel
theorem d_Gu_mostAlike_84 : decode b_Gu_mostAlike 84 = .ok (.goto (-66), 3) := by decide +kernel
theorem d_Gu_mostAlike_87 : decode b_Gu_mostAlike 87 = .ok (.iload_n 3, 1) := by decide +kernel
theorem d_Gu_mostAlike_88 : decode b_Gu_mostAlike 88 = .ok (.iload 5, 2) := by decide +kernel
theorem d_Gu_mostAlike_90 : decode b_Gu_mostAlike 90 = .ok (.invokestatic 77, 3) := by decide +kernel
theorem d_Gu_mostAlike_93 : decode b_Gu_mostAlike 93 = .ok (.istore_n 3, 1) := by decide +kernel
theorem d_Gu_mostAlike_94 : decode b_Gu_mostAlike 94 = .ok (.iinc 4 1, 3) := by decide +kernel
theorem d_Gu_mostAlike_97 : decode b_Gu_mostAlike 97 = .ok (.goto (-92), 3) := by decide +kernel
theorem d_Gu_mostAlike_100 : decode b_Gu_mostAlike 100 = .ok (.iload_n 3, 1) := by decide +kernel
theorem d_Gu_mostAlike_101 : decode b_Gu_mostAlike 101 = .ok (.ireturn, 1) := by decide +kernel
theorem d_Gu_dayToLook_0 : decode b_Gu_dayToLook 0 = .ok (.aload_n 0, 1) := by decide +kernel
theorem d_Gu_dayToLook_1 : decode b_Gu_dayToLook 1 = .ok (.iload_n 1, 1) := by decide +kernel
theorem d_Gu_dayToLook_2 : decode b_Gu_dayToLook 2 = .ok (.iload_n 2, 1) := by decide +kernel
theorem d_Gu_dayToLook_3 : decode b_Gu_dayToLook 3 = .ok (.invokevirtual 67, 3) := by decide +kernel
theorem d_Gu_dayToLook_6 : decode b_Gu_dayToLook 6 = .ok (.iconst 0, 1) := by decide +kernel
theorem d_Gu_dayToLook_7 : decode b_Gu_dayToLook 7 = .ok (.istore_n 3, 1) := by decide +kernel
theorem d_Gu_dayToLook_8 : decode b_Gu_dayToLook 8 = .ok (.iconst 1, 1) := by decide +kernel
theorem d_Gu_dayToLook_9 : decode b_Gu_dayToLook 9 = .ok (.istore 4, 2) := by decide +kernel
theorem d_Gu_dayToLook_11 : decode b_Gu_dayToLook 11 = .ok (.iload 4, 2) := by decide +kernel
theorem d_Gu_dayToLook_13 : decode b_Gu_dayToLook 13 = .ok (.bipush 24, 2) := by decide +kernel
theorem d_Gu_dayToLook_15 : decode b_Gu_dayToLook 15 = .ok (.if_icmp .ge 28, 3) := by decide +kernel
theorem d_Gu_dayToLook_18 : decode b_Gu_dayToLook 18 = .ok (.aload_n 0, 1) := by decide +kernel
theorem d_Gu_dayToLook_19 : decode b_Gu_dayToLook 19 = .ok (.iload 4, 2) := by decide +kernel
theorem d_Gu_dayToLook_21 : decode b_Gu_dayToLook 21 = .ok (.iload_n 2, 1) := by decide +kernel
theorem d_Gu_dayToLook_22 : decode b_Gu_dayToLook 22 = .ok (.invokevirtual 71, 3) := by decide +kernel
theorem d_Gu_dayToLook_25 : decode b_Gu_dayToLook 25 = .ok (.aload_n 0, 1) := by decide +kernel
theorem d_Gu_dayToLook_26 : decode b_Gu_dayToLook 26 = .ok (.iload_n 3, 1) := by decide +kernel
theorem d_Gu_dayToLook_27 : decode b_Gu_dayToLook 27 = .ok (.iload_n 2, 1) := by decide +kernel
theorem d_Gu_dayToLook_28 : decode b_Gu_dayToLook 28 = .ok (.invokevirtual 71, 3) := by decide +kernel
theorem d_Gu_dayToLook_31 : decode b_Gu_dayToLook 31 = .ok (.if_icmp .ge 6, 3) := by decide +kernel
theorem d_Gu_dayToLook_34 : decode b_Gu_dayToLook 34 = .ok (.iload 4, 2) := by decide +kernel
theorem d_Gu_dayToLook_36 : decode b_Gu_dayToLook 36 = .ok (.istore_n 3, 1) := by decide +kernel
theorem d_Gu_dayToLook_37 : decode b_Gu_dayToLook 37 = .ok (.iinc 4 1, 3) := by decide +kernel
theorem d_Gu_dayToLook_40 : decode b_Gu_dayToLook 40 = .ok (.goto (-29), 3) := by decide +kernel
theorem d_Gu_dayToLook_43 : decode b_Gu_dayToLook 43 = .ok (.iload_n 3, 1) := by decide +kernel
theorem d_Gu_dayToLook_44 : decode b_Gu_dayToLook 44 = .ok (.ireturn, 1) := by decide +kernel
theorem d_CS_ask_0 : decode b_CS_ask 0 = .ok (.aload_n 0, 1) := by decide +kernel
theorem d_CS_ask_1 : decode b_CS_ask 1 = .ok (.iload_n 1, 1) := by decide +kernel
theorem d_CS_ask_2 : decode b_CS_ask 2 = .ok (.invokevirtual 96, 3) := by decide +kernel
theorem d_CS_ask_5 : decode b_CS_ask 5 = .ok (.ifCond .ne 6, 3) := by decide +kernel
theorem d_CS_ask_8 : decode b_CS_ask 8 = .ok (.bipush (-2), 2) := by decide +kernel
theorem d_CS_ask_10 : decode b_CS_ask 10 = .ok (.ireturn, 1) := by decide +kernel
theorem d_CS_ask_11 : decode b_CS_ask 11 = .ok (.aload_n 0, 1) := by decide +kernel
theorem d_CS_ask_12 : decode b_CS_ask 12 = .ok (.getfield 60, 3) := by decide +kernel
theorem d_CS_ask_15 : decode b_CS_ask 15 = .ok (.aload_n 0, 1) := by decide +kernel
theorem d_CS_ask_16 : decode b_CS_ask 16 = .ok (.getfield 10, 3) := by decide +kernel
theorem d_CS_ask_19 : decode b_CS_ask 19 = .ok (.getfield 103, 3) := by decide +kernel
theorem d_CS_ask_22 : decode b_CS_ask 22 = .ok (.iload_n 1, 1) := by decide +kernel
theorem d_CS_ask_23 : decode b_CS_ask 23 = .ok (.iconst 1, 1) := by decide +kernel
theorem d_CS_ask_24 : decode b_CS_ask 24 = .ok (.bipush 9, 2) := by decide +kernel
theorem d_CS_ask_26 : decode b_CS_ask 26 = .ok (.invokevirtual 209, 3) := by decide +kernel
theorem d_CS_ask_29 : decode b_CS_ask 29 = .ok (.istore_n 2, 1) := by decide +kernel
theorem d_CS_ask_30 : decode b_CS_ask 30 = .ok (.aload_n 0, 1) := by decide +kernel
theorem d_CS_ask_31 : decode b_CS_ask 31 = .ok (.getfield 60, 3) := by decide +kernel
theorem d_CS_ask_34 : decode b_CS_ask 34 = .ok (.iload_n 1, 1) := by decide +kernel
theorem d_CS_ask_35 : decode b_CS_ask 35 = .ok (.iload_n 2, 1) := by decide +kernel
theorem d_CS_ask_36 : decode b_CS_ask 36 = .ok (.invokevirtual 213, 3) := by decide +kernel
theorem d_CS_ask_39 : decode b_CS_ask 39 = .ok (.ireturn, 1) := by decide +kernel
theorem d_St_onCamel_0 : decode b_St_onCamel 0 = .ok (.iconst 0, 1) := by decide +kernel
theorem d_St_onCamel_1 : decode b_St_onCamel 1 = .ok (.istore_n 2, 1) := by decide +kernel
theorem d_St_onCamel_2 : decode b_St_onCamel 2 = .ok (.iconst 0, 1) := by decide +kernel
theorem d_St_onCamel_3 : decode b_St_onCamel 3 = .ok (.istore_n 3, 1) := by decide +kernel
theorem d_St_onCamel_4 : decode b_St_onCamel 4 = .ok (.iload_n 3, 1) := by decide +kernel
theorem d_St_onCamel_5 : decode b_St_onCamel 5 = .ok (.aload_n 0, 1) := by decide +kernel
theorem d_St_onCamel_6 : decode b_St_onCamel 6 = .ok (.getfield 18, 3) := by decide +kernel
theorem d_St_onCamel_9 : decode b_St_onCamel 9 = .ok (.if_icmp .ge 25, 3) := by decide +kernel
theorem d_St_onCamel_12 : decode b_St_onCamel 12 = .ok (.aload_n 0, 1) := by decide +kernel
theorem d_St_onCamel_13 : decode b_St_onCamel 13 = .ok (.getfield 15, 3) := by decide +kernel
theorem d_St_onCamel_16 : decode b_St_onCamel 16 = .ok (.iload_n 3, 1) := by decide +kernel
theorem d_St_onCamel_17 : decode b_St_onCamel 17 = .ok (.iaload, 1) := by decide +kernel
theorem d_St_onCamel_18 : decode b_St_onCamel 18 = .ok (.iload_n 1, 1) := by decide +kernel
theorem d_St_onCamel_19 : decode b_St_onCamel 19 = .ok (.if_icmp .ne 9, 3) := by decide +kernel
theorem d_St_onCamel_22 : decode b_St_onCamel 22 = .ok (.iload_n 2, 1) := by decide +kernel
theorem d_St_onCamel_23 : decode b_St_onCamel 23 = .ok (.iconst 1, 1) := by decide +kernel
theorem d_St_onCamel_24 : decode b_St_onCamel 24 = .ok (.iload_n 3, 1) := by decide +kernel
theorem d_St_onCamel_25 : decode b_St_onCamel 25 = .ok (.ishl, 1) := by decide +kernel
theorem d_St_onCamel_26 : decode b_St_onCamel 26 = .ok (.ior, 1) := by decide +kernel
theorem d_St_onCamel_27 : decode b_St_onCamel 27 = .ok (.istore_n 2, 1) := by decide +kernel
theorem d_St_onCamel_28 : decode b_St_onCamel 28 = .ok (.iinc 3 1, 3) := by decide +kernel
theorem d_St_onCamel_31 : decode b_St_onCamel 31 = .ok (.goto (-27), 3) := by decide +kernel
theorem d_St_onCamel_34 : decode b_St_onCamel 34 = .ok (.iload_n 2, 1) := by decide +kernel
theorem d_St_onCamel_35 : decode b_St_onCamel 35 = .ok (.ireturn, 1) := by decide +kernel
theorem d_Od_breaksWithout_0 : decode b_Od_breaksWithout 0 = .ok (.aload_n 0, 1) := by decide +kernel
theorem d_Od_breaksWithout_1 : decode b_Od_breaksWithout 1 = .ok (.getfield 9, 3) := by decide +kernel
theorem d_Od_breaksWithout_4 : decode b_Od_breaksWithout 4 = .ok (.iload_n 1, 1) := by decide +kernel
theorem d_Od_breaksWithout_5 : decode b_Od_breaksWithout 5 = .ok (.putfield 50, 3) := by decide +kernel
theorem d_Od_breaksWithout_8 : decode b_Od_breaksWithout 8 = .ok (.aload_n 0, 1) := by decide +kernel
theorem d_Od_breaksWithout_9 : decode b_Od_breaksWithout 9 = .ok (.getfield 9, 3) := by decide +kernel
theorem d_Od_breaksWithout_12 : decode b_Od_breaksWithout 12 = .ok (.iload_n 2, 1) := by decide +kernel
theorem d_Od_breaksWithout_13 : decode b_Od_breaksWithout 13 = .ok (.invokevirtual 54, 3) := by decide +kernel
theorem d_Od_breaksWithout_16 : decode b_Od_breaksWithout 16 = .ok (.getfield 58, 3) := by decide +kernel
theorem d_Od_breaksWithout_19 : decode b_Od_breaksWithout 19 = .ok (.ifCond .le 7, 3) := by decide +kernel
theorem d_Od_breaksWithout_22 : decode b_Od_breaksWithout 22 = .ok (.iconst 1, 1) := by decide +kernel
theorem d_Od_breaksWithout_23 : decode b_Od_breaksWithout 23 = .ok (.goto 4, 3) := by decide +kernel
theorem d_Od_breaksWithout_26 : decode b_Od_breaksWithout 26 = .ok (.iconst 0, 1) := by decide +kernel
theorem d_Od_breaksWithout_27 : decode b_Od_breaksWithout 27 = .ok (.istore_n 3, 1) := by decide +kernel
theorem d_Od_breaksWithout_28 : decode b_Od_breaksWithout 28 = .ok (.aload_n 0, 1) := by decide +kernel
theorem d_Od_breaksWithout_29 : decode b_Od_breaksWithout 29 = .ok (.getfield 9, 3) := by decide +kernel
theorem d_Od_breaksWithout_32 : decode b_Od_breaksWithout 32 = .ok (.iconst 0, 1) := by decide +kernel
theorem d_Od_breaksWithout_33 : decode b_Od_breaksWithout 33 = .ok (.putfield 50, 3) := by decide +kernel
theorem d_Od_breaksWithout_36 : decode b_Od_breaksWithout 36 = .ok (.iload_n 3, 1) := by decide +kernel
theorem d_Od_breaksWithout_37 : decode b_Od_breaksWithout 37 = .ok (.ireturn, 1) := by decide +kernel
theorem d_Od_power_0 : decode b_Od_power 0 = .ok (.lconst 1, 1) := by decide +kernel
theorem d_Od_power_1 : decode b_Od_power 1 = .ok (.lstore_n 2, 1) := by decide +kernel
theorem d_Od_power_2 : decode b_Od_power 2 = .ok (.iconst 0, 1) := by decide +kernel
theorem d_Od_power_3 : decode b_Od_power 3 = .ok (.istore 4, 2) := by decide +kernel
theorem d_Od_power_5 : decode b_Od_power 5 = .ok (.iload 4, 2) := by decide +kernel
theorem d_Od_power_7 : decode b_Od_power 7 = .ok (.iload_n 1, 1) := by decide +kernel
theorem d_Od_power_8 : decode b_Od_power 8 = .ok (.if_icmp .ge 14, 3) := by decide +kernel
theorem d_Od_power_11 : decode b_Od_power 11 = .ok (.lload_n 2, 1) := by decide +kernel
theorem d_Od_power_12 : decode b_Od_power 12 = .ok (.iload_n 0, 1) := by decide +kernel
theorem d_Od_power_13 : decode b_Od_power 13 = .ok (.i2l, 1) := by decide +kernel
theorem d_Od_power_14 : decode b_Od_power 14 = .ok (.lmul, 1) := by decide +kernel
theorem d_Od_power_15 : decode b_Od_power 15 = .ok (.lstore_n 2, 1) := by decide +kernel
theorem d_Od_power_16 : decode b_Od_power 16 = .ok (.iinc 4 1, 3) := by decide +kernel
theorem d_Od_power_19 : decode b_Od_power 19 = .ok (.goto (-14), 3) := by decide +kernel
theorem d_Od_power_22 : decode b_Od_power 22 = .ok (.lload_n 2, 1) := by decide +kernel
theorem d_Od_power_23 : decode b_Od_power 23 = .ok (.lreturn, 1) := by decide +kernel
theorem d_Od_reduce_0 : decode b_Od_reduce 0 = .ok (.iconst 0, 1) := by decide +kernel
theorem d_Od_reduce_1 : decode b_Od_reduce 1 = .ok (.istore_n 1, 1) := by decide +kernel
theorem d_Od_reduce_2 : decode b_Od_reduce 2 = .ok (.iload_n 1, 1) := by decide +kernel
theorem d_Od_reduce_3 : decode b_Od_reduce 3 = .ok (.bipush 64, 2) := by decide +kernel
theorem d_Od_reduce_5 : decode b_Od_reduce 5 = .ok (.if_icmp .ge 55, 3) := by decide +kernel
theorem d_Od_reduce_8 : decode b_Od_reduce 8 = .ok (.aload_n 0, 1) := by decide +kernel
theorem d_Od_reduce_9 : decode b_Od_reduce 9 = .ok (.getfield 44, 3) := by decide +kernel
theorem d_Od_reduce_12 : decode b_Od_reduce 12 = .ok (.lconst 1, 1) := by decide +kernel
theorem d_Od_reduce_13 : decode b_Od_reduce 13 = .ok (.lcmp, 1) := by decide +kernel
theorem d_Od_reduce_14 : decode b_Od_reduce 14 = .ok (.ifCond .le 46, 3) := by decide +kernel
theorem d_Od_reduce_17 : decode b_Od_reduce 17 = .ok (.aload_n 0, 1) := by decide +kernel
theorem d_Od_reduce_18 : decode b_Od_reduce 18 = .ok (.getfield 27, 3) := by decide +kernel
theorem d_Od_reduce_21 : decode b_Od_reduce 21 = .ok (.ldc2_w 63, 3) := by decide +kernel
theorem d_Od_reduce_24 : decode b_Od_reduce 24 = .ok (.lrem, 1) := by decide +kernel
theorem d_Od_reduce_25 : decode b_Od_reduce 25 = .ok (.lconst 0, 1) := by decide +kernel
theorem d_Od_reduce_26 : decode b_Od_reduce 26 = .ok (.lcmp, 1) := by decide +kernel
theorem d_Od_reduce_27 : decode b_Od_reduce 27 = .ok (.ifCond .ne 33, 3) := by decide +kernel
theorem d_Od_reduce_30 : decode b_Od_reduce 30 = .ok (.aload_n 0, 1) := by decide +kernel
theorem d_Od_reduce_31 : decode b_Od_reduce 31 = .ok (.dup, 1) := by decide +kernel
theorem d_Od_reduce_32 : decode b_Od_reduce 32 = .ok (.getfield 27, 3) := by decide +kernel
theorem d_Od_reduce_35 : decode b_Od_reduce 35 = .ok (.ldc2_w 63, 3) := by decide +kernel
theorem d_Od_reduce_38 : decode b_Od_reduce 38 = .ok (.ldiv, 1) := by decide +kernel
theorem d_Od_reduce_39 : decode b_Od_reduce 39 = .ok (.putfield 27, 3) := by decide +kernel
theorem d_Od_reduce_42 : decode b_Od_reduce 42 = .ok (.aload_n 0, 1) := by decide +kernel
theorem d_Od_reduce_43 : decode b_Od_reduce 43 = .ok (.dup, 1) := by decide +kernel
theorem d_Od_reduce_44 : decode b_Od_reduce 44 = .ok (.getfield 44, 3) := by decide +kernel
theorem d_Od_reduce_47 : decode b_Od_reduce 47 = .ok (.ldc2_w 63, 3) := by decide +kernel
theorem d_Od_reduce_50 : decode b_Od_reduce 50 = .ok (.ldiv, 1) := by decide +kernel
theorem d_Od_reduce_51 : decode b_Od_reduce 51 = .ok (.putfield 44, 3) := by decide +kernel
theorem d_Od_reduce_54 : decode b_Od_reduce 54 = .ok (.iinc 1 1, 3) := by decide +kernel
theorem d_Od_reduce_57 : decode b_Od_reduce 57 = .ok (.goto (-55), 3) := by decide +kernel
theorem d_Od_reduce_60 : decode b_Od_reduce 60 = .ok (.return_, 1) := by decide +kernel
theorem d_Od_ofBreaking_0 : decode b_Od_ofBreaking 0 = .ok (.aload_n 0, 1) := by decide +kernel
theorem d_Od_ofBreaking_1 : decode b_Od_ofBreaking 1 = .ok (.getfield 9, 3) := by decide +kernel
theorem d_Od_ofBreaking_4 : decode b_Od_ofBreaking 4 = .ok (.getfield 15, 3) := by decide +kernel
theorem d_Od_ofBreaking_7 : decode b_Od_ofBreaking 7 = .ok (.iload_n 2, 1) := by decide +kernel
theorem d_Od_ofBreaking_8 : decode b_Od_ofBreaking 8 = .ok (.invokevirtual 21, 3) := by decide +kernel
theorem d_Od_ofBreaking_11 : decode b_Od_ofBreaking 11 = .ok (.istore_n 3, 1) := by decide +kernel
theorem d_Od_ofBreaking_12 : decode b_Od_ofBreaking 12 = .ok (.aload_n 0, 1) := by decide +kernel
theorem d_Od_ofBreaking_13 : decode b_Od_ofBreaking 13 = .ok (.lconst 0, 1) := by decide +kernel
theorem d_Od_ofBreaking_14 : decode b_Od_ofBreaking 14 = .ok (.putfield 27, 3) := by decide +kernel
theorem d_Od_ofBreaking_17 : decode b_Od_ofBreaking 17 = .ok (.iconst 0, 1) := by decide +kernel
theorem d_Od_ofBreaking_18 : decode b_Od_ofBreaking 18 = .ok (.istore 4, 2) := by decide +kernel
theorem d_Od_ofBreaking_20 : decode b_Od_ofBreaking 20 = .ok (.iload 4, 2) := by decide +kernel
theorem d_Od_ofBreaking_22 : decode b_Od_ofBreaking 22 = .ok (.sipush 256, 3) := by decide +kernel
theorem d_Od_ofBreaking_25 : decode b_Od_ofBreaking 25 = .ok (.if_icmp .ge 79, 3) := by decide +kernel
theorem d_Od_ofBreaking_28 : decode b_Od_ofBreaking 28 = .ok (.iload 4, 2) := by decide +kernel
theorem d_Od_ofBreaking_30 : decode b_Od_ofBreaking 30 = .ok (.iload_n 3, 1) := by decide +kernel
theorem d_Od_ofBreaking_31 : decode b_Od_ofBreaking 31 = .ok (.iconst (-1), 1) := by decide +kernel
theorem d_Od_ofBreaking_32 : decode b_Od_ofBreaking 32 = .ok (.ixor, 1) := by decide +kernel
theorem d_Od_ofBreaking_33 : decode b_Od_ofBreaking 33 = .ok (.iand, 1) := by decide +kernel
theorem d_Od_ofBreaking_34 : decode b_Od_ofBreaking 34 = .ok (.ifCond .ne 7, 3) := by decide +kernel
theorem d_Od_ofBreaking_37 : decode b_Od_ofBreaking 37 = .ok (.iconst 1, 1) := by decide +kernel
theorem d_Od_ofBreaking_38 : decode b_Od_ofBreaking 38 = .ok (.goto 4, 3) := by decide +kernel
theorem d_Od_ofBreaking_41 : decode b_Od_ofBreaking 41 = .ok (.iconst 0, 1) := by decide +kernel
theorem d_Od_ofBreaking_42 : decode b_Od_ofBreaking 42 = .ok (.istore 5, 2) := by decide +kernel
theorem d_Od_ofBreaking_44 : decode b_Od_ofBreaking 44 = .ok (.iload 5, 2) := by decide +kernel
theorem d_Od_ofBreaking_46 : decode b_Od_ofBreaking 46 = .ok (.ifCond .eq 52, 3) := by decide +kernel
theorem d_Od_ofBreaking_49 : decode b_Od_ofBreaking 49 = .ok (.aload_n 0, 1) := by decide +kernel
theorem d_Od_ofBreaking_50 : decode b_Od_ofBreaking 50 = .ok (.iload_n 3, 1) := by decide +kernel
theorem d_Od_ofBreaking_51 : decode b_Od_ofBreaking 51 = .ok (.iload 4, 2) := by decide +kernel
theorem d_Od_ofBreaking_53 : decode b_Od_ofBreaking 53 = .ok (.iconst (-1), 1) := by decide +kernel
theorem d_Od_ofBreaking_54 : decode b_Od_ofBreaking 54 = .ok (.ixor, 1) := by decide +kernel
theorem d_Od_ofBreaking_55 : decode b_Od_ofBreaking 55 = .ok (.iand, 1) := by decide +kernel
theorem d_Od_ofBreaking_56 : decode b_Od_ofBreaking 56 = .ok (.iload_n 2, 1) := by decide +kernel
theorem d_Od_ofBreaking_57 : decode b_Od_ofBreaking 57 = .ok (.invokevirtual 31, 3) := by decide +kernel
theorem d_Od_ofBreaking_60 : decode b_Od_ofBreaking 60 = .ok (.ifCond .eq 38, 3) := by decide +kernel
theorem d_Od_ofBreaking_63 : decode b_Od_ofBreaking 63 = .ok (.aload_n 0, 1) := by decide +kernel
theorem d_Od_ofBreaking_64 : decode b_Od_ofBreaking 64 = .ok (.dup, 1) := by decide +kernel
theorem d_Od_ofBreaking_65 : decode b_Od_ofBreaking 65 = .ok (.getfield 27, 3) := by decide +kernel
theorem d_Od_ofBreaking_68 : decode b_Od_ofBreaking 68 = .ok (.iload_n 1, 1) := by decide +kernel
theorem d_Od_ofBreaking_69 : decode b_Od_ofBreaking 69 = .ok (.iload 4, 2) := by decide +kernel
theorem d_Od_ofBreaking_71 : decode b_Od_ofBreaking 71 = .ok (.invokestatic 35, 3) := by decide +kernel
theorem d_Od_ofBreaking_74 : decode b_Od_ofBreaking 74 = .ok (.invokestatic 40, 3) := by decide +kernel
theorem d_Od_ofBreaking_77 : decode b_Od_ofBreaking 77 = .ok (.bipush 16, 2) := by decide +kernel
theorem d_Od_ofBreaking_79 : decode b_Od_ofBreaking 79 = .ok (.iload_n 1, 1) := by decide +kernel
theorem d_Od_ofBreaking_80 : decode b_Od_ofBreaking 80 = .ok (.isub, 1) := by decide +kernel
theorem d_Od_ofBreaking_81 : decode b_Od_ofBreaking 81 = .ok (.iload_n 3, 1) := by decide +kernel
theorem d_Od_ofBreaking_82 : decode b_Od_ofBreaking 82 = .ok (.iload 4, 2) := by decide +kernel
theorem d_Od_ofBreaking_84 : decode b_Od_ofBreaking 84 = .ok (.iconst (-1), 1) := by decide +kernel
theorem d_Od_ofBreaking_85 : decode b_Od_ofBreaking 85 = .ok (.ixor, 1) := by decide +kernel
theorem d_Od_ofBreaking_86 : decode b_Od_ofBreaking 86 = .ok (.iand, 1) := by decide +kernel
theorem d_Od_ofBreaking_87 : decode b_Od_ofBreaking 87 = .ok (.invokestatic 35, 3) := by decide +kernel
theorem d_Od_ofBreaking_90 : decode b_Od_ofBreaking 90 = .ok (.invokestatic 40, 3) := by decide +kernel
theorem d_Od_ofBreaking_93 : decode b_Od_ofBreaking 93 = .ok (.lmul, 1) := by decide +kernel
theorem d_Od_ofBreaking_94 : decode b_Od_ofBreaking 94 = .ok (.ladd, 1) := by decide +kernel
theorem d_Od_ofBreaking_95 : decode b_Od_ofBreaking 95 = .ok (.putfield 27, 3) := by decide +kernel
theorem d_Od_ofBreaking_98 : decode b_Od_ofBreaking 98 = .ok (.iinc 4 1, 3) := by decide +kernel
theorem d_Od_ofBreaking_101 : decode b_Od_ofBreaking 101 = .ok (.goto (-81), 3) := by decide +kernel
theorem d_Od_ofBreaking_104 : decode b_Od_ofBreaking 104 = .ok (.aload_n 0, 1) := by decide +kernel
theorem d_Od_ofBreaking_105 : decode b_Od_ofBreaking 105 = .ok (.bipush 16, 2) := by decide +kernel
theorem d_Od_ofBreaking_107 : decode b_Od_ofBreaking 107 = .ok (.iload_n 3, 1) := by decide +kernel
theorem d_Od_ofBreaking_108 : decode b_Od_ofBreaking 108 = .ok (.invokestatic 35, 3) := by decide +kernel
theorem d_Od_ofBreaking_111 : decode b_Od_ofBreaking 111 = .ok (.invokestatic 40, 3) := by decide +kernel
theorem d_Od_ofBreaking_114 : decode b_Od_ofBreaking 114 = .ok (.putfield 44, 3) := by decide +kernel
theorem d_Od_ofBreaking_117 : decode b_Od_ofBreaking 117 = .ok (.aload_n 0, 1) := by decide +kernel
theorem d_Od_ofBreaking_118 : decode b_Od_ofBreaking 118 = .ok (.invokevirtual 47, 3) := by decide +kernel
theorem d_Od_ofBreaking_121 : decode b_Od_ofBreaking 121 = .ok (.return_, 1) := by decide +kernel
theorem d_CS_chance_0 : decode b_CS_chance 0 = .ok (.iload_n 1, 1) := by decide +kernel
theorem d_CS_chance_1 : decode b_CS_chance 1 = .ok (.ifCond .lt 26, 3) := by decide +kernel
theorem d_CS_chance_4 : decode b_CS_chance 4 = .ok (.iload_n 1, 1) := by decide +kernel
theorem d_CS_chance_5 : decode b_CS_chance 5 = .ok (.bipush 16, 2) := by decide +kernel
theorem d_CS_chance_7 : decode b_CS_chance 7 = .ok (.if_icmp .gt 20, 3) := by decide +kernel
theorem d_CS_chance_10 : decode b_CS_chance 10 = .ok (.aload_n 0, 1) := by decide +kernel
theorem d_CS_chance_11 : decode b_CS_chance 11 = .ok (.iload_n 2, 1) := by decide +kernel
theorem d_CS_chance_12 : decode b_CS_chance 12 = .ok (.invokevirtual 96, 3) := by decide +kernel
theorem d_CS_chance_15 : decode b_CS_chance 15 = .ok (.ifCond .eq 12, 3) := by decide +kernel
theorem d_CS_chance_18 : decode b_CS_chance 18 = .ok (.iload_n 3, 1) := by decide +kernel
theorem d_CS_chance_19 : decode b_CS_chance 19 = .ok (.ifCond .lt 8, 3) := by decide +kernel
theorem d_CS_chance_22 : decode b_CS_chance 22 = .ok (.iload_n 3, 1) := by decide +kernel
theorem d_CS_chance_23 : decode b_CS_chance 23 = .ok (.iconst 1, 1) := by decide +kernel
theorem d_CS_chance_24 : decode b_CS_chance 24 = .ok (.if_icmp .le 7, 3) := by decide +kernel
theorem d_CS_chance_27 : decode b_CS_chance 27 = .ok (.ldc2_w 216, 3) := by decide +kernel
theorem d_CS_chance_30 : decode b_CS_chance 30 = .ok (.lreturn, 1) := by decide +kernel
theorem d_CS_chance_31 : decode b_CS_chance 31 = .ok (.aload_n 0, 1) := by decide +kernel
theorem d_CS_chance_32 : decode b_CS_chance 32 = .ok (.getfield 67, 3) := by decide +kernel
theorem d_CS_chance_35 : decode b_CS_chance 35 = .ok (.iload_n 1, 1) := by decide +kernel
theorem d_CS_chance_36 : decode b_CS_chance 36 = .ok (.iload_n 2, 1) := by decide +kernel
theorem d_CS_chance_37 : decode b_CS_chance 37 = .ok (.invokevirtual 218, 3) := by decide +kernel
theorem d_CS_chance_40 : decode b_CS_chance 40 = .ok (.iload_n 3, 1) := by decide +kernel
theorem d_CS_chance_41 : decode b_CS_chance 41 = .ok (.ifCond .ne 13, 3) := by decide +kernel
theorem d_CS_chance_44 : decode b_CS_chance 44 = .ok (.aload_n 0, 1) := by decide +kernel
theorem d_CS_chance_45 : decode b_CS_chance 45 = .ok (.getfield 67, 3) := by decide +kernel
theorem d_CS_chance_48 : decode b_CS_chance 48 = .ok (.getfield 222, 3) := by decide +kernel
theorem d_CS_chance_51 : decode b_CS_chance 51 = .ok (.goto 10, 3) := by decide +kernel
theorem d_CS_chance_54 : decode b_CS_chance 54 = .ok (.aload_n 0, 1) := by decide +kernel
theorem d_CS_chance_55 : decode b_CS_chance 55 = .ok (.getfield 67, 3) := by decide +kernel
theorem d_CS_chance_58 : decode b_CS_chance 58 = .ok (.getfield 226, 3) := by decide +kernel
theorem d_CS_chance_61 : decode b_CS_chance 61 = .ok (.lreturn, 1) := by decide +kernel
theorem d_St_nextSeed_0 : decode b_St_nextSeed 0 = .ok (.ldc 30, 2) := by decide +kernel
theorem d_St_nextSeed_2 : decode b_St_nextSeed 2 = .ok (.iload_n 0, 1) := by decide +kernel
theorem d_St_nextSeed_3 : decode b_St_nextSeed 3 = .ok (.imul, 1) := by decide +kernel
theorem d_St_nextSeed_4 : decode b_St_nextSeed 4 = .ok (.sipush 12345, 3) := by decide +kernel
theorem d_St_nextSeed_7 : decode b_St_nextSeed 7 = .ok (.iadd, 1) := by decide +kernel
theorem d_St_nextSeed_8 : decode b_St_nextSeed 8 = .ok (.ireturn, 1) := by decide +kernel
theorem d_St_draw_0 : decode b_St_draw 0 = .ok (.aload_n 0, 1) := by decide +kernel
theorem d_St_draw_1 : decode b_St_draw 1 = .ok (.iconst 0, 1) := by decide +kernel
theorem d_St_draw_2 : decode b_St_draw 2 = .ok (.putfield 18, 3) := by decide +kernel
theorem d_St_draw_5 : decode b_St_draw 5 = .ok (.iload_n 3, 1) := by decide +kernel
theorem d_St_draw_6 : decode b_St_draw 6 = .ok (.ifCond .gt 4, 3) := by decide +kernel
theorem d_St_draw_9 : decode b_St_draw 9 = .ok (.return_, 1) := by decide +kernel
theorem d_St_draw_10 : decode b_St_draw 10 = .ok (.iload_n 1, 1) := by decide +kernel
theorem d_St_draw_11 : decode b_St_draw 11 = .ok (.istore 4, 2) := by decide +kernel
theorem d_St_draw_13 : decode b_St_draw 13 = .ok (.iconst 0, 1) := by decide +kernel
theorem d_St_draw_14 : decode b_St_draw 14 = .ok (.istore 5, 2) := by decide +kernel
theorem d_St_draw_16 : decode b_St_draw 16 = .ok (.iload 5, 2) := by decide +kernel
theorem d_St_draw_18 : decode b_St_draw 18 = .ok (.iload_n 2, 1) := by decide +kernel
theorem d_St_draw_19 : decode b_St_draw 19 = .ok (.if_icmp .ge 47, 3) := by decide +kernel
theorem d_St_draw_22 : decode b_St_draw 22 = .ok (.iload 4, 2) := by decide +kernel
theorem d_St_draw_24 : decode b_St_draw 24 = .ok (.invokestatic 22, 3) := by decide +kernel
theorem d_St_draw_27 : decode b_St_draw 27 = .ok (.istore 4, 2) := by decide +kernel
theorem d_St_draw_29 : decode b_St_draw 29 = .ok (.iload 4, 2) := by decide +kernel
theorem d_St_draw_31 : decode b_St_draw 31 = .ok (.bipush 16, 2) := by decide +kernel
theorem d_St_draw_33 : decode b_St_draw 33 = .ok (.iushr, 1) := by decide +kernel
theorem d_St_draw_34 : decode b_St_draw 34 = .ok (.bipush 24, 2) := by decide +kernel
theorem d_St_draw_36 : decode b_St_draw 36 = .ok (.irem, 1) := by decide +kernel
theorem d_St_draw_37 : decode b_St_draw 37 = .ok (.istore 6, 2) := by decide +kernel
theorem d_St_draw_39 : decode b_St_draw 39 = .ok (.iload 4, 2) := by decide +kernel
theorem d_St_draw_41 : decode b_St_draw 41 = .ok (.invokestatic 22, 3) := by decide +kernel
theorem d_St_draw_44 : decode b_St_draw 44 = .ok (.istore 4, 2) := by decide +kernel
theorem d_St_draw_46 : decode b_St_draw 46 = .ok (.aload_n 0, 1) := by decide +kernel
theorem d_St_draw_47 : decode b_St_draw 47 = .ok (.iload 6, 2) := by decide +kernel
theorem d_St_draw_49 : decode b_St_draw 49 = .ok (.iload 4, 2) := by decide +kernel
theorem d_St_draw_51 : decode b_St_draw 51 = .ok (.bipush 16, 2) := by decide +kernel
theorem d_St_draw_53 : decode b_St_draw 53 = .ok (.iushr, 1) := by decide +kernel
theorem d_St_draw_54 : decode b_St_draw 54 = .ok (.iload_n 3, 1) := by decide +kernel
theorem d_St_draw_55 : decode b_St_draw 55 = .ok (.irem, 1) := by decide +kernel
theorem d_St_draw_56 : decode b_St_draw 56 = .ok (.invokevirtual 26, 3) := by decide +kernel
theorem d_St_draw_59 : decode b_St_draw 59 = .ok (.pop, 1) := by decide +kernel
theorem d_St_draw_60 : decode b_St_draw 60 = .ok (.iinc 5 1, 3) := by decide +kernel
theorem d_St_draw_63 : decode b_St_draw 63 = .ok (.goto (-47), 3) := by decide +kernel
theorem d_St_draw_66 : decode b_St_draw 66 = .ok (.return_, 1) := by decide +kernel
theorem d_CS_years_0 : decode b_CS_years 0 = .ok (.iload_n 2, 1) := by decide +kernel
theorem d_CS_years_1 : decode b_CS_years 1 = .ok (.ifCond .lt 18, 3) := by decide +kernel
theorem d_CS_years_4 : decode b_CS_years 4 = .ok (.iload_n 2, 1) := by decide +kernel
theorem d_CS_years_5 : decode b_CS_years 5 = .ok (.bipush 8, 2) := by decide +kernel
theorem d_CS_years_7 : decode b_CS_years 7 = .ok (.if_icmp .gt 12, 3) := by decide +kernel
theorem d_CS_years_10 : decode b_CS_years 10 = .ok (.iload_n 3, 1) := by decide +kernel
theorem d_CS_years_11 : decode b_CS_years 11 = .ok (.ifCond .lt 8, 3) := by decide +kernel
theorem d_CS_years_14 : decode b_CS_years 14 = .ok (.iload_n 3, 1) := by decide +kernel
theorem d_CS_years_15 : decode b_CS_years 15 = .ok (.iconst 1, 1) := by decide +kernel
theorem d_CS_years_16 : decode b_CS_years 16 = .ok (.if_icmp .le 6, 3) := by decide +kernel
theorem d_CS_years_19 : decode b_CS_years 19 = .ok (.bipush (-2), 2) := by decide +kernel
theorem d_CS_years_21 : decode b_CS_years 21 = .ok (.ireturn, 1) := by decide +kernel
theorem d_CS_years_22 : decode b_CS_years 22 = .ok (.aload_n 0, 1) := by decide +kernel
theorem d_CS_years_23 : decode b_CS_years 23 = .ok (.getfield 36, 3) := by decide +kernel
theorem d_CS_years_26 : decode b_CS_years 26 = .ok (.iload_n 1, 1) := by decide +kernel
theorem d_CS_years_27 : decode b_CS_years 27 = .ok (.iload_n 2, 1) := by decide +kernel
theorem d_CS_years_28 : decode b_CS_years 28 = .ok (.aload_n 0, 1) := by decide +kernel
theorem d_CS_years_29 : decode b_CS_years 29 = .ok (.getfield 10, 3) := by decide +kernel
theorem d_CS_years_32 : decode b_CS_years 32 = .ok (.getfield 229, 3) := by decide +kernel
theorem d_CS_years_35 : decode b_CS_years 35 = .ok (.invokevirtual 231, 3) := by decide +kernel
theorem d_CS_years_38 : decode b_CS_years 38 = .ok (.aload_n 0, 1) := by decide +kernel
theorem d_CS_years_39 : decode b_CS_years 39 = .ok (.getfield 44, 3) := by decide +kernel
theorem d_CS_years_42 : decode b_CS_years 42 = .ok (.aload_n 0, 1) := by decide +kernel
theorem d_CS_years_43 : decode b_CS_years 43 = .ok (.getfield 36, 3) := by decide +kernel
theorem d_CS_years_46 : decode b_CS_years 46 = .ok (.putfield 235, 3) := by decide +kernel
theorem d_CS_years_49 : decode b_CS_years 49 = .ok (.aload_n 0, 1) := by decide +kernel
theorem d_CS_years_50 : decode b_CS_years 50 = .ok (.getfield 44, 3) := by decide +kernel
theorem d_CS_years_53 : decode b_CS_years 53 = .ok (.iload_n 3, 1) := by decide +kernel
theorem d_CS_years_54 : decode b_CS_years 54 = .ok (.ifCond .ne 7, 3) := by decide +kernel
theorem d_CS_years_57 : decode b_CS_years 57 = .ok (.iconst 5, 1) := by decide +kernel
theorem d_CS_years_58 : decode b_CS_years 58 = .ok (.goto 4, 3) := by decide +kernel
theorem d_CS_years_61 : decode b_CS_years 61 = .ok (.iconst 4, 1) := by decide +kernel
theorem d_CS_years_62 : decode b_CS_years 62 = .ok (.invokevirtual 160, 3) := by decide +kernel
theorem d_CS_years_65 : decode b_CS_years 65 = .ok (.istore 4, 2) := by decide +kernel
theorem d_CS_years_67 : decode b_CS_years 67 = .ok (.aload_n 0, 1) := by decide +kernel
theorem d_CS_years_68 : decode b_CS_years 68 = .ok (.getfield 44, 3) := by decide +kernel
theorem d_CS_years_71 : decode b_CS_years 71 = .ok (.aload_n 0, 1) := by decide +kernel
theorem d_CS_years_72 : decode b_CS_years 72 = .ok (.getfield 32, 3) := by decide +kernel
theorem d_CS_years_75 : decode b_CS_years 75 = .ok (.putfield 235, 3) := by decide +kernel
theorem d_CS_years_78 : decode b_CS_years 78 = .ok (.iload 4, 2) := by decide +kernel
theorem d_CS_years_80 : decode b_CS_years 80 = .ok (.ireturn, 1) := by decide +kernel
theorem d_CS_isForm_0 : decode b_CS_isForm 0 = .ok (.iload_n 0, 1) := by decide +kernel
theorem d_CS_isForm_1 : decode b_CS_isForm 1 = .ok (.ifCond .lt 12, 3) := by decide +kernel
theorem d_CS_isForm_4 : decode b_CS_isForm 4 = .ok (.iload_n 0, 1) := by decide +kernel
theorem d_CS_isForm_5 : decode b_CS_isForm 5 = .ok (.iconst 3, 1) := by decide +kernel
theorem d_CS_isForm_6 : decode b_CS_isForm 6 = .ok (.if_icmp .ge 7, 3) := by decide +kernel
theorem d_CS_isForm_9 : decode b_CS_isForm 9 = .ok (.iconst 1, 1) := by decide +kernel
theorem d_CS_isForm_10 : decode b_CS_isForm 10 = .ok (.goto 4, 3) := by decide +kernel
theorem d_CS_isForm_13 : decode b_CS_isForm 13 = .ok (.iconst 0, 1) := by decide +kernel
theorem d_CS_isForm_14 : decode b_CS_isForm 14 = .ok (.ireturn, 1) := by decide +kernel
theorem d_Sh_renew_0 : decode b_Sh_renew 0 = .ok (.aload_n 0, 1) := by decide +kernel
theorem d_Sh_renew_1 : decode b_Sh_renew 1 = .ok (.iload_n 1, 1) := by decide +kernel
theorem d_Sh_renew_2 : decode b_Sh_renew 2 = .ok (.putfield 15, 3) := by decide +kernel
theorem d_Sh_renew_5 : decode b_Sh_renew 5 = .ok (.aload_n 0, 1) := by decide +kernel
theorem d_Sh_renew_6 : decode b_Sh_renew 6 = .ok (.iload_n 2, 1) := by decide +kernel
theorem d_Sh_renew_7 : decode b_Sh_renew 7 = .ok (.putfield 19, 3) := by decide +kernel
theorem d_Sh_renew_10 : decode b_Sh_renew 10 = .ok (.aload_n 0, 1) := by decide +kernel
theorem d_Sh_renew_11 : decode b_Sh_renew 11 = .ok (.getfield 9, 3) := by decide +kernel
theorem d_Sh_renew_14 : decode b_Sh_renew 14 = .ok (.iconst 0, 1) := by decide +kernel
theorem d_Sh_renew_15 : decode b_Sh_renew 15 = .ok (.invokestatic 22, 3) := by decide +kernel
theorem d_Sh_renew_18 : decode b_Sh_renew 18 = .ok (.return_, 1) := by decide +kernel
theorem d_CS_sheet_0 : decode b_CS_sheet 0 = .ok (.iload_n 1, 1) := by decide +kernel
theorem d_CS_sheet_1 : decode b_CS_sheet 1 = .ok (.invokestatic 133, 3) := by decide +kernel
theorem d_CS_sheet_4 : decode b_CS_sheet 4 = .ok (.ifCond .eq 16, 3) := by decide +kernel
theorem d_CS_sheet_7 : decode b_CS_sheet 7 = .ok (.iload_n 2, 1) := by decide +kernel
theorem d_CS_sheet_8 : decode b_CS_sheet 8 = .ok (.invokestatic 236, 3) := by decide +kernel
theorem d_CS_sheet_11 : decode b_CS_sheet 11 = .ok (.ifCond .eq 9, 3) := by decide +kernel
theorem d_CS_sheet_14 : decode b_CS_sheet 14 = .ok (.iload_n 3, 1) := by decide +kernel
theorem d_CS_sheet_15 : decode b_CS_sheet 15 = .ok (.bipush 60, 2) := by decide +kernel
theorem d_CS_sheet_17 : decode b_CS_sheet 17 = .ok (.if_icmp .le 6, 3) := by decide +kernel
theorem d_CS_sheet_20 : decode b_CS_sheet 20 = .ok (.bipush (-2), 2) := by decide +kernel
theorem d_CS_sheet_22 : decode b_CS_sheet 22 = .ok (.ireturn, 1) := by decide +kernel
theorem d_CS_sheet_23 : decode b_CS_sheet 23 = .ok (.iload_n 3, 1) := by decide +kernel
theorem d_CS_sheet_24 : decode b_CS_sheet 24 = .ok (.ifCond .ge 9, 3) := by decide +kernel
theorem d_CS_sheet_27 : decode b_CS_sheet 27 = .ok (.aload_n 0, 1) := by decide +kernel
theorem d_CS_sheet_28 : decode b_CS_sheet 28 = .ok (.iconst 5, 1) := by decide +kernel
theorem d_CS_sheet_29 : decode b_CS_sheet 29 = .ok (.invokevirtual 140, 3) := by decide +kernel
theorem d_CS_sheet_32 : decode b_CS_sheet 32 = .ok (.ireturn, 1) := by decide +kernel
theorem d_CS_sheet_33 : decode b_CS_sheet 33 = .ok (.aload_n 0, 1) := by decide +kernel
theorem d_CS_sheet_34 : decode b_CS_sheet 34 = .ok (.getfield 74, 3) := by decide +kernel
theorem d_CS_sheet_37 : decode b_CS_sheet 37 = .ok (.iload_n 1, 1) := by decide +kernel
theorem d_CS_sheet_38 : decode b_CS_sheet 38 = .ok (.aaload, 1) := by decide +kernel
theorem d_CS_sheet_39 : decode b_CS_sheet 39 = .ok (.iload_n 2, 1) := by decide +kernel
theorem d_CS_sheet_40 : decode b_CS_sheet 40 = .ok (.iload_n 3, 1) := by decide +kernel
theorem d_CS_sheet_41 : decode b_CS_sheet 41 = .ok (.invokevirtual 239, 3) := by decide +kernel
theorem d_CS_sheet_44 : decode b_CS_sheet 44 = .ok (.iload_n 3, 1) := by decide +kernel
theorem d_CS_sheet_45 : decode b_CS_sheet 45 = .ok (.ireturn, 1) := by decide +kernel
theorem d_CS_lose_0 : decode b_CS_lose 0 = .ok (.iload_n 1, 1) := by decide +kernel
theorem d_CS_lose_1 : decode b_CS_lose 1 = .ok (.invokestatic 133, 3) := by decide +kernel
theorem d_CS_lose_4 : decode b_CS_lose 4 = .ok (.ifCond .ne 6, 3) := by decide +kernel
theorem d_CS_lose_7 : decode b_CS_lose 7 = .ok (.bipush (-2), 2) := by decide +kernel
theorem d_CS_lose_9 : decode b_CS_lose 9 = .ok (.ireturn, 1) := by decide +kernel
theorem d_CS_lose_10 : decode b_CS_lose 10 = .ok (.aload_n 0, 1) := by decide +kernel
theorem d_CS_lose_11 : decode b_CS_lose 11 = .ok (.getfield 74, 3) := by decide +kernel
theorem d_CS_lose_14 : decode b_CS_lose 14 = .ok (.iload_n 1, 1) := by decide +kernel
theorem d_CS_lose_15 : decode b_CS_lose 15 = .ok (.aaload, 1) := by decide +kernel
theorem d_CS_lose_16 : decode b_CS_lose 16 = .ok (.invokevirtual 136, 3) := by decide +kernel
theorem d_CS_lose_19 : decode b_CS_lose 19 = .ok (.ifCond .eq 9, 3) := by decide +kernel
theorem d_CS_lose_22 : decode b_CS_lose 22 = .ok (.aload_n 0, 1) := by decide +kernel
theorem d_CS_lose_23 : decode b_CS_lose 23 = .ok (.iconst 1, 1) := by decide +kernel
theorem d_CS_lose_24 : decode b_CS_lose 24 = .ok (.invokevirtual 140, 3) := by decide +kernel
theorem d_CS_lose_27 : decode b_CS_lose 27 = .ok (.ireturn, 1) := by decide +kernel
theorem d_CS_lose_28 : decode b_CS_lose 28 = .ok (.aload_n 0, 1) := by decide +kernel
theorem d_CS_lose_29 : decode b_CS_lose 29 = .ok (.getfield 74, 3) := by decide +kernel
theorem d_CS_lose_32 : decode b_CS_lose 32 = .ok (.iload_n 1, 1) := by decide +kernel
theorem d_CS_lose_33 : decode b_CS_lose 33 = .ok (.aaload, 1) := by decide +kernel
theorem d_CS_lose_34 : decode b_CS_lose 34 = .ok (.getfield 143, 3) := by decide +kernel
theorem d_CS_lose_37 : decode b_CS_lose 37 = .ok (.istore_n 2, 1) := by decide +kernel
theorem d_CS_lose_38 : decode b_CS_lose 38 = .ok (.aload_n 0, 1) := by decide +kernel
theorem d_CS_lose_39 : decode b_CS_lose 39 = .ok (.getfield 74, 3) := by decide +kernel
theorem d_CS_lose_42 : decode b_CS_lose 42 = .ok (.iload_n 1, 1) := by decide +kernel
theorem d_CS_lose_43 : decode b_CS_lose 43 = .ok (.aaload, 1) := by decide +kernel
theorem d_CS_lose_44 : decode b_CS_lose 44 = .ok (.iconst (-1), 1) := by decide +kernel
theorem d_CS_lose_45 : decode b_CS_lose 45 = .ok (.iconst 0, 1) := by decide +kernel
theorem d_CS_lose_46 : decode b_CS_lose 46 = .ok (.invokevirtual 239, 3) := by decide +kernel
theorem d_CS_lose_49 : decode b_CS_lose 49 = .ok (.iload_n 2, 1) := by decide +kernel
theorem d_CS_lose_50 : decode b_CS_lose 50 = .ok (.ireturn, 1) := by decide +kernel
theorem d_Sh_hasItems_0 : decode b_Sh_hasItems 0 = .ok (.iload_n 1, 1) := by decide +kernel
theorem d_Sh_hasItems_1 : decode b_Sh_hasItems 1 = .ok (.ifCond .lt 29, 3) := by decide +kernel
theorem d_Sh_hasItems_4 : decode b_Sh_hasItems 4 = .ok (.iload_n 2, 1) := by decide +kernel
theorem d_Sh_hasItems_5 : decode b_Sh_hasItems 5 = .ok (.ifCond .lt 25, 3) := by decide +kernel
theorem d_Sh_hasItems_8 : decode b_Sh_hasItems 8 = .ok (.iload_n 1, 1) := by decide +kernel
theorem d_Sh_hasItems_9 : decode b_Sh_hasItems 9 = .ok (.aload_n 0, 1) := by decide +kernel
theorem d_Sh_hasItems_10 : decode b_Sh_hasItems 10 = .ok (.getfield 19, 3) := by decide +kernel
theorem d_Sh_hasItems_13 : decode b_Sh_hasItems 13 = .ok (.if_icmp .gt 17, 3) := by decide +kernel
theorem d_Sh_hasItems_16 : decode b_Sh_hasItems 16 = .ok (.iload_n 2, 1) := by decide +kernel
theorem d_Sh_hasItems_17 : decode b_Sh_hasItems 17 = .ok (.aload_n 0, 1) := by decide +kernel
theorem d_Sh_hasItems_18 : decode b_Sh_hasItems 18 = .ok (.getfield 19, 3) := by decide +kernel
theorem d_Sh_hasItems_21 : decode b_Sh_hasItems 21 = .ok (.iload_n 1, 1) := by decide +kernel
theorem d_Sh_hasItems_22 : decode b_Sh_hasItems 22 = .ok (.isub, 1) := by decide +kernel
theorem d_Sh_hasItems_23 : decode b_Sh_hasItems 23 = .ok (.if_icmp .gt 7, 3) := by decide +kernel
theorem d_Sh_hasItems_26 : decode b_Sh_hasItems 26 = .ok (.iconst 1, 1) := by decide +kernel
theorem d_Sh_hasItems_27 : decode b_Sh_hasItems 27 = .ok (.goto 4, 3) := by decide +kernel
theorem d_Sh_hasItems_30 : decode b_Sh_hasItems 30 = .ok (.iconst 0, 1) := by decide +kernel
theorem d_Sh_hasItems_31 : decode b_Sh_hasItems 31 = .ok (.ireturn, 1) := by decide +kernel
theorem d_Sh_whatForbids_0 : decode b_Sh_whatForbids 0 = .ok (.aload_n 0, 1) := by decide +kernel
theorem d_Sh_whatForbids_1 : decode b_Sh_whatForbids 1 = .ok (.invokevirtual 28, 3) := by decide +kernel
theorem d_Sh_whatForbids_4 : decode b_Sh_whatForbids 4 = .ok (.ifCond .eq 5, 3) := by decide +kernel
theorem d_Sh_whatForbids_7 : decode b_Sh_whatForbids 7 = .ok (.iconst 1, 1) := by decide +kernel
theorem d_Sh_whatForbids_8 : decode b_Sh_whatForbids 8 = .ok (.ireturn, 1) := by decide +kernel
theorem d_Sh_whatForbids_9 : decode b_Sh_whatForbids 9 = .ok (.aload_n 0, 1) := by decide +kernel
theorem d_Sh_whatForbids_10 : decode b_Sh_whatForbids 10 = .ok (.getfield 15, 3) := by decide +kernel
theorem d_Sh_whatForbids_13 : decode b_Sh_whatForbids 13 = .ok (.iload_n 1, 1) := by decide +kernel
theorem d_Sh_whatForbids_14 : decode b_Sh_whatForbids 14 = .ok (.if_icmp .eq 5, 3) := by decide +kernel
theorem d_Sh_whatForbids_17 : decode b_Sh_whatForbids 17 = .ok (.iconst 3, 1) := by decide +kernel
theorem d_Sh_whatForbids_18 : decode b_Sh_whatForbids 18 = .ok (.ireturn, 1) := by decide +kernel
theorem d_Sh_whatForbids_19 : decode b_Sh_whatForbids 19 = .ok (.aload_n 0, 1) := by decide +kernel
theorem d_Sh_whatForbids_20 : decode b_Sh_whatForbids 20 = .ok (.iload_n 2, 1) := by decide +kernel
theorem d_Sh_whatForbids_21 : decode b_Sh_whatForbids 21 = .ok (.iconst 1, 1) := by decide +kernel
theorem d_Sh_whatForbids_22 : decode b_Sh_whatForbids 22 = .ok (.invokevirtual 32, 3) := by decide +kernel
theorem d_Sh_whatForbids_25 : decode b_Sh_whatForbids 25 = .ok (.ifCond .eq 7, 3) := by decide +kernel
theorem d_Sh_whatForbids_28 : decode b_Sh_whatForbids 28 = .ok (.iconst 0, 1) := by decide +kernel
theorem d_Sh_whatForbids_29 : decode b_Sh_whatForbids 29 = .ok (.goto 4, 3) := by decide +kernel
theorem d_Sh_whatForbids_32 : decode b_Sh_whatForbids 32 = .ok (.iconst 2, 1) := by decide +kernel
theorem d_Sh_whatForbids_33 : decode b_Sh_whatForbids 33 = .ok (.ireturn, 1) := by decide +kernel
theorem d_CS_lowestBits_0 : decode b_CS_lowestBits 0 = .ok (.iload_n 0, 1) := by decide +kernel
theorem d_CS_lowestBits_1 : decode b_CS_lowestBits 1 = .ok (.ifCond .ne 6, 3) := by decide +kernel
theorem d_CS_lowestBits_4 : decode b_CS_lowestBits 4 = .ok (.iload_n 1, 1) := by decide +kernel
theorem d_CS_lowestBits_5 : decode b_CS_lowestBits 5 = .ok (.i2b, 1) := by decide +kernel
theorem d_CS_lowestBits_6 : decode b_CS_lowestBits 6 = .ok (.ireturn, 1) := by decide +kernel
theorem d_CS_lowestBits_7 : decode b_CS_lowestBits 7 = .ok (.iload_n 0, 1) := by decide +kernel
theorem d_CS_lowestBits_8 : decode b_CS_lowestBits 8 = .ok (.iconst 1, 1) := by decide +kernel
theorem d_CS_lowestBits_9 : decode b_CS_lowestBits 9 = .ok (.if_icmp .ne 8, 3) := by decide +kernel
theorem d_CS_lowestBits_12 : decode b_CS_lowestBits 12 = .ok (.iload_n 1, 1) := by decide +kernel
theorem d_CS_lowestBits_13 : decode b_CS_lowestBits 13 = .ok (.i2s, 1) := by decide +kernel
theorem d_CS_lowestBits_14 : decode b_CS_lowestBits 14 = .ok (.goto 4, 3) := by decide +kernel
theorem d_CS_lowestBits_17 : decode b_CS_lowestBits 17 = .ok (.iload_n 1, 1) := by decide +kernel
theorem d_CS_lowestBits_18 : decode b_CS_lowestBits 18 = .ok (.ireturn, 1) := by decide +kernel
theorem d_CS_put_0 : decode b_CS_put 0 = .ok (.iload_n 1, 1) := by decide +kernel
theorem d_CS_put_1 : decode b_CS_put 1 = .ok (.invokestatic 133, 3) := by decide +kernel
theorem d_CS_put_4 : decode b_CS_put 4 = .ok (.ifCond .eq 10, 3) := by decide +kernel
theorem d_CS_put_7 : decode b_CS_put 7 = .ok (.iload_n 2, 1) := by decide +kernel
theorem d_CS_put_8 : decode b_CS_put 8 = .ok (.invokestatic 236, 3) := by decide +kernel
theorem d_CS_put_11 : decode b_CS_put 11 = .ok (.ifCond .ne 6, 3) := by decide +kernel
theorem d_CS_put_14 : decode b_CS_put 14 = .ok (.bipush (-2), 2) := by decide +kernel
theorem d_CS_put_16 : decode b_CS_put 16 = .ok (.ireturn, 1) := by decide +kernel
theorem d_CS_put_17 : decode b_CS_put 17 = .ok (.aload_n 0, 1) := by decide +kernel
theorem d_CS_put_18 : decode b_CS_put 18 = .ok (.getfield 74, 3) := by decide +kernel
theorem d_CS_put_21 : decode b_CS_put 21 = .ok (.iload_n 1, 1) := by decide +kernel
theorem d_CS_put_22 : decode b_CS_put 22 = .ok (.aaload, 1) := by decide +kernel
theorem d_CS_put_23 : decode b_CS_put 23 = .ok (.iload_n 2, 1) := by decide +kernel
theorem d_CS_put_24 : decode b_CS_put 24 = .ok (.iload_n 3, 1) := by decide +kernel
theorem d_CS_put_25 : decode b_CS_put 25 = .ok (.invokevirtual 242, 3) := by decide +kernel
theorem d_CS_put_28 : decode b_CS_put 28 = .ok (.istore 5, 2) := by decide +kernel
theorem d_CS_put_30 : decode b_CS_put 30 = .ok (.iload 5, 2) := by decide +kernel
theorem d_CS_put_32 : decode b_CS_put 32 = .ok (.ifCond .eq 10, 3) := by decide +kernel
theorem d_CS_put_35 : decode b_CS_put 35 = .ok (.aload_n 0, 1) := by decide +kernel
theorem d_CS_put_36 : decode b_CS_put 36 = .ok (.iload 5, 2) := by decide +kernel
theorem d_CS_put_38 : decode b_CS_put 38 = .ok (.invokevirtual 140, 3) := by decide +kernel
theorem d_CS_put_41 : decode b_CS_put 41 = .ok (.ireturn, 1) := by decide +kernel
theorem d_CS_put_42 : decode b_CS_put 42 = .ok (.aload_n 0, 1) := by decide +kernel
theorem d_CS_put_43 : decode b_CS_put 43 = .ok (.getfield 74, 3) := by decide +kernel
theorem d_CS_put_46 : decode b_CS_put 46 = .ok (.iload_n 1, 1) := by decide +kernel
theorem d_CS_put_47 : decode b_CS_put 47 = .ok (.aaload, 1) := by decide +kernel
theorem d_CS_put_48 : decode b_CS_put 48 = .ok (.getfield 144, 3) := by decide +kernel
theorem d_CS_put_51 : decode b_CS_put 51 = .ok (.iload_n 3, 1) := by decide +kernel
theorem d_CS_put_52 : decode b_CS_put 52 = .ok (.iload_n 2, 1) := by decide +kernel
theorem d_CS_put_53 : decode b_CS_put 53 = .ok (.iload 4, 2) := by decide +kernel
theorem d_CS_put_55 : decode b_CS_put 55 = .ok (.invokestatic 245, 3) := by decide +kernel
theorem d_CS_put_58 : decode b_CS_put 58 = .ok (.iastore, 1) := by decide +kernel
theorem d_CS_put_59 : decode b_CS_put 59 = .ok (.iconst 1, 1) := by decide +kernel
theorem d_CS_put_60 : decode b_CS_put 60 = .ok (.ireturn, 1) := by decide +kernel
theorem d_CS_get_0 : decode b_CS_get 0 = .ok (.iload_n 1, 1) := by decide +kernel
theorem d_CS_get_1 : decode b_CS_get 1 = .ok (.invokestatic 133, 3) := by decide +kernel
theorem d_CS_get_4 : decode b_CS_get 4 = .ok (.ifCond .eq 10, 3) := by decide +kernel
theorem d_CS_get_7 : decode b_CS_get 7 = .ok (.iload_n 2, 1) := by decide +kernel
theorem d_CS_get_8 : decode b_CS_get 8 = .ok (.invokestatic 236, 3) := by decide +kernel
theorem d_CS_get_11 : decode b_CS_get 11 = .ok (.ifCond .ne 6, 3) := by decide +kernel
theorem d_CS_get_14 : decode b_CS_get 14 = .ok (.ldc 248, 2) := by decide +kernel
theorem d_CS_get_16 : decode b_CS_get 16 = .ok (.ireturn, 1) := by decide +kernel
theorem d_CS_get_17 : decode b_CS_get 17 = .ok (.aload_n 0, 1) := by decide +kernel
theorem d_CS_get_18 : decode b_CS_get 18 = .ok (.getfield 74, 3) := by decide +kernel
theorem d_CS_get_21 : decode b_CS_get 21 = .ok (.iload_n 1, 1) := by decide +kernel
theorem d_CS_get_22 : decode b_CS_get 22 = .ok (.aaload, 1) := by decide +kernel
theorem d_CS_get_23 : decode b_CS_get 23 = .ok (.iload_n 2, 1) := by decide +kernel
theorem d_CS_get_24 : decode b_CS_get 24 = .ok (.iload_n 3, 1) := by decide +kernel
theorem d_CS_get_25 : decode b_CS_get 25 = .ok (.invokevirtual 242, 3) := by decide +kernel
theorem d_CS_get_28 : decode b_CS_get 28 = .ok (.istore 4, 2) := by decide +kernel
theorem d_CS_get_30 : decode b_CS_get 30 = .ok (.iload 4, 2) := by decide +kernel
theorem d_CS_get_32 : decode b_CS_get 32 = .ok (.ifCond .eq 12, 3) := by decide +kernel
theorem d_CS_get_35 : decode b_CS_get 35 = .ok (.aload_n 0, 1) := by decide +kernel
theorem d_CS_get_36 : decode b_CS_get 36 = .ok (.iload 4, 2) := by decide +kernel
theorem d_CS_get_38 : decode b_CS_get 38 = .ok (.putfield 249, 3) := by decide +kernel
theorem d_CS_get_41 : decode b_CS_get 41 = .ok (.ldc 248, 2) := by decide +kernel
theorem d_CS_get_43 : decode b_CS_get 43 = .ok (.ireturn, 1) := by decide +kernel
theorem d_CS_get_44 : decode b_CS_get 44 = .ok (.aload_n 0, 1) := by decide +kernel
theorem d_CS_get_45 : decode b_CS_get 45 = .ok (.getfield 74, 3) := by decide +kernel
theorem d_CS_get_48 : decode b_CS_get 48 = .ok (.iload_n 1, 1) := by decide +kernel
theorem d_CS_get_49 : decode b_CS_get 49 = .ok (.aaload, 1) := by decide +kernel
theorem d_CS_get_50 : decode b_CS_get 50 = .ok (.getfield 144, 3) := by decide +kernel
theorem d_CS_get_53 : decode b_CS_get 53 = .ok (.iload_n 3, 1) := by decide +kernel
theorem d_CS_get_54 : decode b_CS_get 54 = .ok (.iaload, 1) := by decide +kernel
theorem d_CS_get_55 : decode b_CS_get 55 = .ok (.ireturn, 1) := by decide +kernel
theorem d_CS_copy_0 : decode b_CS_copy 0 = .ok (.iload_n 1, 1) := by decide +kernel
theorem d_CS_copy_1 : decode b_CS_copy 1 = .ok (.invokestatic 133, 3) := by decide +kernel
theorem d_CS_copy_4 : decode b_CS_copy 4 = .ok (.ifCond .eq 10, 3) := by decide +kernel
theorem d_CS_copy_7 : decode b_CS_copy 7 = .ok (.iload_n 3, 1) := by decide +kernel
theorem d_CS_copy_8 : decode b_CS_copy 8 = .ok (.invokestatic 133, 3) := by decide +kernel
theorem d_CS_copy_11 : decode b_CS_copy 11 = .ok (.ifCond .ne 6, 3) := by decide +kernel
theorem d_CS_copy_14 : decode b_CS_copy 14 = .ok (.bipush (-2), 2) := by decide +kernel
theorem d_CS_copy_16 : decode b_CS_copy 16 = .ok (.ireturn, 1) := by decide +kernel
theorem d_CS_copy_17 : decode b_CS_copy 17 = .ok (.aload_n 0, 1) := by decide +kernel
theorem d_CS_copy_18 : decode b_CS_copy 18 = .ok (.getfield 74, 3) := by decide +kernel
theorem d_CS_copy_21 : decode b_CS_copy 21 = .ok (.iload_n 1, 1) := by decide +kernel
theorem d_CS_copy_22 : decode b_CS_copy 22 = .ok (.aaload, 1) := by decide +kernel
theorem d_CS_copy_23 : decode b_CS_copy 23 = .ok (.astore 6, 2) := by decide +kernel
theorem d_CS_copy_25 : decode b_CS_copy 25 = .ok (.aload_n 0, 1) := by decide +kernel
theorem d_CS_copy_26 : decode b_CS_copy 26 = .ok (.getfield 74, 3) := by decide +kernel
theorem d_CS_copy_29 : decode b_CS_copy 29 = .ok (.iload_n 3, 1) := by decide +kernel
theorem d_CS_copy_30 : decode b_CS_copy 30 = .ok (.aaload, 1) := by decide +kernel
theorem d_CS_copy_31 : decode b_CS_copy 31 = .ok (.astore 7, 2) := by decide +kernel
theorem d_CS_copy_33 : decode b_CS_copy 33 = .ok (.aload 6, 2) := by decide +kernel
theorem d_CS_copy_35 : decode b_CS_copy 35 = .ok (.invokevirtual 136, 3) := by decide +kernel
theorem d_CS_copy_38 : decode b_CS_copy 38 = .ok (.ifCond .ne 11, 3) := by decide +kernel
theorem d_CS_copy_41 : decode b_CS_copy 41 = .ok (.aload 7, 2) := by decide +kernel
theorem d_CS_copy_43 : decode b_CS_copy 43 = .ok (.invokevirtual 136, 3) := by decide +kernel
theorem d_CS_copy_46 : decode b_CS_copy 46 = .ok (.ifCond .eq 9, 3) := by decide +kernel
theorem d_CS_copy_49 : decode b_CS_copy 49 = .ok (.aload_n 0, 1) := by decide +kernel
theorem d_CS_copy_50 : decode b_CS_copy 50 = .ok (.iconst 1, 1) := by decide +kernel
theorem d_CS_copy_51 : decode b_CS_copy 51 = .ok (.invokevirtual 140, 3) := by decide +kernel
theorem d_CS_copy_54 : decode b_CS_copy 54 = .ok (.ireturn, 1) := by decide +kernel
theorem d_CS_copy_55 : decode b_CS_copy 55 = .ok (.aload 6, 2) := by decide +kernel
theorem d_CS_copy_57 : decode b_CS_copy 57 = .ok (.getfield 252, 3) := by decide +kernel
theorem d_CS_copy_60 : decode b_CS_copy 60 = .ok (.aload 7, 2) := by decide +kernel
theorem d_CS_copy_62 : decode b_CS_copy 62 = .ok (.getfield 252, 3) := by decide +kernel
theorem d_CS_copy_65 : decode b_CS_copy 65 = .ok (.if_icmp .eq 9, 3) := by decide +kernel
theorem d_CS_copy_68 : decode b_CS_copy 68 = .ok (.aload_n 0, 1) := by decide +kernel
theorem d_CS_copy_69 : decode b_CS_copy 69 = .ok (.iconst 4, 1) := by decide +kernel
theorem d_CS_copy_70 : decode b_CS_copy 70 = .ok (.invokevirtual 140, 3) := by decide +kernel
theorem d_CS_copy_73 : decode b_CS_copy 73 = .ok (.ireturn, 1) := by decide +kernel
theorem d_CS_copy_74 : decode b_CS_copy 74 = .ok (.aload 6, 2) := by decide +kernel
theorem d_CS_copy_76 : decode b_CS_copy 76 = .ok (.iload_n 2, 1) := by decide +kernel
theorem d_CS_copy_77 : decode b_CS_copy 77 = .ok (.iload 5, 2) := by decide +kernel
theorem d_CS_copy_79 : decode b_CS_copy 79 = .ok (.invokevirtual 255, 3) := by decide +kernel
theorem d_CS_copy_82 : decode b_CS_copy 82 = .ok (.ifCond .eq 15, 3) := by decide +kernel
theorem d_CS_copy_85 : decode b_CS_copy 85 = .ok (.aload 7, 2) := by decide +kernel
theorem d_CS_copy_87 : decode b_CS_copy 87 = .ok (.iload 4, 2) := by decide +kernel
theorem d_CS_copy_89 : decode b_CS_copy 89 = .ok (.iload 5, 2) := by decide +kernel
theorem d_CS_copy_91 : decode b_CS_copy 91 = .ok (.invokevirtual 255, 3) := by decide +kernel
theorem d_CS_copy_94 : decode b_CS_copy 94 = .ok (.ifCond .ne 9, 3) := by decide +kernel
theorem d_CS_copy_97 : decode b_CS_copy 97 = .ok (.aload_n 0, 1) := by decide +kernel
theorem d_CS_copy_98 : decode b_CS_copy 98 = .ok (.iconst 2, 1) := by decide +kernel
theorem d_CS_copy_99 : decode b_CS_copy 99 = .ok (.invokevirtual 140, 3) := by decide +kernel
theorem d_CS_copy_102 : decode b_CS_copy 102 = .ok (.ireturn, 1) := by decide +kernel
theorem d_CS_copy_103 : decode b_CS_copy 103 = .ok (.aload 6, 2) := by decide +kernel
theorem d_CS_copy_105 : decode b_CS_copy 105 = .ok (.getfield 144, 3) := by decide +kernel
theorem d_CS_copy_108 : decode b_CS_copy 108 = .ok (.iload_n 2, 1) := by decide +kernel
theorem d_CS_copy_109 : decode b_CS_copy 109 = .ok (.aload 7, 2) := by decide +kernel
theorem d_CS_copy_111 : decode b_CS_copy 111 = .ok (.getfield 144, 3) := by decide +kernel
theorem d_CS_copy_114 : decode b_CS_copy 114 = .ok (.iload 4, 2) := by decide +kernel
theorem d_CS_copy_116 : decode b_CS_copy 116 = .ok (.iload 5, 2) := by decide +kernel
theorem d_CS_copy_118 : decode b_CS_copy 118 = .ok (.invokestatic 258, 3) := by decide +kernel
theorem d_CS_copy_121 : decode b_CS_copy 121 = .ok (.iconst 1, 1) := by decide +kernel
theorem d_CS_copy_122 : decode b_CS_copy 122 = .ok (.ireturn, 1) := by decide +kernel
