/-! decode rows (printed) -/
theorem d_Mo_ends_0 : decode b_Mo_ends 0 = .ok (.iload_n 2, 1) := by decide +kernel
theorem d_Mo_ends_1 : decode b_Mo_ends 1 = .ok (.bipush 8, 2) := by decide +kernel
theorem d_Mo_ends_3 : decode b_Mo_ends 3 = .ok (.irem, 1) := by decide +kernel
theorem d_Mo_ends_4 : decode b_Mo_ends 4 = .ok (.bipush 7, 2) := by decide +kernel
theorem d_Mo_ends_6 : decode b_Mo_ends 6 = .ok (.if_icmp .ne 34, 3) := by decide +kernel
theorem d_Mo_ends_9 : decode b_Mo_ends 9 = .ok (.aload_n 0, 1) := by decide +kernel
theorem d_Mo_ends_10 : decode b_Mo_ends 10 = .ok (.getfield 49, 3) := by decide +kernel
theorem d_Mo_ends_13 : decode b_Mo_ends 13 = .ok (.iload_n 1, 1) := by decide +kernel
theorem d_Mo_ends_14 : decode b_Mo_ends 14 = .ok (.iaload, 1) := by decide +kernel
theorem d_Mo_ends_15 : decode b_Mo_ends 15 = .ok (.ifCond .ne 25, 3) := by decide +kernel
theorem d_Mo_ends_18 : decode b_Mo_ends 18 = .ok (.aload_n 0, 1) := by decide +kernel
theorem d_Mo_ends_19 : decode b_Mo_ends 19 = .ok (.getfield 55, 3) := by decide +kernel
theorem d_Mo_ends_22 : decode b_Mo_ends 22 = .ok (.iload_n 1, 1) := by decide +kernel
theorem d_Mo_ends_23 : decode b_Mo_ends 23 = .ok (.dup2, 1) := by decide +kernel
theorem d_Mo_ends_24 : decode b_Mo_ends 24 = .ok (.iaload, 1) := by decide +kernel
theorem d_Mo_ends_25 : decode b_Mo_ends 25 = .ok (.aload_n 0, 1) := by decide +kernel
theorem d_Mo_ends_26 : decode b_Mo_ends 26 = .ok (.getfield 43, 3) := by decide +kernel
theorem d_Mo_ends_29 : decode b_Mo_ends 29 = .ok (.iload_n 1, 1) := by decide +kernel
theorem d_Mo_ends_30 : decode b_Mo_ends 30 = .ok (.iaload, 1) := by decide +kernel
theorem d_Mo_ends_31 : decode b_Mo_ends 31 = .ok (.iadd, 1) := by decide +kernel
theorem d_Mo_ends_32 : decode b_Mo_ends 32 = .ok (.iastore, 1) := by decide +kernel
theorem d_Mo_ends_33 : decode b_Mo_ends 33 = .ok (.aload_n 0, 1) := by decide +kernel
theorem d_Mo_ends_34 : decode b_Mo_ends 34 = .ok (.getfield 43, 3) := by decide +kernel
theorem d_Mo_ends_37 : decode b_Mo_ends 37 = .ok (.iload_n 1, 1) := by decide +kernel
theorem d_Mo_ends_38 : decode b_Mo_ends 38 = .ok (.iconst 0, 1) := by decide +kernel
theorem d_Mo_ends_39 : decode b_Mo_ends 39 = .ok (.iastore, 1) := by decide +kernel
theorem d_Mo_ends_40 : decode b_Mo_ends 40 = .ok (.bipush 8, 2) := by decide +kernel
theorem d_Mo_ends_42 : decode b_Mo_ends 42 = .ok (.iload_n 2, 1) := by decide +kernel
theorem d_Mo_ends_43 : decode b_Mo_ends 43 = .ok (.imul, 1) := by decide +kernel
theorem d_Mo_ends_44 : decode b_Mo_ends 44 = .ok (.iload_n 1, 1) := by decide +kernel
theorem d_Mo_ends_45 : decode b_Mo_ends 45 = .ok (.iadd, 1) := by decide +kernel
theorem d_Mo_ends_46 : decode b_Mo_ends 46 = .ok (.istore_n 3, 1) := by decide +kernel
theorem d_Mo_ends_47 : decode b_Mo_ends 47 = .ok (.aload_n 0, 1) := by decide +kernel
theorem d_Mo_ends_48 : decode b_Mo_ends 48 = .ok (.getfield 61, 3) := by decide +kernel
theorem d_Mo_ends_51 : decode b_Mo_ends 51 = .ok (.iload_n 3, 1) := by decide +kernel
theorem d_Mo_ends_52 : decode b_Mo_ends 52 = .ok (.aload_n 0, 1) := by decide +kernel
theorem d_Mo_ends_53 : decode b_Mo_ends 53 = .ok (.getfield 43, 3) := by decide +kernel
theorem d_Mo_ends_56 : decode b_Mo_ends 56 = .ok (.iload_n 1, 1) := by decide +kernel
theorem d_Mo_ends_57 : decode b_Mo_ends 57 = .ok (.iaload, 1) := by decide +kernel
theorem d_Mo_ends_58 : decode b_Mo_ends 58 = .ok (.iastore, 1) := by decide +kernel
theorem d_Mo_ends_59 : decode b_Mo_ends 59 = .ok (.aload_n 0, 1) := by decide +kernel
theorem d_Mo_ends_60 : decode b_Mo_ends 60 = .ok (.getfield 64, 3) := by decide +kernel
theorem d_Mo_ends_63 : decode b_Mo_ends 63 = .ok (.iload_n 3, 1) := by decide +kernel
theorem d_Mo_ends_64 : decode b_Mo_ends 64 = .ok (.aload_n 0, 1) := by decide +kernel
theorem d_Mo_ends_65 : decode b_Mo_ends 65 = .ok (.getfield 46, 3) := by decide +kernel
theorem d_Mo_ends_68 : decode b_Mo_ends 68 = .ok (.iload_n 1, 1) := by decide +kernel
theorem d_Mo_ends_69 : decode b_Mo_ends 69 = .ok (.iaload, 1) := by decide +kernel
theorem d_Mo_ends_70 : decode b_Mo_ends 70 = .ok (.iastore, 1) := by decide +kernel
theorem d_Mo_ends_71 : decode b_Mo_ends 71 = .ok (.aload_n 0, 1) := by decide +kernel
theorem d_Mo_ends_72 : decode b_Mo_ends 72 = .ok (.getfield 67, 3) := by decide +kernel
theorem d_Mo_ends_75 : decode b_Mo_ends 75 = .ok (.iload_n 3, 1) := by decide +kernel
theorem d_Mo_ends_76 : decode b_Mo_ends 76 = .ok (.aload_n 0, 1) := by decide +kernel
theorem d_Mo_ends_77 : decode b_Mo_ends 77 = .ok (.getfield 49, 3) := by decide +kernel
theorem d_Mo_ends_80 : decode b_Mo_ends 80 = .ok (.iload_n 1, 1) := by decide +kernel
theorem d_Mo_ends_81 : decode b_Mo_ends 81 = .ok (.iaload, 1) := by decide +kernel
theorem d_Mo_ends_82 : decode b_Mo_ends 82 = .ok (.ifCond .le 7, 3) := by decide +kernel
theorem d_Mo_ends_85 : decode b_Mo_ends 85 = .ok (.iconst 1, 1) := by decide +kernel
theorem d_Mo_ends_86 : decode b_Mo_ends 86 = .ok (.goto 4, 3) := by decide +kernel
theorem d_Mo_ends_89 : decode b_Mo_ends 89 = .ok (.iconst 0, 1) := by decide +kernel
theorem d_Mo_ends_90 : decode b_Mo_ends 90 = .ok (.iastore, 1) := by decide +kernel
theorem d_Mo_ends_91 : decode b_Mo_ends 91 = .ok (.aload_n 0, 1) := by decide +kernel
theorem d_Mo_ends_92 : decode b_Mo_ends 92 = .ok (.getfield 70, 3) := by decide +kernel
theorem d_Mo_ends_95 : decode b_Mo_ends 95 = .ok (.iload_n 3, 1) := by decide +kernel
theorem d_Mo_ends_96 : decode b_Mo_ends 96 = .ok (.aload_n 0, 1) := by decide +kernel
theorem d_Mo_ends_97 : decode b_Mo_ends 97 = .ok (.getfield 52, 3) := by decide +kernel
theorem d_Mo_ends_100 : decode b_Mo_ends 100 = .ok (.iload_n 1, 1) := by decide +kernel
theorem d_Mo_ends_101 : decode b_Mo_ends 101 = .ok (.iaload, 1) := by decide +kernel
theorem d_Mo_ends_102 : decode b_Mo_ends 102 = .ok (.iastore, 1) := by decide +kernel
theorem d_Mo_ends_103 : decode b_Mo_ends 103 = .ok (.aload_n 0, 1) := by decide +kernel
theorem d_Mo_ends_104 : decode b_Mo_ends 104 = .ok (.getfield 73, 3) := by decide +kernel
theorem d_Mo_ends_107 : decode b_Mo_ends 107 = .ok (.iload_n 3, 1) := by decide +kernel
theorem d_Mo_ends_108 : decode b_Mo_ends 108 = .ok (.aload_n 0, 1) := by decide +kernel
theorem d_Mo_ends_109 : decode b_Mo_ends 109 = .ok (.getfield 55, 3) := by decide +kernel
theorem d_Mo_ends_112 : decode b_Mo_ends 112 = .ok (.iload_n 1, 1) := by decide +kernel
theorem d_Mo_ends_113 : decode b_Mo_ends 113 = .ok (.iaload, 1) := by decide +kernel
theorem d_Mo_ends_114 : decode b_Mo_ends 114 = .ok (.iastore, 1) := by decide +kernel
theorem d_Mo_ends_115 : decode b_Mo_ends 115 = .ok (.aload_n 0, 1) := by decide +kernel
theorem d_Mo_ends_116 : decode b_Mo_ends 116 = .ok (.getfield 76, 3) := by decide +kernel
theorem d_Mo_ends_119 : decode b_Mo_ends 119 = .ok (.iload_n 3, 1) := by decide +kernel
theorem d_Mo_ends_120 : decode b_Mo_ends 120 = .ok (.aload_n 0, 1) := by decide +kernel
theorem d_Mo_ends_121 : decode b_Mo_ends 121 = .ok (.getfield 58, 3) := by decide +kernel
theorem d_Mo_ends_124 : decode b_Mo_ends 124 = .ok (.iload_n 1, 1) := by decide +kernel
theorem d_Mo_ends_125 : decode b_Mo_ends 125 = .ok (.iaload, 1) := by decide +kernel
theorem d_Mo_ends_126 : decode b_Mo_ends 126 = .ok (.iastore, 1) := by decide +kernel
theorem d_Mo_ends_127 : decode b_Mo_ends 127 = .ok (.aload_n 0, 1) := by decide +kernel
theorem d_Mo_ends_128 : decode b_Mo_ends 128 = .ok (.getfield 49, 3) := by decide +kernel
theorem d_Mo_ends_131 : decode b_Mo_ends 131 = .ok (.iload_n 1, 1) := by decide +kernel
theorem d_Mo_ends_132 : decode b_Mo_ends 132 = .ok (.dup2, 1) := by decide +kernel
theorem d_Mo_ends_133 : decode b_Mo_ends 133 = .ok (.iaload, 1) := by decide +kernel
theorem d_Mo_ends_134 : decode b_Mo_ends 134 = .ok (.aload_n 0, 1) := by decide +kernel
theorem d_Mo_ends_135 : decode b_Mo_ends 135 = .ok (.getfield 49, 3) := by decide +kernel
theorem d_Mo_ends_138 : decode b_Mo_ends 138 = .ok (.iload_n 1, 1) := by decide +kernel
theorem d_Mo_ends_139 : decode b_Mo_ends 139 = .ok (.iaload, 1) := by decide +kernel
theorem d_Mo_ends_140 : decode b_Mo_ends 140 = .ok (.ifCond .le 7, 3) := by decide +kernel
theorem d_Mo_ends_143 : decode b_Mo_ends 143 = .ok (.iconst 1, 1) := by decide +kernel
theorem d_Mo_ends_144 : decode b_Mo_ends 144 = .ok (.goto 4, 3) := by decide +kernel
theorem d_Mo_ends_147 : decode b_Mo_ends 147 = .ok (.iconst 0, 1) := by decide +kernel
theorem d_Mo_ends_148 : decode b_Mo_ends 148 = .ok (.isub, 1) := by decide +kernel
theorem d_Mo_ends_149 : decode b_Mo_ends 149 = .ok (.iastore, 1) := by decide +kernel
theorem d_Mo_ends_150 : decode b_Mo_ends 150 = .ok (.return_, 1) := by decide +kernel
theorem d_Mo_goesBy_0 : decode b_Mo_goesBy 0 = .ok (.aload_n 0, 1) := by decide +kernel
theorem d_Mo_goesBy_1 : decode b_Mo_goesBy 1 = .ok (.iload_n 1, 1) := by decide +kernel
theorem d_Mo_goesBy_2 : decode b_Mo_goesBy 2 = .ok (.invokevirtual 219, 3) := by decide +kernel
theorem d_Mo_goesBy_5 : decode b_Mo_goesBy 5 = .ok (.aload_n 0, 1) := by decide +kernel
theorem d_Mo_goesBy_6 : decode b_Mo_goesBy 6 = .ok (.iload_n 1, 1) := by decide +kernel
theorem d_Mo_goesBy_7 : decode b_Mo_goesBy 7 = .ok (.invokevirtual 223, 3) := by decide +kernel
theorem d_Mo_goesBy_10 : decode b_Mo_goesBy 10 = .ok (.iconst 0, 1) := by decide +kernel
theorem d_Mo_goesBy_11 : decode b_Mo_goesBy 11 = .ok (.istore_n 2, 1) := by decide +kernel
theorem d_Mo_goesBy_12 : decode b_Mo_goesBy 12 = .ok (.iload_n 2, 1) := by decide +kernel
theorem d_Mo_goesBy_13 : decode b_Mo_goesBy 13 = .ok (.aload_n 0, 1) := by decide +kernel
theorem d_Mo_goesBy_14 : decode b_Mo_goesBy 14 = .ok (.getfield 127, 3) := by decide +kernel
theorem d_Mo_goesBy_17 : decode b_Mo_goesBy 17 = .ok (.if_icmp .ge 24, 3) := by decide +kernel
theorem d_Mo_goesBy_20 : decode b_Mo_goesBy 20 = .ok (.aload_n 0, 1) := by decide +kernel
theorem d_Mo_goesBy_21 : decode b_Mo_goesBy 21 = .ok (.getfield 49, 3) := by decide +kernel
theorem d_Mo_goesBy_24 : decode b_Mo_goesBy 24 = .ok (.iload_n 2, 1) := by decide +kernel
theorem d_Mo_goesBy_25 : decode b_Mo_goesBy 25 = .ok (.iaload, 1) := by decide +kernel
theorem d_Mo_goesBy_26 : decode b_Mo_goesBy 26 = .ok (.ifCond .ne 9, 3) := by decide +kernel
theorem d_Mo_goesBy_29 : decode b_Mo_goesBy 29 = .ok (.aload_n 0, 1) := by decide +kernel
theorem d_Mo_goesBy_30 : decode b_Mo_goesBy 30 = .ok (.iload_n 2, 1) := by decide +kernel
theorem d_Mo_goesBy_31 : decode b_Mo_goesBy 31 = .ok (.iload_n 1, 1) := by decide +kernel
theorem d_Mo_goesBy_32 : decode b_Mo_goesBy 32 = .ok (.invokevirtual 226, 3) := by decide +kernel
theorem d_Mo_goesBy_35 : decode b_Mo_goesBy 35 = .ok (.iinc 2 1, 3) := by decide +kernel
theorem d_Mo_goesBy_38 : decode b_Mo_goesBy 38 = .ok (.goto (-26), 3) := by decide +kernel
theorem d_Mo_goesBy_41 : decode b_Mo_goesBy 41 = .ok (.iconst 0, 1) := by decide +kernel
theorem d_Mo_goesBy_42 : decode b_Mo_goesBy 42 = .ok (.istore_n 2, 1) := by decide +kernel
theorem d_Mo_goesBy_43 : decode b_Mo_goesBy 43 = .ok (.iload_n 2, 1) := by decide +kernel
theorem d_Mo_goesBy_44 : decode b_Mo_goesBy 44 = .ok (.aload_n 0, 1) := by decide +kernel
theorem d_Mo_goesBy_45 : decode b_Mo_goesBy 45 = .ok (.getfield 127, 3) := by decide +kernel
theorem d_Mo_goesBy_48 : decode b_Mo_goesBy 48 = .ok (.if_icmp .ge 15, 3) := by decide +kernel
theorem d_Mo_goesBy_51 : decode b_Mo_goesBy 51 = .ok (.aload_n 0, 1) := by decide +kernel
theorem d_Mo_goesBy_52 : decode b_Mo_goesBy 52 = .ok (.iload_n 2, 1) := by decide +kernel
theorem d_Mo_goesBy_53 : decode b_Mo_goesBy 53 = .ok (.iload_n 1, 1) := by decide +kernel
theorem d_Mo_goesBy_54 : decode b_Mo_goesBy 54 = .ok (.invokevirtual 229, 3) := by decide +kernel
theorem d_Mo_goesBy_57 : decode b_Mo_goesBy 57 = .ok (.iinc 2 1, 3) := by decide +kernel
theorem d_Mo_goesBy_60 : decode b_Mo_goesBy 60 = .ok (.goto (-17), 3) := by decide +kernel
theorem d_Mo_goesBy_63 : decode b_Mo_goesBy 63 = .ok (.return_, 1) := by decide +kernel
theorem d_Mo_runs_0 : decode b_Mo_runs 0 = .ok (.iconst 0, 1) := by decide +kernel
theorem d_Mo_runs_1 : decode b_Mo_runs 1 = .ok (.istore_n 1, 1) := by decide +kernel
theorem d_Mo_runs_2 : decode b_Mo_runs 2 = .ok (.iload_n 1, 1) := by decide +kernel
theorem d_Mo_runs_3 : decode b_Mo_runs 3 = .ok (.aload_n 0, 1) := by decide +kernel
theorem d_Mo_runs_4 : decode b_Mo_runs 4 = .ok (.getfield 127, 3) := by decide +kernel
theorem d_Mo_runs_7 : decode b_Mo_runs 7 = .ok (.if_icmp .ge 58, 3) := by decide +kernel
theorem d_Mo_runs_10 : decode b_Mo_runs 10 = .ok (.aload_n 0, 1) := by decide +kernel
theorem d_Mo_runs_11 : decode b_Mo_runs 11 = .ok (.getfield 43, 3) := by decide +kernel
theorem d_Mo_runs_14 : decode b_Mo_runs 14 = .ok (.iload_n 1, 1) := by decide +kernel
theorem d_Mo_runs_15 : decode b_Mo_runs 15 = .ok (.iconst 0, 1) := by decide +kernel
theorem d_Mo_runs_16 : decode b_Mo_runs 16 = .ok (.iastore, 1) := by decide +kernel
theorem d_Mo_runs_17 : decode b_Mo_runs 17 = .ok (.aload_n 0, 1) := by decide +kernel
theorem d_Mo_runs_18 : decode b_Mo_runs 18 = .ok (.getfield 46, 3) := by decide +kernel
theorem d_Mo_runs_21 : decode b_Mo_runs 21 = .ok (.iload_n 1, 1) := by decide +kernel
theorem d_Mo_runs_22 : decode b_Mo_runs 22 = .ok (.iconst 4, 1) := by decide +kernel
theorem d_Mo_runs_23 : decode b_Mo_runs 23 = .ok (.aload_n 0, 1) := by decide +kernel
theorem d_Mo_runs_24 : decode b_Mo_runs 24 = .ok (.getfield 19, 3) := by decide +kernel
theorem d_Mo_runs_27 : decode b_Mo_runs 27 = .ok (.iload_n 1, 1) := by decide +kernel
theorem d_Mo_runs_28 : decode b_Mo_runs 28 = .ok (.iaload, 1) := by decide +kernel
theorem d_Mo_runs_29 : decode b_Mo_runs 29 = .ok (.imul, 1) := by decide +kernel
theorem d_Mo_runs_30 : decode b_Mo_runs 30 = .ok (.iastore, 1) := by decide +kernel
theorem d_Mo_runs_31 : decode b_Mo_runs 31 = .ok (.aload_n 0, 1) := by decide +kernel
theorem d_Mo_runs_32 : decode b_Mo_runs 32 = .ok (.getfield 49, 3) := by decide +kernel
theorem d_Mo_runs_35 : decode b_Mo_runs 35 = .ok (.iload_n 1, 1) := by decide +kernel
theorem d_Mo_runs_36 : decode b_Mo_runs 36 = .ok (.iconst 0, 1) := by decide +kernel
theorem d_Mo_runs_37 : decode b_Mo_runs 37 = .ok (.iastore, 1) := by decide +kernel
theorem d_Mo_runs_38 : decode b_Mo_runs 38 = .ok (.aload_n 0, 1) := by decide +kernel
theorem d_Mo_runs_39 : decode b_Mo_runs 39 = .ok (.getfield 52, 3) := by decide +kernel
theorem d_Mo_runs_42 : decode b_Mo_runs 42 = .ok (.iload_n 1, 1) := by decide +kernel
theorem d_Mo_runs_43 : decode b_Mo_runs 43 = .ok (.iconst 0, 1) := by decide +kernel
theorem d_Mo_runs_44 : decode b_Mo_runs 44 = .ok (.iastore, 1) := by decide +kernel
theorem d_Mo_runs_45 : decode b_Mo_runs 45 = .ok (.aload_n 0, 1) := by decide +kernel
theorem d_Mo_runs_46 : decode b_Mo_runs 46 = .ok (.getfield 55, 3) := by decide +kernel
theorem d_Mo_runs_49 : decode b_Mo_runs 49 = .ok (.iload_n 1, 1) := by decide +kernel
theorem d_Mo_runs_50 : decode b_Mo_runs 50 = .ok (.iconst 0, 1) := by decide +kernel
theorem d_Mo_runs_51 : decode b_Mo_runs 51 = .ok (.iastore, 1) := by decide +kernel
theorem d_Mo_runs_52 : decode b_Mo_runs 52 = .ok (.aload_n 0, 1) := by decide +kernel
theorem d_Mo_runs_53 : decode b_Mo_runs 53 = .ok (.getfield 58, 3) := by decide +kernel
theorem d_Mo_runs_56 : decode b_Mo_runs 56 = .ok (.iload_n 1, 1) := by decide +kernel
theorem d_Mo_runs_57 : decode b_Mo_runs 57 = .ok (.iconst 0, 1) := by decide +kernel
theorem d_Mo_runs_58 : decode b_Mo_runs 58 = .ok (.iastore, 1) := by decide +kernel
theorem d_Mo_runs_59 : decode b_Mo_runs 59 = .ok (.iinc 1 1, 3) := by decide +kernel
theorem d_Mo_runs_62 : decode b_Mo_runs 62 = .ok (.goto (-60), 3) := by decide +kernel
theorem d_Mo_runs_65 : decode b_Mo_runs 65 = .ok (.aload_n 0, 1) := by decide +kernel
theorem d_Mo_runs_66 : decode b_Mo_runs 66 = .ok (.iconst 0, 1) := by decide +kernel
theorem d_Mo_runs_67 : decode b_Mo_runs 67 = .ok (.putfield 189, 3) := by decide +kernel
theorem d_Mo_runs_70 : decode b_Mo_runs 70 = .ok (.aload_n 0, 1) := by decide +kernel
theorem d_Mo_runs_71 : decode b_Mo_runs 71 = .ok (.iconst (-1), 1) := by decide +kernel
theorem d_Mo_runs_72 : decode b_Mo_runs 72 = .ok (.putfield 192, 3) := by decide +kernel
theorem d_Mo_runs_75 : decode b_Mo_runs 75 = .ok (.aload_n 0, 1) := by decide +kernel
theorem d_Mo_runs_76 : decode b_Mo_runs 76 = .ok (.iconst (-1), 1) := by decide +kernel
theorem d_Mo_runs_77 : decode b_Mo_runs 77 = .ok (.putfield 195, 3) := by decide +kernel
theorem d_Mo_runs_80 : decode b_Mo_runs 80 = .ok (.iconst 0, 1) := by decide +kernel
theorem d_Mo_runs_81 : decode b_Mo_runs 81 = .ok (.istore_n 1, 1) := by decide +kernel
theorem d_Mo_runs_82 : decode b_Mo_runs 82 = .ok (.iload_n 1, 1) := by decide +kernel
theorem d_Mo_runs_83 : decode b_Mo_runs 83 = .ok (.bipush 24, 2) := by decide +kernel
theorem d_Mo_runs_85 : decode b_Mo_runs 85 = .ok (.if_icmp .ge 37, 3) := by decide +kernel
theorem d_Mo_runs_88 : decode b_Mo_runs 88 = .ok (.aload_n 0, 1) := by decide +kernel
theorem d_Mo_runs_89 : decode b_Mo_runs 89 = .ok (.iconst 0, 1) := by decide +kernel
theorem d_Mo_runs_90 : decode b_Mo_runs 90 = .ok (.putfield 205, 3) := by decide +kernel
theorem d_Mo_runs_93 : decode b_Mo_runs 93 = .ok (.aload_n 0, 1) := by decide +kernel
theorem d_Mo_runs_94 : decode b_Mo_runs 94 = .ok (.iload_n 1, 1) := by decide +kernel
theorem d_Mo_runs_95 : decode b_Mo_runs 95 = .ok (.invokevirtual 232, 3) := by decide +kernel
theorem d_Mo_runs_98 : decode b_Mo_runs 98 = .ok (.aload_n 0, 1) := by decide +kernel
theorem d_Mo_runs_99 : decode b_Mo_runs 99 = .ok (.getfield 79, 3) := by decide +kernel
theorem d_Mo_runs_102 : decode b_Mo_runs 102 = .ok (.iload_n 1, 1) := by decide +kernel
theorem d_Mo_runs_103 : decode b_Mo_runs 103 = .ok (.aload_n 0, 1) := by decide +kernel
theorem d_Mo_runs_104 : decode b_Mo_runs 104 = .ok (.getfield 205, 3) := by decide +kernel
theorem d_Mo_runs_107 : decode b_Mo_runs 107 = .ok (.ifCond .eq 7, 3) := by decide +kernel
theorem d_Mo_runs_110 : decode b_Mo_runs 110 = .ok (.iconst 1, 1) := by decide +kernel
theorem d_Mo_runs_111 : decode b_Mo_runs 111 = .ok (.goto 4, 3) := by decide +kernel
theorem d_Mo_runs_114 : decode b_Mo_runs 114 = .ok (.iconst 0, 1) := by decide +kernel
theorem d_Mo_runs_115 : decode b_Mo_runs 115 = .ok (.iastore, 1) := by decide +kernel
theorem d_Mo_runs_116 : decode b_Mo_runs 116 = .ok (.iinc 1 1, 3) := by decide +kernel
theorem d_Mo_runs_119 : decode b_Mo_runs 119 = .ok (.goto (-37), 3) := by decide +kernel
theorem d_Mo_runs_122 : decode b_Mo_runs 122 = .ok (.return_, 1) := by decide +kernel
theorem d_Mo_runsTold_0 : decode b_Mo_runsTold 0 = .ok (.aload_n 0, 1) := by decide +kernel
theorem d_Mo_runsTold_1 : decode b_Mo_runsTold 1 = .ok (.invokevirtual 235, 3) := by decide +kernel
theorem d_Mo_runsTold_4 : decode b_Mo_runsTold 4 = .ok (.aload_n 0, 1) := by decide +kernel
theorem d_Mo_runsTold_5 : decode b_Mo_runsTold 5 = .ok (.invokevirtual 238, 3) := by decide +kernel
theorem d_Mo_runsTold_8 : decode b_Mo_runsTold 8 = .ok (.return_, 1) := by decide +kernel
theorem d_Mo_atOf_0 : decode b_Mo_atOf 0 = .ok (.aload_n 0, 1) := by decide +kernel
theorem d_Mo_atOf_1 : decode b_Mo_atOf 1 = .ok (.invokevirtual 241, 3) := by decide +kernel
theorem d_Mo_atOf_4 : decode b_Mo_atOf 4 = .ok (.bipush 8, 2) := by decide +kernel
theorem d_Mo_atOf_6 : decode b_Mo_atOf 6 = .ok (.iload_n 1, 1) := by decide +kernel
theorem d_Mo_atOf_7 : decode b_Mo_atOf 7 = .ok (.imul, 1) := by decide +kernel
theorem d_Mo_atOf_8 : decode b_Mo_atOf 8 = .ok (.iload_n 2, 1) := by decide +kernel
theorem d_Mo_atOf_9 : decode b_Mo_atOf 9 = .ok (.iadd, 1) := by decide +kernel
theorem d_Mo_atOf_10 : decode b_Mo_atOf 10 = .ok (.istore 4, 2) := by decide +kernel
theorem d_Mo_atOf_12 : decode b_Mo_atOf 12 = .ok (.iload_n 3, 1) := by decide +kernel
theorem d_Mo_atOf_13 : decode b_Mo_atOf 13 = .ok (.tableswitch 75 0 4 #[35, 43, 51, 59, 67], 35) := by decide +kernel
theorem d_Mo_atOf_48 : decode b_Mo_atOf 48 = .ok (.aload_n 0, 1) := by decide +kernel
theorem d_Mo_atOf_49 : decode b_Mo_atOf 49 = .ok (.getfield 61, 3) := by decide +kernel
theorem d_Mo_atOf_52 : decode b_Mo_atOf 52 = .ok (.iload 4, 2) := by decide +kernel
theorem d_Mo_atOf_54 : decode b_Mo_atOf 54 = .ok (.iaload, 1) := by decide +kernel
theorem d_Mo_atOf_55 : decode b_Mo_atOf 55 = .ok (.ireturn, 1) := by decide +kernel
theorem d_Mo_atOf_56 : decode b_Mo_atOf 56 = .ok (.aload_n 0, 1) := by decide +kernel
theorem d_Mo_atOf_57 : decode b_Mo_atOf 57 = .ok (.getfield 64, 3) := by decide +kernel
theorem d_Mo_atOf_60 : decode b_Mo_atOf 60 = .ok (.iload 4, 2) := by decide +kernel
theorem d_Mo_atOf_62 : decode b_Mo_atOf 62 = .ok (.iaload, 1) := by decide +kernel
theorem d_Mo_atOf_63 : decode b_Mo_atOf 63 = .ok (.ireturn, 1) := by decide +kernel
theorem d_Mo_atOf_64 : decode b_Mo_atOf 64 = .ok (.aload_n 0, 1) := by decide +kernel
theorem d_Mo_atOf_65 : decode b_Mo_atOf 65 = .ok (.getfield 67, 3) := by decide +kernel
theorem d_Mo_atOf_68 : decode b_Mo_atOf 68 = .ok (.iload 4, 2) := by decide +kernel
theorem d_Mo_atOf_70 : decode b_Mo_atOf 70 = .ok (.iaload, 1) := by decide +kernel
theorem d_Mo_atOf_71 : decode b_Mo_atOf 71 = .ok (.ireturn, 1) := by decide +kernel
theorem d_Mo_atOf_72 : decode b_Mo_atOf 72 = .ok (.aload_n 0, 1) := by decide +kernel
theorem d_Mo_atOf_73 : decode b_Mo_atOf 73 = .ok (.getfield 70, 3) := by decide +kernel
theorem d_Mo_atOf_76 : decode b_Mo_atOf 76 = .ok (.iload 4, 2) := by decide +kernel
theorem d_Mo_atOf_78 : decode b_Mo_atOf 78 = .ok (.iaload, 1) := by decide +kernel
theorem d_Mo_atOf_79 : decode b_Mo_atOf 79 = .ok (.ireturn, 1) := by decide +kernel
theorem d_Mo_atOf_80 : decode b_Mo_atOf 80 = .ok (.aload_n 0, 1) := by decide +kernel
theorem d_Mo_atOf_81 : decode b_Mo_atOf 81 = .ok (.getfield 73, 3) := by decide +kernel
theorem d_Mo_atOf_84 : decode b_Mo_atOf 84 = .ok (.iload 4, 2) := by decide +kernel
theorem d_Mo_atOf_86 : decode b_Mo_atOf 86 = .ok (.iaload, 1) := by decide +kernel
theorem d_Mo_atOf_87 : decode b_Mo_atOf 87 = .ok (.ireturn, 1) := by decide +kernel
theorem d_Mo_atOf_88 : decode b_Mo_atOf 88 = .ok (.aload_n 0, 1) := by decide +kernel
theorem d_Mo_atOf_89 : decode b_Mo_atOf 89 = .ok (.getfield 76, 3) := by decide +kernel
theorem d_Mo_atOf_92 : decode b_Mo_atOf 92 = .ok (.iload 4, 2) := by decide +kernel
theorem d_Mo_atOf_94 : decode b_Mo_atOf 94 = .ok (.iaload, 1) := by decide +kernel
theorem d_Mo_atOf_95 : decode b_Mo_atOf 95 = .ok (.ireturn, 1) := by decide +kernel
theorem d_Mo_at_0 : decode b_Mo_at 0 = .ok (.iload_n 1, 1) := by decide +kernel
theorem d_Mo_at_1 : decode b_Mo_at 1 = .ok (.invokestatic 165, 3) := by decide +kernel
theorem d_Mo_at_4 : decode b_Mo_at 4 = .ok (.ifCond .eq 30, 3) := by decide +kernel
theorem d_Mo_at_7 : decode b_Mo_at 7 = .ok (.aload_n 0, 1) := by decide +kernel
theorem d_Mo_at_8 : decode b_Mo_at 8 = .ok (.iload_n 2, 1) := by decide +kernel
theorem d_Mo_at_9 : decode b_Mo_at 9 = .ok (.invokevirtual 150, 3) := by decide +kernel
theorem d_Mo_at_12 : decode b_Mo_at 12 = .ok (.ifCond .eq 22, 3) := by decide +kernel
theorem d_Mo_at_15 : decode b_Mo_at 15 = .ok (.iload_n 3, 1) := by decide +kernel
theorem d_Mo_at_16 : decode b_Mo_at 16 = .ok (.iconst 0, 1) := by decide +kernel
theorem d_Mo_at_17 : decode b_Mo_at 17 = .ok (.iconst 5, 1) := by decide +kernel
theorem d_Mo_at_18 : decode b_Mo_at 18 = .ok (.invokestatic 115, 3) := by decide +kernel
theorem d_Mo_at_21 : decode b_Mo_at 21 = .ok (.ifCond .eq 13, 3) := by decide +kernel
theorem d_Mo_at_24 : decode b_Mo_at 24 = .ok (.aload_n 0, 1) := by decide +kernel
theorem d_Mo_at_25 : decode b_Mo_at 25 = .ok (.iload_n 1, 1) := by decide +kernel
theorem d_Mo_at_26 : decode b_Mo_at 26 = .ok (.iload_n 2, 1) := by decide +kernel
theorem d_Mo_at_27 : decode b_Mo_at 27 = .ok (.iload_n 3, 1) := by decide +kernel
theorem d_Mo_at_28 : decode b_Mo_at 28 = .ok (.invokevirtual 244, 3) := by decide +kernel
theorem d_Mo_at_31 : decode b_Mo_at 31 = .ok (.goto 5, 3) := by decide +kernel
theorem d_Mo_at_34 : decode b_Mo_at 34 = .ok (.bipush (-2), 2) := by decide +kernel
theorem d_Mo_at_36 : decode b_Mo_at 36 = .ok (.ireturn, 1) := by decide +kernel
theorem d_Mo_throughNow_0 : decode b_Mo_throughNow 0 = .ok (.iconst 0, 1) := by decide +kernel
theorem d_Mo_throughNow_1 : decode b_Mo_throughNow 1 = .ok (.istore_n 1, 1) := by decide +kernel
theorem d_Mo_throughNow_2 : decode b_Mo_throughNow 2 = .ok (.iconst 0, 1) := by decide +kernel
theorem d_Mo_throughNow_3 : decode b_Mo_throughNow 3 = .ok (.istore_n 2, 1) := by decide +kernel
theorem d_Mo_throughNow_4 : decode b_Mo_throughNow 4 = .ok (.iload_n 2, 1) := by decide +kernel
theorem d_Mo_throughNow_5 : decode b_Mo_throughNow 5 = .ok (.aload_n 0, 1) := by decide +kernel
theorem d_Mo_throughNow_6 : decode b_Mo_throughNow 6 = .ok (.getfield 127, 3) := by decide +kernel
theorem d_Mo_throughNow_9 : decode b_Mo_throughNow 9 = .ok (.if_icmp .ge 18, 3) := by decide +kernel
theorem d_Mo_throughNow_12 : decode b_Mo_throughNow 12 = .ok (.iload_n 1, 1) := by decide +kernel
theorem d_Mo_throughNow_13 : decode b_Mo_throughNow 13 = .ok (.aload_n 0, 1) := by decide +kernel
theorem d_Mo_throughNow_14 : decode b_Mo_throughNow 14 = .ok (.getfield 55, 3) := by decide +kernel
theorem d_Mo_throughNow_17 : decode b_Mo_throughNow 17 = .ok (.iload_n 2, 1) := by decide +kernel
theorem d_Mo_throughNow_18 : decode b_Mo_throughNow 18 = .ok (.iaload, 1) := by decide +kernel
theorem d_Mo_throughNow_19 : decode b_Mo_throughNow 19 = .ok (.iadd, 1) := by decide +kernel
theorem d_Mo_throughNow_20 : decode b_Mo_throughNow 20 = .ok (.istore_n 1, 1) := by decide +kernel
theorem d_Mo_throughNow_21 : decode b_Mo_throughNow 21 = .ok (.iinc 2 1, 3) := by decide +kernel
theorem d_Mo_throughNow_24 : decode b_Mo_throughNow 24 = .ok (.goto (-20), 3) := by decide +kernel
theorem d_Mo_throughNow_27 : decode b_Mo_throughNow 27 = .ok (.iload_n 1, 1) := by decide +kernel
theorem d_Mo_throughNow_28 : decode b_Mo_throughNow 28 = .ok (.ireturn, 1) := by decide +kernel
theorem d_Mo_throughOf_0 : decode b_Mo_throughOf 0 = .ok (.aload_n 0, 1) := by decide +kernel
theorem d_Mo_throughOf_1 : decode b_Mo_throughOf 1 = .ok (.invokevirtual 241, 3) := by decide +kernel
theorem d_Mo_throughOf_4 : decode b_Mo_throughOf 4 = .ok (.aload_n 0, 1) := by decide +kernel
theorem d_Mo_throughOf_5 : decode b_Mo_throughOf 5 = .ok (.invokevirtual 248, 3) := by decide +kernel
theorem d_Mo_throughOf_8 : decode b_Mo_throughOf 8 = .ok (.ireturn, 1) := by decide +kernel
theorem d_Mo_through_0 : decode b_Mo_through 0 = .ok (.aload_n 0, 1) := by decide +kernel
theorem d_Mo_through_1 : decode b_Mo_through 1 = .ok (.invokevirtual 252, 3) := by decide +kernel
theorem d_Mo_through_4 : decode b_Mo_through 4 = .ok (.ireturn, 1) := by decide +kernel
theorem d_Mo_lostOf_0 : decode b_Mo_lostOf 0 = .ok (.aload_n 0, 1) := by decide +kernel
theorem d_Mo_lostOf_1 : decode b_Mo_lostOf 1 = .ok (.invokevirtual 241, 3) := by decide +kernel
theorem d_Mo_lostOf_4 : decode b_Mo_lostOf 4 = .ok (.aload_n 0, 1) := by decide +kernel
theorem d_Mo_lostOf_5 : decode b_Mo_lostOf 5 = .ok (.getfield 189, 3) := by decide +kernel
theorem d_Mo_lostOf_8 : decode b_Mo_lostOf 8 = .ok (.ireturn, 1) := by decide +kernel
theorem d_Mo_lost_0 : decode b_Mo_lost 0 = .ok (.aload_n 0, 1) := by decide +kernel
theorem d_Mo_lost_1 : decode b_Mo_lost 1 = .ok (.invokevirtual 255, 3) := by decide +kernel
theorem d_Mo_lost_4 : decode b_Mo_lost 4 = .ok (.ireturn, 1) := by decide +kernel
theorem d_Mo_firstOf_0 : decode b_Mo_firstOf 0 = .ok (.aload_n 0, 1) := by decide +kernel
theorem d_Mo_firstOf_1 : decode b_Mo_firstOf 1 = .ok (.invokevirtual 241, 3) := by decide +kernel
theorem d_Mo_firstOf_4 : decode b_Mo_firstOf 4 = .ok (.iload_n 1, 1) := by decide +kernel
theorem d_Mo_firstOf_5 : decode b_Mo_firstOf 5 = .ok (.ifCond .ne 10, 3) := by decide +kernel
theorem d_Mo_firstOf_8 : decode b_Mo_firstOf 8 = .ok (.aload_n 0, 1) := by decide +kernel
theorem d_Mo_firstOf_9 : decode b_Mo_firstOf 9 = .ok (.getfield 192, 3) := by decide +kernel
theorem d_Mo_firstOf_12 : decode b_Mo_firstOf 12 = .ok (.goto 7, 3) := by decide +kernel
theorem d_Mo_firstOf_15 : decode b_Mo_firstOf 15 = .ok (.aload_n 0, 1) := by decide +kernel
theorem d_Mo_firstOf_16 : decode b_Mo_firstOf 16 = .ok (.getfield 195, 3) := by decide +kernel
theorem d_Mo_firstOf_19 : decode b_Mo_firstOf 19 = .ok (.ireturn, 1) := by decide +kernel
theorem d_Mo_first_0 : decode b_Mo_first 0 = .ok (.iload_n 1, 1) := by decide +kernel
theorem d_Mo_first_1 : decode b_Mo_first 1 = .ok (.invokestatic 153, 3) := by decide +kernel
theorem d_Mo_first_4 : decode b_Mo_first 4 = .ok (.ifCond .eq 11, 3) := by decide +kernel
theorem d_Mo_first_7 : decode b_Mo_first 7 = .ok (.aload_n 0, 1) := by decide +kernel
theorem d_Mo_first_8 : decode b_Mo_first 8 = .ok (.iload_n 1, 1) := by decide +kernel
theorem d_Mo_first_9 : decode b_Mo_first 9 = .ok (.invokevirtual 258, 3) := by decide +kernel
theorem d_Mo_first_12 : decode b_Mo_first 12 = .ok (.goto 5, 3) := by decide +kernel
theorem d_Mo_first_15 : decode b_Mo_first 15 = .ok (.bipush (-2), 2) := by decide +kernel
theorem d_Mo_first_17 : decode b_Mo_first 17 = .ok (.ireturn, 1) := by decide +kernel
theorem d_Mo_bestOf_0 : decode b_Mo_bestOf 0 = .ok (.aload_n 0, 1) := by decide +kernel
theorem d_Mo_bestOf_1 : decode b_Mo_bestOf 1 = .ok (.invokevirtual 241, 3) := by decide +kernel
theorem d_Mo_bestOf_4 : decode b_Mo_bestOf 4 = .ok (.iconst (-1), 1) := by decide +kernel
theorem d_Mo_bestOf_5 : decode b_Mo_bestOf 5 = .ok (.istore_n 1, 1) := by decide +kernel
theorem d_Mo_bestOf_6 : decode b_Mo_bestOf 6 = .ok (.iconst 0, 1) := by decide +kernel
theorem d_Mo_bestOf_7 : decode b_Mo_bestOf 7 = .ok (.istore_n 2, 1) := by decide +kernel
theorem d_Mo_bestOf_8 : decode b_Mo_bestOf 8 = .ok (.iload_n 2, 1) := by decide +kernel
theorem d_Mo_bestOf_9 : decode b_Mo_bestOf 9 = .ok (.aload_n 0, 1) := by decide +kernel
theorem d_Mo_bestOf_10 : decode b_Mo_bestOf 10 = .ok (.getfield 127, 3) := by decide +kernel
theorem d_Mo_bestOf_13 : decode b_Mo_bestOf 13 = .ok (.if_icmp .ge 35, 3) := by decide +kernel
theorem d_Mo_bestOf_16 : decode b_Mo_bestOf 16 = .ok (.iload_n 1, 1) := by decide +kernel
theorem d_Mo_bestOf_17 : decode b_Mo_bestOf 17 = .ok (.iconst (-1), 1) := by decide +kernel
theorem d_Mo_bestOf_18 : decode b_Mo_bestOf 18 = .ok (.if_icmp .eq 18, 3) := by decide +kernel
theorem d_Mo_bestOf_21 : decode b_Mo_bestOf 21 = .ok (.aload_n 0, 1) := by decide +kernel
theorem d_Mo_bestOf_22 : decode b_Mo_bestOf 22 = .ok (.getfield 55, 3) := by decide +kernel
theorem d_Mo_bestOf_25 : decode b_Mo_bestOf 25 = .ok (.iload_n 2, 1) := by decide +kernel
theorem d_Mo_bestOf_26 : decode b_Mo_bestOf 26 = .ok (.iaload, 1) := by decide +kernel
theorem d_Mo_bestOf_27 : decode b_Mo_bestOf 27 = .ok (.aload_n 0, 1) := by decide +kernel
theorem d_Mo_bestOf_28 : decode b_Mo_bestOf 28 = .ok (.getfield 55, 3) := by decide +kernel
theorem d_Mo_bestOf_31 : decode b_Mo_bestOf 31 = .ok (.iload_n 1, 1) := by decide +kernel
theorem d_Mo_bestOf_32 : decode b_Mo_bestOf 32 = .ok (.iaload, 1) := by decide +kernel
theorem d_Mo_bestOf_33 : decode b_Mo_bestOf 33 = .ok (.if_icmp .le 7, 3) := by decide +kernel
theorem d_Mo_bestOf_36 : decode b_Mo_bestOf 36 = .ok (.iload_n 2, 1) := by decide +kernel
theorem d_Mo_bestOf_37 : decode b_Mo_bestOf 37 = .ok (.goto 4, 3) := by decide +kernel
theorem d_Mo_bestOf_40 : decode b_Mo_bestOf 40 = .ok (.iload_n 1, 1) := by decide +kernel
theorem d_Mo_bestOf_41 : decode b_Mo_bestOf 41 = .ok (.istore_n 1, 1) := by decide +kernel
theorem d_Mo_bestOf_42 : decode b_Mo_bestOf 42 = .ok (.iinc 2 1, 3) := by decide +kernel
theorem d_Mo_bestOf_45 : decode b_Mo_bestOf 45 = .ok (.goto (-37), 3) := by decide +kernel
theorem d_Mo_bestOf_48 : decode b_Mo_bestOf 48 = .ok (.iload_n 1, 1) := by decide +kernel
theorem d_Mo_bestOf_49 : decode b_Mo_bestOf 49 = .ok (.ireturn, 1) := by decide +kernel
theorem d_Mo_best_0 : decode b_Mo_best 0 = .ok (.aload_n 0, 1) := by decide +kernel
theorem d_Mo_best_1 : decode b_Mo_best 1 = .ok (.invokevirtual 261, 3) := by decide +kernel
theorem d_Mo_best_4 : decode b_Mo_best 4 = .ok (.ireturn, 1) := by decide +kernel
theorem d_Mo_wholeOf_0 : decode b_Mo_wholeOf 0 = .ok (.aload_n 0, 1) := by decide +kernel
theorem d_Mo_wholeOf_1 : decode b_Mo_wholeOf 1 = .ok (.invokevirtual 241, 3) := by decide +kernel
theorem d_Mo_wholeOf_4 : decode b_Mo_wholeOf 4 = .ok (.iconst 0, 1) := by decide +kernel
theorem d_Mo_wholeOf_5 : decode b_Mo_wholeOf 5 = .ok (.istore_n 1, 1) := by decide +kernel
theorem d_Mo_wholeOf_6 : decode b_Mo_wholeOf 6 = .ok (.iconst 0, 1) := by decide +kernel
theorem d_Mo_wholeOf_7 : decode b_Mo_wholeOf 7 = .ok (.istore_n 2, 1) := by decide +kernel
theorem d_Mo_wholeOf_8 : decode b_Mo_wholeOf 8 = .ok (.iload_n 2, 1) := by decide +kernel
theorem d_Mo_wholeOf_9 : decode b_Mo_wholeOf 9 = .ok (.aload_n 0, 1) := by decide +kernel
theorem d_Mo_wholeOf_10 : decode b_Mo_wholeOf 10 = .ok (.getfield 127, 3) := by decide +kernel
theorem d_Mo_wholeOf_13 : decode b_Mo_wholeOf 13 = .ok (.if_icmp .ge 28, 3) := by decide +kernel
theorem d_Mo_wholeOf_16 : decode b_Mo_wholeOf 16 = .ok (.iload_n 1, 1) := by decide +kernel
theorem d_Mo_wholeOf_17 : decode b_Mo_wholeOf 17 = .ok (.aload_n 0, 1) := by decide +kernel
theorem d_Mo_wholeOf_18 : decode b_Mo_wholeOf 18 = .ok (.getfield 58, 3) := by decide +kernel
theorem d_Mo_wholeOf_21 : decode b_Mo_wholeOf 21 = .ok (.iload_n 2, 1) := by decide +kernel
theorem d_Mo_wholeOf_22 : decode b_Mo_wholeOf 22 = .ok (.iaload, 1) := by decide +kernel
theorem d_Mo_wholeOf_23 : decode b_Mo_wholeOf 23 = .ok (.ifCond .ne 9, 3) := by decide +kernel
theorem d_Mo_wholeOf_26 : decode b_Mo_wholeOf 26 = .ok (.iconst 1, 1) := by decide +kernel
theorem d_Mo_wholeOf_27 : decode b_Mo_wholeOf 27 = .ok (.iload_n 2, 1) := by decide +kernel
theorem d_Mo_wholeOf_28 : decode b_Mo_wholeOf 28 = .ok (.ishl, 1) := by decide +kernel
theorem d_Mo_wholeOf_29 : decode b_Mo_wholeOf 29 = .ok (.goto 4, 3) := by decide +kernel
theorem d_Mo_wholeOf_32 : decode b_Mo_wholeOf 32 = .ok (.iconst 0, 1) := by decide +kernel
theorem d_Mo_wholeOf_33 : decode b_Mo_wholeOf 33 = .ok (.ior, 1) := by decide +kernel
theorem d_Mo_wholeOf_34 : decode b_Mo_wholeOf 34 = .ok (.istore_n 1, 1) := by decide +kernel
theorem d_Mo_wholeOf_35 : decode b_Mo_wholeOf 35 = .ok (.iinc 2 1, 3) := by decide +kernel
theorem d_Mo_wholeOf_38 : decode b_Mo_wholeOf 38 = .ok (.goto (-30), 3) := by decide +kernel
theorem d_Mo_wholeOf_41 : decode b_Mo_wholeOf 41 = .ok (.iload_n 1, 1) := by decide +kernel
theorem d_Mo_wholeOf_42 : decode b_Mo_wholeOf 42 = .ok (.ireturn, 1) := by decide +kernel
theorem d_Mo_whole_0 : decode b_Mo_whole 0 = .ok (.aload_n 0, 1) := by decide +kernel
theorem d_Mo_whole_1 : decode b_Mo_whole 1 = .ok (.invokevirtual 264, 3) := by decide +kernel
theorem d_Mo_whole_4 : decode b_Mo_whole 4 = .ok (.ireturn, 1) := by decide +kernel
theorem d_Mo_strengthOn_0 : decode b_Mo_strengthOn 0 = .ok (.iconst 0, 1) := by decide +kernel
theorem d_Mo_strengthOn_1 : decode b_Mo_strengthOn 1 = .ok (.istore_n 2, 1) := by decide +kernel
theorem d_Mo_strengthOn_2 : decode b_Mo_strengthOn 2 = .ok (.iconst 0, 1) := by decide +kernel
theorem d_Mo_strengthOn_3 : decode b_Mo_strengthOn 3 = .ok (.istore_n 3, 1) := by decide +kernel
theorem d_Mo_strengthOn_4 : decode b_Mo_strengthOn 4 = .ok (.iload_n 3, 1) := by decide +kernel
theorem d_Mo_strengthOn_5 : decode b_Mo_strengthOn 5 = .ok (.aload_n 0, 1) := by decide +kernel
theorem d_Mo_strengthOn_6 : decode b_Mo_strengthOn 6 = .ok (.getfield 127, 3) := by decide +kernel
theorem d_Mo_strengthOn_9 : decode b_Mo_strengthOn 9 = .ok (.if_icmp .ge 23, 3) := by decide +kernel
theorem d_Mo_strengthOn_12 : decode b_Mo_strengthOn 12 = .ok (.iload_n 2, 1) := by decide +kernel
theorem d_Mo_strengthOn_13 : decode b_Mo_strengthOn 13 = .ok (.aload_n 0, 1) := by decide +kernel
theorem d_Mo_strengthOn_14 : decode b_Mo_strengthOn 14 = .ok (.getfield 64, 3) := by decide +kernel
theorem d_Mo_strengthOn_17 : decode b_Mo_strengthOn 17 = .ok (.bipush 8, 2) := by decide +kernel
theorem d_Mo_strengthOn_19 : decode b_Mo_strengthOn 19 = .ok (.iload_n 1, 1) := by decide +kernel
theorem d_Mo_strengthOn_20 : decode b_Mo_strengthOn 20 = .ok (.imul, 1) := by decide +kernel
theorem d_Mo_strengthOn_21 : decode b_Mo_strengthOn 21 = .ok (.iload_n 3, 1) := by decide +kernel
theorem d_Mo_strengthOn_22 : decode b_Mo_strengthOn 22 = .ok (.iadd, 1) := by decide +kernel
theorem d_Mo_strengthOn_23 : decode b_Mo_strengthOn 23 = .ok (.iaload, 1) := by decide +kernel
theorem d_Mo_strengthOn_24 : decode b_Mo_strengthOn 24 = .ok (.iadd, 1) := by decide +kernel
theorem d_Mo_strengthOn_25 : decode b_Mo_strengthOn 25 = .ok (.istore_n 2, 1) := by decide +kernel
theorem d_Mo_strengthOn_26 : decode b_Mo_strengthOn 26 = .ok (.iinc 3 1, 3) := by decide +kernel
theorem d_Mo_strengthOn_29 : decode b_Mo_strengthOn 29 = .ok (.goto (-25), 3) := by decide +kernel
theorem d_Mo_strengthOn_32 : decode b_Mo_strengthOn 32 = .ok (.iload_n 2, 1) := by decide +kernel
theorem d_Mo_strengthOn_33 : decode b_Mo_strengthOn 33 = .ok (.ireturn, 1) := by decide +kernel
theorem d_Mo_tiredOf_0 : decode b_Mo_tiredOf 0 = .ok (.aload_n 0, 1) := by decide +kernel
theorem d_Mo_tiredOf_1 : decode b_Mo_tiredOf 1 = .ok (.invokevirtual 241, 3) := by decide +kernel
theorem d_Mo_tiredOf_4 : decode b_Mo_tiredOf 4 = .ok (.iconst 0, 1) := by decide +kernel
theorem d_Mo_tiredOf_5 : decode b_Mo_tiredOf 5 = .ok (.istore_n 1, 1) := by decide +kernel
theorem d_Mo_tiredOf_6 : decode b_Mo_tiredOf 6 = .ok (.iconst 1, 1) := by decide +kernel
theorem d_Mo_tiredOf_7 : decode b_Mo_tiredOf 7 = .ok (.istore_n 2, 1) := by decide +kernel
theorem d_Mo_tiredOf_8 : decode b_Mo_tiredOf 8 = .ok (.iload_n 2, 1) := by decide +kernel
theorem d_Mo_tiredOf_9 : decode b_Mo_tiredOf 9 = .ok (.bipush 24, 2) := by decide +kernel
theorem d_Mo_tiredOf_11 : decode b_Mo_tiredOf 11 = .ok (.if_icmp .ge 28, 3) := by decide +kernel
theorem d_Mo_tiredOf_14 : decode b_Mo_tiredOf 14 = .ok (.aload_n 0, 1) := by decide +kernel
theorem d_Mo_tiredOf_15 : decode b_Mo_tiredOf 15 = .ok (.iload_n 2, 1) := by decide +kernel
theorem d_Mo_tiredOf_16 : decode b_Mo_tiredOf 16 = .ok (.invokevirtual 267, 3) := by decide +kernel
theorem d_Mo_tiredOf_19 : decode b_Mo_tiredOf 19 = .ok (.aload_n 0, 1) := by decide +kernel
theorem d_Mo_tiredOf_20 : decode b_Mo_tiredOf 20 = .ok (.iload_n 1, 1) := by decide +kernel
theorem d_Mo_tiredOf_21 : decode b_Mo_tiredOf 21 = .ok (.invokevirtual 267, 3) := by decide +kernel
theorem d_Mo_tiredOf_24 : decode b_Mo_tiredOf 24 = .ok (.if_icmp .ge 7, 3) := by decide +kernel
theorem d_Mo_tiredOf_27 : decode b_Mo_tiredOf 27 = .ok (.iload_n 2, 1) := by decide +kernel
theorem d_Mo_tiredOf_28 : decode b_Mo_tiredOf 28 = .ok (.goto 4, 3) := by decide +kernel
theorem d_Mo_tiredOf_31 : decode b_Mo_tiredOf 31 = .ok (.iload_n 1, 1) := by decide +kernel
theorem d_Mo_tiredOf_32 : decode b_Mo_tiredOf 32 = .ok (.istore_n 1, 1) := by decide +kernel
theorem d_Mo_tiredOf_33 : decode b_Mo_tiredOf 33 = .ok (.iinc 2 1, 3) := by decide +kernel
theorem d_Mo_tiredOf_36 : decode b_Mo_tiredOf 36 = .ok (.goto (-28), 3) := by decide +kernel
theorem d_Mo_tiredOf_39 : decode b_Mo_tiredOf 39 = .ok (.iload_n 1, 1) := by decide +kernel
theorem d_Mo_tiredOf_40 : decode b_Mo_tiredOf 40 = .ok (.ireturn, 1) := by decide +kernel
theorem d_Mo_tired_0 : decode b_Mo_tired 0 = .ok (.aload_n 0, 1) := by decide +kernel
theorem d_Mo_tired_1 : decode b_Mo_tired 1 = .ok (.invokevirtual 270, 3) := by decide +kernel
theorem d_Mo_tired_4 : decode b_Mo_tired 4 = .ok (.ireturn, 1) := by decide +kernel
theorem d_Mo_lastOf_0 : decode b_Mo_lastOf 0 = .ok (.aload_n 0, 1) := by decide +kernel
theorem d_Mo_lastOf_1 : decode b_Mo_lastOf 1 = .ok (.invokevirtual 235, 3) := by decide +kernel
theorem d_Mo_lastOf_4 : decode b_Mo_lastOf 4 = .ok (.iconst 1, 1) := by decide +kernel
theorem d_Mo_lastOf_5 : decode b_Mo_lastOf 5 = .ok (.istore_n 3, 1) := by decide +kernel
theorem d_Mo_lastOf_6 : decode b_Mo_lastOf 6 = .ok (.iload_n 3, 1) := by decide +kernel
theorem d_Mo_lastOf_7 : decode b_Mo_lastOf 7 = .ok (.bipush 10, 2) := by decide +kernel
theorem d_Mo_lastOf_9 : decode b_Mo_lastOf 9 = .ok (.if_icmp .ge 63, 3) := by decide +kernel
theorem d_Mo_lastOf_12 : decode b_Mo_lastOf 12 = .ok (.aload_n 0, 1) := by decide +kernel
theorem d_Mo_lastOf_13 : decode b_Mo_lastOf 13 = .ok (.getfield 37, 3) := by decide +kernel
theorem d_Mo_lastOf_16 : decode b_Mo_lastOf 16 = .ok (.aload_n 0, 1) := by decide +kernel
theorem d_Mo_lastOf_17 : decode b_Mo_lastOf 17 = .ok (.getfield 171, 3) := by decide +kernel
theorem d_Mo_lastOf_20 : decode b_Mo_lastOf 20 = .ok (.iload_n 3, 1) := by decide +kernel
theorem d_Mo_lastOf_21 : decode b_Mo_lastOf 21 = .ok (.iadd, 1) := by decide +kernel
theorem d_Mo_lastOf_22 : decode b_Mo_lastOf 22 = .ok (.iconst 1, 1) := by decide +kernel
theorem d_Mo_lastOf_23 : decode b_Mo_lastOf 23 = .ok (.isub, 1) := by decide +kernel
theorem d_Mo_lastOf_24 : decode b_Mo_lastOf 24 = .ok (.iload_n 2, 1) := by decide +kernel
theorem d_Mo_lastOf_25 : decode b_Mo_lastOf 25 = .ok (.iastore, 1) := by decide +kernel
theorem d_Mo_lastOf_26 : decode b_Mo_lastOf 26 = .ok (.aload_n 0, 1) := by decide +kernel
theorem d_Mo_lastOf_27 : decode b_Mo_lastOf 27 = .ok (.getfield 40, 3) := by decide +kernel
theorem d_Mo_lastOf_30 : decode b_Mo_lastOf 30 = .ok (.aload_n 0, 1) := by decide +kernel
theorem d_Mo_lastOf_31 : decode b_Mo_lastOf 31 = .ok (.getfield 171, 3) := by decide +kernel
theorem d_Mo_lastOf_34 : decode b_Mo_lastOf 34 = .ok (.iload_n 3, 1) := by decide +kernel
theorem d_Mo_lastOf_35 : decode b_Mo_lastOf 35 = .ok (.iadd, 1) := by decide +kernel
theorem d_Mo_lastOf_36 : decode b_Mo_lastOf 36 = .ok (.iconst 1, 1) := by decide +kernel
theorem d_Mo_lastOf_37 : decode b_Mo_lastOf 37 = .ok (.isub, 1) := by decide +kernel
theorem d_Mo_lastOf_38 : decode b_Mo_lastOf 38 = .ok (.iload_n 1, 1) := by decide +kernel
theorem d_Mo_lastOf_39 : decode b_Mo_lastOf 39 = .ok (.iastore, 1) := by decide +kernel
theorem d_Mo_lastOf_40 : decode b_Mo_lastOf 40 = .ok (.aload_n 0, 1) := by decide +kernel
theorem d_Mo_lastOf_41 : decode b_Mo_lastOf 41 = .ok (.aload_n 0, 1) := by decide +kernel
theorem d_Mo_lastOf_42 : decode b_Mo_lastOf 42 = .ok (.getfield 171, 3) := by decide +kernel
theorem d_Mo_lastOf_45 : decode b_Mo_lastOf 45 = .ok (.iload_n 3, 1) := by decide +kernel
theorem d_Mo_lastOf_46 : decode b_Mo_lastOf 46 = .ok (.iadd, 1) := by decide +kernel
theorem d_Mo_lastOf_47 : decode b_Mo_lastOf 47 = .ok (.putfield 183, 3) := by decide +kernel
theorem d_Mo_lastOf_50 : decode b_Mo_lastOf 50 = .ok (.aload_n 0, 1) := by decide +kernel
theorem d_Mo_lastOf_51 : decode b_Mo_lastOf 51 = .ok (.invokevirtual 238, 3) := by decide +kernel
theorem d_Mo_lastOf_54 : decode b_Mo_lastOf 54 = .ok (.aload_n 0, 1) := by decide +kernel
theorem d_Mo_lastOf_55 : decode b_Mo_lastOf 55 = .ok (.getfield 79, 3) := by decide +kernel
theorem d_Mo_lastOf_58 : decode b_Mo_lastOf 58 = .ok (.iload_n 2, 1) := by decide +kernel
theorem d_Mo_lastOf_59 : decode b_Mo_lastOf 59 = .ok (.iaload, 1) := by decide +kernel
theorem d_Mo_lastOf_60 : decode b_Mo_lastOf 60 = .ok (.iconst 1, 1) := by decide +kernel
theorem d_Mo_lastOf_61 : decode b_Mo_lastOf 61 = .ok (.if_icmp .ne 5, 3) := by decide +kernel
theorem d_Mo_lastOf_64 : decode b_Mo_lastOf 64 = .ok (.iload_n 3, 1) := by decide +kernel
theorem d_Mo_lastOf_65 : decode b_Mo_lastOf 65 = .ok (.ireturn, 1) := by decide +kernel
theorem d_Mo_lastOf_66 : decode b_Mo_lastOf 66 = .ok (.iinc 3 1, 3) := by decide +kernel
theorem d_Mo_lastOf_69 : decode b_Mo_lastOf 69 = .ok (.goto (-63), 3) := by decide +kernel
theorem d_Mo_lastOf_72 : decode b_Mo_lastOf 72 = .ok (.iconst (-1), 1) := by decide +kernel
theorem d_Mo_lastOf_73 : decode b_Mo_lastOf 73 = .ok (.ireturn, 1) := by decide +kernel
theorem d_Mo_last_0 : decode b_Mo_last 0 = .ok (.aload_n 0, 1) := by decide +kernel
theorem d_Mo_last_1 : decode b_Mo_last 1 = .ok (.iload_n 1, 1) := by decide +kernel
theorem d_Mo_last_2 : decode b_Mo_last 2 = .ok (.invokevirtual 150, 3) := by decide +kernel
theorem d_Mo_last_5 : decode b_Mo_last 5 = .ok (.ifCond .eq 19, 3) := by decide +kernel
theorem d_Mo_last_8 : decode b_Mo_last 8 = .ok (.iload_n 2, 1) := by decide +kernel
theorem d_Mo_last_9 : decode b_Mo_last 9 = .ok (.invokestatic 165, 3) := by decide +kernel
theorem d_Mo_last_12 : decode b_Mo_last 12 = .ok (.ifCond .eq 12, 3) := by decide +kernel
theorem d_Mo_last_15 : decode b_Mo_last 15 = .ok (.aload_n 0, 1) := by decide +kernel
theorem d_Mo_last_16 : decode b_Mo_last 16 = .ok (.iload_n 1, 1) := by decide +kernel
theorem d_Mo_last_17 : decode b_Mo_last 17 = .ok (.iload_n 2, 1) := by decide +kernel
theorem d_Mo_last_18 : decode b_Mo_last 18 = .ok (.invokevirtual 273, 3) := by decide +kernel
theorem d_Mo_last_21 : decode b_Mo_last 21 = .ok (.goto 5, 3) := by decide +kernel
theorem d_Mo_last_24 : decode b_Mo_last 24 = .ok (.bipush (-2), 2) := by decide +kernel
theorem d_Mo_last_26 : decode b_Mo_last 26 = .ok (.ireturn, 1) := by decide +kernel
theorem d_Mo_bearOf_0 : decode b_Mo_bearOf 0 = .ok (.aload_n 0, 1) := by decide +kernel
theorem d_Mo_bearOf_1 : decode b_Mo_bearOf 1 = .ok (.invokevirtual 235, 3) := by decide +kernel
theorem d_Mo_bearOf_4 : decode b_Mo_bearOf 4 = .ok (.aload_n 0, 1) := by decide +kernel
theorem d_Mo_bearOf_5 : decode b_Mo_bearOf 5 = .ok (.getfield 22, 3) := by decide +kernel
theorem d_Mo_bearOf_8 : decode b_Mo_bearOf 8 = .ok (.iload_n 1, 1) := by decide +kernel
theorem d_Mo_bearOf_9 : decode b_Mo_bearOf 9 = .ok (.iaload, 1) := by decide +kernel
theorem d_Mo_bearOf_10 : decode b_Mo_bearOf 10 = .ok (.istore_n 3, 1) := by decide +kernel
theorem d_Mo_bearOf_11 : decode b_Mo_bearOf 11 = .ok (.iconst (-1), 1) := by decide +kernel
theorem d_Mo_bearOf_12 : decode b_Mo_bearOf 12 = .ok (.istore 4, 2) := by decide +kernel
theorem d_Mo_bearOf_14 : decode b_Mo_bearOf 14 = .ok (.iconst (-1), 1) := by decide +kernel
theorem d_Mo_bearOf_15 : decode b_Mo_bearOf 15 = .ok (.istore 5, 2) := by decide +kernel
theorem d_Mo_bearOf_17 : decode b_Mo_bearOf 17 = .ok (.iconst 0, 1) := by decide +kernel
theorem d_Mo_bearOf_18 : decode b_Mo_bearOf 18 = .ok (.istore 6, 2) := by decide +kernel
theorem d_Mo_bearOf_20 : decode b_Mo_bearOf 20 = .ok (.iload 6, 2) := by decide +kernel
theorem d_Mo_bearOf_22 : decode b_Mo_bearOf 22 = .ok (.bipush 8, 2) := by decide +kernel
theorem d_Mo_bearOf_24 : decode b_Mo_bearOf 24 = .ok (.if_icmp .ge 59, 3) := by decide +kernel
theorem d_Mo_bearOf_27 : decode b_Mo_bearOf 27 = .ok (.aload_n 0, 1) := by decide +kernel
theorem d_Mo_bearOf_28 : decode b_Mo_bearOf 28 = .ok (.getfield 22, 3) := by decide +kernel
theorem d_Mo_bearOf_31 : decode b_Mo_bearOf 31 = .ok (.iload_n 1, 1) := by decide +kernel
theorem d_Mo_bearOf_32 : decode b_Mo_bearOf 32 = .ok (.iload 6, 2) := by decide +kernel
theorem d_Mo_bearOf_34 : decode b_Mo_bearOf 34 = .ok (.iastore, 1) := by decide +kernel
theorem d_Mo_bearOf_35 : decode b_Mo_bearOf 35 = .ok (.aload_n 0, 1) := by decide +kernel
theorem d_Mo_bearOf_36 : decode b_Mo_bearOf 36 = .ok (.invokevirtual 238, 3) := by decide +kernel
theorem d_Mo_bearOf_39 : decode b_Mo_bearOf 39 = .ok (.aload_n 0, 1) := by decide +kernel
theorem d_Mo_bearOf_40 : decode b_Mo_bearOf 40 = .ok (.invokevirtual 248, 3) := by decide +kernel
theorem d_Mo_bearOf_43 : decode b_Mo_bearOf 43 = .ok (.istore 7, 2) := by decide +kernel
theorem d_Mo_bearOf_45 : decode b_Mo_bearOf 45 = .ok (.iload 7, 2) := by decide +kernel
theorem d_Mo_bearOf_47 : decode b_Mo_bearOf 47 = .ok (.iload 5, 2) := by decide +kernel
theorem d_Mo_bearOf_49 : decode b_Mo_bearOf 49 = .ok (.if_icmp .le 8, 3) := by decide +kernel
theorem d_Mo_bearOf_52 : decode b_Mo_bearOf 52 = .ok (.iload 6, 2) := by decide +kernel
theorem d_Mo_bearOf_54 : decode b_Mo_bearOf 54 = .ok (.goto 5, 3) := by decide +kernel
theorem d_Mo_bearOf_57 : decode b_Mo_bearOf 57 = .ok (.iload 4, 2) := by decide +kernel
theorem d_Mo_bearOf_59 : decode b_Mo_bearOf 59 = .ok (.istore 4, 2) := by decide +kernel
theorem d_Mo_bearOf_61 : decode b_Mo_bearOf 61 = .ok (.iload 7, 2) := by decide +kernel
theorem d_Mo_bearOf_63 : decode b_Mo_bearOf 63 = .ok (.iload 5, 2) := by decide +kernel
theorem d_Mo_bearOf_65 : decode b_Mo_bearOf 65 = .ok (.if_icmp .le 8, 3) := by decide +kernel
theorem d_Mo_bearOf_68 : decode b_Mo_bearOf 68 = .ok (.iload 7, 2) := by decide +kernel
theorem d_Mo_bearOf_70 : decode b_Mo_bearOf 70 = .ok (.goto 5, 3) := by decide +kernel
theorem d_Mo_bearOf_73 : decode b_Mo_bearOf 73 = .ok (.iload 5, 2) := by decide +kernel
theorem d_Mo_bearOf_75 : decode b_Mo_bearOf 75 = .ok (.istore 5, 2) := by decide +kernel
theorem d_Mo_bearOf_77 : decode b_Mo_bearOf 77 = .ok (.iinc 6 1, 3) := by decide +kernel
theorem d_Mo_bearOf_80 : decode b_Mo_bearOf 80 = .ok (.goto (-60), 3) := by decide +kernel
theorem d_Mo_bearOf_83 : decode b_Mo_bearOf 83 = .ok (.aload_n 0, 1) := by decide +kernel
theorem d_Mo_bearOf_84 : decode b_Mo_bearOf 84 = .ok (.getfield 22, 3) := by decide +kernel
theorem d_Mo_bearOf_87 : decode b_Mo_bearOf 87 = .ok (.iload_n 1, 1) := by decide +kernel
theorem d_Mo_bearOf_88 : decode b_Mo_bearOf 88 = .ok (.iload_n 3, 1) := by decide +kernel
theorem d_Mo_bearOf_89 : decode b_Mo_bearOf 89 = .ok (.iastore, 1) := by decide +kernel
theorem d_Mo_bearOf_90 : decode b_Mo_bearOf 90 = .ok (.iload_n 2, 1) := by decide +kernel
theorem d_Mo_bearOf_91 : decode b_Mo_bearOf 91 = .ok (.ifCond .ne 8, 3) := by decide +kernel
theorem d_Mo_bearOf_94 : decode b_Mo_bearOf 94 = .ok (.iload 4, 2) := by decide +kernel
theorem d_Mo_bearOf_96 : decode b_Mo_bearOf 96 = .ok (.goto 5, 3) := by decide +kernel
theorem d_Mo_bearOf_99 : decode b_Mo_bearOf 99 = .ok (.iload 5, 2) := by decide +kernel
theorem d_Mo_bearOf_101 : decode b_Mo_bearOf 101 = .ok (.ireturn, 1) := by decide +kernel
theorem d_Mo_bear_0 : decode b_Mo_bear 0 = .ok (.aload_n 0, 1) := by decide +kernel
theorem d_Mo_bear_1 : decode b_Mo_bear 1 = .ok (.iload_n 1, 1) := by decide +kernel
theorem d_Mo_bear_2 : decode b_Mo_bear 2 = .ok (.invokevirtual 159, 3) := by decide +kernel
theorem d_Mo_bear_5 : decode b_Mo_bear 5 = .ok (.ifCond .eq 19, 3) := by decide +kernel
theorem d_Mo_bear_8 : decode b_Mo_bear 8 = .ok (.iload_n 2, 1) := by decide +kernel
theorem d_Mo_bear_9 : decode b_Mo_bear 9 = .ok (.invokestatic 153, 3) := by decide +kernel
theorem d_Mo_bear_12 : decode b_Mo_bear 12 = .ok (.ifCond .eq 12, 3) := by decide +kernel
theorem d_Mo_bear_15 : decode b_Mo_bear 15 = .ok (.aload_n 0, 1) := by decide +kernel
theorem d_Mo_bear_16 : decode b_Mo_bear 16 = .ok (.iload_n 1, 1) := by decide +kernel
theorem d_Mo_bear_17 : decode b_Mo_bear 17 = .ok (.iload_n 2, 1) := by decide +kernel
theorem d_Mo_bear_18 : decode b_Mo_bear 18 = .ok (.invokevirtual 276, 3) := by decide +kernel
theorem d_Mo_bear_21 : decode b_Mo_bear 21 = .ok (.goto 5, 3) := by decide +kernel
theorem d_Mo_bear_24 : decode b_Mo_bear 24 = .ok (.bipush (-2), 2) := by decide +kernel
theorem d_Mo_bear_26 : decode b_Mo_bear 26 = .ok (.ireturn, 1) := by decide +kernel
theorem d_Mo_whenOf_0 : decode b_Mo_whenOf 0 = .ok (.aload_n 0, 1) := by decide +kernel
theorem d_Mo_whenOf_1 : decode b_Mo_whenOf 1 = .ok (.invokevirtual 235, 3) := by decide +kernel
theorem d_Mo_whenOf_4 : decode b_Mo_whenOf 4 = .ok (.aload_n 0, 1) := by decide +kernel
theorem d_Mo_whenOf_5 : decode b_Mo_whenOf 5 = .ok (.getfield 28, 3) := by decide +kernel
theorem d_Mo_whenOf_8 : decode b_Mo_whenOf 8 = .ok (.iload_n 1, 1) := by decide +kernel
theorem d_Mo_whenOf_9 : decode b_Mo_whenOf 9 = .ok (.iaload, 1) := by decide +kernel
theorem d_Mo_whenOf_10 : decode b_Mo_whenOf 10 = .ok (.istore_n 3, 1) := by decide +kernel
theorem d_Mo_whenOf_11 : decode b_Mo_whenOf 11 = .ok (.iconst (-1), 1) := by decide +kernel
theorem d_Mo_whenOf_12 : decode b_Mo_whenOf 12 = .ok (.istore 4, 2) := by decide +kernel
theorem d_Mo_whenOf_14 : decode b_Mo_whenOf 14 = .ok (.iconst (-1), 1) := by decide +kernel
theorem d_Mo_whenOf_15 : decode b_Mo_whenOf 15 = .ok (.istore 5, 2) := by decide +kernel
theorem d_Mo_whenOf_17 : decode b_Mo_whenOf 17 = .ok (.iconst 0, 1) := by decide +kernel
theorem d_Mo_whenOf_18 : decode b_Mo_whenOf 18 = .ok (.istore 6, 2) := by decide +kernel
theorem d_Mo_whenOf_20 : decode b_Mo_whenOf 20 = .ok (.iload 6, 2) := by decide +kernel
theorem d_Mo_whenOf_22 : decode b_Mo_whenOf 22 = .ok (.bipush 24, 2) := by decide +kernel
theorem d_Mo_whenOf_24 : decode b_Mo_whenOf 24 = .ok (.if_icmp .ge 59, 3) := by decide +kernel
theorem d_Mo_whenOf_27 : decode b_Mo_whenOf 27 = .ok (.aload_n 0, 1) := by decide +kernel
theorem d_Mo_whenOf_28 : decode b_Mo_whenOf 28 = .ok (.getfield 28, 3) := by decide +kernel
theorem d_Mo_whenOf_31 : decode b_Mo_whenOf 31 = .ok (.iload_n 1, 1) := by decide +kernel
theorem d_Mo_whenOf_32 : decode b_Mo_whenOf 32 = .ok (.iload 6, 2) := by decide +kernel
theorem d_Mo_whenOf_34 : decode b_Mo_whenOf 34 = .ok (.iastore, 1) := by decide +kernel
theorem d_Mo_whenOf_35 : decode b_Mo_whenOf 35 = .ok (.aload_n 0, 1) := by decide +kernel
theorem d_Mo_whenOf_36 : decode b_Mo_whenOf 36 = .ok (.invokevirtual 238, 3) := by decide +kernel
theorem d_Mo_whenOf_39 : decode b_Mo_whenOf 39 = .ok (.aload_n 0, 1) := by decide +kernel
theorem d_Mo_whenOf_40 : decode b_Mo_whenOf 40 = .ok (.invokevirtual 248, 3) := by decide +kernel
theorem d_Mo_whenOf_43 : decode b_Mo_whenOf 43 = .ok (.istore 7, 2) := by decide +kernel
theorem d_Mo_whenOf_45 : decode b_Mo_whenOf 45 = .ok (.iload 7, 2) := by decide +kernel
theorem d_Mo_whenOf_47 : decode b_Mo_whenOf 47 = .ok (.iload 5, 2) := by decide +kernel
theorem d_Mo_whenOf_49 : decode b_Mo_whenOf 49 = .ok (.if_icmp .le 8, 3) := by decide +kernel
theorem d_Mo_whenOf_52 : decode b_Mo_whenOf 52 = .ok (.iload 6, 2) := by decide +kernel
theorem d_Mo_whenOf_54 : decode b_Mo_whenOf 54 = .ok (.goto 5, 3) := by decide +kernel
theorem d_Mo_whenOf_57 : decode b_Mo_whenOf 57 = .ok (.iload 4, 2) := by decide +kernel
theorem d_Mo_whenOf_59 : decode b_Mo_whenOf 59 = .ok (.istore 4, 2) := by decide +kernel
theorem d_Mo_whenOf_61 : decode b_Mo_whenOf 61 = .ok (.iload 7, 2) := by decide +kernel
theorem d_Mo_whenOf_63 : decode b_Mo_whenOf 63 = .ok (.iload 5, 2) := by decide +kernel
theorem d_Mo_whenOf_65 : decode b_Mo_whenOf 65 = .ok (.if_icmp .le 8, 3) := by decide +kernel
theorem d_Mo_whenOf_68 : decode b_Mo_whenOf 68 = .ok (.iload 7, 2) := by decide +kernel
theorem d_Mo_whenOf_70 : decode b_Mo_whenOf 70 = .ok (.goto 5, 3) := by decide +kernel
theorem d_Mo_whenOf_73 : decode b_Mo_whenOf 73 = .ok (.iload 5, 2) := by decide +kernel
theorem d_Mo_whenOf_75 : decode b_Mo_whenOf 75 = .ok (.istore 5, 2) := by decide +kernel
theorem d_Mo_whenOf_77 : decode b_Mo_whenOf 77 = .ok (.iinc 6 1, 3) := by decide +kernel
theorem d_Mo_whenOf_80 : decode b_Mo_whenOf 80 = .ok (.goto (-60), 3) := by decide +kernel
theorem d_Mo_whenOf_83 : decode b_Mo_whenOf 83 = .ok (.aload_n 0, 1) := by decide +kernel
theorem d_Mo_whenOf_84 : decode b_Mo_whenOf 84 = .ok (.getfield 28, 3) := by decide +kernel
theorem d_Mo_whenOf_87 : decode b_Mo_whenOf 87 = .ok (.iload_n 1, 1) := by decide +kernel
theorem d_Mo_whenOf_88 : decode b_Mo_whenOf 88 = .ok (.iload_n 3, 1) := by decide +kernel
theorem d_Mo_whenOf_89 : decode b_Mo_whenOf 89 = .ok (.iastore, 1) := by decide +kernel
theorem d_Mo_whenOf_90 : decode b_Mo_whenOf 90 = .ok (.iload_n 2, 1) := by decide +kernel
theorem d_Mo_whenOf_91 : decode b_Mo_whenOf 91 = .ok (.ifCond .ne 8, 3) := by decide +kernel
theorem d_Mo_whenOf_94 : decode b_Mo_whenOf 94 = .ok (.iload 4, 2) := by decide +kernel
theorem d_Mo_whenOf_96 : decode b_Mo_whenOf 96 = .ok (.goto 5, 3) := by decide +kernel
theorem d_Mo_whenOf_99 : decode b_Mo_whenOf 99 = .ok (.iload 5, 2) := by decide +kernel
theorem d_Mo_whenOf_101 : decode b_Mo_whenOf 101 = .ok (.ireturn, 1) := by decide +kernel
theorem d_Mo_when_0 : decode b_Mo_when 0 = .ok (.aload_n 0, 1) := by decide +kernel
theorem d_Mo_when_1 : decode b_Mo_when 1 = .ok (.iload_n 1, 1) := by decide +kernel
theorem d_Mo_when_2 : decode b_Mo_when 2 = .ok (.invokevirtual 159, 3) := by decide +kernel
theorem d_Mo_when_5 : decode b_Mo_when 5 = .ok (.ifCond .eq 19, 3) := by decide +kernel
theorem d_Mo_when_8 : decode b_Mo_when 8 = .ok (.iload_n 2, 1) := by decide +kernel
theorem d_Mo_when_9 : decode b_Mo_when 9 = .ok (.invokestatic 153, 3) := by decide +kernel
theorem d_Mo_when_12 : decode b_Mo_when 12 = .ok (.ifCond .eq 12, 3) := by decide +kernel
theorem d_Mo_when_15 : decode b_Mo_when 15 = .ok (.aload_n 0, 1) := by decide +kernel
theorem d_Mo_when_16 : decode b_Mo_when 16 = .ok (.iload_n 1, 1) := by decide +kernel
theorem d_Mo_when_17 : decode b_Mo_when 17 = .ok (.iload_n 2, 1) := by decide +kernel
theorem d_Mo_when_18 : decode b_Mo_when 18 = .ok (.invokevirtual 279, 3) := by decide +kernel
theorem d_Mo_when_21 : decode b_Mo_when 21 = .ok (.goto 5, 3) := by decide +kernel
theorem d_Mo_when_24 : decode b_Mo_when 24 = .ok (.bipush (-2), 2) := by decide +kernel
theorem d_Mo_when_26 : decode b_Mo_when 26 = .ok (.ireturn, 1) := by decide +kernel
theorem d_Mo_brokeAll_0 : decode b_Mo_brokeAll 0 = .ok (.iconst 0, 1) := by decide +kernel
theorem d_Mo_brokeAll_1 : decode b_Mo_brokeAll 1 = .ok (.istore_n 1, 1) := by decide +kernel
theorem d_Mo_brokeAll_2 : decode b_Mo_brokeAll 2 = .ok (.iconst 0, 1) := by decide +kernel
theorem d_Mo_brokeAll_3 : decode b_Mo_brokeAll 3 = .ok (.istore_n 2, 1) := by decide +kernel
theorem d_Mo_brokeAll_4 : decode b_Mo_brokeAll 4 = .ok (.iload_n 2, 1) := by decide +kernel
theorem d_Mo_brokeAll_5 : decode b_Mo_brokeAll 5 = .ok (.aload_n 0, 1) := by decide +kernel
theorem d_Mo_brokeAll_6 : decode b_Mo_brokeAll 6 = .ok (.getfield 127, 3) := by decide +kernel
theorem d_Mo_brokeAll_9 : decode b_Mo_brokeAll 9 = .ok (.if_icmp .ge 18, 3) := by decide +kernel
theorem d_Mo_brokeAll_12 : decode b_Mo_brokeAll 12 = .ok (.iload_n 1, 1) := by decide +kernel
theorem d_Mo_brokeAll_13 : decode b_Mo_brokeAll 13 = .ok (.aload_n 0, 1) := by decide +kernel
theorem d_Mo_brokeAll_14 : decode b_Mo_brokeAll 14 = .ok (.getfield 58, 3) := by decide +kernel
theorem d_Mo_brokeAll_17 : decode b_Mo_brokeAll 17 = .ok (.iload_n 2, 1) := by decide +kernel
theorem d_Mo_brokeAll_18 : decode b_Mo_brokeAll 18 = .ok (.iaload, 1) := by decide +kernel
theorem d_Mo_brokeAll_19 : decode b_Mo_brokeAll 19 = .ok (.iadd, 1) := by decide +kernel
theorem d_Mo_brokeAll_20 : decode b_Mo_brokeAll 20 = .ok (.istore_n 1, 1) := by decide +kernel
theorem d_Mo_brokeAll_21 : decode b_Mo_brokeAll 21 = .ok (.iinc 2 1, 3) := by decide +kernel
theorem d_Mo_brokeAll_24 : decode b_Mo_brokeAll 24 = .ok (.goto (-20), 3) := by decide +kernel
theorem d_Mo_brokeAll_27 : decode b_Mo_brokeAll 27 = .ok (.iload_n 1, 1) := by decide +kernel
theorem d_Mo_brokeAll_28 : decode b_Mo_brokeAll 28 = .ok (.ireturn, 1) := by decide +kernel
theorem d_Mo_isSpared_0 : decode b_Mo_isSpared 0 = .ok (.aload_n 0, 1) := by decide +kernel
theorem d_Mo_isSpared_1 : decode b_Mo_isSpared 1 = .ok (.iload_n 1, 1) := by decide +kernel
theorem d_Mo_isSpared_2 : decode b_Mo_isSpared 2 = .ok (.putfield 186, 3) := by decide +kernel
theorem d_Mo_isSpared_5 : decode b_Mo_isSpared 5 = .ok (.aload_n 0, 1) := by decide +kernel
theorem d_Mo_isSpared_6 : decode b_Mo_isSpared 6 = .ok (.invokevirtual 238, 3) := by decide +kernel
theorem d_Mo_isSpared_9 : decode b_Mo_isSpared 9 = .ok (.aload_n 0, 1) := by decide +kernel
theorem d_Mo_isSpared_10 : decode b_Mo_isSpared 10 = .ok (.invokevirtual 282, 3) := by decide +kernel
theorem d_Mo_isSpared_13 : decode b_Mo_isSpared 13 = .ok (.ifCond .ne 7, 3) := by decide +kernel
theorem d_Mo_isSpared_16 : decode b_Mo_isSpared 16 = .ok (.iconst 1, 1) := by decide +kernel
theorem d_Mo_isSpared_17 : decode b_Mo_isSpared 17 = .ok (.goto 4, 3) := by decide +kernel
theorem d_Mo_isSpared_20 : decode b_Mo_isSpared 20 = .ok (.iconst 0, 1) := by decide +kernel
theorem d_Mo_isSpared_21 : decode b_Mo_isSpared 21 = .ok (.ireturn, 1) := by decide +kernel
theorem d_Mo_spareBy_0 : decode b_Mo_spareBy 0 = .ok (.aload_n 0, 1) := by decide +kernel
theorem d_Mo_spareBy_1 : decode b_Mo_spareBy 1 = .ok (.invokevirtual 235, 3) := by decide +kernel
theorem d_Mo_spareBy_4 : decode b_Mo_spareBy 4 = .ok (.aload_n 0, 1) := by decide +kernel
theorem d_Mo_spareBy_5 : decode b_Mo_spareBy 5 = .ok (.iconst 0, 1) := by decide +kernel
theorem d_Mo_spareBy_6 : decode b_Mo_spareBy 6 = .ok (.invokevirtual 285, 3) := by decide +kernel
theorem d_Mo_spareBy_9 : decode b_Mo_spareBy 9 = .ok (.ifCond .eq 5, 3) := by decide +kernel
theorem d_Mo_spareBy_12 : decode b_Mo_spareBy 12 = .ok (.iconst 0, 1) := by decide +kernel
theorem d_Mo_spareBy_13 : decode b_Mo_spareBy 13 = .ok (.ireturn, 1) := by decide +kernel
theorem d_Mo_spareBy_14 : decode b_Mo_spareBy 14 = .ok (.iconst 0, 1) := by decide +kernel
theorem d_Mo_spareBy_15 : decode b_Mo_spareBy 15 = .ok (.istore_n 1, 1) := by decide +kernel
theorem d_Mo_spareBy_16 : decode b_Mo_spareBy 16 = .ok (.iload_n 1, 1) := by decide +kernel
theorem d_Mo_spareBy_17 : decode b_Mo_spareBy 17 = .ok (.aload_n 0, 1) := by decide +kernel
theorem d_Mo_spareBy_18 : decode b_Mo_spareBy 18 = .ok (.getfield 171, 3) := by decide +kernel
theorem d_Mo_spareBy_21 : decode b_Mo_spareBy 21 = .ok (.if_icmp .ge 28, 3) := by decide +kernel
theorem d_Mo_spareBy_24 : decode b_Mo_spareBy 24 = .ok (.aload_n 0, 1) := by decide +kernel
theorem d_Mo_spareBy_25 : decode b_Mo_spareBy 25 = .ok (.getfield 82, 3) := by decide +kernel
theorem d_Mo_spareBy_28 : decode b_Mo_spareBy 28 = .ok (.iconst 0, 1) := by decide +kernel
theorem d_Mo_spareBy_29 : decode b_Mo_spareBy 29 = .ok (.iload_n 1, 1) := by decide +kernel
theorem d_Mo_spareBy_30 : decode b_Mo_spareBy 30 = .ok (.iastore, 1) := by decide +kernel
theorem d_Mo_spareBy_31 : decode b_Mo_spareBy 31 = .ok (.aload_n 0, 1) := by decide +kernel
theorem d_Mo_spareBy_32 : decode b_Mo_spareBy 32 = .ok (.iconst 1, 1) := by decide +kernel
theorem d_Mo_spareBy_33 : decode b_Mo_spareBy 33 = .ok (.iload_n 1, 1) := by decide +kernel
theorem d_Mo_spareBy_34 : decode b_Mo_spareBy 34 = .ok (.ishl, 1) := by decide +kernel
theorem d_Mo_spareBy_35 : decode b_Mo_spareBy 35 = .ok (.invokevirtual 285, 3) := by decide +kernel
theorem d_Mo_spareBy_38 : decode b_Mo_spareBy 38 = .ok (.ifCond .eq 5, 3) := by decide +kernel
theorem d_Mo_spareBy_41 : decode b_Mo_spareBy 41 = .ok (.iconst 1, 1) := by decide +kernel
theorem d_Mo_spareBy_42 : decode b_Mo_spareBy 42 = .ok (.ireturn, 1) := by decide +kernel
theorem d_Mo_spareBy_43 : decode b_Mo_spareBy 43 = .ok (.iinc 1 1, 3) := by decide +kernel
theorem d_Mo_spareBy_46 : decode b_Mo_spareBy 46 = .ok (.goto (-30), 3) := by decide +kernel
theorem d_Mo_spareBy_49 : decode b_Mo_spareBy 49 = .ok (.iconst 0, 1) := by decide +kernel
theorem d_Mo_spareBy_50 : decode b_Mo_spareBy 50 = .ok (.istore_n 1, 1) := by decide +kernel
theorem d_Mo_spareBy_51 : decode b_Mo_spareBy 51 = .ok (.iload_n 1, 1) := by decide +kernel
theorem d_Mo_spareBy_52 : decode b_Mo_spareBy 52 = .ok (.aload_n 0, 1) := by decide +kernel
theorem d_Mo_spareBy_53 : decode b_Mo_spareBy 53 = .ok (.getfield 171, 3) := by decide +kernel
theorem d_Mo_spareBy_56 : decode b_Mo_spareBy 56 = .ok (.if_icmp .ge 57, 3) := by decide +kernel
theorem d_Mo_spareBy_59 : decode b_Mo_spareBy 59 = .ok (.iload_n 1, 1) := by decide +kernel
theorem d_Mo_spareBy_60 : decode b_Mo_spareBy 60 = .ok (.iconst 1, 1) := by decide +kernel
theorem d_Mo_spareBy_61 : decode b_Mo_spareBy 61 = .ok (.iadd, 1) := by decide +kernel
theorem d_Mo_spareBy_62 : decode b_Mo_spareBy 62 = .ok (.istore_n 2, 1) := by decide +kernel
theorem d_Mo_spareBy_63 : decode b_Mo_spareBy 63 = .ok (.iload_n 2, 1) := by decide +kernel
theorem d_Mo_spareBy_64 : decode b_Mo_spareBy 64 = .ok (.aload_n 0, 1) := by decide +kernel
theorem d_Mo_spareBy_65 : decode b_Mo_spareBy 65 = .ok (.getfield 171, 3) := by decide +kernel
theorem d_Mo_spareBy_68 : decode b_Mo_spareBy 68 = .ok (.if_icmp .ge 39, 3) := by decide +kernel
theorem d_Mo_spareBy_71 : decode b_Mo_spareBy 71 = .ok (.aload_n 0, 1) := by decide +kernel
theorem d_Mo_spareBy_72 : decode b_Mo_spareBy 72 = .ok (.getfield 82, 3) := by decide +kernel
theorem d_Mo_spareBy_75 : decode b_Mo_spareBy 75 = .ok (.iconst 0, 1) := by decide +kernel
theorem d_Mo_spareBy_76 : decode b_Mo_spareBy 76 = .ok (.iload_n 1, 1) := by decide +kernel
theorem d_Mo_spareBy_77 : decode b_Mo_spareBy 77 = .ok (.iastore, 1) := by decide +kernel
theorem d_Mo_spareBy_78 : decode b_Mo_spareBy 78 = .ok (.aload_n 0, 1) := by decide +kernel
theorem d_Mo_spareBy_79 : decode b_Mo_spareBy 79 = .ok (.getfield 82, 3) := by decide +kernel
theorem d_Mo_spareBy_82 : decode b_Mo_spareBy 82 = .ok (.iconst 1, 1) := by decide +kernel
theorem d_Mo_spareBy_83 : decode b_Mo_spareBy 83 = .ok (.iload_n 2, 1) := by decide +kernel
theorem d_Mo_spareBy_84 : decode b_Mo_spareBy 84 = .ok (.iastore, 1) := by decide +kernel
theorem d_Mo_spareBy_85 : decode b_Mo_spareBy 85 = .ok (.aload_n 0, 1) := by decide +kernel
theorem d_Mo_spareBy_86 : decode b_Mo_spareBy 86 = .ok (.iconst 1, 1) := by decide +kernel
theorem d_Mo_spareBy_87 : decode b_Mo_spareBy 87 = .ok (.iload_n 1, 1) := by decide +kernel
theorem d_Mo_spareBy_88 : decode b_Mo_spareBy 88 = .ok (.ishl, 1) := by decide +kernel
theorem d_Mo_spareBy_89 : decode b_Mo_spareBy 89 = .ok (.iconst 1, 1) := by decide +kernel
theorem d_Mo_spareBy_90 : decode b_Mo_spareBy 90 = .ok (.iload_n 2, 1) := by decide +kernel
theorem d_Mo_spareBy_91 : decode b_Mo_spareBy 91 = .ok (.ishl, 1) := by decide +kernel
theorem d_Mo_spareBy_92 : decode b_Mo_spareBy 92 = .ok (.ior, 1) := by decide +kernel
theorem d_Mo_spareBy_93 : decode b_Mo_spareBy 93 = .ok (.invokevirtual 285, 3) := by decide +kernel
theorem d_Mo_spareBy_96 : decode b_Mo_spareBy 96 = .ok (.ifCond .eq 5, 3) := by decide +kernel
theorem d_Mo_spareBy_99 : decode b_Mo_spareBy 99 = .ok (.iconst 2, 1) := by decide +kernel
theorem d_Mo_spareBy_100 : decode b_Mo_spareBy 100 = .ok (.ireturn, 1) := by decide +kernel
theorem d_Mo_spareBy_101 : decode b_Mo_spareBy 101 = .ok (.iinc 2 1, 3) := by decide +kernel
theorem d_Mo_spareBy_104 : decode b_Mo_spareBy 104 = .ok (.goto (-41), 3) := by decide +kernel
theorem d_Mo_spareBy_107 : decode b_Mo_spareBy 107 = .ok (.iinc 1 1, 3) := by decide +kernel
theorem d_Mo_spareBy_110 : decode b_Mo_spareBy 110 = .ok (.goto (-59), 3) := by decide +kernel
theorem d_Mo_spareBy_113 : decode b_Mo_spareBy 113 = .ok (.iconst (-1), 1) := by decide +kernel
theorem d_Mo_spareBy_114 : decode b_Mo_spareBy 114 = .ok (.ireturn, 1) := by decide +kernel
theorem d_Mo_ofRow_0 : decode b_Mo_ofRow 0 = .ok (.iload_n 2, 1) := by decide +kernel
theorem d_Mo_ofRow_1 : decode b_Mo_ofRow 1 = .ok (.iconst (-1), 1) := by decide +kernel
theorem d_Mo_ofRow_2 : decode b_Mo_ofRow 2 = .ok (.if_icmp .ne 7, 3) := by decide +kernel
theorem d_Mo_ofRow_5 : decode b_Mo_ofRow 5 = .ok (.iload_n 1, 1) := by decide +kernel
theorem d_Mo_ofRow_6 : decode b_Mo_ofRow 6 = .ok (.goto 18, 3) := by decide +kernel
theorem d_Mo_ofRow_9 : decode b_Mo_ofRow 9 = .ok (.iload_n 2, 1) := by decide +kernel
theorem d_Mo_ofRow_10 : decode b_Mo_ofRow 10 = .ok (.iload_n 1, 1) := by decide +kernel
theorem d_Mo_ofRow_11 : decode b_Mo_ofRow 11 = .ok (.if_icmp .ge 12, 3) := by decide +kernel
theorem d_Mo_ofRow_14 : decode b_Mo_ofRow 14 = .ok (.aload_n 0, 1) := by decide +kernel
theorem d_Mo_ofRow_15 : decode b_Mo_ofRow 15 = .ok (.getfield 82, 3) := by decide +kernel
theorem d_Mo_ofRow_18 : decode b_Mo_ofRow 18 = .ok (.iload_n 2, 1) := by decide +kernel
theorem d_Mo_ofRow_19 : decode b_Mo_ofRow 19 = .ok (.iaload, 1) := by decide +kernel
theorem d_Mo_ofRow_20 : decode b_Mo_ofRow 20 = .ok (.goto 4, 3) := by decide +kernel
theorem d_Mo_ofRow_23 : decode b_Mo_ofRow 23 = .ok (.iconst (-1), 1) := by decide +kernel
theorem d_Mo_ofRow_24 : decode b_Mo_ofRow 24 = .ok (.ireturn, 1) := by decide +kernel
theorem d_Mo_spare_0 : decode b_Mo_spare 0 = .ok (.iload_n 1, 1) := by decide +kernel
theorem d_Mo_spare_1 : decode b_Mo_spare 1 = .ok (.iconst (-1), 1) := by decide +kernel
theorem d_Mo_spare_2 : decode b_Mo_spare 2 = .ok (.iconst 1, 1) := by decide +kernel
theorem d_Mo_spare_3 : decode b_Mo_spare 3 = .ok (.invokestatic 115, 3) := by decide +kernel
theorem d_Mo_spare_6 : decode b_Mo_spare 6 = .ok (.ifCond .eq 15, 3) := by decide +kernel
theorem d_Mo_spare_9 : decode b_Mo_spare 9 = .ok (.aload_n 0, 1) := by decide +kernel
theorem d_Mo_spare_10 : decode b_Mo_spare 10 = .ok (.aload_n 0, 1) := by decide +kernel
theorem d_Mo_spare_11 : decode b_Mo_spare 11 = .ok (.invokevirtual 288, 3) := by decide +kernel
theorem d_Mo_spare_14 : decode b_Mo_spare 14 = .ok (.iload_n 1, 1) := by decide +kernel
theorem d_Mo_spare_15 : decode b_Mo_spare 15 = .ok (.invokevirtual 291, 3) := by decide +kernel
theorem d_Mo_spare_18 : decode b_Mo_spare 18 = .ok (.goto 5, 3) := by decide +kernel
theorem d_Mo_spare_21 : decode b_Mo_spare 21 = .ok (.bipush (-2), 2) := by decide +kernel
theorem d_Mo_spare_23 : decode b_Mo_spare 23 = .ok (.ireturn, 1) := by decide +kernel
theorem d_Mo_seen_0 : decode b_Mo_seen 0 = .ok (.iload_n 1, 1) := by decide +kernel
theorem d_Mo_seen_1 : decode b_Mo_seen 1 = .ok (.invokestatic 165, 3) := by decide +kernel
theorem d_Mo_seen_4 : decode b_Mo_seen 4 = .ok (.ifCond .eq 20, 3) := by decide +kernel
theorem d_Mo_seen_7 : decode b_Mo_seen 7 = .ok (.iload_n 2, 1) := by decide +kernel
theorem d_Mo_seen_8 : decode b_Mo_seen 8 = .ok (.invokestatic 168, 3) := by decide +kernel
theorem d_Mo_seen_11 : decode b_Mo_seen 11 = .ok (.ifCond .eq 13, 3) := by decide +kernel
theorem d_Mo_seen_14 : decode b_Mo_seen 14 = .ok (.iload_n 3, 1) := by decide +kernel
theorem d_Mo_seen_15 : decode b_Mo_seen 15 = .ok (.iconst 0, 1) := by decide +kernel
theorem d_Mo_seen_16 : decode b_Mo_seen 16 = .ok (.bipush 99, 2) := by decide +kernel
theorem d_Mo_seen_18 : decode b_Mo_seen 18 = .ok (.invokestatic 115, 3) := by decide +kernel
theorem d_Mo_seen_21 : decode b_Mo_seen 21 = .ok (.ifCond .ne 6, 3) := by decide +kernel
theorem d_Mo_seen_24 : decode b_Mo_seen 24 = .ok (.bipush (-2), 2) := by decide +kernel
theorem d_Mo_seen_26 : decode b_Mo_seen 26 = .ok (.ireturn, 1) := by decide +kernel
theorem d_Mo_seen_27 : decode b_Mo_seen 27 = .ok (.aload_n 0, 1) := by decide +kernel
theorem d_Mo_seen_28 : decode b_Mo_seen 28 = .ok (.getfield 294, 3) := by decide +kernel
theorem d_Mo_seen_31 : decode b_Mo_seen 31 = .ok (.bipush 8, 2) := by decide +kernel
theorem d_Mo_seen_33 : decode b_Mo_seen 33 = .ok (.if_icmp .ne 6, 3) := by decide +kernel
theorem d_Mo_seen_36 : decode b_Mo_seen 36 = .ok (.bipush (-4), 2) := by decide +kernel
theorem d_Mo_seen_38 : decode b_Mo_seen 38 = .ok (.ireturn, 1) := by decide +kernel
theorem d_Mo_seen_39 : decode b_Mo_seen 39 = .ok (.aload_n 0, 1) := by decide +kernel
theorem d_Mo_seen_40 : decode b_Mo_seen 40 = .ok (.getfield 85, 3) := by decide +kernel
theorem d_Mo_seen_43 : decode b_Mo_seen 43 = .ok (.aload_n 0, 1) := by decide +kernel
theorem d_Mo_seen_44 : decode b_Mo_seen 44 = .ok (.getfield 294, 3) := by decide +kernel
theorem d_Mo_seen_47 : decode b_Mo_seen 47 = .ok (.iload_n 1, 1) := by decide +kernel
theorem d_Mo_seen_48 : decode b_Mo_seen 48 = .ok (.iastore, 1) := by decide +kernel
theorem d_Mo_seen_49 : decode b_Mo_seen 49 = .ok (.aload_n 0, 1) := by decide +kernel
theorem d_Mo_seen_50 : decode b_Mo_seen 50 = .ok (.getfield 88, 3) := by decide +kernel
theorem d_Mo_seen_53 : decode b_Mo_seen 53 = .ok (.aload_n 0, 1) := by decide +kernel
theorem d_Mo_seen_54 : decode b_Mo_seen 54 = .ok (.getfield 294, 3) := by decide +kernel
theorem d_Mo_seen_57 : decode b_Mo_seen 57 = .ok (.iload_n 2, 1) := by decide +kernel
theorem d_Mo_seen_58 : decode b_Mo_seen 58 = .ok (.iastore, 1) := by decide +kernel
theorem d_Mo_seen_59 : decode b_Mo_seen 59 = .ok (.aload_n 0, 1) := by decide +kernel
theorem d_Mo_seen_60 : decode b_Mo_seen 60 = .ok (.getfield 91, 3) := by decide +kernel
theorem d_Mo_seen_63 : decode b_Mo_seen 63 = .ok (.aload_n 0, 1) := by decide +kernel
theorem d_Mo_seen_64 : decode b_Mo_seen 64 = .ok (.getfield 294, 3) := by decide +kernel
theorem d_Mo_seen_67 : decode b_Mo_seen 67 = .ok (.iload_n 3, 1) := by decide +kernel
theorem d_Mo_seen_68 : decode b_Mo_seen 68 = .ok (.iastore, 1) := by decide +kernel
theorem d_Mo_seen_69 : decode b_Mo_seen 69 = .ok (.aload_n 0, 1) := by decide +kernel
theorem d_Mo_seen_70 : decode b_Mo_seen 70 = .ok (.dup, 1) := by decide +kernel
theorem d_Mo_seen_71 : decode b_Mo_seen 71 = .ok (.getfield 294, 3) := by decide +kernel
theorem d_Mo_seen_74 : decode b_Mo_seen 74 = .ok (.iconst 1, 1) := by decide +kernel
theorem d_Mo_seen_75 : decode b_Mo_seen 75 = .ok (.iadd, 1) := by decide +kernel
theorem d_Mo_seen_76 : decode b_Mo_seen 76 = .ok (.putfield 294, 3) := by decide +kernel
theorem d_Mo_seen_79 : decode b_Mo_seen 79 = .ok (.aload_n 0, 1) := by decide +kernel
theorem d_Mo_seen_80 : decode b_Mo_seen 80 = .ok (.getfield 294, 3) := by decide +kernel
theorem d_Mo_seen_83 : decode b_Mo_seen 83 = .ok (.ireturn, 1) := by decide +kernel
theorem d_Mo_forget_0 : decode b_Mo_forget 0 = .ok (.aload_n 0, 1) := by decide +kernel
theorem d_Mo_forget_1 : decode b_Mo_forget 1 = .ok (.getfield 294, 3) := by decide +kernel
theorem d_Mo_forget_4 : decode b_Mo_forget 4 = .ok (.istore_n 1, 1) := by decide +kernel
theorem d_Mo_forget_5 : decode b_Mo_forget 5 = .ok (.aload_n 0, 1) := by decide +kernel
theorem d_Mo_forget_6 : decode b_Mo_forget 6 = .ok (.iconst 0, 1) := by decide +kernel
theorem d_Mo_forget_7 : decode b_Mo_forget 7 = .ok (.putfield 294, 3) := by decide +kernel
theorem d_Mo_forget_10 : decode b_Mo_forget 10 = .ok (.iload_n 1, 1) := by decide +kernel
theorem d_Mo_forget_11 : decode b_Mo_forget 11 = .ok (.ireturn, 1) := by decide +kernel
theorem d_Mo_isSeen_0 : decode b_Mo_isSeen 0 = .ok (.aload_n 0, 1) := by decide +kernel
theorem d_Mo_isSeen_1 : decode b_Mo_isSeen 1 = .ok (.invokevirtual 238, 3) := by decide +kernel
theorem d_Mo_isSeen_4 : decode b_Mo_isSeen 4 = .ok (.iconst 1, 1) := by decide +kernel
theorem d_Mo_isSeen_5 : decode b_Mo_isSeen 5 = .ok (.istore_n 1, 1) := by decide +kernel
theorem d_Mo_isSeen_6 : decode b_Mo_isSeen 6 = .ok (.iconst 0, 1) := by decide +kernel
theorem d_Mo_isSeen_7 : decode b_Mo_isSeen 7 = .ok (.istore_n 2, 1) := by decide +kernel
theorem d_Mo_isSeen_8 : decode b_Mo_isSeen 8 = .ok (.iload_n 2, 1) := by decide +kernel
theorem d_Mo_isSeen_9 : decode b_Mo_isSeen 9 = .ok (.aload_n 0, 1) := by decide +kernel
theorem d_Mo_isSeen_10 : decode b_Mo_isSeen 10 = .ok (.getfield 294, 3) := by decide +kernel
theorem d_Mo_isSeen_13 : decode b_Mo_isSeen 13 = .ok (.if_icmp .ge 62, 3) := by decide +kernel
theorem d_Mo_isSeen_16 : decode b_Mo_isSeen 16 = .ok (.iload_n 1, 1) := by decide +kernel
theorem d_Mo_isSeen_17 : decode b_Mo_isSeen 17 = .ok (.ifCond .eq 58, 3) := by decide +kernel
theorem d_Mo_isSeen_20 : decode b_Mo_isSeen 20 = .ok (.aload_n 0, 1) := by decide +kernel
theorem d_Mo_isSeen_21 : decode b_Mo_isSeen 21 = .ok (.getfield 88, 3) := by decide +kernel
theorem d_Mo_isSeen_24 : decode b_Mo_isSeen 24 = .ok (.iload_n 2, 1) := by decide +kernel
theorem d_Mo_isSeen_25 : decode b_Mo_isSeen 25 = .ok (.iaload, 1) := by decide +kernel
theorem d_Mo_isSeen_26 : decode b_Mo_isSeen 26 = .ok (.aload_n 0, 1) := by decide +kernel
theorem d_Mo_isSeen_27 : decode b_Mo_isSeen 27 = .ok (.getfield 127, 3) := by decide +kernel
theorem d_Mo_isSeen_30 : decode b_Mo_isSeen 30 = .ok (.if_icmp .ge 37, 3) := by decide +kernel
theorem d_Mo_isSeen_33 : decode b_Mo_isSeen 33 = .ok (.aload_n 0, 1) := by decide +kernel
theorem d_Mo_isSeen_34 : decode b_Mo_isSeen 34 = .ok (.getfield 61, 3) := by decide +kernel
theorem d_Mo_isSeen_37 : decode b_Mo_isSeen 37 = .ok (.bipush 8, 2) := by decide +kernel
theorem d_Mo_isSeen_39 : decode b_Mo_isSeen 39 = .ok (.aload_n 0, 1) := by decide +kernel
theorem d_Mo_isSeen_40 : decode b_Mo_isSeen 40 = .ok (.getfield 85, 3) := by decide +kernel
theorem d_Mo_isSeen_43 : decode b_Mo_isSeen 43 = .ok (.iload_n 2, 1) := by decide +kernel
theorem d_Mo_isSeen_44 : decode b_Mo_isSeen 44 = .ok (.iaload, 1) := by decide +kernel
theorem d_Mo_isSeen_45 : decode b_Mo_isSeen 45 = .ok (.imul, 1) := by decide +kernel
theorem d_Mo_isSeen_46 : decode b_Mo_isSeen 46 = .ok (.aload_n 0, 1) := by decide +kernel
theorem d_Mo_isSeen_47 : decode b_Mo_isSeen 47 = .ok (.getfield 88, 3) := by decide +kernel
theorem d_Mo_isSeen_50 : decode b_Mo_isSeen 50 = .ok (.iload_n 2, 1) := by decide +kernel
theorem d_Mo_isSeen_51 : decode b_Mo_isSeen 51 = .ok (.iaload, 1) := by decide +kernel
theorem d_Mo_isSeen_52 : decode b_Mo_isSeen 52 = .ok (.iadd, 1) := by decide +kernel
theorem d_Mo_isSeen_53 : decode b_Mo_isSeen 53 = .ok (.iaload, 1) := by decide +kernel
theorem d_Mo_isSeen_54 : decode b_Mo_isSeen 54 = .ok (.aload_n 0, 1) := by decide +kernel
theorem d_Mo_isSeen_55 : decode b_Mo_isSeen 55 = .ok (.getfield 91, 3) := by decide +kernel
theorem d_Mo_isSeen_58 : decode b_Mo_isSeen 58 = .ok (.iload_n 2, 1) := by decide +kernel
theorem d_Mo_isSeen_59 : decode b_Mo_isSeen 59 = .ok (.iaload, 1) := by decide +kernel
theorem d_Mo_isSeen_60 : decode b_Mo_isSeen 60 = .ok (.if_icmp .ne 7, 3) := by decide +kernel
theorem d_Mo_isSeen_63 : decode b_Mo_isSeen 63 = .ok (.iconst 1, 1) := by decide +kernel
theorem d_Mo_isSeen_64 : decode b_Mo_isSeen 64 = .ok (.goto 4, 3) := by decide +kernel
theorem d_Mo_isSeen_67 : decode b_Mo_isSeen 67 = .ok (.iconst 0, 1) := by decide +kernel
theorem d_Mo_isSeen_68 : decode b_Mo_isSeen 68 = .ok (.istore_n 1, 1) := by decide +kernel
theorem d_Mo_isSeen_69 : decode b_Mo_isSeen 69 = .ok (.iinc 2 1, 3) := by decide +kernel
theorem d_Mo_isSeen_72 : decode b_Mo_isSeen 72 = .ok (.goto (-64), 3) := by decide +kernel
theorem d_Mo_isSeen_75 : decode b_Mo_isSeen 75 = .ok (.iload_n 1, 1) := by decide +kernel
theorem d_Mo_isSeen_76 : decode b_Mo_isSeen 76 = .ok (.ireturn, 1) := by decide +kernel
theorem d_Mo_neverNow_0 : decode b_Mo_neverNow 0 = .ok (.aload_n 0, 1) := by decide +kernel
theorem d_Mo_neverNow_1 : decode b_Mo_neverNow 1 = .ok (.invokevirtual 235, 3) := by decide +kernel
theorem d_Mo_neverNow_4 : decode b_Mo_neverNow 4 = .ok (.iconst 0, 1) := by decide +kernel
theorem d_Mo_neverNow_5 : decode b_Mo_neverNow 5 = .ok (.istore_n 1, 1) := by decide +kernel
theorem d_Mo_neverNow_6 : decode b_Mo_neverNow 6 = .ok (.iconst 0, 1) := by decide +kernel
theorem d_Mo_neverNow_7 : decode b_Mo_neverNow 7 = .ok (.istore_n 2, 1) := by decide +kernel
theorem d_Mo_neverNow_8 : decode b_Mo_neverNow 8 = .ok (.iload_n 2, 1) := by decide +kernel
theorem d_Mo_neverNow_9 : decode b_Mo_neverNow 9 = .ok (.aload_n 0, 1) := by decide +kernel
theorem d_Mo_neverNow_10 : decode b_Mo_neverNow 10 = .ok (.getfield 171, 3) := by decide +kernel
theorem d_Mo_neverNow_13 : decode b_Mo_neverNow 13 = .ok (.if_icmp .ge 33, 3) := by decide +kernel
theorem d_Mo_neverNow_16 : decode b_Mo_neverNow 16 = .ok (.aload_n 0, 1) := by decide +kernel
theorem d_Mo_neverNow_17 : decode b_Mo_neverNow 17 = .ok (.iconst 1, 1) := by decide +kernel
theorem d_Mo_neverNow_18 : decode b_Mo_neverNow 18 = .ok (.iload_n 2, 1) := by decide +kernel
theorem d_Mo_neverNow_19 : decode b_Mo_neverNow 19 = .ok (.ishl, 1) := by decide +kernel
theorem d_Mo_neverNow_20 : decode b_Mo_neverNow 20 = .ok (.putfield 186, 3) := by decide +kernel
theorem d_Mo_neverNow_23 : decode b_Mo_neverNow 23 = .ok (.iload_n 1, 1) := by decide +kernel
theorem d_Mo_neverNow_24 : decode b_Mo_neverNow 24 = .ok (.aload_n 0, 1) := by decide +kernel
theorem d_Mo_neverNow_25 : decode b_Mo_neverNow 25 = .ok (.invokevirtual 297, 3) := by decide +kernel
theorem d_Mo_neverNow_28 : decode b_Mo_neverNow 28 = .ok (.ifCond .eq 9, 3) := by decide +kernel
theorem d_Mo_neverNow_31 : decode b_Mo_neverNow 31 = .ok (.iconst 1, 1) := by decide +kernel
theorem d_Mo_neverNow_32 : decode b_Mo_neverNow 32 = .ok (.iload_n 2, 1) := by decide +kernel
theorem d_Mo_neverNow_33 : decode b_Mo_neverNow 33 = .ok (.ishl, 1) := by decide +kernel
theorem d_Mo_neverNow_34 : decode b_Mo_neverNow 34 = .ok (.goto 4, 3) := by decide +kernel
theorem d_Mo_neverNow_37 : decode b_Mo_neverNow 37 = .ok (.iconst 0, 1) := by decide +kernel
theorem d_Mo_neverNow_38 : decode b_Mo_neverNow 38 = .ok (.ior, 1) := by decide +kernel
theorem d_Mo_neverNow_39 : decode b_Mo_neverNow 39 = .ok (.istore_n 1, 1) := by decide +kernel
theorem d_Mo_neverNow_40 : decode b_Mo_neverNow 40 = .ok (.iinc 2 1, 3) := by decide +kernel
theorem d_Mo_neverNow_43 : decode b_Mo_neverNow 43 = .ok (.goto (-35), 3) := by decide +kernel
theorem d_Mo_neverNow_46 : decode b_Mo_neverNow 46 = .ok (.iload_n 1, 1) := by decide +kernel
theorem d_Mo_neverNow_47 : decode b_Mo_neverNow 47 = .ok (.ireturn, 1) := by decide +kernel
theorem d_Mo_never_0 : decode b_Mo_never 0 = .ok (.aload_n 0, 1) := by decide +kernel
theorem d_Mo_never_1 : decode b_Mo_never 1 = .ok (.invokevirtual 301, 3) := by decide +kernel
theorem d_Mo_never_4 : decode b_Mo_never 4 = .ok (.ireturn, 1) := by decide +kernel
theorem d_Mo_sortsBy_0 : decode b_Mo_sortsBy 0 = .ok (.aload_n 0, 1) := by decide +kernel
theorem d_Mo_sortsBy_1 : decode b_Mo_sortsBy 1 = .ok (.invokevirtual 235, 3) := by decide +kernel
theorem d_Mo_sortsBy_4 : decode b_Mo_sortsBy 4 = .ok (.aload_n 0, 1) := by decide +kernel
theorem d_Mo_sortsBy_5 : decode b_Mo_sortsBy 5 = .ok (.getfield 16, 3) := by decide +kernel
theorem d_Mo_sortsBy_8 : decode b_Mo_sortsBy 8 = .ok (.iload_n 1, 1) := by decide +kernel
theorem d_Mo_sortsBy_9 : decode b_Mo_sortsBy 9 = .ok (.iaload, 1) := by decide +kernel
theorem d_Mo_sortsBy_10 : decode b_Mo_sortsBy 10 = .ok (.istore_n 2, 1) := by decide +kernel
theorem d_Mo_sortsBy_11 : decode b_Mo_sortsBy 11 = .ok (.iconst 0, 1) := by decide +kernel
theorem d_Mo_sortsBy_12 : decode b_Mo_sortsBy 12 = .ok (.istore_n 3, 1) := by decide +kernel
theorem d_Mo_sortsBy_13 : decode b_Mo_sortsBy 13 = .ok (.iconst 0, 1) := by decide +kernel
theorem d_Mo_sortsBy_14 : decode b_Mo_sortsBy 14 = .ok (.istore 4, 2) := by decide +kernel
theorem d_Mo_sortsBy_16 : decode b_Mo_sortsBy 16 = .ok (.iload 4, 2) := by decide +kernel
theorem d_Mo_sortsBy_18 : decode b_Mo_sortsBy 18 = .ok (.iconst 3, 1) := by decide +kernel
theorem d_Mo_sortsBy_19 : decode b_Mo_sortsBy 19 = .ok (.if_icmp .ge 35, 3) := by decide +kernel
theorem d_Mo_sortsBy_22 : decode b_Mo_sortsBy 22 = .ok (.aload_n 0, 1) := by decide +kernel
theorem d_Mo_sortsBy_23 : decode b_Mo_sortsBy 23 = .ok (.getfield 16, 3) := by decide +kernel
theorem d_Mo_sortsBy_26 : decode b_Mo_sortsBy 26 = .ok (.iload_n 1, 1) := by decide +kernel
theorem d_Mo_sortsBy_27 : decode b_Mo_sortsBy 27 = .ok (.iload 4, 2) := by decide +kernel
theorem d_Mo_sortsBy_29 : decode b_Mo_sortsBy 29 = .ok (.iastore, 1) := by decide +kernel
theorem d_Mo_sortsBy_30 : decode b_Mo_sortsBy 30 = .ok (.iload_n 3, 1) := by decide +kernel
theorem d_Mo_sortsBy_31 : decode b_Mo_sortsBy 31 = .ok (.aload_n 0, 1) := by decide +kernel
theorem d_Mo_sortsBy_32 : decode b_Mo_sortsBy 32 = .ok (.invokevirtual 297, 3) := by decide +kernel
theorem d_Mo_sortsBy_35 : decode b_Mo_sortsBy 35 = .ok (.ifCond .eq 10, 3) := by decide +kernel
theorem d_Mo_sortsBy_38 : decode b_Mo_sortsBy 38 = .ok (.iconst 1, 1) := by decide +kernel
theorem d_Mo_sortsBy_39 : decode b_Mo_sortsBy 39 = .ok (.iload 4, 2) := by decide +kernel
theorem d_Mo_sortsBy_41 : decode b_Mo_sortsBy 41 = .ok (.ishl, 1) := by decide +kernel
theorem d_Mo_sortsBy_42 : decode b_Mo_sortsBy 42 = .ok (.goto 4, 3) := by decide +kernel
theorem d_Mo_sortsBy_45 : decode b_Mo_sortsBy 45 = .ok (.iconst 0, 1) := by decide +kernel
theorem d_Mo_sortsBy_46 : decode b_Mo_sortsBy 46 = .ok (.ior, 1) := by decide +kernel
theorem d_Mo_sortsBy_47 : decode b_Mo_sortsBy 47 = .ok (.istore_n 3, 1) := by decide +kernel
theorem d_Mo_sortsBy_48 : decode b_Mo_sortsBy 48 = .ok (.iinc 4 1, 3) := by decide +kernel
theorem d_Mo_sortsBy_51 : decode b_Mo_sortsBy 51 = .ok (.goto (-35), 3) := by decide +kernel
theorem d_Mo_sortsBy_54 : decode b_Mo_sortsBy 54 = .ok (.aload_n 0, 1) := by decide +kernel
theorem d_Mo_sortsBy_55 : decode b_Mo_sortsBy 55 = .ok (.getfield 16, 3) := by decide +kernel
theorem d_Mo_sortsBy_58 : decode b_Mo_sortsBy 58 = .ok (.iload_n 1, 1) := by decide +kernel
theorem d_Mo_sortsBy_59 : decode b_Mo_sortsBy 59 = .ok (.iload_n 2, 1) := by decide +kernel
theorem d_Mo_sortsBy_60 : decode b_Mo_sortsBy 60 = .ok (.iastore, 1) := by decide +kernel
theorem d_Mo_sortsBy_61 : decode b_Mo_sortsBy 61 = .ok (.iload_n 3, 1) := by decide +kernel
theorem d_Mo_sortsBy_62 : decode b_Mo_sortsBy 62 = .ok (.ireturn, 1) := by decide +kernel
theorem d_Mo_strongBy_0 : decode b_Mo_strongBy 0 = .ok (.aload_n 0, 1) := by decide +kernel
theorem d_Mo_strongBy_1 : decode b_Mo_strongBy 1 = .ok (.invokevirtual 235, 3) := by decide +kernel
theorem d_Mo_strongBy_4 : decode b_Mo_strongBy 4 = .ok (.aload_n 0, 1) := by decide +kernel
theorem d_Mo_strongBy_5 : decode b_Mo_strongBy 5 = .ok (.getfield 19, 3) := by decide +kernel
theorem d_Mo_strongBy_8 : decode b_Mo_strongBy 8 = .ok (.iload_n 1, 1) := by decide +kernel
theorem d_Mo_strongBy_9 : decode b_Mo_strongBy 9 = .ok (.iaload, 1) := by decide +kernel
theorem d_Mo_strongBy_10 : decode b_Mo_strongBy 10 = .ok (.istore_n 2, 1) := by decide +kernel
theorem d_Mo_strongBy_11 : decode b_Mo_strongBy 11 = .ok (.iconst 0, 1) := by decide +kernel
theorem d_Mo_strongBy_12 : decode b_Mo_strongBy 12 = .ok (.istore_n 3, 1) := by decide +kernel
theorem d_Mo_strongBy_13 : decode b_Mo_strongBy 13 = .ok (.iconst 1, 1) := by decide +kernel
theorem d_Mo_strongBy_14 : decode b_Mo_strongBy 14 = .ok (.istore 4, 2) := by decide +kernel
theorem d_Mo_strongBy_16 : decode b_Mo_strongBy 16 = .ok (.iload 4, 2) := by decide +kernel
theorem d_Mo_strongBy_18 : decode b_Mo_strongBy 18 = .ok (.bipush 10, 2) := by decide +kernel
theorem d_Mo_strongBy_20 : decode b_Mo_strongBy 20 = .ok (.if_icmp .ge 76, 3) := by decide +kernel
theorem d_Mo_strongBy_23 : decode b_Mo_strongBy 23 = .ok (.aload_n 0, 1) := by decide +kernel
theorem d_Mo_strongBy_24 : decode b_Mo_strongBy 24 = .ok (.getfield 19, 3) := by decide +kernel
theorem d_Mo_strongBy_27 : decode b_Mo_strongBy 27 = .ok (.iload_n 1, 1) := by decide +kernel
theorem d_Mo_strongBy_28 : decode b_Mo_strongBy 28 = .ok (.iload 4, 2) := by decide +kernel
theorem d_Mo_strongBy_30 : decode b_Mo_strongBy 30 = .ok (.iastore, 1) := by decide +kernel
theorem d_Mo_strongBy_31 : decode b_Mo_strongBy 31 = .ok (.iload_n 3, 1) := by decide +kernel
theorem d_Mo_strongBy_32 : decode b_Mo_strongBy 32 = .ok (.aload_n 0, 1) := by decide +kernel
theorem d_Mo_strongBy_33 : decode b_Mo_strongBy 33 = .ok (.invokevirtual 297, 3) := by decide +kernel
theorem d_Mo_strongBy_36 : decode b_Mo_strongBy 36 = .ok (.ifCond .eq 10, 3) := by decide +kernel
theorem d_Mo_strongBy_39 : decode b_Mo_strongBy 39 = .ok (.iconst 1, 1) := by decide +kernel
theorem d_Mo_strongBy_40 : decode b_Mo_strongBy 40 = .ok (.iload 4, 2) := by decide +kernel
theorem d_Mo_strongBy_42 : decode b_Mo_strongBy 42 = .ok (.ishl, 1) := by decide +kernel
theorem d_Mo_strongBy_43 : decode b_Mo_strongBy 43 = .ok (.goto 4, 3) := by decide +kernel
theorem d_Mo_strongBy_46 : decode b_Mo_strongBy 46 = .ok (.iconst 0, 1) := by decide +kernel
theorem d_Mo_strongBy_47 : decode b_Mo_strongBy 47 = .ok (.ior, 1) := by decide +kernel
theorem d_Mo_strongBy_48 : decode b_Mo_strongBy 48 = .ok (.istore_n 3, 1) := by decide +kernel
theorem d_Mo_strongBy_49 : decode b_Mo_strongBy 49 = .ok (.iconst 0, 1) := by decide +kernel
theorem d_Mo_strongBy_50 : decode b_Mo_strongBy 50 = .ok (.istore 5, 2) := by decide +kernel
theorem d_Mo_strongBy_52 : decode b_Mo_strongBy 52 = .ok (.iload 5, 2) := by decide +kernel
theorem d_Mo_strongBy_54 : decode b_Mo_strongBy 54 = .ok (.bipush 24, 2) := by decide +kernel
theorem d_Mo_strongBy_56 : decode b_Mo_strongBy 56 = .ok (.if_icmp .ge 34, 3) := by decide +kernel
theorem d_Mo_strongBy_59 : decode b_Mo_strongBy 59 = .ok (.aload_n 0, 1) := by decide +kernel
theorem d_Mo_strongBy_60 : decode b_Mo_strongBy 60 = .ok (.getfield 94, 3) := by decide +kernel
theorem d_Mo_strongBy_63 : decode b_Mo_strongBy 63 = .ok (.bipush 24, 2) := by decide +kernel
theorem d_Mo_strongBy_65 : decode b_Mo_strongBy 65 = .ok (.iload 4, 2) := by decide +kernel
theorem d_Mo_strongBy_67 : decode b_Mo_strongBy 67 = .ok (.imul, 1) := by decide +kernel
theorem d_Mo_strongBy_68 : decode b_Mo_strongBy 68 = .ok (.iload 5, 2) := by decide +kernel
theorem d_Mo_strongBy_70 : decode b_Mo_strongBy 70 = .ok (.iadd, 1) := by decide +kernel
theorem d_Mo_strongBy_71 : decode b_Mo_strongBy 71 = .ok (.aload_n 0, 1) := by decide +kernel
theorem d_Mo_strongBy_72 : decode b_Mo_strongBy 72 = .ok (.getfield 61, 3) := by decide +kernel
theorem d_Mo_strongBy_75 : decode b_Mo_strongBy 75 = .ok (.bipush 8, 2) := by decide +kernel
theorem d_Mo_strongBy_77 : decode b_Mo_strongBy 77 = .ok (.iload 5, 2) := by decide +kernel
theorem d_Mo_strongBy_79 : decode b_Mo_strongBy 79 = .ok (.imul, 1) := by decide +kernel
theorem d_Mo_strongBy_80 : decode b_Mo_strongBy 80 = .ok (.iload_n 1, 1) := by decide +kernel
theorem d_Mo_strongBy_81 : decode b_Mo_strongBy 81 = .ok (.iadd, 1) := by decide +kernel
theorem d_Mo_strongBy_82 : decode b_Mo_strongBy 82 = .ok (.iaload, 1) := by decide +kernel
theorem d_Mo_strongBy_83 : decode b_Mo_strongBy 83 = .ok (.iastore, 1) := by decide +kernel
theorem d_Mo_strongBy_84 : decode b_Mo_strongBy 84 = .ok (.iinc 5 1, 3) := by decide +kernel
theorem d_Mo_strongBy_87 : decode b_Mo_strongBy 87 = .ok (.goto (-35), 3) := by decide +kernel
theorem d_Mo_strongBy_90 : decode b_Mo_strongBy 90 = .ok (.iinc 4 1, 3) := by decide +kernel
theorem d_Mo_strongBy_93 : decode b_Mo_strongBy 93 = .ok (.goto (-77), 3) := by decide +kernel
theorem d_Mo_strongBy_96 : decode b_Mo_strongBy 96 = .ok (.aload_n 0, 1) := by decide +kernel
theorem d_Mo_strongBy_97 : decode b_Mo_strongBy 97 = .ok (.getfield 19, 3) := by decide +kernel
theorem d_Mo_strongBy_100 : decode b_Mo_strongBy 100 = .ok (.iload_n 1, 1) := by decide +kernel
theorem d_Mo_strongBy_101 : decode b_Mo_strongBy 101 = .ok (.iload_n 2, 1) := by decide +kernel
theorem d_Mo_strongBy_102 : decode b_Mo_strongBy 102 = .ok (.iastore, 1) := by decide +kernel
theorem d_Mo_strongBy_103 : decode b_Mo_strongBy 103 = .ok (.iload_n 3, 1) := by decide +kernel
theorem d_Mo_strongBy_104 : decode b_Mo_strongBy 104 = .ok (.ireturn, 1) := by decide +kernel
theorem d_Mo_was_0 : decode b_Mo_was 0 = .ok (.aload_n 0, 1) := by decide +kernel
theorem d_Mo_was_1 : decode b_Mo_was 1 = .ok (.iload_n 1, 1) := by decide +kernel
theorem d_Mo_was_2 : decode b_Mo_was 2 = .ok (.invokevirtual 150, 3) := by decide +kernel
theorem d_Mo_was_5 : decode b_Mo_was 5 = .ok (.ifCond .eq 30, 3) := by decide +kernel
theorem d_Mo_was_8 : decode b_Mo_was 8 = .ok (.iload_n 2, 1) := by decide +kernel
theorem d_Mo_was_9 : decode b_Mo_was 9 = .ok (.invokestatic 153, 3) := by decide +kernel
theorem d_Mo_was_12 : decode b_Mo_was 12 = .ok (.ifCond .eq 23, 3) := by decide +kernel
theorem d_Mo_was_15 : decode b_Mo_was 15 = .ok (.iload_n 2, 1) := by decide +kernel
theorem d_Mo_was_16 : decode b_Mo_was 16 = .ok (.ifCond .ne 11, 3) := by decide +kernel
theorem d_Mo_was_19 : decode b_Mo_was 19 = .ok (.aload_n 0, 1) := by decide +kernel
theorem d_Mo_was_20 : decode b_Mo_was 20 = .ok (.iload_n 1, 1) := by decide +kernel
theorem d_Mo_was_21 : decode b_Mo_was 21 = .ok (.invokevirtual 304, 3) := by decide +kernel
theorem d_Mo_was_24 : decode b_Mo_was 24 = .ok (.goto 13, 3) := by decide +kernel
theorem d_Mo_was_27 : decode b_Mo_was 27 = .ok (.aload_n 0, 1) := by decide +kernel
theorem d_Mo_was_28 : decode b_Mo_was 28 = .ok (.iload_n 1, 1) := by decide +kernel
theorem d_Mo_was_29 : decode b_Mo_was 29 = .ok (.invokevirtual 307, 3) := by decide +kernel
theorem d_Mo_was_32 : decode b_Mo_was 32 = .ok (.goto 5, 3) := by decide +kernel
theorem d_Mo_was_35 : decode b_Mo_was 35 = .ok (.bipush (-2), 2) := by decide +kernel
theorem d_Mo_was_37 : decode b_Mo_was 37 = .ok (.ireturn, 1) := by decide +kernel
theorem d_Mo_askOf_0 : decode b_Mo_askOf 0 = .ok (.aload_n 0, 1) := by decide +kernel
theorem d_Mo_askOf_1 : decode b_Mo_askOf 1 = .ok (.iload_n 1, 1) := by decide +kernel
theorem d_Mo_askOf_2 : decode b_Mo_askOf 2 = .ok (.invokevirtual 307, 3) := by decide +kernel
theorem d_Mo_askOf_5 : decode b_Mo_askOf 5 = .ok (.istore_n 2, 1) := by decide +kernel
theorem d_Mo_askOf_6 : decode b_Mo_askOf 6 = .ok (.iconst (-1), 1) := by decide +kernel
theorem d_Mo_askOf_7 : decode b_Mo_askOf 7 = .ok (.istore_n 3, 1) := by decide +kernel
theorem d_Mo_askOf_8 : decode b_Mo_askOf 8 = .ok (.iconst 0, 1) := by decide +kernel
theorem d_Mo_askOf_9 : decode b_Mo_askOf 9 = .ok (.istore 4, 2) := by decide +kernel
theorem d_Mo_askOf_11 : decode b_Mo_askOf 11 = .ok (.iconst 0, 1) := by decide +kernel
theorem d_Mo_askOf_12 : decode b_Mo_askOf 12 = .ok (.istore 5, 2) := by decide +kernel
theorem d_Mo_askOf_14 : decode b_Mo_askOf 14 = .ok (.iload 5, 2) := by decide +kernel
theorem d_Mo_askOf_16 : decode b_Mo_askOf 16 = .ok (.bipush 24, 2) := by decide +kernel
theorem d_Mo_askOf_18 : decode b_Mo_askOf 18 = .ok (.if_icmp .ge 165, 3) := by decide +kernel
theorem d_Mo_askOf_21 : decode b_Mo_askOf 21 = .ok (.iconst 0, 1) := by decide +kernel
theorem d_Mo_askOf_22 : decode b_Mo_askOf 22 = .ok (.istore 6, 2) := by decide +kernel
theorem d_Mo_askOf_24 : decode b_Mo_askOf 24 = .ok (.iconst 1, 1) := by decide +kernel
theorem d_Mo_askOf_25 : decode b_Mo_askOf 25 = .ok (.istore 7, 2) := by decide +kernel
theorem d_Mo_askOf_27 : decode b_Mo_askOf 27 = .ok (.iload 7, 2) := by decide +kernel
theorem d_Mo_askOf_29 : decode b_Mo_askOf 29 = .ok (.bipush 10, 2) := by decide +kernel
theorem d_Mo_askOf_31 : decode b_Mo_askOf 31 = .ok (.if_icmp .ge 101, 3) := by decide +kernel
theorem d_Mo_askOf_34 : decode b_Mo_askOf 34 = .ok (.iconst 0, 1) := by decide +kernel
theorem d_Mo_askOf_35 : decode b_Mo_askOf 35 = .ok (.istore 8, 2) := by decide +kernel
theorem d_Mo_askOf_37 : decode b_Mo_askOf 37 = .ok (.iconst 1, 1) := by decide +kernel
theorem d_Mo_askOf_38 : decode b_Mo_askOf 38 = .ok (.istore 9, 2) := by decide +kernel
theorem d_Mo_askOf_40 : decode b_Mo_askOf 40 = .ok (.iload 9, 2) := by decide +kernel
theorem d_Mo_askOf_42 : decode b_Mo_askOf 42 = .ok (.bipush 10, 2) := by decide +kernel
theorem d_Mo_askOf_44 : decode b_Mo_askOf 44 = .ok (.if_icmp .ge 66, 3) := by decide +kernel
theorem d_Mo_askOf_47 : decode b_Mo_askOf 47 = .ok (.iload 8, 2) := by decide +kernel
theorem d_Mo_askOf_49 : decode b_Mo_askOf 49 = .ok (.iload_n 2, 1) := by decide +kernel
theorem d_Mo_askOf_50 : decode b_Mo_askOf 50 = .ok (.iload 7, 2) := by decide +kernel
theorem d_Mo_askOf_52 : decode b_Mo_askOf 52 = .ok (.invokestatic 209, 3) := by decide +kernel
theorem d_Mo_askOf_55 : decode b_Mo_askOf 55 = .ok (.ifCond .eq 45, 3) := by decide +kernel
theorem d_Mo_askOf_58 : decode b_Mo_askOf 58 = .ok (.iload_n 2, 1) := by decide +kernel
theorem d_Mo_askOf_59 : decode b_Mo_askOf 59 = .ok (.iload 9, 2) := by decide +kernel
theorem d_Mo_askOf_61 : decode b_Mo_askOf 61 = .ok (.invokestatic 209, 3) := by decide +kernel
theorem d_Mo_askOf_64 : decode b_Mo_askOf 64 = .ok (.ifCond .eq 36, 3) := by decide +kernel
theorem d_Mo_askOf_67 : decode b_Mo_askOf 67 = .ok (.aload_n 0, 1) := by decide +kernel
theorem d_Mo_askOf_68 : decode b_Mo_askOf 68 = .ok (.getfield 94, 3) := by decide +kernel
theorem d_Mo_askOf_71 : decode b_Mo_askOf 71 = .ok (.bipush 24, 2) := by decide +kernel
theorem d_Mo_askOf_73 : decode b_Mo_askOf 73 = .ok (.iload 7, 2) := by decide +kernel
theorem d_Mo_askOf_75 : decode b_Mo_askOf 75 = .ok (.imul, 1) := by decide +kernel
theorem d_Mo_askOf_76 : decode b_Mo_askOf 76 = .ok (.iload 5, 2) := by decide +kernel
theorem d_Mo_askOf_78 : decode b_Mo_askOf 78 = .ok (.iadd, 1) := by decide +kernel
theorem d_Mo_askOf_79 : decode b_Mo_askOf 79 = .ok (.iaload, 1) := by decide +kernel
theorem d_Mo_askOf_80 : decode b_Mo_askOf 80 = .ok (.aload_n 0, 1) := by decide +kernel
theorem d_Mo_askOf_81 : decode b_Mo_askOf 81 = .ok (.getfield 94, 3) := by decide +kernel
theorem d_Mo_askOf_84 : decode b_Mo_askOf 84 = .ok (.bipush 24, 2) := by decide +kernel
theorem d_Mo_askOf_86 : decode b_Mo_askOf 86 = .ok (.iload 9, 2) := by decide +kernel
theorem d_Mo_askOf_88 : decode b_Mo_askOf 88 = .ok (.imul, 1) := by decide +kernel
theorem d_Mo_askOf_89 : decode b_Mo_askOf 89 = .ok (.iload 5, 2) := by decide +kernel
theorem d_Mo_askOf_91 : decode b_Mo_askOf 91 = .ok (.iadd, 1) := by decide +kernel
theorem d_Mo_askOf_92 : decode b_Mo_askOf 92 = .ok (.iaload, 1) := by decide +kernel
theorem d_Mo_askOf_93 : decode b_Mo_askOf 93 = .ok (.if_icmp .ne 7, 3) := by decide +kernel
theorem d_Mo_askOf_96 : decode b_Mo_askOf 96 = .ok (.iconst 1, 1) := by decide +kernel
theorem d_Mo_askOf_97 : decode b_Mo_askOf 97 = .ok (.goto 4, 3) := by decide +kernel
theorem d_Mo_askOf_100 : decode b_Mo_askOf 100 = .ok (.iconst 0, 1) := by decide +kernel
theorem d_Mo_askOf_101 : decode b_Mo_askOf 101 = .ok (.iadd, 1) := by decide +kernel
theorem d_Mo_askOf_102 : decode b_Mo_askOf 102 = .ok (.istore 8, 2) := by decide +kernel
theorem d_Mo_askOf_104 : decode b_Mo_askOf 104 = .ok (.iinc 9 1, 3) := by decide +kernel
theorem d_Mo_askOf_107 : decode b_Mo_askOf 107 = .ok (.goto (-67), 3) := by decide +kernel
theorem d_Mo_askOf_110 : decode b_Mo_askOf 110 = .ok (.iload 8, 2) := by decide +kernel
theorem d_Mo_askOf_112 : decode b_Mo_askOf 112 = .ok (.iload 6, 2) := by decide +kernel
theorem d_Mo_askOf_114 : decode b_Mo_askOf 114 = .ok (.if_icmp .le 8, 3) := by decide +kernel
theorem d_Mo_askOf_117 : decode b_Mo_askOf 117 = .ok (.iload 8, 2) := by decide +kernel
theorem d_Mo_askOf_119 : decode b_Mo_askOf 119 = .ok (.goto 5, 3) := by decide +kernel
theorem d_Mo_askOf_122 : decode b_Mo_askOf 122 = .ok (.iload 6, 2) := by decide +kernel
theorem d_Mo_askOf_124 : decode b_Mo_askOf 124 = .ok (.istore 6, 2) := by decide +kernel
theorem d_Mo_askOf_126 : decode b_Mo_askOf 126 = .ok (.iinc 7 1, 3) := by decide +kernel
theorem d_Mo_askOf_129 : decode b_Mo_askOf 129 = .ok (.goto (-102), 3) := by decide +kernel
theorem d_Mo_askOf_132 : decode b_Mo_askOf 132 = .ok (.iload_n 3, 1) := by decide +kernel
theorem d_Mo_askOf_133 : decode b_Mo_askOf 133 = .ok (.iconst (-1), 1) := by decide +kernel
theorem d_Mo_askOf_134 : decode b_Mo_askOf 134 = .ok (.if_icmp .eq 10, 3) := by decide +kernel
theorem d_Mo_askOf_137 : decode b_Mo_askOf 137 = .ok (.iload 6, 2) := by decide +kernel
theorem d_Mo_askOf_139 : decode b_Mo_askOf 139 = .ok (.iload 4, 2) := by decide +kernel
theorem d_Mo_askOf_141 : decode b_Mo_askOf 141 = .ok (.if_icmp .ge 7, 3) := by decide +kernel
theorem d_Mo_askOf_144 : decode b_Mo_askOf 144 = .ok (.iconst 1, 1) := by decide +kernel
theorem d_Mo_askOf_145 : decode b_Mo_askOf 145 = .ok (.goto 4, 3) := by decide +kernel
theorem d_Mo_askOf_148 : decode b_Mo_askOf 148 = .ok (.iconst 0, 1) := by decide +kernel
theorem d_Mo_askOf_149 : decode b_Mo_askOf 149 = .ok (.istore 7, 2) := by decide +kernel
theorem d_Mo_askOf_151 : decode b_Mo_askOf 151 = .ok (.iload 7, 2) := by decide +kernel
theorem d_Mo_askOf_153 : decode b_Mo_askOf 153 = .ok (.ifCond .eq 8, 3) := by decide +kernel
theorem d_Mo_askOf_156 : decode b_Mo_askOf 156 = .ok (.iload 5, 2) := by decide +kernel
theorem d_Mo_askOf_158 : decode b_Mo_askOf 158 = .ok (.goto 4, 3) := by decide +kernel
theorem d_Mo_askOf_161 : decode b_Mo_askOf 161 = .ok (.iload_n 3, 1) := by decide +kernel
theorem d_Mo_askOf_162 : decode b_Mo_askOf 162 = .ok (.istore_n 3, 1) := by decide +kernel
theorem d_Mo_askOf_163 : decode b_Mo_askOf 163 = .ok (.iload 7, 2) := by decide +kernel
theorem d_Mo_askOf_165 : decode b_Mo_askOf 165 = .ok (.ifCond .eq 8, 3) := by decide +kernel
theorem d_Mo_askOf_168 : decode b_Mo_askOf 168 = .ok (.iload 6, 2) := by decide +kernel
theorem d_Mo_askOf_170 : decode b_Mo_askOf 170 = .ok (.goto 5, 3) := by decide +kernel
theorem d_Mo_askOf_173 : decode b_Mo_askOf 173 = .ok (.iload 4, 2) := by decide +kernel
theorem d_Mo_askOf_175 : decode b_Mo_askOf 175 = .ok (.istore 4, 2) := by decide +kernel
theorem d_Mo_askOf_177 : decode b_Mo_askOf 177 = .ok (.iinc 5 1, 3) := by decide +kernel
theorem d_Mo_askOf_180 : decode b_Mo_askOf 180 = .ok (.goto (-166), 3) := by decide +kernel
theorem d_Mo_askOf_183 : decode b_Mo_askOf 183 = .ok (.iload_n 3, 1) := by decide +kernel
theorem d_Mo_askOf_184 : decode b_Mo_askOf 184 = .ok (.ireturn, 1) := by decide +kernel
theorem d_Mo_ask_0 : decode b_Mo_ask 0 = .ok (.aload_n 0, 1) := by decide +kernel
theorem d_Mo_ask_1 : decode b_Mo_ask 1 = .ok (.iload_n 1, 1) := by decide +kernel
theorem d_Mo_ask_2 : decode b_Mo_ask 2 = .ok (.invokevirtual 150, 3) := by decide +kernel
theorem d_Mo_ask_5 : decode b_Mo_ask 5 = .ok (.ifCond .eq 11, 3) := by decide +kernel
theorem d_Mo_ask_8 : decode b_Mo_ask 8 = .ok (.aload_n 0, 1) := by decide +kernel
theorem d_Mo_ask_9 : decode b_Mo_ask 9 = .ok (.iload_n 1, 1) := by decide +kernel
theorem d_Mo_ask_10 : decode b_Mo_ask 10 = .ok (.invokevirtual 310, 3) := by decide +kernel
theorem d_Mo_ask_13 : decode b_Mo_ask 13 = .ok (.goto 5, 3) := by decide +kernel
theorem d_Mo_ask_16 : decode b_Mo_ask 16 = .ok (.bipush (-2), 2) := by decide +kernel
theorem d_Mo_ask_18 : decode b_Mo_ask 18 = .ok (.ireturn, 1) := by decide +kernel
theorem d_Mo_lowest_0 : decode b_Mo_lowest 0 = .ok (.lload_n 0, 1) := by decide +kernel
theorem d_Mo_lowest_1 : decode b_Mo_lowest 1 = .ok (.lstore 5, 2) := by decide +kernel
theorem d_Mo_lowest_3 : decode b_Mo_lowest 3 = .ok (.lload_n 2, 1) := by decide +kernel
theorem d_Mo_lowest_4 : decode b_Mo_lowest 4 = .ok (.lstore 7, 2) := by decide +kernel
theorem d_Mo_lowest_6 : decode b_Mo_lowest 6 = .ok (.lload 7, 2) := by decide +kernel
theorem d_Mo_lowest_8 : decode b_Mo_lowest 8 = .ok (.lconst 0, 1) := by decide +kernel
theorem d_Mo_lowest_9 : decode b_Mo_lowest 9 = .ok (.lcmp, 1) := by decide +kernel
theorem d_Mo_lowest_10 : decode b_Mo_lowest 10 = .ok (.ifCond .eq 21, 3) := by decide +kernel
theorem d_Mo_lowest_13 : decode b_Mo_lowest 13 = .ok (.lload 5, 2) := by decide +kernel
theorem d_Mo_lowest_15 : decode b_Mo_lowest 15 = .ok (.lload 7, 2) := by decide +kernel
theorem d_Mo_lowest_17 : decode b_Mo_lowest 17 = .ok (.lrem, 1) := by decide +kernel
theorem d_Mo_lowest_18 : decode b_Mo_lowest 18 = .ok (.lstore 9, 2) := by decide +kernel
theorem d_Mo_lowest_20 : decode b_Mo_lowest 20 = .ok (.lload 7, 2) := by decide +kernel
theorem d_Mo_lowest_22 : decode b_Mo_lowest 22 = .ok (.lstore 5, 2) := by decide +kernel
theorem d_Mo_lowest_24 : decode b_Mo_lowest 24 = .ok (.lload 9, 2) := by decide +kernel
theorem d_Mo_lowest_26 : decode b_Mo_lowest 26 = .ok (.lstore 7, 2) := by decide +kernel
theorem d_Mo_lowest_28 : decode b_Mo_lowest 28 = .ok (.goto (-22), 3) := by decide +kernel
theorem d_Mo_lowest_31 : decode b_Mo_lowest 31 = .ok (.iload 4, 2) := by decide +kernel
theorem d_Mo_lowest_33 : decode b_Mo_lowest 33 = .ok (.ifCond .ne 10, 3) := by decide +kernel
theorem d_Mo_lowest_36 : decode b_Mo_lowest 36 = .ok (.lload_n 0, 1) := by decide +kernel
theorem d_Mo_lowest_37 : decode b_Mo_lowest 37 = .ok (.lload 5, 2) := by decide +kernel
theorem d_Mo_lowest_39 : decode b_Mo_lowest 39 = .ok (.ldiv, 1) := by decide +kernel
theorem d_Mo_lowest_40 : decode b_Mo_lowest 40 = .ok (.goto 7, 3) := by decide +kernel
theorem d_Mo_lowest_43 : decode b_Mo_lowest 43 = .ok (.lload_n 2, 1) := by decide +kernel
theorem d_Mo_lowest_44 : decode b_Mo_lowest 44 = .ok (.lload 5, 2) := by decide +kernel
theorem d_Mo_lowest_46 : decode b_Mo_lowest 46 = .ok (.ldiv, 1) := by decide +kernel
theorem d_Mo_lowest_47 : decode b_Mo_lowest 47 = .ok (.lreturn, 1) := by decide +kernel
theorem d_Mo_chanceOf_0 : decode b_Mo_chanceOf 0 = .ok (.aload_n 0, 1) := by decide +kernel
theorem d_Mo_chanceOf_1 : decode b_Mo_chanceOf 1 = .ok (.invokevirtual 235, 3) := by decide +kernel
theorem d_Mo_chanceOf_4 : decode b_Mo_chanceOf 4 = .ok (.lconst 0, 1) := by decide +kernel
theorem d_Mo_chanceOf_5 : decode b_Mo_chanceOf 5 = .ok (.lstore 4, 2) := by decide +kernel
theorem d_Mo_chanceOf_7 : decode b_Mo_chanceOf 7 = .ok (.iconst 0, 1) := by decide +kernel
theorem d_Mo_chanceOf_8 : decode b_Mo_chanceOf 8 = .ok (.istore 6, 2) := by decide +kernel
theorem d_Mo_chanceOf_10 : decode b_Mo_chanceOf 10 = .ok (.iload 6, 2) := by decide +kernel
theorem d_Mo_chanceOf_12 : decode b_Mo_chanceOf 12 = .ok (.iconst 1, 1) := by decide +kernel
theorem d_Mo_chanceOf_13 : decode b_Mo_chanceOf 13 = .ok (.aload_n 0, 1) := by decide +kernel
theorem d_Mo_chanceOf_14 : decode b_Mo_chanceOf 14 = .ok (.getfield 171, 3) := by decide +kernel
theorem d_Mo_chanceOf_17 : decode b_Mo_chanceOf 17 = .ok (.ishl, 1) := by decide +kernel
theorem d_Mo_chanceOf_18 : decode b_Mo_chanceOf 18 = .ok (.if_icmp .ge 92, 3) := by decide +kernel
theorem d_Mo_chanceOf_21 : decode b_Mo_chanceOf 21 = .ok (.lconst 1, 1) := by decide +kernel
theorem d_Mo_chanceOf_22 : decode b_Mo_chanceOf 22 = .ok (.lstore 7, 2) := by decide +kernel
theorem d_Mo_chanceOf_24 : decode b_Mo_chanceOf 24 = .ok (.iconst 0, 1) := by decide +kernel
theorem d_Mo_chanceOf_25 : decode b_Mo_chanceOf 25 = .ok (.istore 9, 2) := by decide +kernel
theorem d_Mo_chanceOf_27 : decode b_Mo_chanceOf 27 = .ok (.iload 9, 2) := by decide +kernel
theorem d_Mo_chanceOf_29 : decode b_Mo_chanceOf 29 = .ok (.aload_n 0, 1) := by decide +kernel
theorem d_Mo_chanceOf_30 : decode b_Mo_chanceOf 30 = .ok (.getfield 171, 3) := by decide +kernel
theorem d_Mo_chanceOf_33 : decode b_Mo_chanceOf 33 = .ok (.if_icmp .ge 34, 3) := by decide +kernel
theorem d_Mo_chanceOf_36 : decode b_Mo_chanceOf 36 = .ok (.lload 7, 2) := by decide +kernel
theorem d_Mo_chanceOf_38 : decode b_Mo_chanceOf 38 = .ok (.iload 6, 2) := by decide +kernel
theorem d_Mo_chanceOf_40 : decode b_Mo_chanceOf 40 = .ok (.iload 9, 2) := by decide +kernel
theorem d_Mo_chanceOf_42 : decode b_Mo_chanceOf 42 = .ok (.invokestatic 209, 3) := by decide +kernel
theorem d_Mo_chanceOf_45 : decode b_Mo_chanceOf 45 = .ok (.ifCond .eq 11, 3) := by decide +kernel
theorem d_Mo_chanceOf_48 : decode b_Mo_chanceOf 48 = .ok (.bipush 16, 2) := by decide +kernel
theorem d_Mo_chanceOf_50 : decode b_Mo_chanceOf 50 = .ok (.iload_n 1, 1) := by decide +kernel
theorem d_Mo_chanceOf_51 : decode b_Mo_chanceOf 51 = .ok (.isub, 1) := by decide +kernel
theorem d_Mo_chanceOf_52 : decode b_Mo_chanceOf 52 = .ok (.i2l, 1) := by decide +kernel
theorem d_Mo_chanceOf_53 : decode b_Mo_chanceOf 53 = .ok (.goto 5, 3) := by decide +kernel
theorem d_Mo_chanceOf_56 : decode b_Mo_chanceOf 56 = .ok (.iload_n 1, 1) := by decide +kernel
theorem d_Mo_chanceOf_57 : decode b_Mo_chanceOf 57 = .ok (.i2l, 1) := by decide +kernel
theorem d_Mo_chanceOf_58 : decode b_Mo_chanceOf 58 = .ok (.lmul, 1) := by decide +kernel
theorem d_Mo_chanceOf_59 : decode b_Mo_chanceOf 59 = .ok (.lstore 7, 2) := by decide +kernel
theorem d_Mo_chanceOf_61 : decode b_Mo_chanceOf 61 = .ok (.iinc 9 1, 3) := by decide +kernel
theorem d_Mo_chanceOf_64 : decode b_Mo_chanceOf 64 = .ok (.goto (-37), 3) := by decide +kernel
theorem d_Mo_chanceOf_67 : decode b_Mo_chanceOf 67 = .ok (.lload 7, 2) := by decide +kernel
theorem d_Mo_chanceOf_69 : decode b_Mo_chanceOf 69 = .ok (.lconst 0, 1) := by decide +kernel
theorem d_Mo_chanceOf_70 : decode b_Mo_chanceOf 70 = .ok (.lcmp, 1) := by decide +kernel
theorem d_Mo_chanceOf_71 : decode b_Mo_chanceOf 71 = .ok (.ifCond .le 33, 3) := by decide +kernel
theorem d_Mo_chanceOf_74 : decode b_Mo_chanceOf 74 = .ok (.aload_n 0, 1) := by decide +kernel
theorem d_Mo_chanceOf_75 : decode b_Mo_chanceOf 75 = .ok (.iload 6, 2) := by decide +kernel
theorem d_Mo_chanceOf_77 : decode b_Mo_chanceOf 77 = .ok (.putfield 186, 3) := by decide +kernel
theorem d_Mo_chanceOf_80 : decode b_Mo_chanceOf 80 = .ok (.aload_n 0, 1) := by decide +kernel
theorem d_Mo_chanceOf_81 : decode b_Mo_chanceOf 81 = .ok (.invokevirtual 238, 3) := by decide +kernel
theorem d_Mo_chanceOf_84 : decode b_Mo_chanceOf 84 = .ok (.lload 4, 2) := by decide +kernel
theorem d_Mo_chanceOf_86 : decode b_Mo_chanceOf 86 = .ok (.aload_n 0, 1) := by decide +kernel
theorem d_Mo_chanceOf_87 : decode b_Mo_chanceOf 87 = .ok (.getfield 58, 3) := by decide +kernel
theorem d_Mo_chanceOf_90 : decode b_Mo_chanceOf 90 = .ok (.iload_n 2, 1) := by decide +kernel
theorem d_Mo_chanceOf_91 : decode b_Mo_chanceOf 91 = .ok (.iaload, 1) := by decide +kernel
theorem d_Mo_chanceOf_92 : decode b_Mo_chanceOf 92 = .ok (.ifCond .le 8, 3) := by decide +kernel
theorem d_Mo_chanceOf_95 : decode b_Mo_chanceOf 95 = .ok (.lload 7, 2) := by decide +kernel
theorem d_Mo_chanceOf_97 : decode b_Mo_chanceOf 97 = .ok (.goto 4, 3) := by decide +kernel
theorem d_Mo_chanceOf_100 : decode b_Mo_chanceOf 100 = .ok (.lconst 0, 1) := by decide +kernel
theorem d_Mo_chanceOf_101 : decode b_Mo_chanceOf 101 = .ok (.ladd, 1) := by decide +kernel
theorem d_Mo_chanceOf_102 : decode b_Mo_chanceOf 102 = .ok (.lstore 4, 2) := by decide +kernel
theorem d_Mo_chanceOf_104 : decode b_Mo_chanceOf 104 = .ok (.iinc 6 1, 3) := by decide +kernel
theorem d_Mo_chanceOf_107 : decode b_Mo_chanceOf 107 = .ok (.goto (-97), 3) := by decide +kernel
theorem d_Mo_chanceOf_110 : decode b_Mo_chanceOf 110 = .ok (.lload 4, 2) := by decide +kernel
theorem d_Mo_chanceOf_112 : decode b_Mo_chanceOf 112 = .ok (.lconst 1, 1) := by decide +kernel
theorem d_Mo_chanceOf_113 : decode b_Mo_chanceOf 113 = .ok (.iconst 4, 1) := by decide +kernel
theorem d_Mo_chanceOf_114 : decode b_Mo_chanceOf 114 = .ok (.aload_n 0, 1) := by decide +kernel
theorem d_Mo_chanceOf_115 : decode b_Mo_chanceOf 115 = .ok (.getfield 171, 3) := by decide +kernel
theorem d_Mo_chanceOf_118 : decode b_Mo_chanceOf 118 = .ok (.imul, 1) := by decide +kernel
theorem d_Mo_chanceOf_119 : decode b_Mo_chanceOf 119 = .ok (.lshl, 1) := by decide +kernel
theorem d_Mo_chanceOf_120 : decode b_Mo_chanceOf 120 = .ok (.iload_n 3, 1) := by decide +kernel
theorem d_Mo_chanceOf_121 : decode b_Mo_chanceOf 121 = .ok (.invokestatic 313, 3) := by decide +kernel
theorem d_Mo_chanceOf_124 : decode b_Mo_chanceOf 124 = .ok (.lreturn, 1) := by decide +kernel
theorem d_Mo_no_0 : decode b_Mo_no 0 = .ok (.ldc2_w 113, 3) := by decide +kernel
theorem d_Mo_no_3 : decode b_Mo_no 3 = .ok (.iload_n 0, 1) := by decide +kernel
theorem d_Mo_no_4 : decode b_Mo_no 4 = .ok (.i2l, 1) := by decide +kernel
theorem d_Mo_no_5 : decode b_Mo_no 5 = .ok (.lsub, 1) := by decide +kernel
theorem d_Mo_no_6 : decode b_Mo_no 6 = .ok (.lreturn, 1) := by decide +kernel
theorem d_Mo_chance_0 : decode b_Mo_chance 0 = .ok (.iload_n 1, 1) := by decide +kernel
theorem d_Mo_chance_1 : decode b_Mo_chance 1 = .ok (.iconst 0, 1) := by decide +kernel
theorem d_Mo_chance_2 : decode b_Mo_chance 2 = .ok (.bipush 16, 2) := by decide +kernel
theorem d_Mo_chance_4 : decode b_Mo_chance 4 = .ok (.invokestatic 115, 3) := by decide +kernel
theorem d_Mo_chance_7 : decode b_Mo_chance 7 = .ok (.ifCond .eq 28, 3) := by decide +kernel
theorem d_Mo_chance_10 : decode b_Mo_chance 10 = .ok (.aload_n 0, 1) := by decide +kernel
theorem d_Mo_chance_11 : decode b_Mo_chance 11 = .ok (.iload_n 2, 1) := by decide +kernel
theorem d_Mo_chance_12 : decode b_Mo_chance 12 = .ok (.invokevirtual 150, 3) := by decide +kernel
theorem d_Mo_chance_15 : decode b_Mo_chance 15 = .ok (.ifCond .eq 20, 3) := by decide +kernel
theorem d_Mo_chance_18 : decode b_Mo_chance 18 = .ok (.iload_n 3, 1) := by decide +kernel
theorem d_Mo_chance_19 : decode b_Mo_chance 19 = .ok (.invokestatic 153, 3) := by decide +kernel
theorem d_Mo_chance_22 : decode b_Mo_chance 22 = .ok (.ifCond .eq 13, 3) := by decide +kernel
theorem d_Mo_chance_25 : decode b_Mo_chance 25 = .ok (.aload_n 0, 1) := by decide +kernel
theorem d_Mo_chance_26 : decode b_Mo_chance 26 = .ok (.iload_n 1, 1) := by decide +kernel
theorem d_Mo_chance_27 : decode b_Mo_chance 27 = .ok (.iload_n 2, 1) := by decide +kernel
theorem d_Mo_chance_28 : decode b_Mo_chance 28 = .ok (.iload_n 3, 1) := by decide +kernel
theorem d_Mo_chance_29 : decode b_Mo_chance 29 = .ok (.invokevirtual 317, 3) := by decide +kernel
theorem d_Mo_chance_32 : decode b_Mo_chance 32 = .ok (.goto 8, 3) := by decide +kernel
theorem d_Mo_chance_35 : decode b_Mo_chance 35 = .ok (.bipush (-2), 2) := by decide +kernel
theorem d_Mo_chance_37 : decode b_Mo_chance 37 = .ok (.invokestatic 321, 3) := by decide +kernel
theorem d_Mo_chance_40 : decode b_Mo_chance 40 = .ok (.lreturn, 1) := by decide +kernel
theorem d_Mo_yearsOf_0 : decode b_Mo_yearsOf 0 = .ok (.aload_n 0, 1) := by decide +kernel
theorem d_Mo_yearsOf_1 : decode b_Mo_yearsOf 1 = .ok (.invokevirtual 235, 3) := by decide +kernel
theorem d_Mo_yearsOf_4 : decode b_Mo_yearsOf 4 = .ok (.iload_n 1, 1) := by decide +kernel
theorem d_Mo_yearsOf_5 : decode b_Mo_yearsOf 5 = .ok (.istore 4, 2) := by decide +kernel
theorem d_Mo_yearsOf_7 : decode b_Mo_yearsOf 7 = .ok (.aload_n 0, 1) := by decide +kernel
theorem d_Mo_yearsOf_8 : decode b_Mo_yearsOf 8 = .ok (.aload_n 0, 1) := by decide +kernel
theorem d_Mo_yearsOf_9 : decode b_Mo_yearsOf 9 = .ok (.getfield 127, 3) := by decide +kernel
theorem d_Mo_yearsOf_12 : decode b_Mo_yearsOf 12 = .ok (.ifCond .ne 7, 3) := by decide +kernel
theorem d_Mo_yearsOf_15 : decode b_Mo_yearsOf 15 = .ok (.iconst 0, 1) := by decide +kernel
theorem d_Mo_yearsOf_16 : decode b_Mo_yearsOf 16 = .ok (.goto 4, 3) := by decide +kernel
theorem d_Mo_yearsOf_19 : decode b_Mo_yearsOf 19 = .ok (.iload_n 2, 1) := by decide +kernel
theorem d_Mo_yearsOf_20 : decode b_Mo_yearsOf 20 = .ok (.putfield 183, 3) := by decide +kernel
theorem d_Mo_yearsOf_23 : decode b_Mo_yearsOf 23 = .ok (.iconst 0, 1) := by decide +kernel
theorem d_Mo_yearsOf_24 : decode b_Mo_yearsOf 24 = .ok (.istore 5, 2) := by decide +kernel
theorem d_Mo_yearsOf_26 : decode b_Mo_yearsOf 26 = .ok (.iload 5, 2) := by decide +kernel
theorem d_Mo_yearsOf_28 : decode b_Mo_yearsOf 28 = .ok (.aload_n 0, 1) := by decide +kernel
theorem d_Mo_yearsOf_29 : decode b_Mo_yearsOf 29 = .ok (.getfield 183, 3) := by decide +kernel
theorem d_Mo_yearsOf_32 : decode b_Mo_yearsOf 32 = .ok (.if_icmp .ge 65, 3) := by decide +kernel
theorem d_Mo_yearsOf_35 : decode b_Mo_yearsOf 35 = .ok (.ldc_w 325, 3) := by decide +kernel
theorem d_Mo_yearsOf_38 : decode b_Mo_yearsOf 38 = .ok (.iload 4, 2) := by decide +kernel
theorem d_Mo_yearsOf_40 : decode b_Mo_yearsOf 40 = .ok (.imul, 1) := by decide +kernel
theorem d_Mo_yearsOf_41 : decode b_Mo_yearsOf 41 = .ok (.sipush 12345, 3) := by decide +kernel
theorem d_Mo_yearsOf_44 : decode b_Mo_yearsOf 44 = .ok (.iadd, 1) := by decide +kernel
theorem d_Mo_yearsOf_45 : decode b_Mo_yearsOf 45 = .ok (.istore 4, 2) := by decide +kernel
theorem d_Mo_yearsOf_47 : decode b_Mo_yearsOf 47 = .ok (.aload_n 0, 1) := by decide +kernel
theorem d_Mo_yearsOf_48 : decode b_Mo_yearsOf 48 = .ok (.getfield 37, 3) := by decide +kernel
theorem d_Mo_yearsOf_51 : decode b_Mo_yearsOf 51 = .ok (.iload 5, 2) := by decide +kernel
theorem d_Mo_yearsOf_53 : decode b_Mo_yearsOf 53 = .ok (.iload 4, 2) := by decide +kernel
theorem d_Mo_yearsOf_55 : decode b_Mo_yearsOf 55 = .ok (.bipush 16, 2) := by decide +kernel
theorem d_Mo_yearsOf_57 : decode b_Mo_yearsOf 57 = .ok (.iushr, 1) := by decide +kernel
theorem d_Mo_yearsOf_58 : decode b_Mo_yearsOf 58 = .ok (.bipush 24, 2) := by decide +kernel
theorem d_Mo_yearsOf_60 : decode b_Mo_yearsOf 60 = .ok (.irem, 1) := by decide +kernel
theorem d_Mo_yearsOf_61 : decode b_Mo_yearsOf 61 = .ok (.iastore, 1) := by decide +kernel
theorem d_Mo_yearsOf_62 : decode b_Mo_yearsOf 62 = .ok (.ldc_w 325, 3) := by decide +kernel
theorem d_Mo_yearsOf_65 : decode b_Mo_yearsOf 65 = .ok (.iload 4, 2) := by decide +kernel
theorem d_Mo_yearsOf_67 : decode b_Mo_yearsOf 67 = .ok (.imul, 1) := by decide +kernel
theorem d_Mo_yearsOf_68 : decode b_Mo_yearsOf 68 = .ok (.sipush 12345, 3) := by decide +kernel
theorem d_Mo_yearsOf_71 : decode b_Mo_yearsOf 71 = .ok (.iadd, 1) := by decide +kernel
theorem d_Mo_yearsOf_72 : decode b_Mo_yearsOf 72 = .ok (.istore 4, 2) := by decide +kernel
theorem d_Mo_yearsOf_74 : decode b_Mo_yearsOf 74 = .ok (.aload_n 0, 1) := by decide +kernel
theorem d_Mo_yearsOf_75 : decode b_Mo_yearsOf 75 = .ok (.getfield 40, 3) := by decide +kernel
theorem d_Mo_yearsOf_78 : decode b_Mo_yearsOf 78 = .ok (.iload 5, 2) := by decide +kernel
theorem d_Mo_yearsOf_80 : decode b_Mo_yearsOf 80 = .ok (.iload 4, 2) := by decide +kernel
theorem d_Mo_yearsOf_82 : decode b_Mo_yearsOf 82 = .ok (.bipush 16, 2) := by decide +kernel
theorem d_Mo_yearsOf_84 : decode b_Mo_yearsOf 84 = .ok (.iushr, 1) := by decide +kernel
theorem d_Mo_yearsOf_85 : decode b_Mo_yearsOf 85 = .ok (.aload_n 0, 1) := by decide +kernel
theorem d_Mo_yearsOf_86 : decode b_Mo_yearsOf 86 = .ok (.getfield 127, 3) := by decide +kernel
theorem d_Mo_yearsOf_89 : decode b_Mo_yearsOf 89 = .ok (.irem, 1) := by decide +kernel
theorem d_Mo_yearsOf_90 : decode b_Mo_yearsOf 90 = .ok (.iastore, 1) := by decide +kernel
theorem d_Mo_yearsOf_91 : decode b_Mo_yearsOf 91 = .ok (.iinc 5 1, 3) := by decide +kernel
theorem d_Mo_yearsOf_94 : decode b_Mo_yearsOf 94 = .ok (.goto (-68), 3) := by decide +kernel
theorem d_Mo_yearsOf_97 : decode b_Mo_yearsOf 97 = .ok (.aload_n 0, 1) := by decide +kernel
theorem d_Mo_yearsOf_98 : decode b_Mo_yearsOf 98 = .ok (.invokevirtual 238, 3) := by decide +kernel
theorem d_Mo_yearsOf_101 : decode b_Mo_yearsOf 101 = .ok (.iload_n 3, 1) := by decide +kernel
theorem d_Mo_yearsOf_102 : decode b_Mo_yearsOf 102 = .ok (.ifCond .ne 10, 3) := by decide +kernel
theorem d_Mo_yearsOf_105 : decode b_Mo_yearsOf 105 = .ok (.aload_n 0, 1) := by decide +kernel
theorem d_Mo_yearsOf_106 : decode b_Mo_yearsOf 106 = .ok (.invokevirtual 282, 3) := by decide +kernel
theorem d_Mo_yearsOf_109 : decode b_Mo_yearsOf 109 = .ok (.goto 7, 3) := by decide +kernel
theorem d_Mo_yearsOf_112 : decode b_Mo_yearsOf 112 = .ok (.aload_n 0, 1) := by decide +kernel
theorem d_Mo_yearsOf_113 : decode b_Mo_yearsOf 113 = .ok (.invokevirtual 248, 3) := by decide +kernel
theorem d_Mo_yearsOf_116 : decode b_Mo_yearsOf 116 = .ok (.ireturn, 1) := by decide +kernel
