/-! decode rows (printed) -/
theorem d_CS_write_0 : decode b_CS_write 0 = .ok (.aload_n 0, 1) := by decide +kernel
theorem d_CS_write_1 : decode b_CS_write 1 = .ok (.iload_n 1, 1) := by decide +kernel
theorem d_CS_write_2 : decode b_CS_write 2 = .ok (.invokevirtual 96, 3) := by decide +kernel
theorem d_CS_write_5 : decode b_CS_write 5 = .ok (.ifCond .eq 10, 3) := by decide +kernel
theorem d_CS_write_8 : decode b_CS_write 8 = .ok (.iload_n 2, 1) := by decide +kernel
theorem d_CS_write_9 : decode b_CS_write 9 = .ok (.invokestatic 133, 3) := by decide +kernel
theorem d_CS_write_12 : decode b_CS_write 12 = .ok (.ifCond .ne 6, 3) := by decide +kernel
theorem d_CS_write_15 : decode b_CS_write 15 = .ok (.bipush (-2), 2) := by decide +kernel
theorem d_CS_write_17 : decode b_CS_write 17 = .ok (.ireturn, 1) := by decide +kernel
theorem d_CS_write_18 : decode b_CS_write 18 = .ok (.aload_n 0, 1) := by decide +kernel
theorem d_CS_write_19 : decode b_CS_write 19 = .ok (.getfield 74, 3) := by decide +kernel
theorem d_CS_write_22 : decode b_CS_write 22 = .ok (.iload_n 2, 1) := by decide +kernel
theorem d_CS_write_23 : decode b_CS_write 23 = .ok (.aaload, 1) := by decide +kernel
theorem d_CS_write_24 : decode b_CS_write 24 = .ok (.astore_n 3, 1) := by decide +kernel
theorem d_CS_write_25 : decode b_CS_write 25 = .ok (.aload_n 3, 1) := by decide +kernel
theorem d_CS_write_26 : decode b_CS_write 26 = .ok (.invokevirtual 136, 3) := by decide +kernel
theorem d_CS_write_29 : decode b_CS_write 29 = .ok (.ifCond .eq 9, 3) := by decide +kernel
theorem d_CS_write_32 : decode b_CS_write 32 = .ok (.aload_n 0, 1) := by decide +kernel
theorem d_CS_write_33 : decode b_CS_write 33 = .ok (.iconst 1, 1) := by decide +kernel
theorem d_CS_write_34 : decode b_CS_write 34 = .ok (.invokevirtual 140, 3) := by decide +kernel
theorem d_CS_write_37 : decode b_CS_write 37 = .ok (.ireturn, 1) := by decide +kernel
theorem d_CS_write_38 : decode b_CS_write 38 = .ok (.aload_n 3, 1) := by decide +kernel
theorem d_CS_write_39 : decode b_CS_write 39 = .ok (.getfield 143, 3) := by decide +kernel
theorem d_CS_write_42 : decode b_CS_write 42 = .ok (.bipush 24, 2) := by decide +kernel
theorem d_CS_write_44 : decode b_CS_write 44 = .ok (.invokestatic 264, 3) := by decide +kernel
theorem d_CS_write_47 : decode b_CS_write 47 = .ok (.istore 4, 2) := by decide +kernel
theorem d_CS_write_49 : decode b_CS_write 49 = .ok (.aload_n 0, 1) := by decide +kernel
theorem d_CS_write_50 : decode b_CS_write 50 = .ok (.getfield 44, 3) := by decide +kernel
theorem d_CS_write_53 : decode b_CS_write 53 = .ok (.iload_n 1, 1) := by decide +kernel
theorem d_CS_write_54 : decode b_CS_write 54 = .ok (.invokevirtual 151, 3) := by decide +kernel
theorem d_CS_write_57 : decode b_CS_write 57 = .ok (.astore 5, 2) := by decide +kernel
theorem d_CS_write_59 : decode b_CS_write 59 = .ok (.iconst 0, 1) := by decide +kernel
theorem d_CS_write_60 : decode b_CS_write 60 = .ok (.istore 6, 2) := by decide +kernel
theorem d_CS_write_62 : decode b_CS_write 62 = .ok (.iload 6, 2) := by decide +kernel
theorem d_CS_write_64 : decode b_CS_write 64 = .ok (.iload 4, 2) := by decide +kernel
theorem d_CS_write_66 : decode b_CS_write 66 = .ok (.if_icmp .ge 31, 3) := by decide +kernel
theorem d_CS_write_69 : decode b_CS_write 69 = .ok (.aload_n 3, 1) := by decide +kernel
theorem d_CS_write_70 : decode b_CS_write 70 = .ok (.getfield 144, 3) := by decide +kernel
theorem d_CS_write_73 : decode b_CS_write 73 = .ok (.iload 6, 2) := by decide +kernel
theorem d_CS_write_75 : decode b_CS_write 75 = .ok (.aload_n 3, 1) := by decide +kernel
theorem d_CS_write_76 : decode b_CS_write 76 = .ok (.getfield 252, 3) := by decide +kernel
theorem d_CS_write_79 : decode b_CS_write 79 = .ok (.aload 5, 2) := by decide +kernel
theorem d_CS_write_81 : decode b_CS_write 81 = .ok (.iload 6, 2) := by decide +kernel
theorem d_CS_write_83 : decode b_CS_write 83 = .ok (.iconst 1, 1) := by decide +kernel
theorem d_CS_write_84 : decode b_CS_write 84 = .ok (.invokevirtual 155, 3) := by decide +kernel
theorem d_CS_write_87 : decode b_CS_write 87 = .ok (.invokestatic 245, 3) := by decide +kernel
theorem d_CS_write_90 : decode b_CS_write 90 = .ok (.iastore, 1) := by decide +kernel
theorem d_CS_write_91 : decode b_CS_write 91 = .ok (.iinc 6 1, 3) := by decide +kernel
theorem d_CS_write_94 : decode b_CS_write 94 = .ok (.goto (-32), 3) := by decide +kernel
theorem d_CS_write_97 : decode b_CS_write 97 = .ok (.iload 4, 2) := by decide +kernel
theorem d_CS_write_99 : decode b_CS_write 99 = .ok (.ireturn, 1) := by decide +kernel
theorem d_CS_count_0 : decode b_CS_count 0 = .ok (.iload_n 1, 1) := by decide +kernel
theorem d_CS_count_1 : decode b_CS_count 1 = .ok (.tableswitch 122 0 8 #[51, 59, 67, 75, 83, 91, 100, 109, 117], 51) := by decide +kernel
theorem d_CS_count_52 : decode b_CS_count 52 = .ok (.aload_n 0, 1) := by decide +kernel
theorem d_CS_count_53 : decode b_CS_count 53 = .ok (.getfield 10, 3) := by decide +kernel
theorem d_CS_count_56 : decode b_CS_count 56 = .ok (.getfield 229, 3) := by decide +kernel
theorem d_CS_count_59 : decode b_CS_count 59 = .ok (.ireturn, 1) := by decide +kernel
theorem d_CS_count_60 : decode b_CS_count 60 = .ok (.aload_n 0, 1) := by decide +kernel
theorem d_CS_count_61 : decode b_CS_count 61 = .ok (.getfield 19, 3) := by decide +kernel
theorem d_CS_count_64 : decode b_CS_count 64 = .ok (.getfield 269, 3) := by decide +kernel
theorem d_CS_count_67 : decode b_CS_count 67 = .ok (.ireturn, 1) := by decide +kernel
theorem d_CS_count_68 : decode b_CS_count 68 = .ok (.aload_n 0, 1) := by decide +kernel
theorem d_CS_count_69 : decode b_CS_count 69 = .ok (.getfield 10, 3) := by decide +kernel
theorem d_CS_count_72 : decode b_CS_count 72 = .ok (.getfield 270, 3) := by decide +kernel
theorem d_CS_count_75 : decode b_CS_count 75 = .ok (.ireturn, 1) := by decide +kernel
theorem d_CS_count_76 : decode b_CS_count 76 = .ok (.aload_n 0, 1) := by decide +kernel
theorem d_CS_count_77 : decode b_CS_count 77 = .ok (.getfield 19, 3) := by decide +kernel
theorem d_CS_count_80 : decode b_CS_count 80 = .ok (.getfield 271, 3) := by decide +kernel
theorem d_CS_count_83 : decode b_CS_count 83 = .ok (.ireturn, 1) := by decide +kernel
theorem d_CS_count_84 : decode b_CS_count 84 = .ok (.aload_n 0, 1) := by decide +kernel
theorem d_CS_count_85 : decode b_CS_count 85 = .ok (.getfield 32, 3) := by decide +kernel
theorem d_CS_count_88 : decode b_CS_count 88 = .ok (.getfield 130, 3) := by decide +kernel
theorem d_CS_count_91 : decode b_CS_count 91 = .ok (.ireturn, 1) := by decide +kernel
theorem d_CS_count_92 : decode b_CS_count 92 = .ok (.aload_n 0, 1) := by decide +kernel
theorem d_CS_count_93 : decode b_CS_count 93 = .ok (.getfield 44, 3) := by decide +kernel
theorem d_CS_count_96 : decode b_CS_count 96 = .ok (.iconst 3, 1) := by decide +kernel
theorem d_CS_count_97 : decode b_CS_count 97 = .ok (.invokevirtual 160, 3) := by decide +kernel
theorem d_CS_count_100 : decode b_CS_count 100 = .ok (.ireturn, 1) := by decide +kernel
theorem d_CS_count_101 : decode b_CS_count 101 = .ok (.aload_n 0, 1) := by decide +kernel
theorem d_CS_count_102 : decode b_CS_count 102 = .ok (.getfield 44, 3) := by decide +kernel
theorem d_CS_count_105 : decode b_CS_count 105 = .ok (.iconst 5, 1) := by decide +kernel
theorem d_CS_count_106 : decode b_CS_count 106 = .ok (.invokevirtual 160, 3) := by decide +kernel
theorem d_CS_count_109 : decode b_CS_count 109 = .ok (.ireturn, 1) := by decide +kernel
theorem d_CS_count_110 : decode b_CS_count 110 = .ok (.aload_n 0, 1) := by decide +kernel
theorem d_CS_count_111 : decode b_CS_count 111 = .ok (.getfield 60, 3) := by decide +kernel
theorem d_CS_count_114 : decode b_CS_count 114 = .ok (.getfield 205, 3) := by decide +kernel
theorem d_CS_count_117 : decode b_CS_count 117 = .ok (.ireturn, 1) := by decide +kernel
theorem d_CS_count_118 : decode b_CS_count 118 = .ok (.aload_n 0, 1) := by decide +kernel
theorem d_CS_count_119 : decode b_CS_count 119 = .ok (.getfield 249, 3) := by decide +kernel
theorem d_CS_count_122 : decode b_CS_count 122 = .ok (.ireturn, 1) := by decide +kernel
theorem d_CS_count_123 : decode b_CS_count 123 = .ok (.bipush (-2), 2) := by decide +kernel
theorem d_CS_count_125 : decode b_CS_count 125 = .ok (.ireturn, 1) := by decide +kernel
theorem d_CS_mix_0 : decode b_CS_mix 0 = .ok (.ldc2_w 351, 3) := by decide +kernel
theorem d_CS_mix_3 : decode b_CS_mix 3 = .ok (.lload_n 0, 1) := by decide +kernel
theorem d_CS_mix_4 : decode b_CS_mix 4 = .ok (.lmul, 1) := by decide +kernel
theorem d_CS_mix_5 : decode b_CS_mix 5 = .ok (.lload_n 2, 1) := by decide +kernel
theorem d_CS_mix_6 : decode b_CS_mix 6 = .ok (.ladd, 1) := by decide +kernel
theorem d_CS_mix_7 : decode b_CS_mix 7 = .ok (.lreturn, 1) := by decide +kernel
theorem d_CS_mixBale_0 : decode b_CS_mixBale 0 = .ok (.lload_n 1, 1) := by decide +kernel
theorem d_CS_mixBale_1 : decode b_CS_mixBale 1 = .ok (.lstore 4, 2) := by decide +kernel
theorem d_CS_mixBale_3 : decode b_CS_mixBale 3 = .ok (.iconst 0, 1) := by decide +kernel
theorem d_CS_mixBale_4 : decode b_CS_mixBale 4 = .ok (.istore 6, 2) := by decide +kernel
theorem d_CS_mixBale_6 : decode b_CS_mixBale 6 = .ok (.iload 6, 2) := by decide +kernel
theorem d_CS_mixBale_8 : decode b_CS_mixBale 8 = .ok (.iconst 3, 1) := by decide +kernel
theorem d_CS_mixBale_9 : decode b_CS_mixBale 9 = .ok (.if_icmp .ge 24, 3) := by decide +kernel
theorem d_CS_mixBale_12 : decode b_CS_mixBale 12 = .ok (.lload 4, 2) := by decide +kernel
theorem d_CS_mixBale_14 : decode b_CS_mixBale 14 = .ok (.aload_n 0, 1) := by decide +kernel
theorem d_CS_mixBale_15 : decode b_CS_mixBale 15 = .ok (.iload_n 3, 1) := by decide +kernel
theorem d_CS_mixBale_16 : decode b_CS_mixBale 16 = .ok (.iload 6, 2) := by decide +kernel
theorem d_CS_mixBale_18 : decode b_CS_mixBale 18 = .ok (.invokevirtual 319, 3) := by decide +kernel
theorem d_CS_mixBale_21 : decode b_CS_mixBale 21 = .ok (.i2l, 1) := by decide +kernel
theorem d_CS_mixBale_22 : decode b_CS_mixBale 22 = .ok (.invokestatic 277, 3) := by decide +kernel
theorem d_CS_mixBale_25 : decode b_CS_mixBale 25 = .ok (.lstore 4, 2) := by decide +kernel
theorem d_CS_mixBale_27 : decode b_CS_mixBale 27 = .ok (.iinc 6 1, 3) := by decide +kernel
theorem d_CS_mixBale_30 : decode b_CS_mixBale 30 = .ok (.goto (-24), 3) := by decide +kernel
theorem d_CS_mixBale_33 : decode b_CS_mixBale 33 = .ok (.lload 4, 2) := by decide +kernel
theorem d_CS_mixBale_35 : decode b_CS_mixBale 35 = .ok (.aload_n 0, 1) := by decide +kernel
theorem d_CS_mixBale_36 : decode b_CS_mixBale 36 = .ok (.iload_n 3, 1) := by decide +kernel
theorem d_CS_mixBale_37 : decode b_CS_mixBale 37 = .ok (.iconst 0, 1) := by decide +kernel
theorem d_CS_mixBale_38 : decode b_CS_mixBale 38 = .ok (.invokevirtual 322, 3) := by decide +kernel
theorem d_CS_mixBale_41 : decode b_CS_mixBale 41 = .ok (.i2l, 1) := by decide +kernel
theorem d_CS_mixBale_42 : decode b_CS_mixBale 42 = .ok (.invokestatic 277, 3) := by decide +kernel
theorem d_CS_mixBale_45 : decode b_CS_mixBale 45 = .ok (.aload_n 0, 1) := by decide +kernel
theorem d_CS_mixBale_46 : decode b_CS_mixBale 46 = .ok (.iload_n 3, 1) := by decide +kernel
theorem d_CS_mixBale_47 : decode b_CS_mixBale 47 = .ok (.iconst 1, 1) := by decide +kernel
theorem d_CS_mixBale_48 : decode b_CS_mixBale 48 = .ok (.invokevirtual 322, 3) := by decide +kernel
theorem d_CS_mixBale_51 : decode b_CS_mixBale 51 = .ok (.i2l, 1) := by decide +kernel
theorem d_CS_mixBale_52 : decode b_CS_mixBale 52 = .ok (.invokestatic 277, 3) := by decide +kernel
theorem d_CS_mixBale_55 : decode b_CS_mixBale 55 = .ok (.lstore 4, 2) := by decide +kernel
theorem d_CS_mixBale_57 : decode b_CS_mixBale 57 = .ok (.lload 4, 2) := by decide +kernel
theorem d_CS_mixBale_59 : decode b_CS_mixBale 59 = .ok (.aload_n 0, 1) := by decide +kernel
theorem d_CS_mixBale_60 : decode b_CS_mixBale 60 = .ok (.iload_n 3, 1) := by decide +kernel
theorem d_CS_mixBale_61 : decode b_CS_mixBale 61 = .ok (.iconst 0, 1) := by decide +kernel
theorem d_CS_mixBale_62 : decode b_CS_mixBale 62 = .ok (.invokevirtual 325, 3) := by decide +kernel
theorem d_CS_mixBale_65 : decode b_CS_mixBale 65 = .ok (.i2l, 1) := by decide +kernel
theorem d_CS_mixBale_66 : decode b_CS_mixBale 66 = .ok (.invokestatic 277, 3) := by decide +kernel
theorem d_CS_mixBale_69 : decode b_CS_mixBale 69 = .ok (.aload_n 0, 1) := by decide +kernel
theorem d_CS_mixBale_70 : decode b_CS_mixBale 70 = .ok (.iload_n 3, 1) := by decide +kernel
theorem d_CS_mixBale_71 : decode b_CS_mixBale 71 = .ok (.iconst 1, 1) := by decide +kernel
theorem d_CS_mixBale_72 : decode b_CS_mixBale 72 = .ok (.invokevirtual 325, 3) := by decide +kernel
theorem d_CS_mixBale_75 : decode b_CS_mixBale 75 = .ok (.i2l, 1) := by decide +kernel
theorem d_CS_mixBale_76 : decode b_CS_mixBale 76 = .ok (.invokestatic 277, 3) := by decide +kernel
theorem d_CS_mixBale_79 : decode b_CS_mixBale 79 = .ok (.lreturn, 1) := by decide +kernel
theorem d_CS_mixDay_0 : decode b_CS_mixDay 0 = .ok (.lload_n 1, 1) := by decide +kernel
theorem d_CS_mixDay_1 : decode b_CS_mixDay 1 = .ok (.lstore 5, 2) := by decide +kernel
theorem d_CS_mixDay_3 : decode b_CS_mixDay 3 = .ok (.iconst 0, 1) := by decide +kernel
theorem d_CS_mixDay_4 : decode b_CS_mixDay 4 = .ok (.istore 7, 2) := by decide +kernel
theorem d_CS_mixDay_6 : decode b_CS_mixDay 6 = .ok (.iload 7, 2) := by decide +kernel
theorem d_CS_mixDay_8 : decode b_CS_mixDay 8 = .ok (.bipush 6, 2) := by decide +kernel
theorem d_CS_mixDay_10 : decode b_CS_mixDay 10 = .ok (.if_icmp .ge 26, 3) := by decide +kernel
theorem d_CS_mixDay_13 : decode b_CS_mixDay 13 = .ok (.lload 5, 2) := by decide +kernel
theorem d_CS_mixDay_15 : decode b_CS_mixDay 15 = .ok (.aload_n 0, 1) := by decide +kernel
theorem d_CS_mixDay_16 : decode b_CS_mixDay 16 = .ok (.iload_n 3, 1) := by decide +kernel
theorem d_CS_mixDay_17 : decode b_CS_mixDay 17 = .ok (.iload 4, 2) := by decide +kernel
theorem d_CS_mixDay_19 : decode b_CS_mixDay 19 = .ok (.iload 7, 2) := by decide +kernel
theorem d_CS_mixDay_21 : decode b_CS_mixDay 21 = .ok (.invokevirtual 348, 3) := by decide +kernel
theorem d_CS_mixDay_24 : decode b_CS_mixDay 24 = .ok (.i2l, 1) := by decide +kernel
theorem d_CS_mixDay_25 : decode b_CS_mixDay 25 = .ok (.invokestatic 277, 3) := by decide +kernel
theorem d_CS_mixDay_28 : decode b_CS_mixDay 28 = .ok (.lstore 5, 2) := by decide +kernel
theorem d_CS_mixDay_30 : decode b_CS_mixDay 30 = .ok (.iinc 7 1, 3) := by decide +kernel
theorem d_CS_mixDay_33 : decode b_CS_mixDay 33 = .ok (.goto (-27), 3) := by decide +kernel
theorem d_CS_mixDay_36 : decode b_CS_mixDay 36 = .ok (.lload 5, 2) := by decide +kernel
theorem d_CS_mixDay_38 : decode b_CS_mixDay 38 = .ok (.lreturn, 1) := by decide +kernel
theorem d_CS_mixCamel_0 : decode b_CS_mixCamel 0 = .ok (.lload_n 1, 1) := by decide +kernel
theorem d_CS_mixCamel_1 : decode b_CS_mixCamel 1 = .ok (.aload_n 0, 1) := by decide +kernel
theorem d_CS_mixCamel_2 : decode b_CS_mixCamel 2 = .ok (.iload_n 3, 1) := by decide +kernel
theorem d_CS_mixCamel_3 : decode b_CS_mixCamel 3 = .ok (.iconst 0, 1) := by decide +kernel
theorem d_CS_mixCamel_4 : decode b_CS_mixCamel 4 = .ok (.invokevirtual 328, 3) := by decide +kernel
theorem d_CS_mixCamel_7 : decode b_CS_mixCamel 7 = .ok (.i2l, 1) := by decide +kernel
theorem d_CS_mixCamel_8 : decode b_CS_mixCamel 8 = .ok (.invokestatic 277, 3) := by decide +kernel
theorem d_CS_mixCamel_11 : decode b_CS_mixCamel 11 = .ok (.aload_n 0, 1) := by decide +kernel
theorem d_CS_mixCamel_12 : decode b_CS_mixCamel 12 = .ok (.iload_n 3, 1) := by decide +kernel
theorem d_CS_mixCamel_13 : decode b_CS_mixCamel 13 = .ok (.iconst 1, 1) := by decide +kernel
theorem d_CS_mixCamel_14 : decode b_CS_mixCamel 14 = .ok (.invokevirtual 328, 3) := by decide +kernel
theorem d_CS_mixCamel_17 : decode b_CS_mixCamel 17 = .ok (.i2l, 1) := by decide +kernel
theorem d_CS_mixCamel_18 : decode b_CS_mixCamel 18 = .ok (.invokestatic 277, 3) := by decide +kernel
theorem d_CS_mixCamel_21 : decode b_CS_mixCamel 21 = .ok (.lstore 4, 2) := by decide +kernel
theorem d_CS_mixCamel_23 : decode b_CS_mixCamel 23 = .ok (.aload_n 0, 1) := by decide +kernel
theorem d_CS_mixCamel_24 : decode b_CS_mixCamel 24 = .ok (.lload 4, 2) := by decide +kernel
theorem d_CS_mixCamel_26 : decode b_CS_mixCamel 26 = .ok (.iconst 0, 1) := by decide +kernel
theorem d_CS_mixCamel_27 : decode b_CS_mixCamel 27 = .ok (.iload_n 3, 1) := by decide +kernel
theorem d_CS_mixCamel_28 : decode b_CS_mixCamel 28 = .ok (.invokevirtual 331, 3) := by decide +kernel
theorem d_CS_mixCamel_31 : decode b_CS_mixCamel 31 = .ok (.lstore 4, 2) := by decide +kernel
theorem d_CS_mixCamel_33 : decode b_CS_mixCamel 33 = .ok (.aload_n 0, 1) := by decide +kernel
theorem d_CS_mixCamel_34 : decode b_CS_mixCamel 34 = .ok (.lload 4, 2) := by decide +kernel
theorem d_CS_mixCamel_36 : decode b_CS_mixCamel 36 = .ok (.bipush 7, 2) := by decide +kernel
theorem d_CS_mixCamel_38 : decode b_CS_mixCamel 38 = .ok (.iload_n 3, 1) := by decide +kernel
theorem d_CS_mixCamel_39 : decode b_CS_mixCamel 39 = .ok (.invokevirtual 331, 3) := by decide +kernel
theorem d_CS_mixCamel_42 : decode b_CS_mixCamel 42 = .ok (.lstore 4, 2) := by decide +kernel
theorem d_CS_mixCamel_44 : decode b_CS_mixCamel 44 = .ok (.aload_n 0, 1) := by decide +kernel
theorem d_CS_mixCamel_45 : decode b_CS_mixCamel 45 = .ok (.lload 4, 2) := by decide +kernel
theorem d_CS_mixCamel_47 : decode b_CS_mixCamel 47 = .ok (.bipush 14, 2) := by decide +kernel
theorem d_CS_mixCamel_49 : decode b_CS_mixCamel 49 = .ok (.iload_n 3, 1) := by decide +kernel
theorem d_CS_mixCamel_50 : decode b_CS_mixCamel 50 = .ok (.invokevirtual 331, 3) := by decide +kernel
theorem d_CS_mixCamel_53 : decode b_CS_mixCamel 53 = .ok (.lstore 4, 2) := by decide +kernel
theorem d_CS_mixCamel_55 : decode b_CS_mixCamel 55 = .ok (.aload_n 0, 1) := by decide +kernel
theorem d_CS_mixCamel_56 : decode b_CS_mixCamel 56 = .ok (.lload 4, 2) := by decide +kernel
theorem d_CS_mixCamel_58 : decode b_CS_mixCamel 58 = .ok (.bipush 23, 2) := by decide +kernel
theorem d_CS_mixCamel_60 : decode b_CS_mixCamel 60 = .ok (.iload_n 3, 1) := by decide +kernel
theorem d_CS_mixCamel_61 : decode b_CS_mixCamel 61 = .ok (.invokevirtual 331, 3) := by decide +kernel
theorem d_CS_mixCamel_64 : decode b_CS_mixCamel 64 = .ok (.lstore 4, 2) := by decide +kernel
theorem d_CS_mixCamel_66 : decode b_CS_mixCamel 66 = .ok (.lload 4, 2) := by decide +kernel
theorem d_CS_mixCamel_68 : decode b_CS_mixCamel 68 = .ok (.aload_n 0, 1) := by decide +kernel
theorem d_CS_mixCamel_69 : decode b_CS_mixCamel 69 = .ok (.iload_n 3, 1) := by decide +kernel
theorem d_CS_mixCamel_70 : decode b_CS_mixCamel 70 = .ok (.iconst 5, 1) := by decide +kernel
theorem d_CS_mixCamel_71 : decode b_CS_mixCamel 71 = .ok (.invokevirtual 335, 3) := by decide +kernel
theorem d_CS_mixCamel_74 : decode b_CS_mixCamel 74 = .ok (.i2l, 1) := by decide +kernel
theorem d_CS_mixCamel_75 : decode b_CS_mixCamel 75 = .ok (.invokestatic 277, 3) := by decide +kernel
theorem d_CS_mixCamel_78 : decode b_CS_mixCamel 78 = .ok (.lstore 4, 2) := by decide +kernel
theorem d_CS_mixCamel_80 : decode b_CS_mixCamel 80 = .ok (.lload 4, 2) := by decide +kernel
theorem d_CS_mixCamel_82 : decode b_CS_mixCamel 82 = .ok (.aload_n 0, 1) := by decide +kernel
theorem d_CS_mixCamel_83 : decode b_CS_mixCamel 83 = .ok (.iload_n 3, 1) := by decide +kernel
theorem d_CS_mixCamel_84 : decode b_CS_mixCamel 84 = .ok (.iconst 0, 1) := by decide +kernel
theorem d_CS_mixCamel_85 : decode b_CS_mixCamel 85 = .ok (.invokevirtual 338, 3) := by decide +kernel
theorem d_CS_mixCamel_88 : decode b_CS_mixCamel 88 = .ok (.i2l, 1) := by decide +kernel
theorem d_CS_mixCamel_89 : decode b_CS_mixCamel 89 = .ok (.invokestatic 277, 3) := by decide +kernel
theorem d_CS_mixCamel_92 : decode b_CS_mixCamel 92 = .ok (.aload_n 0, 1) := by decide +kernel
theorem d_CS_mixCamel_93 : decode b_CS_mixCamel 93 = .ok (.iload_n 3, 1) := by decide +kernel
theorem d_CS_mixCamel_94 : decode b_CS_mixCamel 94 = .ok (.iconst 1, 1) := by decide +kernel
theorem d_CS_mixCamel_95 : decode b_CS_mixCamel 95 = .ok (.invokevirtual 338, 3) := by decide +kernel
theorem d_CS_mixCamel_98 : decode b_CS_mixCamel 98 = .ok (.i2l, 1) := by decide +kernel
theorem d_CS_mixCamel_99 : decode b_CS_mixCamel 99 = .ok (.invokestatic 277, 3) := by decide +kernel
theorem d_CS_mixCamel_102 : decode b_CS_mixCamel 102 = .ok (.lstore 4, 2) := by decide +kernel
theorem d_CS_mixCamel_104 : decode b_CS_mixCamel 104 = .ok (.lload 4, 2) := by decide +kernel
theorem d_CS_mixCamel_106 : decode b_CS_mixCamel 106 = .ok (.aload_n 0, 1) := by decide +kernel
theorem d_CS_mixCamel_107 : decode b_CS_mixCamel 107 = .ok (.iload_n 3, 1) := by decide +kernel
theorem d_CS_mixCamel_108 : decode b_CS_mixCamel 108 = .ok (.invokevirtual 341, 3) := by decide +kernel
theorem d_CS_mixCamel_111 : decode b_CS_mixCamel 111 = .ok (.i2l, 1) := by decide +kernel
theorem d_CS_mixCamel_112 : decode b_CS_mixCamel 112 = .ok (.invokestatic 277, 3) := by decide +kernel
theorem d_CS_mixCamel_115 : decode b_CS_mixCamel 115 = .ok (.lstore 4, 2) := by decide +kernel
theorem d_CS_mixCamel_117 : decode b_CS_mixCamel 117 = .ok (.lload 4, 2) := by decide +kernel
theorem d_CS_mixCamel_119 : decode b_CS_mixCamel 119 = .ok (.aload_n 0, 1) := by decide +kernel
theorem d_CS_mixCamel_120 : decode b_CS_mixCamel 120 = .ok (.iconst 5, 1) := by decide +kernel
theorem d_CS_mixCamel_121 : decode b_CS_mixCamel 121 = .ok (.iload_n 3, 1) := by decide +kernel
theorem d_CS_mixCamel_122 : decode b_CS_mixCamel 122 = .ok (.iconst 0, 1) := by decide +kernel
theorem d_CS_mixCamel_123 : decode b_CS_mixCamel 123 = .ok (.invokevirtual 344, 3) := by decide +kernel
theorem d_CS_mixCamel_126 : decode b_CS_mixCamel 126 = .ok (.invokestatic 277, 3) := by decide +kernel
theorem d_CS_mixCamel_129 : decode b_CS_mixCamel 129 = .ok (.aload_n 0, 1) := by decide +kernel
theorem d_CS_mixCamel_130 : decode b_CS_mixCamel 130 = .ok (.iconst 5, 1) := by decide +kernel
theorem d_CS_mixCamel_131 : decode b_CS_mixCamel 131 = .ok (.iload_n 3, 1) := by decide +kernel
theorem d_CS_mixCamel_132 : decode b_CS_mixCamel 132 = .ok (.iconst 1, 1) := by decide +kernel
theorem d_CS_mixCamel_133 : decode b_CS_mixCamel 133 = .ok (.invokevirtual 344, 3) := by decide +kernel
theorem d_CS_mixCamel_136 : decode b_CS_mixCamel 136 = .ok (.invokestatic 277, 3) := by decide +kernel
theorem d_CS_mixCamel_139 : decode b_CS_mixCamel 139 = .ok (.lreturn, 1) := by decide +kernel
theorem d_CS_digest_0 : decode b_CS_digest 0 = .ok (.ldc2_w 272, 3) := by decide +kernel
theorem d_CS_digest_3 : decode b_CS_digest 3 = .ok (.lstore_n 1, 1) := by decide +kernel
theorem d_CS_digest_4 : decode b_CS_digest 4 = .ok (.iconst 0, 1) := by decide +kernel
theorem d_CS_digest_5 : decode b_CS_digest 5 = .ok (.istore_n 3, 1) := by decide +kernel
theorem d_CS_digest_6 : decode b_CS_digest 6 = .ok (.iload_n 3, 1) := by decide +kernel
theorem d_CS_digest_7 : decode b_CS_digest 7 = .ok (.bipush 8, 2) := by decide +kernel
theorem d_CS_digest_9 : decode b_CS_digest 9 = .ok (.if_icmp .ge 20, 3) := by decide +kernel
theorem d_CS_digest_12 : decode b_CS_digest 12 = .ok (.lload_n 1, 1) := by decide +kernel
theorem d_CS_digest_13 : decode b_CS_digest 13 = .ok (.aload_n 0, 1) := by decide +kernel
theorem d_CS_digest_14 : decode b_CS_digest 14 = .ok (.iload_n 3, 1) := by decide +kernel
theorem d_CS_digest_15 : decode b_CS_digest 15 = .ok (.invokevirtual 274, 3) := by decide +kernel
theorem d_CS_digest_18 : decode b_CS_digest 18 = .ok (.i2l, 1) := by decide +kernel
theorem d_CS_digest_19 : decode b_CS_digest 19 = .ok (.invokestatic 277, 3) := by decide +kernel
theorem d_CS_digest_22 : decode b_CS_digest 22 = .ok (.lstore_n 1, 1) := by decide +kernel
theorem d_CS_digest_23 : decode b_CS_digest 23 = .ok (.iinc 3 1, 3) := by decide +kernel
theorem d_CS_digest_26 : decode b_CS_digest 26 = .ok (.goto (-20), 3) := by decide +kernel
theorem d_CS_digest_29 : decode b_CS_digest 29 = .ok (.iconst 0, 1) := by decide +kernel
theorem d_CS_digest_30 : decode b_CS_digest 30 = .ok (.istore_n 3, 1) := by decide +kernel
theorem d_CS_digest_31 : decode b_CS_digest 31 = .ok (.iload_n 3, 1) := by decide +kernel
theorem d_CS_digest_32 : decode b_CS_digest 32 = .ok (.iconst 2, 1) := by decide +kernel
theorem d_CS_digest_33 : decode b_CS_digest 33 = .ok (.if_icmp .ge 20, 3) := by decide +kernel
theorem d_CS_digest_36 : decode b_CS_digest 36 = .ok (.lload_n 1, 1) := by decide +kernel
theorem d_CS_digest_37 : decode b_CS_digest 37 = .ok (.aload_n 0, 1) := by decide +kernel
theorem d_CS_digest_38 : decode b_CS_digest 38 = .ok (.iload_n 3, 1) := by decide +kernel
theorem d_CS_digest_39 : decode b_CS_digest 39 = .ok (.invokevirtual 281, 3) := by decide +kernel
theorem d_CS_digest_42 : decode b_CS_digest 42 = .ok (.i2l, 1) := by decide +kernel
theorem d_CS_digest_43 : decode b_CS_digest 43 = .ok (.invokestatic 277, 3) := by decide +kernel
theorem d_CS_digest_46 : decode b_CS_digest 46 = .ok (.lstore_n 1, 1) := by decide +kernel
theorem d_CS_digest_47 : decode b_CS_digest 47 = .ok (.iinc 3 1, 3) := by decide +kernel
theorem d_CS_digest_50 : decode b_CS_digest 50 = .ok (.goto (-19), 3) := by decide +kernel
theorem d_CS_digest_53 : decode b_CS_digest 53 = .ok (.iconst 0, 1) := by decide +kernel
theorem d_CS_digest_54 : decode b_CS_digest 54 = .ok (.istore_n 3, 1) := by decide +kernel
theorem d_CS_digest_55 : decode b_CS_digest 55 = .ok (.iload_n 3, 1) := by decide +kernel
theorem d_CS_digest_56 : decode b_CS_digest 56 = .ok (.aload_n 0, 1) := by decide +kernel
theorem d_CS_digest_57 : decode b_CS_digest 57 = .ok (.getfield 19, 3) := by decide +kernel
theorem d_CS_digest_60 : decode b_CS_digest 60 = .ok (.getfield 269, 3) := by decide +kernel
theorem d_CS_digest_63 : decode b_CS_digest 63 = .ok (.if_icmp .ge 16, 3) := by decide +kernel
theorem d_CS_digest_66 : decode b_CS_digest 66 = .ok (.aload_n 0, 1) := by decide +kernel
theorem d_CS_digest_67 : decode b_CS_digest 67 = .ok (.lload_n 1, 1) := by decide +kernel
theorem d_CS_digest_68 : decode b_CS_digest 68 = .ok (.iload_n 3, 1) := by decide +kernel
theorem d_CS_digest_69 : decode b_CS_digest 69 = .ok (.invokevirtual 284, 3) := by decide +kernel
theorem d_CS_digest_72 : decode b_CS_digest 72 = .ok (.lstore_n 1, 1) := by decide +kernel
theorem d_CS_digest_73 : decode b_CS_digest 73 = .ok (.iinc 3 1, 3) := by decide +kernel
theorem d_CS_digest_76 : decode b_CS_digest 76 = .ok (.goto (-21), 3) := by decide +kernel
theorem d_CS_digest_79 : decode b_CS_digest 79 = .ok (.iconst 0, 1) := by decide +kernel
theorem d_CS_digest_80 : decode b_CS_digest 80 = .ok (.istore_n 3, 1) := by decide +kernel
theorem d_CS_digest_81 : decode b_CS_digest 81 = .ok (.iload_n 3, 1) := by decide +kernel
theorem d_CS_digest_82 : decode b_CS_digest 82 = .ok (.aload_n 0, 1) := by decide +kernel
theorem d_CS_digest_83 : decode b_CS_digest 83 = .ok (.getfield 10, 3) := by decide +kernel
theorem d_CS_digest_86 : decode b_CS_digest 86 = .ok (.getfield 229, 3) := by decide +kernel
theorem d_CS_digest_89 : decode b_CS_digest 89 = .ok (.if_icmp .ge 16, 3) := by decide +kernel
theorem d_CS_digest_92 : decode b_CS_digest 92 = .ok (.aload_n 0, 1) := by decide +kernel
theorem d_CS_digest_93 : decode b_CS_digest 93 = .ok (.lload_n 1, 1) := by decide +kernel
theorem d_CS_digest_94 : decode b_CS_digest 94 = .ok (.iload_n 3, 1) := by decide +kernel
theorem d_CS_digest_95 : decode b_CS_digest 95 = .ok (.invokevirtual 288, 3) := by decide +kernel
theorem d_CS_digest_98 : decode b_CS_digest 98 = .ok (.lstore_n 1, 1) := by decide +kernel
theorem d_CS_digest_99 : decode b_CS_digest 99 = .ok (.iinc 3 1, 3) := by decide +kernel
theorem d_CS_digest_102 : decode b_CS_digest 102 = .ok (.goto (-21), 3) := by decide +kernel
theorem d_CS_digest_105 : decode b_CS_digest 105 = .ok (.lload_n 1, 1) := by decide +kernel
theorem d_CS_digest_106 : decode b_CS_digest 106 = .ok (.aload_n 0, 1) := by decide +kernel
theorem d_CS_digest_107 : decode b_CS_digest 107 = .ok (.invokevirtual 291, 3) := by decide +kernel
theorem d_CS_digest_110 : decode b_CS_digest 110 = .ok (.i2l, 1) := by decide +kernel
theorem d_CS_digest_111 : decode b_CS_digest 111 = .ok (.invokestatic 277, 3) := by decide +kernel
theorem d_CS_digest_114 : decode b_CS_digest 114 = .ok (.aload_n 0, 1) := by decide +kernel
theorem d_CS_digest_115 : decode b_CS_digest 115 = .ok (.invokevirtual 294, 3) := by decide +kernel
theorem d_CS_digest_118 : decode b_CS_digest 118 = .ok (.i2l, 1) := by decide +kernel
theorem d_CS_digest_119 : decode b_CS_digest 119 = .ok (.invokestatic 277, 3) := by decide +kernel
theorem d_CS_digest_122 : decode b_CS_digest 122 = .ok (.lstore_n 1, 1) := by decide +kernel
theorem d_CS_digest_123 : decode b_CS_digest 123 = .ok (.lload_n 1, 1) := by decide +kernel
theorem d_CS_digest_124 : decode b_CS_digest 124 = .ok (.aload_n 0, 1) := by decide +kernel
theorem d_CS_digest_125 : decode b_CS_digest 125 = .ok (.iconst 0, 1) := by decide +kernel
theorem d_CS_digest_126 : decode b_CS_digest 126 = .ok (.invokevirtual 297, 3) := by decide +kernel
theorem d_CS_digest_129 : decode b_CS_digest 129 = .ok (.i2l, 1) := by decide +kernel
theorem d_CS_digest_130 : decode b_CS_digest 130 = .ok (.invokestatic 277, 3) := by decide +kernel
theorem d_CS_digest_133 : decode b_CS_digest 133 = .ok (.aload_n 0, 1) := by decide +kernel
theorem d_CS_digest_134 : decode b_CS_digest 134 = .ok (.iconst 1, 1) := by decide +kernel
theorem d_CS_digest_135 : decode b_CS_digest 135 = .ok (.invokevirtual 297, 3) := by decide +kernel
theorem d_CS_digest_138 : decode b_CS_digest 138 = .ok (.i2l, 1) := by decide +kernel
theorem d_CS_digest_139 : decode b_CS_digest 139 = .ok (.invokestatic 277, 3) := by decide +kernel
theorem d_CS_digest_142 : decode b_CS_digest 142 = .ok (.lstore_n 1, 1) := by decide +kernel
theorem d_CS_digest_143 : decode b_CS_digest 143 = .ok (.lload_n 1, 1) := by decide +kernel
theorem d_CS_digest_144 : decode b_CS_digest 144 = .ok (.aload_n 0, 1) := by decide +kernel
theorem d_CS_digest_145 : decode b_CS_digest 145 = .ok (.invokevirtual 300, 3) := by decide +kernel
theorem d_CS_digest_148 : decode b_CS_digest 148 = .ok (.i2l, 1) := by decide +kernel
theorem d_CS_digest_149 : decode b_CS_digest 149 = .ok (.invokestatic 277, 3) := by decide +kernel
theorem d_CS_digest_152 : decode b_CS_digest 152 = .ok (.aload_n 0, 1) := by decide +kernel
theorem d_CS_digest_153 : decode b_CS_digest 153 = .ok (.invokevirtual 303, 3) := by decide +kernel
theorem d_CS_digest_156 : decode b_CS_digest 156 = .ok (.i2l, 1) := by decide +kernel
theorem d_CS_digest_157 : decode b_CS_digest 157 = .ok (.invokestatic 277, 3) := by decide +kernel
theorem d_CS_digest_160 : decode b_CS_digest 160 = .ok (.aload_n 0, 1) := by decide +kernel
theorem d_CS_digest_161 : decode b_CS_digest 161 = .ok (.invokevirtual 306, 3) := by decide +kernel
theorem d_CS_digest_164 : decode b_CS_digest 164 = .ok (.i2l, 1) := by decide +kernel
theorem d_CS_digest_165 : decode b_CS_digest 165 = .ok (.invokestatic 277, 3) := by decide +kernel
theorem d_CS_digest_168 : decode b_CS_digest 168 = .ok (.lstore_n 1, 1) := by decide +kernel
theorem d_CS_digest_169 : decode b_CS_digest 169 = .ok (.lload_n 1, 1) := by decide +kernel
theorem d_CS_digest_170 : decode b_CS_digest 170 = .ok (.aload_n 0, 1) := by decide +kernel
theorem d_CS_digest_171 : decode b_CS_digest 171 = .ok (.iconst (-1), 1) := by decide +kernel
theorem d_CS_digest_172 : decode b_CS_digest 172 = .ok (.invokevirtual 309, 3) := by decide +kernel
theorem d_CS_digest_175 : decode b_CS_digest 175 = .ok (.i2l, 1) := by decide +kernel
theorem d_CS_digest_176 : decode b_CS_digest 176 = .ok (.invokestatic 277, 3) := by decide +kernel
theorem d_CS_digest_179 : decode b_CS_digest 179 = .ok (.aload_n 0, 1) := by decide +kernel
theorem d_CS_digest_180 : decode b_CS_digest 180 = .ok (.iconst 0, 1) := by decide +kernel
theorem d_CS_digest_181 : decode b_CS_digest 181 = .ok (.invokevirtual 309, 3) := by decide +kernel
theorem d_CS_digest_184 : decode b_CS_digest 184 = .ok (.i2l, 1) := by decide +kernel
theorem d_CS_digest_185 : decode b_CS_digest 185 = .ok (.invokestatic 277, 3) := by decide +kernel
theorem d_CS_digest_188 : decode b_CS_digest 188 = .ok (.lstore_n 1, 1) := by decide +kernel
theorem d_CS_digest_189 : decode b_CS_digest 189 = .ok (.lload_n 1, 1) := by decide +kernel
theorem d_CS_digest_190 : decode b_CS_digest 190 = .ok (.aload_n 0, 1) := by decide +kernel
theorem d_CS_digest_191 : decode b_CS_digest 191 = .ok (.invokevirtual 312, 3) := by decide +kernel
theorem d_CS_digest_194 : decode b_CS_digest 194 = .ok (.i2l, 1) := by decide +kernel
theorem d_CS_digest_195 : decode b_CS_digest 195 = .ok (.invokestatic 277, 3) := by decide +kernel
theorem d_CS_digest_198 : decode b_CS_digest 198 = .ok (.lstore_n 1, 1) := by decide +kernel
theorem d_CS_digest_199 : decode b_CS_digest 199 = .ok (.lload_n 1, 1) := by decide +kernel
theorem d_CS_digest_200 : decode b_CS_digest 200 = .ok (.aload_n 0, 1) := by decide +kernel
theorem d_CS_digest_201 : decode b_CS_digest 201 = .ok (.bipush 7, 2) := by decide +kernel
theorem d_CS_digest_203 : decode b_CS_digest 203 = .ok (.bipush 6, 2) := by decide +kernel
theorem d_CS_digest_205 : decode b_CS_digest 205 = .ok (.iconst 0, 1) := by decide +kernel
theorem d_CS_digest_206 : decode b_CS_digest 206 = .ok (.invokevirtual 315, 3) := by decide +kernel
theorem d_CS_digest_209 : decode b_CS_digest 209 = .ok (.i2l, 1) := by decide +kernel
theorem d_CS_digest_210 : decode b_CS_digest 210 = .ok (.invokestatic 277, 3) := by decide +kernel
theorem d_CS_digest_213 : decode b_CS_digest 213 = .ok (.aload_n 0, 1) := by decide +kernel
theorem d_CS_digest_214 : decode b_CS_digest 214 = .ok (.bipush 7, 2) := by decide +kernel
theorem d_CS_digest_216 : decode b_CS_digest 216 = .ok (.bipush 6, 2) := by decide +kernel
theorem d_CS_digest_218 : decode b_CS_digest 218 = .ok (.iconst 1, 1) := by decide +kernel
theorem d_CS_digest_219 : decode b_CS_digest 219 = .ok (.invokevirtual 315, 3) := by decide +kernel
theorem d_CS_digest_222 : decode b_CS_digest 222 = .ok (.i2l, 1) := by decide +kernel
theorem d_CS_digest_223 : decode b_CS_digest 223 = .ok (.invokestatic 277, 3) := by decide +kernel
theorem d_CS_digest_226 : decode b_CS_digest 226 = .ok (.lreturn, 1) := by decide +kernel
theorem d_Mo_in_0 : decode b_Mo_in 0 = .ok (.iload_n 0, 1) := by decide +kernel
theorem d_Mo_in_1 : decode b_Mo_in 1 = .ok (.iload_n 1, 1) := by decide +kernel
theorem d_Mo_in_2 : decode b_Mo_in 2 = .ok (.if_icmp .lt 12, 3) := by decide +kernel
theorem d_Mo_in_5 : decode b_Mo_in 5 = .ok (.iload_n 0, 1) := by decide +kernel
theorem d_Mo_in_6 : decode b_Mo_in 6 = .ok (.iload_n 2, 1) := by decide +kernel
theorem d_Mo_in_7 : decode b_Mo_in 7 = .ok (.if_icmp .gt 7, 3) := by decide +kernel
theorem d_Mo_in_10 : decode b_Mo_in 10 = .ok (.iconst 1, 1) := by decide +kernel
theorem d_Mo_in_11 : decode b_Mo_in 11 = .ok (.goto 4, 3) := by decide +kernel
theorem d_Mo_in_14 : decode b_Mo_in 14 = .ok (.iconst 0, 1) := by decide +kernel
theorem d_Mo_in_15 : decode b_Mo_in 15 = .ok (.ireturn, 1) := by decide +kernel
theorem d_Mo_isText_0 : decode b_Mo_isText 0 = .ok (.iload_n 0, 1) := by decide +kernel
theorem d_Mo_isText_1 : decode b_Mo_isText 1 = .ok (.iconst 0, 1) := by decide +kernel
theorem d_Mo_isText_2 : decode b_Mo_isText 2 = .ok (.iconst 1, 1) := by decide +kernel
theorem d_Mo_isText_3 : decode b_Mo_isText 3 = .ok (.invokestatic 115, 3) := by decide +kernel
theorem d_Mo_isText_6 : decode b_Mo_isText 6 = .ok (.ireturn, 1) := by decide +kernel
theorem d_Mo_type_0 : decode b_Mo_type 0 = .ok (.iload_n 1, 1) := by decide +kernel
theorem d_Mo_type_1 : decode b_Mo_type 1 = .ok (.invokestatic 119, 3) := by decide +kernel
theorem d_Mo_type_4 : decode b_Mo_type 4 = .ok (.ifCond .eq 14, 3) := by decide +kernel
theorem d_Mo_type_7 : decode b_Mo_type 7 = .ok (.iload_n 2, 1) := by decide +kernel
theorem d_Mo_type_8 : decode b_Mo_type 8 = .ok (.iconst 0, 1) := by decide +kernel
theorem d_Mo_type_9 : decode b_Mo_type 9 = .ok (.sipush 255, 3) := by decide +kernel
theorem d_Mo_type_12 : decode b_Mo_type 12 = .ok (.invokestatic 115, 3) := by decide +kernel
theorem d_Mo_type_15 : decode b_Mo_type 15 = .ok (.ifCond .ne 6, 3) := by decide +kernel
theorem d_Mo_type_18 : decode b_Mo_type 18 = .ok (.bipush (-2), 2) := by decide +kernel
theorem d_Mo_type_20 : decode b_Mo_type 20 = .ok (.ireturn, 1) := by decide +kernel
theorem d_Mo_type_21 : decode b_Mo_type 21 = .ok (.aload_n 0, 1) := by decide +kernel
theorem d_Mo_type_22 : decode b_Mo_type 22 = .ok (.getfield 7, 3) := by decide +kernel
theorem d_Mo_type_25 : decode b_Mo_type 25 = .ok (.iload_n 1, 1) := by decide +kernel
theorem d_Mo_type_26 : decode b_Mo_type 26 = .ok (.iaload, 1) := by decide +kernel
theorem d_Mo_type_27 : decode b_Mo_type 27 = .ok (.iload_n 1, 1) := by decide +kernel
theorem d_Mo_type_28 : decode b_Mo_type 28 = .ok (.ifCond .ne 8, 3) := by decide +kernel
theorem d_Mo_type_31 : decode b_Mo_type 31 = .ok (.bipush 23, 2) := by decide +kernel
theorem d_Mo_type_33 : decode b_Mo_type 33 = .ok (.goto 5, 3) := by decide +kernel
theorem d_Mo_type_36 : decode b_Mo_type 36 = .ok (.bipush 39, 2) := by decide +kernel
theorem d_Mo_type_38 : decode b_Mo_type 38 = .ok (.if_icmp .ne 6, 3) := by decide +kernel
theorem d_Mo_type_41 : decode b_Mo_type 41 = .ok (.bipush (-4), 2) := by decide +kernel
theorem d_Mo_type_43 : decode b_Mo_type 43 = .ok (.ireturn, 1) := by decide +kernel
theorem d_Mo_type_44 : decode b_Mo_type 44 = .ok (.aload_n 0, 1) := by decide +kernel
theorem d_Mo_type_45 : decode b_Mo_type 45 = .ok (.getfield 13, 3) := by decide +kernel
theorem d_Mo_type_48 : decode b_Mo_type 48 = .ok (.bipush 39, 2) := by decide +kernel
theorem d_Mo_type_50 : decode b_Mo_type 50 = .ok (.iload_n 1, 1) := by decide +kernel
theorem d_Mo_type_51 : decode b_Mo_type 51 = .ok (.imul, 1) := by decide +kernel
theorem d_Mo_type_52 : decode b_Mo_type 52 = .ok (.aload_n 0, 1) := by decide +kernel
theorem d_Mo_type_53 : decode b_Mo_type 53 = .ok (.getfield 7, 3) := by decide +kernel
theorem d_Mo_type_56 : decode b_Mo_type 56 = .ok (.iload_n 1, 1) := by decide +kernel
theorem d_Mo_type_57 : decode b_Mo_type 57 = .ok (.iaload, 1) := by decide +kernel
theorem d_Mo_type_58 : decode b_Mo_type 58 = .ok (.iadd, 1) := by decide +kernel
theorem d_Mo_type_59 : decode b_Mo_type 59 = .ok (.iload_n 2, 1) := by decide +kernel
theorem d_Mo_type_60 : decode b_Mo_type 60 = .ok (.iastore, 1) := by decide +kernel
theorem d_Mo_type_61 : decode b_Mo_type 61 = .ok (.aload_n 0, 1) := by decide +kernel
theorem d_Mo_type_62 : decode b_Mo_type 62 = .ok (.getfield 7, 3) := by decide +kernel
theorem d_Mo_type_65 : decode b_Mo_type 65 = .ok (.iload_n 1, 1) := by decide +kernel
theorem d_Mo_type_66 : decode b_Mo_type 66 = .ok (.dup2, 1) := by decide +kernel
theorem d_Mo_type_67 : decode b_Mo_type 67 = .ok (.iaload, 1) := by decide +kernel
theorem d_Mo_type_68 : decode b_Mo_type 68 = .ok (.iconst 1, 1) := by decide +kernel
theorem d_Mo_type_69 : decode b_Mo_type 69 = .ok (.iadd, 1) := by decide +kernel
theorem d_Mo_type_70 : decode b_Mo_type 70 = .ok (.iastore, 1) := by decide +kernel
theorem d_Mo_type_71 : decode b_Mo_type 71 = .ok (.aload_n 0, 1) := by decide +kernel
theorem d_Mo_type_72 : decode b_Mo_type 72 = .ok (.getfield 7, 3) := by decide +kernel
theorem d_Mo_type_75 : decode b_Mo_type 75 = .ok (.iload_n 1, 1) := by decide +kernel
theorem d_Mo_type_76 : decode b_Mo_type 76 = .ok (.iaload, 1) := by decide +kernel
theorem d_Mo_type_77 : decode b_Mo_type 77 = .ok (.ireturn, 1) := by decide +kernel
theorem d_Mo_wipe_0 : decode b_Mo_wipe 0 = .ok (.iload_n 1, 1) := by decide +kernel
theorem d_Mo_wipe_1 : decode b_Mo_wipe 1 = .ok (.invokestatic 119, 3) := by decide +kernel
theorem d_Mo_wipe_4 : decode b_Mo_wipe 4 = .ok (.ifCond .ne 6, 3) := by decide +kernel
theorem d_Mo_wipe_7 : decode b_Mo_wipe 7 = .ok (.bipush (-2), 2) := by decide +kernel
theorem d_Mo_wipe_9 : decode b_Mo_wipe 9 = .ok (.ireturn, 1) := by decide +kernel
theorem d_Mo_wipe_10 : decode b_Mo_wipe 10 = .ok (.aload_n 0, 1) := by decide +kernel
theorem d_Mo_wipe_11 : decode b_Mo_wipe 11 = .ok (.getfield 7, 3) := by decide +kernel
theorem d_Mo_wipe_14 : decode b_Mo_wipe 14 = .ok (.iload_n 1, 1) := by decide +kernel
theorem d_Mo_wipe_15 : decode b_Mo_wipe 15 = .ok (.iaload, 1) := by decide +kernel
theorem d_Mo_wipe_16 : decode b_Mo_wipe 16 = .ok (.istore_n 2, 1) := by decide +kernel
theorem d_Mo_wipe_17 : decode b_Mo_wipe 17 = .ok (.aload_n 0, 1) := by decide +kernel
theorem d_Mo_wipe_18 : decode b_Mo_wipe 18 = .ok (.getfield 7, 3) := by decide +kernel
theorem d_Mo_wipe_21 : decode b_Mo_wipe 21 = .ok (.iload_n 1, 1) := by decide +kernel
theorem d_Mo_wipe_22 : decode b_Mo_wipe 22 = .ok (.iconst 0, 1) := by decide +kernel
theorem d_Mo_wipe_23 : decode b_Mo_wipe 23 = .ok (.iastore, 1) := by decide +kernel
theorem d_Mo_wipe_24 : decode b_Mo_wipe 24 = .ok (.iload_n 2, 1) := by decide +kernel
theorem d_Mo_wipe_25 : decode b_Mo_wipe 25 = .ok (.ireturn, 1) := by decide +kernel
theorem d_Mo_undo_0 : decode b_Mo_undo 0 = .ok (.iload_n 1, 1) := by decide +kernel
theorem d_Mo_undo_1 : decode b_Mo_undo 1 = .ok (.invokestatic 119, 3) := by decide +kernel
theorem d_Mo_undo_4 : decode b_Mo_undo 4 = .ok (.ifCond .ne 6, 3) := by decide +kernel
theorem d_Mo_undo_7 : decode b_Mo_undo 7 = .ok (.bipush (-2), 2) := by decide +kernel
theorem d_Mo_undo_9 : decode b_Mo_undo 9 = .ok (.ireturn, 1) := by decide +kernel
theorem d_Mo_undo_10 : decode b_Mo_undo 10 = .ok (.aload_n 0, 1) := by decide +kernel
theorem d_Mo_undo_11 : decode b_Mo_undo 11 = .ok (.getfield 7, 3) := by decide +kernel
theorem d_Mo_undo_14 : decode b_Mo_undo 14 = .ok (.iload_n 1, 1) := by decide +kernel
theorem d_Mo_undo_15 : decode b_Mo_undo 15 = .ok (.iaload, 1) := by decide +kernel
theorem d_Mo_undo_16 : decode b_Mo_undo 16 = .ok (.ifCond .ne 6, 3) := by decide +kernel
theorem d_Mo_undo_19 : decode b_Mo_undo 19 = .ok (.bipush (-3), 2) := by decide +kernel
theorem d_Mo_undo_21 : decode b_Mo_undo 21 = .ok (.ireturn, 1) := by decide +kernel
theorem d_Mo_undo_22 : decode b_Mo_undo 22 = .ok (.aload_n 0, 1) := by decide +kernel
theorem d_Mo_undo_23 : decode b_Mo_undo 23 = .ok (.getfield 7, 3) := by decide +kernel
theorem d_Mo_undo_26 : decode b_Mo_undo 26 = .ok (.iload_n 1, 1) := by decide +kernel
theorem d_Mo_undo_27 : decode b_Mo_undo 27 = .ok (.dup2, 1) := by decide +kernel
theorem d_Mo_undo_28 : decode b_Mo_undo 28 = .ok (.iaload, 1) := by decide +kernel
theorem d_Mo_undo_29 : decode b_Mo_undo 29 = .ok (.iconst 1, 1) := by decide +kernel
theorem d_Mo_undo_30 : decode b_Mo_undo 30 = .ok (.isub, 1) := by decide +kernel
theorem d_Mo_undo_31 : decode b_Mo_undo 31 = .ok (.iastore, 1) := by decide +kernel
theorem d_Mo_undo_32 : decode b_Mo_undo 32 = .ok (.aload_n 0, 1) := by decide +kernel
theorem d_Mo_undo_33 : decode b_Mo_undo 33 = .ok (.getfield 7, 3) := by decide +kernel
theorem d_Mo_undo_36 : decode b_Mo_undo 36 = .ok (.iload_n 1, 1) := by decide +kernel
theorem d_Mo_undo_37 : decode b_Mo_undo 37 = .ok (.iaload, 1) := by decide +kernel
theorem d_Mo_undo_38 : decode b_Mo_undo 38 = .ok (.ireturn, 1) := by decide +kernel
theorem d_Mo_byteAt_0 : decode b_Mo_byteAt 0 = .ok (.iload_n 2, 1) := by decide +kernel
theorem d_Mo_byteAt_1 : decode b_Mo_byteAt 1 = .ok (.aload_n 0, 1) := by decide +kernel
theorem d_Mo_byteAt_2 : decode b_Mo_byteAt 2 = .ok (.getfield 7, 3) := by decide +kernel
theorem d_Mo_byteAt_5 : decode b_Mo_byteAt 5 = .ok (.iload_n 1, 1) := by decide +kernel
theorem d_Mo_byteAt_6 : decode b_Mo_byteAt 6 = .ok (.iaload, 1) := by decide +kernel
theorem d_Mo_byteAt_7 : decode b_Mo_byteAt 7 = .ok (.if_icmp .ge 17, 3) := by decide +kernel
theorem d_Mo_byteAt_10 : decode b_Mo_byteAt 10 = .ok (.aload_n 0, 1) := by decide +kernel
theorem d_Mo_byteAt_11 : decode b_Mo_byteAt 11 = .ok (.getfield 13, 3) := by decide +kernel
theorem d_Mo_byteAt_14 : decode b_Mo_byteAt 14 = .ok (.bipush 39, 2) := by decide +kernel
theorem d_Mo_byteAt_16 : decode b_Mo_byteAt 16 = .ok (.iload_n 1, 1) := by decide +kernel
theorem d_Mo_byteAt_17 : decode b_Mo_byteAt 17 = .ok (.imul, 1) := by decide +kernel
theorem d_Mo_byteAt_18 : decode b_Mo_byteAt 18 = .ok (.iload_n 2, 1) := by decide +kernel
theorem d_Mo_byteAt_19 : decode b_Mo_byteAt 19 = .ok (.iadd, 1) := by decide +kernel
theorem d_Mo_byteAt_20 : decode b_Mo_byteAt 20 = .ok (.iaload, 1) := by decide +kernel
theorem d_Mo_byteAt_21 : decode b_Mo_byteAt 21 = .ok (.goto 4, 3) := by decide +kernel
theorem d_Mo_byteAt_24 : decode b_Mo_byteAt 24 = .ok (.iconst (-1), 1) := by decide +kernel
theorem d_Mo_byteAt_25 : decode b_Mo_byteAt 25 = .ok (.ireturn, 1) := by decide +kernel
theorem d_Mo_readsCamel_0 : decode b_Mo_readsCamel 0 = .ok (.aload_n 0, 1) := by decide +kernel
theorem d_Mo_readsCamel_1 : decode b_Mo_readsCamel 1 = .ok (.iconst 0, 1) := by decide +kernel
theorem d_Mo_readsCamel_2 : decode b_Mo_readsCamel 2 = .ok (.iload_n 2, 1) := by decide +kernel
theorem d_Mo_readsCamel_3 : decode b_Mo_readsCamel 3 = .ok (.invokevirtual 123, 3) := by decide +kernel
theorem d_Mo_readsCamel_6 : decode b_Mo_readsCamel 6 = .ok (.istore_n 3, 1) := by decide +kernel
theorem d_Mo_readsCamel_7 : decode b_Mo_readsCamel 7 = .ok (.iload_n 3, 1) := by decide +kernel
theorem d_Mo_readsCamel_8 : decode b_Mo_readsCamel 8 = .ok (.bipush 121, 2) := by decide +kernel
theorem d_Mo_readsCamel_10 : decode b_Mo_readsCamel 10 = .ok (.if_icmp .ne 7, 3) := by decide +kernel
theorem d_Mo_readsCamel_13 : decode b_Mo_readsCamel 13 = .ok (.iconst 0, 1) := by decide +kernel
theorem d_Mo_readsCamel_14 : decode b_Mo_readsCamel 14 = .ok (.goto 24, 3) := by decide +kernel
theorem d_Mo_readsCamel_17 : decode b_Mo_readsCamel 17 = .ok (.iload_n 3, 1) := by decide +kernel
theorem d_Mo_readsCamel_18 : decode b_Mo_readsCamel 18 = .ok (.bipush 111, 2) := by decide +kernel
theorem d_Mo_readsCamel_20 : decode b_Mo_readsCamel 20 = .ok (.if_icmp .ne 7, 3) := by decide +kernel
theorem d_Mo_readsCamel_23 : decode b_Mo_readsCamel 23 = .ok (.iconst 1, 1) := by decide +kernel
theorem d_Mo_readsCamel_24 : decode b_Mo_readsCamel 24 = .ok (.goto 14, 3) := by decide +kernel
theorem d_Mo_readsCamel_27 : decode b_Mo_readsCamel 27 = .ok (.iload_n 3, 1) := by decide +kernel
theorem d_Mo_readsCamel_28 : decode b_Mo_readsCamel 28 = .ok (.bipush 115, 2) := by decide +kernel
theorem d_Mo_readsCamel_30 : decode b_Mo_readsCamel 30 = .ok (.if_icmp .ne 7, 3) := by decide +kernel
theorem d_Mo_readsCamel_33 : decode b_Mo_readsCamel 33 = .ok (.iconst 2, 1) := by decide +kernel
theorem d_Mo_readsCamel_34 : decode b_Mo_readsCamel 34 = .ok (.goto 4, 3) := by decide +kernel
theorem d_Mo_readsCamel_37 : decode b_Mo_readsCamel 37 = .ok (.iconst (-1), 1) := by decide +kernel
theorem d_Mo_readsCamel_38 : decode b_Mo_readsCamel 38 = .ok (.istore 4, 2) := by decide +kernel
theorem d_Mo_readsCamel_40 : decode b_Mo_readsCamel 40 = .ok (.aload_n 0, 1) := by decide +kernel
theorem d_Mo_readsCamel_41 : decode b_Mo_readsCamel 41 = .ok (.iconst 0, 1) := by decide +kernel
theorem d_Mo_readsCamel_42 : decode b_Mo_readsCamel 42 = .ok (.iload_n 2, 1) := by decide +kernel
theorem d_Mo_readsCamel_43 : decode b_Mo_readsCamel 43 = .ok (.iconst 1, 1) := by decide +kernel
theorem d_Mo_readsCamel_44 : decode b_Mo_readsCamel 44 = .ok (.iadd, 1) := by decide +kernel
theorem d_Mo_readsCamel_45 : decode b_Mo_readsCamel 45 = .ok (.invokevirtual 123, 3) := by decide +kernel
theorem d_Mo_readsCamel_48 : decode b_Mo_readsCamel 48 = .ok (.istore 5, 2) := by decide +kernel
theorem d_Mo_readsCamel_50 : decode b_Mo_readsCamel 50 = .ok (.iload_n 1, 1) := by decide +kernel
theorem d_Mo_readsCamel_51 : decode b_Mo_readsCamel 51 = .ok (.bipush 8, 2) := by decide +kernel
theorem d_Mo_readsCamel_53 : decode b_Mo_readsCamel 53 = .ok (.if_icmp .eq 9, 3) := by decide +kernel
theorem d_Mo_readsCamel_56 : decode b_Mo_readsCamel 56 = .ok (.iload 4, 2) := by decide +kernel
theorem d_Mo_readsCamel_58 : decode b_Mo_readsCamel 58 = .ok (.iconst (-1), 1) := by decide +kernel
theorem d_Mo_readsCamel_59 : decode b_Mo_readsCamel 59 = .ok (.if_icmp .ne 5, 3) := by decide +kernel
theorem d_Mo_readsCamel_62 : decode b_Mo_readsCamel 62 = .ok (.iconst 0, 1) := by decide +kernel
theorem d_Mo_readsCamel_63 : decode b_Mo_readsCamel 63 = .ok (.ireturn, 1) := by decide +kernel
theorem d_Mo_readsCamel_64 : decode b_Mo_readsCamel 64 = .ok (.iload 5, 2) := by decide +kernel
theorem d_Mo_readsCamel_66 : decode b_Mo_readsCamel 66 = .ok (.bipush 49, 2) := by decide +kernel
theorem d_Mo_readsCamel_68 : decode b_Mo_readsCamel 68 = .ok (.bipush 57, 2) := by decide +kernel
theorem d_Mo_readsCamel_70 : decode b_Mo_readsCamel 70 = .ok (.invokestatic 115, 3) := by decide +kernel
theorem d_Mo_readsCamel_73 : decode b_Mo_readsCamel 73 = .ok (.ifCond .ne 5, 3) := by decide +kernel
theorem d_Mo_readsCamel_76 : decode b_Mo_readsCamel 76 = .ok (.iconst 1, 1) := by decide +kernel
theorem d_Mo_readsCamel_77 : decode b_Mo_readsCamel 77 = .ok (.ireturn, 1) := by decide +kernel
theorem d_Mo_readsCamel_78 : decode b_Mo_readsCamel 78 = .ok (.aload_n 0, 1) := by decide +kernel
theorem d_Mo_readsCamel_79 : decode b_Mo_readsCamel 79 = .ok (.getfield 16, 3) := by decide +kernel
theorem d_Mo_readsCamel_82 : decode b_Mo_readsCamel 82 = .ok (.iload_n 1, 1) := by decide +kernel
theorem d_Mo_readsCamel_83 : decode b_Mo_readsCamel 83 = .ok (.iload 4, 2) := by decide +kernel
theorem d_Mo_readsCamel_85 : decode b_Mo_readsCamel 85 = .ok (.iastore, 1) := by decide +kernel
theorem d_Mo_readsCamel_86 : decode b_Mo_readsCamel 86 = .ok (.aload_n 0, 1) := by decide +kernel
theorem d_Mo_readsCamel_87 : decode b_Mo_readsCamel 87 = .ok (.getfield 19, 3) := by decide +kernel
theorem d_Mo_readsCamel_90 : decode b_Mo_readsCamel 90 = .ok (.iload_n 1, 1) := by decide +kernel
theorem d_Mo_readsCamel_91 : decode b_Mo_readsCamel 91 = .ok (.iload 5, 2) := by decide +kernel
theorem d_Mo_readsCamel_93 : decode b_Mo_readsCamel 93 = .ok (.bipush 48, 2) := by decide +kernel
theorem d_Mo_readsCamel_95 : decode b_Mo_readsCamel 95 = .ok (.isub, 1) := by decide +kernel
theorem d_Mo_readsCamel_96 : decode b_Mo_readsCamel 96 = .ok (.iastore, 1) := by decide +kernel
theorem d_Mo_readsCamel_97 : decode b_Mo_readsCamel 97 = .ok (.iconst 2, 1) := by decide +kernel
theorem d_Mo_readsCamel_98 : decode b_Mo_readsCamel 98 = .ok (.ireturn, 1) := by decide +kernel
theorem d_Mo_readsBale_0 : decode b_Mo_readsBale 0 = .ok (.aload_n 0, 1) := by decide +kernel
theorem d_Mo_readsBale_1 : decode b_Mo_readsBale 1 = .ok (.iconst 1, 1) := by decide +kernel
theorem d_Mo_readsBale_2 : decode b_Mo_readsBale 2 = .ok (.iload_n 2, 1) := by decide +kernel
theorem d_Mo_readsBale_3 : decode b_Mo_readsBale 3 = .ok (.invokevirtual 123, 3) := by decide +kernel
theorem d_Mo_readsBale_6 : decode b_Mo_readsBale 6 = .ok (.istore_n 3, 1) := by decide +kernel
theorem d_Mo_readsBale_7 : decode b_Mo_readsBale 7 = .ok (.aload_n 0, 1) := by decide +kernel
theorem d_Mo_readsBale_8 : decode b_Mo_readsBale 8 = .ok (.iconst 1, 1) := by decide +kernel
theorem d_Mo_readsBale_9 : decode b_Mo_readsBale 9 = .ok (.iload_n 2, 1) := by decide +kernel
theorem d_Mo_readsBale_10 : decode b_Mo_readsBale 10 = .ok (.iconst 1, 1) := by decide +kernel
theorem d_Mo_readsBale_11 : decode b_Mo_readsBale 11 = .ok (.iadd, 1) := by decide +kernel
theorem d_Mo_readsBale_12 : decode b_Mo_readsBale 12 = .ok (.invokevirtual 123, 3) := by decide +kernel
theorem d_Mo_readsBale_15 : decode b_Mo_readsBale 15 = .ok (.istore 4, 2) := by decide +kernel
theorem d_Mo_readsBale_17 : decode b_Mo_readsBale 17 = .ok (.aload_n 0, 1) := by decide +kernel
theorem d_Mo_readsBale_18 : decode b_Mo_readsBale 18 = .ok (.iconst 1, 1) := by decide +kernel
theorem d_Mo_readsBale_19 : decode b_Mo_readsBale 19 = .ok (.iload_n 2, 1) := by decide +kernel
theorem d_Mo_readsBale_20 : decode b_Mo_readsBale 20 = .ok (.iconst 2, 1) := by decide +kernel
theorem d_Mo_readsBale_21 : decode b_Mo_readsBale 21 = .ok (.iadd, 1) := by decide +kernel
theorem d_Mo_readsBale_22 : decode b_Mo_readsBale 22 = .ok (.invokevirtual 123, 3) := by decide +kernel
theorem d_Mo_readsBale_25 : decode b_Mo_readsBale 25 = .ok (.istore 5, 2) := by decide +kernel
theorem d_Mo_readsBale_27 : decode b_Mo_readsBale 27 = .ok (.iload_n 1, 1) := by decide +kernel
theorem d_Mo_readsBale_28 : decode b_Mo_readsBale 28 = .ok (.bipush 10, 2) := by decide +kernel
theorem d_Mo_readsBale_30 : decode b_Mo_readsBale 30 = .ok (.if_icmp .eq 14, 3) := by decide +kernel
theorem d_Mo_readsBale_33 : decode b_Mo_readsBale 33 = .ok (.iload_n 3, 1) := by decide +kernel
theorem d_Mo_readsBale_34 : decode b_Mo_readsBale 34 = .ok (.bipush 97, 2) := by decide +kernel
theorem d_Mo_readsBale_36 : decode b_Mo_readsBale 36 = .ok (.bipush 104, 2) := by decide +kernel
theorem d_Mo_readsBale_38 : decode b_Mo_readsBale 38 = .ok (.invokestatic 115, 3) := by decide +kernel
theorem d_Mo_readsBale_41 : decode b_Mo_readsBale 41 = .ok (.ifCond .ne 5, 3) := by decide +kernel
theorem d_Mo_readsBale_44 : decode b_Mo_readsBale 44 = .ok (.iconst 0, 1) := by decide +kernel
theorem d_Mo_readsBale_45 : decode b_Mo_readsBale 45 = .ok (.ireturn, 1) := by decide +kernel
theorem d_Mo_readsBale_46 : decode b_Mo_readsBale 46 = .ok (.iload 4, 2) := by decide +kernel
theorem d_Mo_readsBale_48 : decode b_Mo_readsBale 48 = .ok (.bipush 49, 2) := by decide +kernel
theorem d_Mo_readsBale_50 : decode b_Mo_readsBale 50 = .ok (.bipush 57, 2) := by decide +kernel
theorem d_Mo_readsBale_52 : decode b_Mo_readsBale 52 = .ok (.invokestatic 115, 3) := by decide +kernel
theorem d_Mo_readsBale_55 : decode b_Mo_readsBale 55 = .ok (.ifCond .ne 5, 3) := by decide +kernel
theorem d_Mo_readsBale_58 : decode b_Mo_readsBale 58 = .ok (.iconst 1, 1) := by decide +kernel
theorem d_Mo_readsBale_59 : decode b_Mo_readsBale 59 = .ok (.ireturn, 1) := by decide +kernel
theorem d_Mo_readsBale_60 : decode b_Mo_readsBale 60 = .ok (.iload 5, 2) := by decide +kernel
theorem d_Mo_readsBale_62 : decode b_Mo_readsBale 62 = .ok (.bipush 97, 2) := by decide +kernel
theorem d_Mo_readsBale_64 : decode b_Mo_readsBale 64 = .ok (.bipush 120, 2) := by decide +kernel
theorem d_Mo_readsBale_66 : decode b_Mo_readsBale 66 = .ok (.invokestatic 115, 3) := by decide +kernel
theorem d_Mo_readsBale_69 : decode b_Mo_readsBale 69 = .ok (.ifCond .ne 5, 3) := by decide +kernel
theorem d_Mo_readsBale_72 : decode b_Mo_readsBale 72 = .ok (.iconst 2, 1) := by decide +kernel
theorem d_Mo_readsBale_73 : decode b_Mo_readsBale 73 = .ok (.ireturn, 1) := by decide +kernel
theorem d_Mo_readsBale_74 : decode b_Mo_readsBale 74 = .ok (.aload_n 0, 1) := by decide +kernel
theorem d_Mo_readsBale_75 : decode b_Mo_readsBale 75 = .ok (.getfield 22, 3) := by decide +kernel
theorem d_Mo_readsBale_78 : decode b_Mo_readsBale 78 = .ok (.iload_n 1, 1) := by decide +kernel
theorem d_Mo_readsBale_79 : decode b_Mo_readsBale 79 = .ok (.iload_n 3, 1) := by decide +kernel
theorem d_Mo_readsBale_80 : decode b_Mo_readsBale 80 = .ok (.bipush 97, 2) := by decide +kernel
theorem d_Mo_readsBale_82 : decode b_Mo_readsBale 82 = .ok (.isub, 1) := by decide +kernel
theorem d_Mo_readsBale_83 : decode b_Mo_readsBale 83 = .ok (.iastore, 1) := by decide +kernel
theorem d_Mo_readsBale_84 : decode b_Mo_readsBale 84 = .ok (.aload_n 0, 1) := by decide +kernel
theorem d_Mo_readsBale_85 : decode b_Mo_readsBale 85 = .ok (.getfield 25, 3) := by decide +kernel
theorem d_Mo_readsBale_88 : decode b_Mo_readsBale 88 = .ok (.iload_n 1, 1) := by decide +kernel
theorem d_Mo_readsBale_89 : decode b_Mo_readsBale 89 = .ok (.iload 4, 2) := by decide +kernel
theorem d_Mo_readsBale_91 : decode b_Mo_readsBale 91 = .ok (.bipush 48, 2) := by decide +kernel
theorem d_Mo_readsBale_93 : decode b_Mo_readsBale 93 = .ok (.isub, 1) := by decide +kernel
theorem d_Mo_readsBale_94 : decode b_Mo_readsBale 94 = .ok (.iastore, 1) := by decide +kernel
theorem d_Mo_readsBale_95 : decode b_Mo_readsBale 95 = .ok (.aload_n 0, 1) := by decide +kernel
theorem d_Mo_readsBale_96 : decode b_Mo_readsBale 96 = .ok (.getfield 28, 3) := by decide +kernel
theorem d_Mo_readsBale_99 : decode b_Mo_readsBale 99 = .ok (.iload_n 1, 1) := by decide +kernel
theorem d_Mo_readsBale_100 : decode b_Mo_readsBale 100 = .ok (.iload 5, 2) := by decide +kernel
theorem d_Mo_readsBale_102 : decode b_Mo_readsBale 102 = .ok (.bipush 97, 2) := by decide +kernel
theorem d_Mo_readsBale_104 : decode b_Mo_readsBale 104 = .ok (.isub, 1) := by decide +kernel
theorem d_Mo_readsBale_105 : decode b_Mo_readsBale 105 = .ok (.iastore, 1) := by decide +kernel
theorem d_Mo_readsBale_106 : decode b_Mo_readsBale 106 = .ok (.iconst 3, 1) := by decide +kernel
theorem d_Mo_readsBale_107 : decode b_Mo_readsBale 107 = .ok (.ireturn, 1) := by decide +kernel
theorem d_Mo_readsParts_0 : decode b_Mo_readsParts 0 = .ok (.iload_n 1, 1) := by decide +kernel
theorem d_Mo_readsParts_1 : decode b_Mo_readsParts 1 = .ok (.ifCond .ne 7, 3) := by decide +kernel
theorem d_Mo_readsParts_4 : decode b_Mo_readsParts 4 = .ok (.iconst 2, 1) := by decide +kernel
theorem d_Mo_readsParts_5 : decode b_Mo_readsParts 5 = .ok (.goto 4, 3) := by decide +kernel
theorem d_Mo_readsParts_8 : decode b_Mo_readsParts 8 = .ok (.iconst 3, 1) := by decide +kernel
theorem d_Mo_readsParts_9 : decode b_Mo_readsParts 9 = .ok (.istore_n 2, 1) := by decide +kernel
theorem d_Mo_readsParts_10 : decode b_Mo_readsParts 10 = .ok (.iconst 0, 1) := by decide +kernel
theorem d_Mo_readsParts_11 : decode b_Mo_readsParts 11 = .ok (.istore_n 3, 1) := by decide +kernel
theorem d_Mo_readsParts_12 : decode b_Mo_readsParts 12 = .ok (.iconst 0, 1) := by decide +kernel
theorem d_Mo_readsParts_13 : decode b_Mo_readsParts 13 = .ok (.istore 4, 2) := by decide +kernel
theorem d_Mo_readsParts_15 : decode b_Mo_readsParts 15 = .ok (.aload_n 0, 1) := by decide +kernel
theorem d_Mo_readsParts_16 : decode b_Mo_readsParts 16 = .ok (.iload_n 1, 1) := by decide +kernel
theorem d_Mo_readsParts_17 : decode b_Mo_readsParts 17 = .ok (.ifCond .ne 7, 3) := by decide +kernel
theorem d_Mo_readsParts_20 : decode b_Mo_readsParts 20 = .ok (.iconst 0, 1) := by decide +kernel
theorem d_Mo_readsParts_21 : decode b_Mo_readsParts 21 = .ok (.goto 7, 3) := by decide +kernel
theorem d_Mo_readsParts_24 : decode b_Mo_readsParts 24 = .ok (.aload_n 0, 1) := by decide +kernel
theorem d_Mo_readsParts_25 : decode b_Mo_readsParts 25 = .ok (.getfield 127, 3) := by decide +kernel
theorem d_Mo_readsParts_28 : decode b_Mo_readsParts 28 = .ok (.putfield 127, 3) := by decide +kernel
theorem d_Mo_readsParts_31 : decode b_Mo_readsParts 31 = .ok (.aload_n 0, 1) := by decide +kernel
theorem d_Mo_readsParts_32 : decode b_Mo_readsParts 32 = .ok (.iload_n 1, 1) := by decide +kernel
theorem d_Mo_readsParts_33 : decode b_Mo_readsParts 33 = .ok (.iconst 1, 1) := by decide +kernel
theorem d_Mo_readsParts_34 : decode b_Mo_readsParts 34 = .ok (.if_icmp .ne 7, 3) := by decide +kernel
theorem d_Mo_readsParts_37 : decode b_Mo_readsParts 37 = .ok (.iconst 0, 1) := by decide +kernel
theorem d_Mo_readsParts_38 : decode b_Mo_readsParts 38 = .ok (.goto 7, 3) := by decide +kernel
theorem d_Mo_readsParts_41 : decode b_Mo_readsParts 41 = .ok (.aload_n 0, 1) := by decide +kernel
theorem d_Mo_readsParts_42 : decode b_Mo_readsParts 42 = .ok (.getfield 131, 3) := by decide +kernel
theorem d_Mo_readsParts_45 : decode b_Mo_readsParts 45 = .ok (.putfield 131, 3) := by decide +kernel
theorem d_Mo_readsParts_48 : decode b_Mo_readsParts 48 = .ok (.iload 4, 2) := by decide +kernel
theorem d_Mo_readsParts_50 : decode b_Mo_readsParts 50 = .ok (.aload_n 0, 1) := by decide +kernel
theorem d_Mo_readsParts_51 : decode b_Mo_readsParts 51 = .ok (.getfield 7, 3) := by decide +kernel
theorem d_Mo_readsParts_54 : decode b_Mo_readsParts 54 = .ok (.iload_n 1, 1) := by decide +kernel
theorem d_Mo_readsParts_55 : decode b_Mo_readsParts 55 = .ok (.iaload, 1) := by decide +kernel
theorem d_Mo_readsParts_56 : decode b_Mo_readsParts 56 = .ok (.if_icmp .lt 8, 3) := by decide +kernel
theorem d_Mo_readsParts_59 : decode b_Mo_readsParts 59 = .ok (.iload 4, 2) := by decide +kernel
theorem d_Mo_readsParts_61 : decode b_Mo_readsParts 61 = .ok (.ifCond .le 114, 3) := by decide +kernel
theorem d_Mo_readsParts_64 : decode b_Mo_readsParts 64 = .ok (.iload_n 1, 1) := by decide +kernel
theorem d_Mo_readsParts_65 : decode b_Mo_readsParts 65 = .ok (.ifCond .ne 13, 3) := by decide +kernel
theorem d_Mo_readsParts_68 : decode b_Mo_readsParts 68 = .ok (.aload_n 0, 1) := by decide +kernel
theorem d_Mo_readsParts_69 : decode b_Mo_readsParts 69 = .ok (.iload_n 3, 1) := by decide +kernel
theorem d_Mo_readsParts_70 : decode b_Mo_readsParts 70 = .ok (.iload 4, 2) := by decide +kernel
theorem d_Mo_readsParts_72 : decode b_Mo_readsParts 72 = .ok (.invokevirtual 134, 3) := by decide +kernel
theorem d_Mo_readsParts_75 : decode b_Mo_readsParts 75 = .ok (.goto 10, 3) := by decide +kernel
theorem d_Mo_readsParts_78 : decode b_Mo_readsParts 78 = .ok (.aload_n 0, 1) := by decide +kernel
theorem d_Mo_readsParts_79 : decode b_Mo_readsParts 79 = .ok (.iload_n 3, 1) := by decide +kernel
theorem d_Mo_readsParts_80 : decode b_Mo_readsParts 80 = .ok (.iload 4, 2) := by decide +kernel
theorem d_Mo_readsParts_82 : decode b_Mo_readsParts 82 = .ok (.invokevirtual 137, 3) := by decide +kernel
theorem d_Mo_readsParts_85 : decode b_Mo_readsParts 85 = .ok (.istore 5, 2) := by decide +kernel
theorem d_Mo_readsParts_87 : decode b_Mo_readsParts 87 = .ok (.iload 5, 2) := by decide +kernel
theorem d_Mo_readsParts_89 : decode b_Mo_readsParts 89 = .ok (.iload_n 2, 1) := by decide +kernel
theorem d_Mo_readsParts_90 : decode b_Mo_readsParts 90 = .ok (.if_icmp .ge 9, 3) := by decide +kernel
theorem d_Mo_readsParts_93 : decode b_Mo_readsParts 93 = .ok (.iload 4, 2) := by decide +kernel
theorem d_Mo_readsParts_95 : decode b_Mo_readsParts 95 = .ok (.iload 5, 2) := by decide +kernel
theorem d_Mo_readsParts_97 : decode b_Mo_readsParts 97 = .ok (.iadd, 1) := by decide +kernel
theorem d_Mo_readsParts_98 : decode b_Mo_readsParts 98 = .ok (.ireturn, 1) := by decide +kernel
theorem d_Mo_readsParts_99 : decode b_Mo_readsParts 99 = .ok (.iinc 3 1, 3) := by decide +kernel
theorem d_Mo_readsParts_102 : decode b_Mo_readsParts 102 = .ok (.iload 4, 2) := by decide +kernel
theorem d_Mo_readsParts_104 : decode b_Mo_readsParts 104 = .ok (.iload_n 2, 1) := by decide +kernel
theorem d_Mo_readsParts_105 : decode b_Mo_readsParts 105 = .ok (.iadd, 1) := by decide +kernel
theorem d_Mo_readsParts_106 : decode b_Mo_readsParts 106 = .ok (.istore 4, 2) := by decide +kernel
theorem d_Mo_readsParts_108 : decode b_Mo_readsParts 108 = .ok (.iload 4, 2) := by decide +kernel
theorem d_Mo_readsParts_110 : decode b_Mo_readsParts 110 = .ok (.aload_n 0, 1) := by decide +kernel
theorem d_Mo_readsParts_111 : decode b_Mo_readsParts 111 = .ok (.getfield 7, 3) := by decide +kernel
theorem d_Mo_readsParts_114 : decode b_Mo_readsParts 114 = .ok (.iload_n 1, 1) := by decide +kernel
theorem d_Mo_readsParts_115 : decode b_Mo_readsParts 115 = .ok (.iaload, 1) := by decide +kernel
theorem d_Mo_readsParts_116 : decode b_Mo_readsParts 116 = .ok (.if_icmp .ne 38, 3) := by decide +kernel
theorem d_Mo_readsParts_119 : decode b_Mo_readsParts 119 = .ok (.aload_n 0, 1) := by decide +kernel
theorem d_Mo_readsParts_120 : decode b_Mo_readsParts 120 = .ok (.iload_n 1, 1) := by decide +kernel
theorem d_Mo_readsParts_121 : decode b_Mo_readsParts 121 = .ok (.ifCond .ne 7, 3) := by decide +kernel
theorem d_Mo_readsParts_124 : decode b_Mo_readsParts 124 = .ok (.iload_n 3, 1) := by decide +kernel
theorem d_Mo_readsParts_125 : decode b_Mo_readsParts 125 = .ok (.goto 7, 3) := by decide +kernel
theorem d_Mo_readsParts_128 : decode b_Mo_readsParts 128 = .ok (.aload_n 0, 1) := by decide +kernel
theorem d_Mo_readsParts_129 : decode b_Mo_readsParts 129 = .ok (.getfield 127, 3) := by decide +kernel
theorem d_Mo_readsParts_132 : decode b_Mo_readsParts 132 = .ok (.putfield 127, 3) := by decide +kernel
theorem d_Mo_readsParts_135 : decode b_Mo_readsParts 135 = .ok (.aload_n 0, 1) := by decide +kernel
theorem d_Mo_readsParts_136 : decode b_Mo_readsParts 136 = .ok (.iload_n 1, 1) := by decide +kernel
theorem d_Mo_readsParts_137 : decode b_Mo_readsParts 137 = .ok (.iconst 1, 1) := by decide +kernel
theorem d_Mo_readsParts_138 : decode b_Mo_readsParts 138 = .ok (.if_icmp .ne 7, 3) := by decide +kernel
theorem d_Mo_readsParts_141 : decode b_Mo_readsParts 141 = .ok (.iload_n 3, 1) := by decide +kernel
theorem d_Mo_readsParts_142 : decode b_Mo_readsParts 142 = .ok (.goto 7, 3) := by decide +kernel
theorem d_Mo_readsParts_145 : decode b_Mo_readsParts 145 = .ok (.aload_n 0, 1) := by decide +kernel
theorem d_Mo_readsParts_146 : decode b_Mo_readsParts 146 = .ok (.getfield 131, 3) := by decide +kernel
theorem d_Mo_readsParts_149 : decode b_Mo_readsParts 149 = .ok (.putfield 131, 3) := by decide +kernel
theorem d_Mo_readsParts_152 : decode b_Mo_readsParts 152 = .ok (.iconst (-1), 1) := by decide +kernel
theorem d_Mo_readsParts_153 : decode b_Mo_readsParts 153 = .ok (.ireturn, 1) := by decide +kernel
theorem d_Mo_readsParts_154 : decode b_Mo_readsParts 154 = .ok (.aload_n 0, 1) := by decide +kernel
theorem d_Mo_readsParts_155 : decode b_Mo_readsParts 155 = .ok (.iload_n 1, 1) := by decide +kernel
theorem d_Mo_readsParts_156 : decode b_Mo_readsParts 156 = .ok (.iload 4, 2) := by decide +kernel
theorem d_Mo_readsParts_158 : decode b_Mo_readsParts 158 = .ok (.invokevirtual 123, 3) := by decide +kernel
theorem d_Mo_readsParts_161 : decode b_Mo_readsParts 161 = .ok (.bipush 59, 2) := by decide +kernel
theorem d_Mo_readsParts_163 : decode b_Mo_readsParts 163 = .ok (.if_icmp .eq 6, 3) := by decide +kernel
theorem d_Mo_readsParts_166 : decode b_Mo_readsParts 166 = .ok (.iload 4, 2) := by decide +kernel
theorem d_Mo_readsParts_168 : decode b_Mo_readsParts 168 = .ok (.ireturn, 1) := by decide +kernel
theorem d_Mo_readsParts_169 : decode b_Mo_readsParts 169 = .ok (.iinc 4 1, 3) := by decide +kernel
theorem d_Mo_readsParts_172 : decode b_Mo_readsParts 172 = .ok (.goto (-124), 3) := by decide +kernel
theorem d_Mo_readsParts_175 : decode b_Mo_readsParts 175 = .ok (.iconst (-1), 1) := by decide +kernel
theorem d_Mo_readsParts_176 : decode b_Mo_readsParts 176 = .ok (.ireturn, 1) := by decide +kernel
theorem d_Mo_faultOf_0 : decode b_Mo_faultOf 0 = .ok (.aload_n 0, 1) := by decide +kernel
theorem d_Mo_faultOf_1 : decode b_Mo_faultOf 1 = .ok (.iconst 0, 1) := by decide +kernel
theorem d_Mo_faultOf_2 : decode b_Mo_faultOf 2 = .ok (.invokevirtual 140, 3) := by decide +kernel
theorem d_Mo_faultOf_5 : decode b_Mo_faultOf 5 = .ok (.istore_n 2, 1) := by decide +kernel
theorem d_Mo_faultOf_6 : decode b_Mo_faultOf 6 = .ok (.aload_n 0, 1) := by decide +kernel
theorem d_Mo_faultOf_7 : decode b_Mo_faultOf 7 = .ok (.iconst 1, 1) := by decide +kernel
theorem d_Mo_faultOf_8 : decode b_Mo_faultOf 8 = .ok (.invokevirtual 140, 3) := by decide +kernel
theorem d_Mo_faultOf_11 : decode b_Mo_faultOf 11 = .ok (.istore_n 3, 1) := by decide +kernel
theorem d_Mo_faultOf_12 : decode b_Mo_faultOf 12 = .ok (.iload_n 1, 1) := by decide +kernel
theorem d_Mo_faultOf_13 : decode b_Mo_faultOf 13 = .ok (.ifCond .ne 7, 3) := by decide +kernel
theorem d_Mo_faultOf_16 : decode b_Mo_faultOf 16 = .ok (.iload_n 2, 1) := by decide +kernel
theorem d_Mo_faultOf_17 : decode b_Mo_faultOf 17 = .ok (.goto 4, 3) := by decide +kernel
theorem d_Mo_faultOf_20 : decode b_Mo_faultOf 20 = .ok (.iload_n 3, 1) := by decide +kernel
theorem d_Mo_faultOf_21 : decode b_Mo_faultOf 21 = .ok (.ireturn, 1) := by decide +kernel
theorem d_Mo_fault_0 : decode b_Mo_fault 0 = .ok (.iload_n 1, 1) := by decide +kernel
theorem d_Mo_fault_1 : decode b_Mo_fault 1 = .ok (.invokestatic 119, 3) := by decide +kernel
theorem d_Mo_fault_4 : decode b_Mo_fault 4 = .ok (.ifCond .eq 11, 3) := by decide +kernel
theorem d_Mo_fault_7 : decode b_Mo_fault 7 = .ok (.aload_n 0, 1) := by decide +kernel
theorem d_Mo_fault_8 : decode b_Mo_fault 8 = .ok (.iload_n 1, 1) := by decide +kernel
theorem d_Mo_fault_9 : decode b_Mo_fault 9 = .ok (.invokevirtual 144, 3) := by decide +kernel
theorem d_Mo_fault_12 : decode b_Mo_fault 12 = .ok (.goto 5, 3) := by decide +kernel
theorem d_Mo_fault_15 : decode b_Mo_fault 15 = .ok (.bipush (-2), 2) := by decide +kernel
theorem d_Mo_fault_17 : decode b_Mo_fault 17 = .ok (.ireturn, 1) := by decide +kernel
theorem d_Mo_reads_0 : decode b_Mo_reads 0 = .ok (.aload_n 0, 1) := by decide +kernel
theorem d_Mo_reads_1 : decode b_Mo_reads 1 = .ok (.iconst 0, 1) := by decide +kernel
theorem d_Mo_reads_2 : decode b_Mo_reads 2 = .ok (.invokevirtual 144, 3) := by decide +kernel
theorem d_Mo_reads_5 : decode b_Mo_reads 5 = .ok (.istore_n 1, 1) := by decide +kernel
theorem d_Mo_reads_6 : decode b_Mo_reads 6 = .ok (.return_, 1) := by decide +kernel
theorem d_Mo_isCamel_0 : decode b_Mo_isCamel 0 = .ok (.aload_n 0, 1) := by decide +kernel
theorem d_Mo_isCamel_1 : decode b_Mo_isCamel 1 = .ok (.invokevirtual 147, 3) := by decide +kernel
theorem d_Mo_isCamel_4 : decode b_Mo_isCamel 4 = .ok (.iload_n 1, 1) := by decide +kernel
theorem d_Mo_isCamel_5 : decode b_Mo_isCamel 5 = .ok (.iconst 0, 1) := by decide +kernel
theorem d_Mo_isCamel_6 : decode b_Mo_isCamel 6 = .ok (.aload_n 0, 1) := by decide +kernel
theorem d_Mo_isCamel_7 : decode b_Mo_isCamel 7 = .ok (.getfield 127, 3) := by decide +kernel
theorem d_Mo_isCamel_10 : decode b_Mo_isCamel 10 = .ok (.iconst 1, 1) := by decide +kernel
theorem d_Mo_isCamel_11 : decode b_Mo_isCamel 11 = .ok (.isub, 1) := by decide +kernel
theorem d_Mo_isCamel_12 : decode b_Mo_isCamel 12 = .ok (.invokestatic 115, 3) := by decide +kernel
theorem d_Mo_isCamel_15 : decode b_Mo_isCamel 15 = .ok (.ireturn, 1) := by decide +kernel
theorem d_Mo_isTwo_0 : decode b_Mo_isTwo 0 = .ok (.iload_n 0, 1) := by decide +kernel
theorem d_Mo_isTwo_1 : decode b_Mo_isTwo 1 = .ok (.iconst 0, 1) := by decide +kernel
theorem d_Mo_isTwo_2 : decode b_Mo_isTwo 2 = .ok (.iconst 1, 1) := by decide +kernel
theorem d_Mo_isTwo_3 : decode b_Mo_isTwo 3 = .ok (.invokestatic 115, 3) := by decide +kernel
theorem d_Mo_isTwo_6 : decode b_Mo_isTwo 6 = .ok (.ireturn, 1) := by decide +kernel
theorem d_Mo_camelOf_0 : decode b_Mo_camelOf 0 = .ok (.iload_n 2, 1) := by decide +kernel
theorem d_Mo_camelOf_1 : decode b_Mo_camelOf 1 = .ok (.ifCond .ne 12, 3) := by decide +kernel
theorem d_Mo_camelOf_4 : decode b_Mo_camelOf 4 = .ok (.aload_n 0, 1) := by decide +kernel
theorem d_Mo_camelOf_5 : decode b_Mo_camelOf 5 = .ok (.getfield 16, 3) := by decide +kernel
theorem d_Mo_camelOf_8 : decode b_Mo_camelOf 8 = .ok (.iload_n 1, 1) := by decide +kernel
theorem d_Mo_camelOf_9 : decode b_Mo_camelOf 9 = .ok (.iaload, 1) := by decide +kernel
theorem d_Mo_camelOf_10 : decode b_Mo_camelOf 10 = .ok (.goto 11, 3) := by decide +kernel
theorem d_Mo_camelOf_13 : decode b_Mo_camelOf 13 = .ok (.iconst 4, 1) := by decide +kernel
theorem d_Mo_camelOf_14 : decode b_Mo_camelOf 14 = .ok (.aload_n 0, 1) := by decide +kernel
theorem d_Mo_camelOf_15 : decode b_Mo_camelOf 15 = .ok (.getfield 19, 3) := by decide +kernel
theorem d_Mo_camelOf_18 : decode b_Mo_camelOf 18 = .ok (.iload_n 1, 1) := by decide +kernel
theorem d_Mo_camelOf_19 : decode b_Mo_camelOf 19 = .ok (.iaload, 1) := by decide +kernel
theorem d_Mo_camelOf_20 : decode b_Mo_camelOf 20 = .ok (.imul, 1) := by decide +kernel
theorem d_Mo_camelOf_21 : decode b_Mo_camelOf 21 = .ok (.ireturn, 1) := by decide +kernel
theorem d_Mo_camel_0 : decode b_Mo_camel 0 = .ok (.aload_n 0, 1) := by decide +kernel
theorem d_Mo_camel_1 : decode b_Mo_camel 1 = .ok (.iload_n 1, 1) := by decide +kernel
theorem d_Mo_camel_2 : decode b_Mo_camel 2 = .ok (.invokevirtual 150, 3) := by decide +kernel
theorem d_Mo_camel_5 : decode b_Mo_camel 5 = .ok (.ifCond .eq 19, 3) := by decide +kernel
theorem d_Mo_camel_8 : decode b_Mo_camel 8 = .ok (.iload_n 2, 1) := by decide +kernel
theorem d_Mo_camel_9 : decode b_Mo_camel 9 = .ok (.invokestatic 153, 3) := by decide +kernel
theorem d_Mo_camel_12 : decode b_Mo_camel 12 = .ok (.ifCond .eq 12, 3) := by decide +kernel
theorem d_Mo_camel_15 : decode b_Mo_camel 15 = .ok (.aload_n 0, 1) := by decide +kernel
theorem d_Mo_camel_16 : decode b_Mo_camel 16 = .ok (.iload_n 1, 1) := by decide +kernel
theorem d_Mo_camel_17 : decode b_Mo_camel 17 = .ok (.iload_n 2, 1) := by decide +kernel
theorem d_Mo_camel_18 : decode b_Mo_camel 18 = .ok (.invokevirtual 156, 3) := by decide +kernel
theorem d_Mo_camel_21 : decode b_Mo_camel 21 = .ok (.goto 5, 3) := by decide +kernel
theorem d_Mo_camel_24 : decode b_Mo_camel 24 = .ok (.bipush (-2), 2) := by decide +kernel
theorem d_Mo_camel_26 : decode b_Mo_camel 26 = .ok (.ireturn, 1) := by decide +kernel
theorem d_Mo_isBale_0 : decode b_Mo_isBale 0 = .ok (.aload_n 0, 1) := by decide +kernel
theorem d_Mo_isBale_1 : decode b_Mo_isBale 1 = .ok (.invokevirtual 147, 3) := by decide +kernel
theorem d_Mo_isBale_4 : decode b_Mo_isBale 4 = .ok (.iload_n 1, 1) := by decide +kernel
theorem d_Mo_isBale_5 : decode b_Mo_isBale 5 = .ok (.iconst 0, 1) := by decide +kernel
theorem d_Mo_isBale_6 : decode b_Mo_isBale 6 = .ok (.aload_n 0, 1) := by decide +kernel
theorem d_Mo_isBale_7 : decode b_Mo_isBale 7 = .ok (.getfield 131, 3) := by decide +kernel
theorem d_Mo_isBale_10 : decode b_Mo_isBale 10 = .ok (.iconst 1, 1) := by decide +kernel
theorem d_Mo_isBale_11 : decode b_Mo_isBale 11 = .ok (.isub, 1) := by decide +kernel
theorem d_Mo_isBale_12 : decode b_Mo_isBale 12 = .ok (.invokestatic 115, 3) := by decide +kernel
theorem d_Mo_isBale_15 : decode b_Mo_isBale 15 = .ok (.ireturn, 1) := by decide +kernel
theorem d_Mo_baleOf_0 : decode b_Mo_baleOf 0 = .ok (.iload_n 2, 1) := by decide +kernel
theorem d_Mo_baleOf_1 : decode b_Mo_baleOf 1 = .ok (.ifCond .ne 12, 3) := by decide +kernel
theorem d_Mo_baleOf_4 : decode b_Mo_baleOf 4 = .ok (.aload_n 0, 1) := by decide +kernel
theorem d_Mo_baleOf_5 : decode b_Mo_baleOf 5 = .ok (.getfield 22, 3) := by decide +kernel
theorem d_Mo_baleOf_8 : decode b_Mo_baleOf 8 = .ok (.iload_n 1, 1) := by decide +kernel
theorem d_Mo_baleOf_9 : decode b_Mo_baleOf 9 = .ok (.iaload, 1) := by decide +kernel
theorem d_Mo_baleOf_10 : decode b_Mo_baleOf 10 = .ok (.goto 23, 3) := by decide +kernel
theorem d_Mo_baleOf_13 : decode b_Mo_baleOf 13 = .ok (.iload_n 2, 1) := by decide +kernel
theorem d_Mo_baleOf_14 : decode b_Mo_baleOf 14 = .ok (.iconst 1, 1) := by decide +kernel
theorem d_Mo_baleOf_15 : decode b_Mo_baleOf 15 = .ok (.if_icmp .ne 12, 3) := by decide +kernel
theorem d_Mo_baleOf_18 : decode b_Mo_baleOf 18 = .ok (.aload_n 0, 1) := by decide +kernel
theorem d_Mo_baleOf_19 : decode b_Mo_baleOf 19 = .ok (.getfield 25, 3) := by decide +kernel
theorem d_Mo_baleOf_22 : decode b_Mo_baleOf 22 = .ok (.iload_n 1, 1) := by decide +kernel
theorem d_Mo_baleOf_23 : decode b_Mo_baleOf 23 = .ok (.iaload, 1) := by decide +kernel
theorem d_Mo_baleOf_24 : decode b_Mo_baleOf 24 = .ok (.goto 9, 3) := by decide +kernel
theorem d_Mo_baleOf_27 : decode b_Mo_baleOf 27 = .ok (.aload_n 0, 1) := by decide +kernel
theorem d_Mo_baleOf_28 : decode b_Mo_baleOf 28 = .ok (.getfield 28, 3) := by decide +kernel
theorem d_Mo_baleOf_31 : decode b_Mo_baleOf 31 = .ok (.iload_n 1, 1) := by decide +kernel
theorem d_Mo_baleOf_32 : decode b_Mo_baleOf 32 = .ok (.iaload, 1) := by decide +kernel
theorem d_Mo_baleOf_33 : decode b_Mo_baleOf 33 = .ok (.ireturn, 1) := by decide +kernel
theorem d_Mo_bale_0 : decode b_Mo_bale 0 = .ok (.aload_n 0, 1) := by decide +kernel
theorem d_Mo_bale_1 : decode b_Mo_bale 1 = .ok (.iload_n 1, 1) := by decide +kernel
theorem d_Mo_bale_2 : decode b_Mo_bale 2 = .ok (.invokevirtual 159, 3) := by decide +kernel
theorem d_Mo_bale_5 : decode b_Mo_bale 5 = .ok (.ifCond .eq 21, 3) := by decide +kernel
theorem d_Mo_bale_8 : decode b_Mo_bale 8 = .ok (.iload_n 2, 1) := by decide +kernel
theorem d_Mo_bale_9 : decode b_Mo_bale 9 = .ok (.iconst 0, 1) := by decide +kernel
theorem d_Mo_bale_10 : decode b_Mo_bale 10 = .ok (.iconst 2, 1) := by decide +kernel
theorem d_Mo_bale_11 : decode b_Mo_bale 11 = .ok (.invokestatic 115, 3) := by decide +kernel
theorem d_Mo_bale_14 : decode b_Mo_bale 14 = .ok (.ifCond .eq 12, 3) := by decide +kernel
theorem d_Mo_bale_17 : decode b_Mo_bale 17 = .ok (.aload_n 0, 1) := by decide +kernel
theorem d_Mo_bale_18 : decode b_Mo_bale 18 = .ok (.iload_n 1, 1) := by decide +kernel
theorem d_Mo_bale_19 : decode b_Mo_bale 19 = .ok (.iload_n 2, 1) := by decide +kernel
theorem d_Mo_bale_20 : decode b_Mo_bale 20 = .ok (.invokevirtual 162, 3) := by decide +kernel
theorem d_Mo_bale_23 : decode b_Mo_bale 23 = .ok (.goto 5, 3) := by decide +kernel
theorem d_Mo_bale_26 : decode b_Mo_bale 26 = .ok (.bipush (-2), 2) := by decide +kernel
theorem d_Mo_bale_28 : decode b_Mo_bale 28 = .ok (.ireturn, 1) := by decide +kernel
theorem d_Mo_isDay_0 : decode b_Mo_isDay 0 = .ok (.iload_n 0, 1) := by decide +kernel
theorem d_Mo_isDay_1 : decode b_Mo_isDay 1 = .ok (.iconst 0, 1) := by decide +kernel
theorem d_Mo_isDay_2 : decode b_Mo_isDay 2 = .ok (.bipush 23, 2) := by decide +kernel
theorem d_Mo_isDay_4 : decode b_Mo_isDay 4 = .ok (.invokestatic 115, 3) := by decide +kernel
theorem d_Mo_isDay_7 : decode b_Mo_isDay 7 = .ok (.ireturn, 1) := by decide +kernel
theorem d_Mo_isEight_0 : decode b_Mo_isEight 0 = .ok (.iload_n 0, 1) := by decide +kernel
theorem d_Mo_isEight_1 : decode b_Mo_isEight 1 = .ok (.iconst 0, 1) := by decide +kernel
theorem d_Mo_isEight_2 : decode b_Mo_isEight 2 = .ok (.bipush 7, 2) := by decide +kernel
theorem d_Mo_isEight_4 : decode b_Mo_isEight 4 = .ok (.invokestatic 115, 3) := by decide +kernel
theorem d_Mo_isEight_7 : decode b_Mo_isEight 7 = .ok (.ireturn, 1) := by decide +kernel
theorem d_Mo_straw_0 : decode b_Mo_straw 0 = .ok (.iload_n 1, 1) := by decide +kernel
theorem d_Mo_straw_1 : decode b_Mo_straw 1 = .ok (.invokestatic 165, 3) := by decide +kernel
theorem d_Mo_straw_4 : decode b_Mo_straw 4 = .ok (.ifCond .eq 10, 3) := by decide +kernel
theorem d_Mo_straw_7 : decode b_Mo_straw 7 = .ok (.iload_n 2, 1) := by decide +kernel
theorem d_Mo_straw_8 : decode b_Mo_straw 8 = .ok (.invokestatic 168, 3) := by decide +kernel
theorem d_Mo_straw_11 : decode b_Mo_straw 11 = .ok (.ifCond .ne 6, 3) := by decide +kernel
theorem d_Mo_straw_14 : decode b_Mo_straw 14 = .ok (.bipush (-2), 2) := by decide +kernel
theorem d_Mo_straw_16 : decode b_Mo_straw 16 = .ok (.ireturn, 1) := by decide +kernel
theorem d_Mo_straw_17 : decode b_Mo_straw 17 = .ok (.aload_n 0, 1) := by decide +kernel
theorem d_Mo_straw_18 : decode b_Mo_straw 18 = .ok (.getfield 171, 3) := by decide +kernel
theorem d_Mo_straw_21 : decode b_Mo_straw 21 = .ok (.bipush 8, 2) := by decide +kernel
theorem d_Mo_straw_23 : decode b_Mo_straw 23 = .ok (.if_icmp .ne 6, 3) := by decide +kernel
theorem d_Mo_straw_26 : decode b_Mo_straw 26 = .ok (.bipush (-4), 2) := by decide +kernel
theorem d_Mo_straw_28 : decode b_Mo_straw 28 = .ok (.ireturn, 1) := by decide +kernel
theorem d_Mo_straw_29 : decode b_Mo_straw 29 = .ok (.aload_n 0, 1) := by decide +kernel
theorem d_Mo_straw_30 : decode b_Mo_straw 30 = .ok (.getfield 31, 3) := by decide +kernel
theorem d_Mo_straw_33 : decode b_Mo_straw 33 = .ok (.aload_n 0, 1) := by decide +kernel
theorem d_Mo_straw_34 : decode b_Mo_straw 34 = .ok (.getfield 171, 3) := by decide +kernel
theorem d_Mo_straw_37 : decode b_Mo_straw 37 = .ok (.iload_n 1, 1) := by decide +kernel
theorem d_Mo_straw_38 : decode b_Mo_straw 38 = .ok (.iastore, 1) := by decide +kernel
theorem d_Mo_straw_39 : decode b_Mo_straw 39 = .ok (.aload_n 0, 1) := by decide +kernel
theorem d_Mo_straw_40 : decode b_Mo_straw 40 = .ok (.getfield 34, 3) := by decide +kernel
theorem d_Mo_straw_43 : decode b_Mo_straw 43 = .ok (.aload_n 0, 1) := by decide +kernel
theorem d_Mo_straw_44 : decode b_Mo_straw 44 = .ok (.getfield 171, 3) := by decide +kernel
theorem d_Mo_straw_47 : decode b_Mo_straw 47 = .ok (.iload_n 2, 1) := by decide +kernel
theorem d_Mo_straw_48 : decode b_Mo_straw 48 = .ok (.iastore, 1) := by decide +kernel
theorem d_Mo_straw_49 : decode b_Mo_straw 49 = .ok (.aload_n 0, 1) := by decide +kernel
theorem d_Mo_straw_50 : decode b_Mo_straw 50 = .ok (.dup, 1) := by decide +kernel
theorem d_Mo_straw_51 : decode b_Mo_straw 51 = .ok (.getfield 171, 3) := by decide +kernel
theorem d_Mo_straw_54 : decode b_Mo_straw 54 = .ok (.iconst 1, 1) := by decide +kernel
theorem d_Mo_straw_55 : decode b_Mo_straw 55 = .ok (.iadd, 1) := by decide +kernel
theorem d_Mo_straw_56 : decode b_Mo_straw 56 = .ok (.putfield 171, 3) := by decide +kernel
theorem d_Mo_straw_59 : decode b_Mo_straw 59 = .ok (.aload_n 0, 1) := by decide +kernel
theorem d_Mo_straw_60 : decode b_Mo_straw 60 = .ok (.getfield 171, 3) := by decide +kernel
theorem d_Mo_straw_63 : decode b_Mo_straw 63 = .ok (.ireturn, 1) := by decide +kernel
theorem d_Mo_back_0 : decode b_Mo_back 0 = .ok (.aload_n 0, 1) := by decide +kernel
theorem d_Mo_back_1 : decode b_Mo_back 1 = .ok (.getfield 171, 3) := by decide +kernel
theorem d_Mo_back_4 : decode b_Mo_back 4 = .ok (.ifCond .ne 6, 3) := by decide +kernel
theorem d_Mo_back_7 : decode b_Mo_back 7 = .ok (.bipush (-3), 2) := by decide +kernel
theorem d_Mo_back_9 : decode b_Mo_back 9 = .ok (.ireturn, 1) := by decide +kernel
theorem d_Mo_back_10 : decode b_Mo_back 10 = .ok (.aload_n 0, 1) := by decide +kernel
theorem d_Mo_back_11 : decode b_Mo_back 11 = .ok (.dup, 1) := by decide +kernel
theorem d_Mo_back_12 : decode b_Mo_back 12 = .ok (.getfield 171, 3) := by decide +kernel
theorem d_Mo_back_15 : decode b_Mo_back 15 = .ok (.iconst 1, 1) := by decide +kernel
theorem d_Mo_back_16 : decode b_Mo_back 16 = .ok (.isub, 1) := by decide +kernel
theorem d_Mo_back_17 : decode b_Mo_back 17 = .ok (.putfield 171, 3) := by decide +kernel
theorem d_Mo_back_20 : decode b_Mo_back 20 = .ok (.aload_n 0, 1) := by decide +kernel
theorem d_Mo_back_21 : decode b_Mo_back 21 = .ok (.getfield 171, 3) := by decide +kernel
theorem d_Mo_back_24 : decode b_Mo_back 24 = .ok (.ireturn, 1) := by decide +kernel
theorem d_Mo_isSheet_0 : decode b_Mo_isSheet 0 = .ok (.iload_n 0, 1) := by decide +kernel
theorem d_Mo_isSheet_1 : decode b_Mo_isSheet 1 = .ok (.iconst 0, 1) := by decide +kernel
theorem d_Mo_isSheet_2 : decode b_Mo_isSheet 2 = .ok (.iconst 3, 1) := by decide +kernel
theorem d_Mo_isSheet_3 : decode b_Mo_isSheet 3 = .ok (.invokestatic 115, 3) := by decide +kernel
theorem d_Mo_isSheet_6 : decode b_Mo_isSheet 6 = .ok (.ireturn, 1) := by decide +kernel
theorem d_Mo_meets_0 : decode b_Mo_meets 0 = .ok (.aload_n 0, 1) := by decide +kernel
theorem d_Mo_meets_1 : decode b_Mo_meets 1 = .ok (.iload_n 1, 1) := by decide +kernel
theorem d_Mo_meets_2 : decode b_Mo_meets 2 = .ok (.putfield 329, 3) := by decide +kernel
theorem d_Mo_meets_5 : decode b_Mo_meets 5 = .ok (.bipush (-10), 2) := by decide +kernel
theorem d_Mo_meets_7 : decode b_Mo_meets 7 = .ok (.iload_n 1, 1) := by decide +kernel
theorem d_Mo_meets_8 : decode b_Mo_meets 8 = .ok (.isub, 1) := by decide +kernel
theorem d_Mo_meets_9 : decode b_Mo_meets 9 = .ok (.ireturn, 1) := by decide +kernel
theorem d_Mo_read_0 : decode b_Mo_read 0 = .ok (.iload_n 1, 1) := by decide +kernel
theorem d_Mo_read_1 : decode b_Mo_read 1 = .ok (.invokestatic 174, 3) := by decide +kernel
theorem d_Mo_read_4 : decode b_Mo_read 4 = .ok (.ifCond .ne 6, 3) := by decide +kernel
theorem d_Mo_read_7 : decode b_Mo_read 7 = .ok (.bipush (-2), 2) := by decide +kernel
theorem d_Mo_read_9 : decode b_Mo_read 9 = .ok (.ireturn, 1) := by decide +kernel
theorem d_Mo_read_10 : decode b_Mo_read 10 = .ok (.aload_n 0, 1) := by decide +kernel
theorem d_Mo_read_11 : decode b_Mo_read 11 = .ok (.getfield 97, 3) := by decide +kernel
theorem d_Mo_read_14 : decode b_Mo_read 14 = .ok (.iload_n 1, 1) := by decide +kernel
theorem d_Mo_read_15 : decode b_Mo_read 15 = .ok (.baload, 1) := by decide +kernel
theorem d_Mo_read_16 : decode b_Mo_read 16 = .ok (.ifCond .ne 9, 3) := by decide +kernel
theorem d_Mo_read_19 : decode b_Mo_read 19 = .ok (.aload_n 0, 1) := by decide +kernel
theorem d_Mo_read_20 : decode b_Mo_read 20 = .ok (.iconst 1, 1) := by decide +kernel
theorem d_Mo_read_21 : decode b_Mo_read 21 = .ok (.invokevirtual 177, 3) := by decide +kernel
theorem d_Mo_read_24 : decode b_Mo_read 24 = .ok (.ireturn, 1) := by decide +kernel
theorem d_Mo_read_25 : decode b_Mo_read 25 = .ok (.iconst 0, 1) := by decide +kernel
theorem d_Mo_read_26 : decode b_Mo_read 26 = .ok (.istore_n 2, 1) := by decide +kernel
theorem d_Mo_read_27 : decode b_Mo_read 27 = .ok (.iconst 2, 1) := by decide +kernel
theorem d_Mo_read_28 : decode b_Mo_read 28 = .ok (.iload_n 2, 1) := by decide +kernel
theorem d_Mo_read_29 : decode b_Mo_read 29 = .ok (.imul, 1) := by decide +kernel
theorem d_Mo_read_30 : decode b_Mo_read 30 = .ok (.iconst 1, 1) := by decide +kernel
theorem d_Mo_read_31 : decode b_Mo_read 31 = .ok (.iadd, 1) := by decide +kernel
theorem d_Mo_read_32 : decode b_Mo_read 32 = .ok (.aload_n 0, 1) := by decide +kernel
theorem d_Mo_read_33 : decode b_Mo_read 33 = .ok (.getfield 104, 3) := by decide +kernel
theorem d_Mo_read_36 : decode b_Mo_read 36 = .ok (.iload_n 1, 1) := by decide +kernel
theorem d_Mo_read_37 : decode b_Mo_read 37 = .ok (.iaload, 1) := by decide +kernel
theorem d_Mo_read_38 : decode b_Mo_read 38 = .ok (.if_icmp .ge 44, 3) := by decide +kernel
theorem d_Mo_read_41 : decode b_Mo_read 41 = .ok (.aload_n 0, 1) := by decide +kernel
theorem d_Mo_read_42 : decode b_Mo_read 42 = .ok (.aload_n 0, 1) := by decide +kernel
theorem d_Mo_read_43 : decode b_Mo_read 43 = .ok (.getfield 107, 3) := by decide +kernel
theorem d_Mo_read_46 : decode b_Mo_read 46 = .ok (.bipush 60, 2) := by decide +kernel
theorem d_Mo_read_48 : decode b_Mo_read 48 = .ok (.iload_n 1, 1) := by decide +kernel
theorem d_Mo_read_49 : decode b_Mo_read 49 = .ok (.imul, 1) := by decide +kernel
theorem d_Mo_read_50 : decode b_Mo_read 50 = .ok (.iconst 2, 1) := by decide +kernel
theorem d_Mo_read_51 : decode b_Mo_read 51 = .ok (.iload_n 2, 1) := by decide +kernel
theorem d_Mo_read_52 : decode b_Mo_read 52 = .ok (.imul, 1) := by decide +kernel
theorem d_Mo_read_53 : decode b_Mo_read 53 = .ok (.iadd, 1) := by decide +kernel
theorem d_Mo_read_54 : decode b_Mo_read 54 = .ok (.iaload, 1) := by decide +kernel
theorem d_Mo_read_55 : decode b_Mo_read 55 = .ok (.aload_n 0, 1) := by decide +kernel
theorem d_Mo_read_56 : decode b_Mo_read 56 = .ok (.getfield 107, 3) := by decide +kernel
theorem d_Mo_read_59 : decode b_Mo_read 59 = .ok (.bipush 60, 2) := by decide +kernel
theorem d_Mo_read_61 : decode b_Mo_read 61 = .ok (.iload_n 1, 1) := by decide +kernel
theorem d_Mo_read_62 : decode b_Mo_read 62 = .ok (.imul, 1) := by decide +kernel
theorem d_Mo_read_63 : decode b_Mo_read 63 = .ok (.iconst 2, 1) := by decide +kernel
theorem d_Mo_read_64 : decode b_Mo_read 64 = .ok (.iload_n 2, 1) := by decide +kernel
theorem d_Mo_read_65 : decode b_Mo_read 65 = .ok (.imul, 1) := by decide +kernel
theorem d_Mo_read_66 : decode b_Mo_read 66 = .ok (.iadd, 1) := by decide +kernel
theorem d_Mo_read_67 : decode b_Mo_read 67 = .ok (.iconst 1, 1) := by decide +kernel
theorem d_Mo_read_68 : decode b_Mo_read 68 = .ok (.iadd, 1) := by decide +kernel
theorem d_Mo_read_69 : decode b_Mo_read 69 = .ok (.iaload, 1) := by decide +kernel
theorem d_Mo_read_70 : decode b_Mo_read 70 = .ok (.invokevirtual 180, 3) := by decide +kernel
theorem d_Mo_read_73 : decode b_Mo_read 73 = .ok (.ifCond .le 9, 3) := by decide +kernel
theorem d_Mo_read_76 : decode b_Mo_read 76 = .ok (.iinc 2 1, 3) := by decide +kernel
theorem d_Mo_read_79 : decode b_Mo_read 79 = .ok (.goto (-52), 3) := by decide +kernel
theorem d_Mo_read_82 : decode b_Mo_read 82 = .ok (.iload_n 2, 1) := by decide +kernel
theorem d_Mo_read_83 : decode b_Mo_read 83 = .ok (.ireturn, 1) := by decide +kernel
theorem d_Mo_asTold_0 : decode b_Mo_asTold 0 = .ok (.aload_n 0, 1) := by decide +kernel
theorem d_Mo_asTold_1 : decode b_Mo_asTold 1 = .ok (.invokevirtual 147, 3) := by decide +kernel
theorem d_Mo_asTold_4 : decode b_Mo_asTold 4 = .ok (.aload_n 0, 1) := by decide +kernel
theorem d_Mo_asTold_5 : decode b_Mo_asTold 5 = .ok (.aload_n 0, 1) := by decide +kernel
theorem d_Mo_asTold_6 : decode b_Mo_asTold 6 = .ok (.getfield 171, 3) := by decide +kernel
theorem d_Mo_asTold_9 : decode b_Mo_asTold 9 = .ok (.putfield 183, 3) := by decide +kernel
theorem d_Mo_asTold_12 : decode b_Mo_asTold 12 = .ok (.iconst 0, 1) := by decide +kernel
theorem d_Mo_asTold_13 : decode b_Mo_asTold 13 = .ok (.istore_n 1, 1) := by decide +kernel
theorem d_Mo_asTold_14 : decode b_Mo_asTold 14 = .ok (.iload_n 1, 1) := by decide +kernel
theorem d_Mo_asTold_15 : decode b_Mo_asTold 15 = .ok (.aload_n 0, 1) := by decide +kernel
theorem d_Mo_asTold_16 : decode b_Mo_asTold 16 = .ok (.getfield 171, 3) := by decide +kernel
theorem d_Mo_asTold_19 : decode b_Mo_asTold 19 = .ok (.if_icmp .ge 33, 3) := by decide +kernel
theorem d_Mo_asTold_22 : decode b_Mo_asTold 22 = .ok (.aload_n 0, 1) := by decide +kernel
theorem d_Mo_asTold_23 : decode b_Mo_asTold 23 = .ok (.getfield 37, 3) := by decide +kernel
theorem d_Mo_asTold_26 : decode b_Mo_asTold 26 = .ok (.iload_n 1, 1) := by decide +kernel
theorem d_Mo_asTold_27 : decode b_Mo_asTold 27 = .ok (.aload_n 0, 1) := by decide +kernel
theorem d_Mo_asTold_28 : decode b_Mo_asTold 28 = .ok (.getfield 31, 3) := by decide +kernel
theorem d_Mo_asTold_31 : decode b_Mo_asTold 31 = .ok (.iload_n 1, 1) := by decide +kernel
theorem d_Mo_asTold_32 : decode b_Mo_asTold 32 = .ok (.iaload, 1) := by decide +kernel
theorem d_Mo_asTold_33 : decode b_Mo_asTold 33 = .ok (.iastore, 1) := by decide +kernel
theorem d_Mo_asTold_34 : decode b_Mo_asTold 34 = .ok (.aload_n 0, 1) := by decide +kernel
theorem d_Mo_asTold_35 : decode b_Mo_asTold 35 = .ok (.getfield 40, 3) := by decide +kernel
theorem d_Mo_asTold_38 : decode b_Mo_asTold 38 = .ok (.iload_n 1, 1) := by decide +kernel
theorem d_Mo_asTold_39 : decode b_Mo_asTold 39 = .ok (.aload_n 0, 1) := by decide +kernel
theorem d_Mo_asTold_40 : decode b_Mo_asTold 40 = .ok (.getfield 34, 3) := by decide +kernel
theorem d_Mo_asTold_43 : decode b_Mo_asTold 43 = .ok (.iload_n 1, 1) := by decide +kernel
theorem d_Mo_asTold_44 : decode b_Mo_asTold 44 = .ok (.iaload, 1) := by decide +kernel
theorem d_Mo_asTold_45 : decode b_Mo_asTold 45 = .ok (.iastore, 1) := by decide +kernel
theorem d_Mo_asTold_46 : decode b_Mo_asTold 46 = .ok (.iinc 1 1, 3) := by decide +kernel
theorem d_Mo_asTold_49 : decode b_Mo_asTold 49 = .ok (.goto (-35), 3) := by decide +kernel
theorem d_Mo_asTold_52 : decode b_Mo_asTold 52 = .ok (.aload_n 0, 1) := by decide +kernel
theorem d_Mo_asTold_53 : decode b_Mo_asTold 53 = .ok (.iconst 0, 1) := by decide +kernel
theorem d_Mo_asTold_54 : decode b_Mo_asTold 54 = .ok (.putfield 186, 3) := by decide +kernel
theorem d_Mo_asTold_57 : decode b_Mo_asTold 57 = .ok (.return_, 1) := by decide +kernel
theorem d_Mo_takes_0 : decode b_Mo_takes 0 = .ok (.iload_n 1, 1) := by decide +kernel
theorem d_Mo_takes_1 : decode b_Mo_takes 1 = .ok (.aload_n 0, 1) := by decide +kernel
theorem d_Mo_takes_2 : decode b_Mo_takes 2 = .ok (.getfield 127, 3) := by decide +kernel
theorem d_Mo_takes_5 : decode b_Mo_takes 5 = .ok (.if_icmp .ge 16, 3) := by decide +kernel
theorem d_Mo_takes_8 : decode b_Mo_takes 8 = .ok (.aload_n 0, 1) := by decide +kernel
theorem d_Mo_takes_9 : decode b_Mo_takes 9 = .ok (.getfield 49, 3) := by decide +kernel
theorem d_Mo_takes_12 : decode b_Mo_takes 12 = .ok (.iload_n 1, 1) := by decide +kernel
theorem d_Mo_takes_13 : decode b_Mo_takes 13 = .ok (.iaload, 1) := by decide +kernel
theorem d_Mo_takes_14 : decode b_Mo_takes 14 = .ok (.ifCond .ne 7, 3) := by decide +kernel
theorem d_Mo_takes_17 : decode b_Mo_takes 17 = .ok (.iconst 1, 1) := by decide +kernel
theorem d_Mo_takes_18 : decode b_Mo_takes 18 = .ok (.goto 4, 3) := by decide +kernel
theorem d_Mo_takes_21 : decode b_Mo_takes 21 = .ok (.iconst 0, 1) := by decide +kernel
theorem d_Mo_takes_22 : decode b_Mo_takes 22 = .ok (.ireturn, 1) := by decide +kernel
theorem d_Mo_breaks_0 : decode b_Mo_breaks 0 = .ok (.aload_n 0, 1) := by decide +kernel
theorem d_Mo_breaks_1 : decode b_Mo_breaks 1 = .ok (.getfield 43, 3) := by decide +kernel
theorem d_Mo_breaks_4 : decode b_Mo_breaks 4 = .ok (.iload_n 1, 1) := by decide +kernel
theorem d_Mo_breaks_5 : decode b_Mo_breaks 5 = .ok (.iaload, 1) := by decide +kernel
theorem d_Mo_breaks_6 : decode b_Mo_breaks 6 = .ok (.aload_n 0, 1) := by decide +kernel
theorem d_Mo_breaks_7 : decode b_Mo_breaks 7 = .ok (.getfield 46, 3) := by decide +kernel
theorem d_Mo_breaks_10 : decode b_Mo_breaks 10 = .ok (.iload_n 1, 1) := by decide +kernel
theorem d_Mo_breaks_11 : decode b_Mo_breaks 11 = .ok (.iaload, 1) := by decide +kernel
theorem d_Mo_breaks_12 : decode b_Mo_breaks 12 = .ok (.if_icmp .le 126, 3) := by decide +kernel
theorem d_Mo_breaks_15 : decode b_Mo_breaks 15 = .ok (.aload_n 0, 1) := by decide +kernel
theorem d_Mo_breaks_16 : decode b_Mo_breaks 16 = .ok (.getfield 49, 3) := by decide +kernel
theorem d_Mo_breaks_19 : decode b_Mo_breaks 19 = .ok (.iload_n 1, 1) := by decide +kernel
theorem d_Mo_breaks_20 : decode b_Mo_breaks 20 = .ok (.iconst 3, 1) := by decide +kernel
theorem d_Mo_breaks_21 : decode b_Mo_breaks 21 = .ok (.iastore, 1) := by decide +kernel
theorem d_Mo_breaks_22 : decode b_Mo_breaks 22 = .ok (.aload_n 0, 1) := by decide +kernel
theorem d_Mo_breaks_23 : decode b_Mo_breaks 23 = .ok (.dup, 1) := by decide +kernel
theorem d_Mo_breaks_24 : decode b_Mo_breaks 24 = .ok (.getfield 189, 3) := by decide +kernel
theorem d_Mo_breaks_27 : decode b_Mo_breaks 27 = .ok (.aload_n 0, 1) := by decide +kernel
theorem d_Mo_breaks_28 : decode b_Mo_breaks 28 = .ok (.getfield 43, 3) := by decide +kernel
theorem d_Mo_breaks_31 : decode b_Mo_breaks 31 = .ok (.iload_n 1, 1) := by decide +kernel
theorem d_Mo_breaks_32 : decode b_Mo_breaks 32 = .ok (.iaload, 1) := by decide +kernel
theorem d_Mo_breaks_33 : decode b_Mo_breaks 33 = .ok (.iadd, 1) := by decide +kernel
theorem d_Mo_breaks_34 : decode b_Mo_breaks 34 = .ok (.putfield 189, 3) := by decide +kernel
theorem d_Mo_breaks_37 : decode b_Mo_breaks 37 = .ok (.aload_n 0, 1) := by decide +kernel
theorem d_Mo_breaks_38 : decode b_Mo_breaks 38 = .ok (.getfield 43, 3) := by decide +kernel
theorem d_Mo_breaks_41 : decode b_Mo_breaks 41 = .ok (.iload_n 1, 1) := by decide +kernel
theorem d_Mo_breaks_42 : decode b_Mo_breaks 42 = .ok (.iconst 0, 1) := by decide +kernel
theorem d_Mo_breaks_43 : decode b_Mo_breaks 43 = .ok (.iastore, 1) := by decide +kernel
theorem d_Mo_breaks_44 : decode b_Mo_breaks 44 = .ok (.aload_n 0, 1) := by decide +kernel
theorem d_Mo_breaks_45 : decode b_Mo_breaks 45 = .ok (.getfield 46, 3) := by decide +kernel
theorem d_Mo_breaks_48 : decode b_Mo_breaks 48 = .ok (.iload_n 1, 1) := by decide +kernel
theorem d_Mo_breaks_49 : decode b_Mo_breaks 49 = .ok (.aload_n 0, 1) := by decide +kernel
theorem d_Mo_breaks_50 : decode b_Mo_breaks 50 = .ok (.getfield 46, 3) := by decide +kernel
theorem d_Mo_breaks_53 : decode b_Mo_breaks 53 = .ok (.iload_n 1, 1) := by decide +kernel
theorem d_Mo_breaks_54 : decode b_Mo_breaks 54 = .ok (.iaload, 1) := by decide +kernel
theorem d_Mo_breaks_55 : decode b_Mo_breaks 55 = .ok (.iconst 3, 1) := by decide +kernel
theorem d_Mo_breaks_56 : decode b_Mo_breaks 56 = .ok (.if_icmp .le 14, 3) := by decide +kernel
theorem d_Mo_breaks_59 : decode b_Mo_breaks 59 = .ok (.aload_n 0, 1) := by decide +kernel
theorem d_Mo_breaks_60 : decode b_Mo_breaks 60 = .ok (.getfield 46, 3) := by decide +kernel
theorem d_Mo_breaks_63 : decode b_Mo_breaks 63 = .ok (.iload_n 1, 1) := by decide +kernel
theorem d_Mo_breaks_64 : decode b_Mo_breaks 64 = .ok (.iaload, 1) := by decide +kernel
theorem d_Mo_breaks_65 : decode b_Mo_breaks 65 = .ok (.iconst 3, 1) := by decide +kernel
theorem d_Mo_breaks_66 : decode b_Mo_breaks 66 = .ok (.isub, 1) := by decide +kernel
theorem d_Mo_breaks_67 : decode b_Mo_breaks 67 = .ok (.goto 4, 3) := by decide +kernel
theorem d_Mo_breaks_70 : decode b_Mo_breaks 70 = .ok (.iconst 0, 1) := by decide +kernel
theorem d_Mo_breaks_71 : decode b_Mo_breaks 71 = .ok (.iastore, 1) := by decide +kernel
theorem d_Mo_breaks_72 : decode b_Mo_breaks 72 = .ok (.aload_n 0, 1) := by decide +kernel
theorem d_Mo_breaks_73 : decode b_Mo_breaks 73 = .ok (.getfield 58, 3) := by decide +kernel
theorem d_Mo_breaks_76 : decode b_Mo_breaks 76 = .ok (.iload_n 1, 1) := by decide +kernel
theorem d_Mo_breaks_77 : decode b_Mo_breaks 77 = .ok (.dup2, 1) := by decide +kernel
theorem d_Mo_breaks_78 : decode b_Mo_breaks 78 = .ok (.iaload, 1) := by decide +kernel
theorem d_Mo_breaks_79 : decode b_Mo_breaks 79 = .ok (.iconst 1, 1) := by decide +kernel
theorem d_Mo_breaks_80 : decode b_Mo_breaks 80 = .ok (.iadd, 1) := by decide +kernel
theorem d_Mo_breaks_81 : decode b_Mo_breaks 81 = .ok (.iastore, 1) := by decide +kernel
theorem d_Mo_breaks_82 : decode b_Mo_breaks 82 = .ok (.aload_n 0, 1) := by decide +kernel
theorem d_Mo_breaks_83 : decode b_Mo_breaks 83 = .ok (.aload_n 0, 1) := by decide +kernel
theorem d_Mo_breaks_84 : decode b_Mo_breaks 84 = .ok (.getfield 192, 3) := by decide +kernel
theorem d_Mo_breaks_87 : decode b_Mo_breaks 87 = .ok (.iconst (-1), 1) := by decide +kernel
theorem d_Mo_breaks_88 : decode b_Mo_breaks 88 = .ok (.if_icmp .eq 19, 3) := by decide +kernel
theorem d_Mo_breaks_91 : decode b_Mo_breaks 91 = .ok (.aload_n 0, 1) := by decide +kernel
theorem d_Mo_breaks_92 : decode b_Mo_breaks 92 = .ok (.getfield 192, 3) := by decide +kernel
theorem d_Mo_breaks_95 : decode b_Mo_breaks 95 = .ok (.iload_n 2, 1) := by decide +kernel
theorem d_Mo_breaks_96 : decode b_Mo_breaks 96 = .ok (.if_icmp .ne 15, 3) := by decide +kernel
theorem d_Mo_breaks_99 : decode b_Mo_breaks 99 = .ok (.iload_n 1, 1) := by decide +kernel
theorem d_Mo_breaks_100 : decode b_Mo_breaks 100 = .ok (.aload_n 0, 1) := by decide +kernel
theorem d_Mo_breaks_101 : decode b_Mo_breaks 101 = .ok (.getfield 195, 3) := by decide +kernel
theorem d_Mo_breaks_104 : decode b_Mo_breaks 104 = .ok (.if_icmp .ge 7, 3) := by decide +kernel
theorem d_Mo_breaks_107 : decode b_Mo_breaks 107 = .ok (.iload_n 1, 1) := by decide +kernel
theorem d_Mo_breaks_108 : decode b_Mo_breaks 108 = .ok (.goto 7, 3) := by decide +kernel
theorem d_Mo_breaks_111 : decode b_Mo_breaks 111 = .ok (.aload_n 0, 1) := by decide +kernel
theorem d_Mo_breaks_112 : decode b_Mo_breaks 112 = .ok (.getfield 195, 3) := by decide +kernel
theorem d_Mo_breaks_115 : decode b_Mo_breaks 115 = .ok (.putfield 195, 3) := by decide +kernel
theorem d_Mo_breaks_118 : decode b_Mo_breaks 118 = .ok (.aload_n 0, 1) := by decide +kernel
theorem d_Mo_breaks_119 : decode b_Mo_breaks 119 = .ok (.aload_n 0, 1) := by decide +kernel
theorem d_Mo_breaks_120 : decode b_Mo_breaks 120 = .ok (.getfield 192, 3) := by decide +kernel
theorem d_Mo_breaks_123 : decode b_Mo_breaks 123 = .ok (.iconst (-1), 1) := by decide +kernel
theorem d_Mo_breaks_124 : decode b_Mo_breaks 124 = .ok (.if_icmp .ne 7, 3) := by decide +kernel
theorem d_Mo_breaks_127 : decode b_Mo_breaks 127 = .ok (.iload_n 2, 1) := by decide +kernel
theorem d_Mo_breaks_128 : decode b_Mo_breaks 128 = .ok (.goto 7, 3) := by decide +kernel
theorem d_Mo_breaks_131 : decode b_Mo_breaks 131 = .ok (.aload_n 0, 1) := by decide +kernel
theorem d_Mo_breaks_132 : decode b_Mo_breaks 132 = .ok (.getfield 192, 3) := by decide +kernel
theorem d_Mo_breaks_135 : decode b_Mo_breaks 135 = .ok (.putfield 192, 3) := by decide +kernel
theorem d_Mo_breaks_138 : decode b_Mo_breaks 138 = .ok (.return_, 1) := by decide +kernel
theorem d_Mo_bears_0 : decode b_Mo_bears 0 = .ok (.iconst 0, 1) := by decide +kernel
theorem d_Mo_bears_1 : decode b_Mo_bears 1 = .ok (.istore_n 2, 1) := by decide +kernel
theorem d_Mo_bears_2 : decode b_Mo_bears 2 = .ok (.iload_n 2, 1) := by decide +kernel
theorem d_Mo_bears_3 : decode b_Mo_bears 3 = .ok (.aload_n 0, 1) := by decide +kernel
theorem d_Mo_bears_4 : decode b_Mo_bears 4 = .ok (.getfield 131, 3) := by decide +kernel
theorem d_Mo_bears_7 : decode b_Mo_bears 7 = .ok (.if_icmp .ge 63, 3) := by decide +kernel
theorem d_Mo_bears_10 : decode b_Mo_bears 10 = .ok (.aload_n 0, 1) := by decide +kernel
theorem d_Mo_bears_11 : decode b_Mo_bears 11 = .ok (.getfield 28, 3) := by decide +kernel
theorem d_Mo_bears_14 : decode b_Mo_bears 14 = .ok (.iload_n 2, 1) := by decide +kernel
theorem d_Mo_bears_15 : decode b_Mo_bears 15 = .ok (.iaload, 1) := by decide +kernel
theorem d_Mo_bears_16 : decode b_Mo_bears 16 = .ok (.iload_n 1, 1) := by decide +kernel
theorem d_Mo_bears_17 : decode b_Mo_bears 17 = .ok (.if_icmp .ne 47, 3) := by decide +kernel
theorem d_Mo_bears_20 : decode b_Mo_bears 20 = .ok (.aload_n 0, 1) := by decide +kernel
theorem d_Mo_bears_21 : decode b_Mo_bears 21 = .ok (.aload_n 0, 1) := by decide +kernel
theorem d_Mo_bears_22 : decode b_Mo_bears 22 = .ok (.getfield 22, 3) := by decide +kernel
theorem d_Mo_bears_25 : decode b_Mo_bears 25 = .ok (.iload_n 2, 1) := by decide +kernel
theorem d_Mo_bears_26 : decode b_Mo_bears 26 = .ok (.iaload, 1) := by decide +kernel
theorem d_Mo_bears_27 : decode b_Mo_bears 27 = .ok (.invokevirtual 198, 3) := by decide +kernel
theorem d_Mo_bears_30 : decode b_Mo_bears 30 = .ok (.ifCond .eq 34, 3) := by decide +kernel
theorem d_Mo_bears_33 : decode b_Mo_bears 33 = .ok (.aload_n 0, 1) := by decide +kernel
theorem d_Mo_bears_34 : decode b_Mo_bears 34 = .ok (.getfield 43, 3) := by decide +kernel
theorem d_Mo_bears_37 : decode b_Mo_bears 37 = .ok (.aload_n 0, 1) := by decide +kernel
theorem d_Mo_bears_38 : decode b_Mo_bears 38 = .ok (.getfield 22, 3) := by decide +kernel
theorem d_Mo_bears_41 : decode b_Mo_bears 41 = .ok (.iload_n 2, 1) := by decide +kernel
theorem d_Mo_bears_42 : decode b_Mo_bears 42 = .ok (.iaload, 1) := by decide +kernel
theorem d_Mo_bears_43 : decode b_Mo_bears 43 = .ok (.dup2, 1) := by decide +kernel
theorem d_Mo_bears_44 : decode b_Mo_bears 44 = .ok (.iaload, 1) := by decide +kernel
theorem d_Mo_bears_45 : decode b_Mo_bears 45 = .ok (.aload_n 0, 1) := by decide +kernel
theorem d_Mo_bears_46 : decode b_Mo_bears 46 = .ok (.getfield 25, 3) := by decide +kernel
theorem d_Mo_bears_49 : decode b_Mo_bears 49 = .ok (.iload_n 2, 1) := by decide +kernel
theorem d_Mo_bears_50 : decode b_Mo_bears 50 = .ok (.iaload, 1) := by decide +kernel
theorem d_Mo_bears_51 : decode b_Mo_bears 51 = .ok (.iadd, 1) := by decide +kernel
theorem d_Mo_bears_52 : decode b_Mo_bears 52 = .ok (.iastore, 1) := by decide +kernel
theorem d_Mo_bears_53 : decode b_Mo_bears 53 = .ok (.aload_n 0, 1) := by decide +kernel
theorem d_Mo_bears_54 : decode b_Mo_bears 54 = .ok (.aload_n 0, 1) := by decide +kernel
theorem d_Mo_bears_55 : decode b_Mo_bears 55 = .ok (.getfield 22, 3) := by decide +kernel
theorem d_Mo_bears_58 : decode b_Mo_bears 58 = .ok (.iload_n 2, 1) := by decide +kernel
theorem d_Mo_bears_59 : decode b_Mo_bears 59 = .ok (.iaload, 1) := by decide +kernel
theorem d_Mo_bears_60 : decode b_Mo_bears 60 = .ok (.iload_n 1, 1) := by decide +kernel
theorem d_Mo_bears_61 : decode b_Mo_bears 61 = .ok (.invokevirtual 201, 3) := by decide +kernel
theorem d_Mo_bears_64 : decode b_Mo_bears 64 = .ok (.iinc 2 1, 3) := by decide +kernel
theorem d_Mo_bears_67 : decode b_Mo_bears 67 = .ok (.goto (-65), 3) := by decide +kernel
theorem d_Mo_bears_70 : decode b_Mo_bears 70 = .ok (.return_, 1) := by decide +kernel
theorem d_Mo_isIn_0 : decode b_Mo_isIn 0 = .ok (.iload_n 0, 1) := by decide +kernel
theorem d_Mo_isIn_1 : decode b_Mo_isIn 1 = .ok (.iload_n 1, 1) := by decide +kernel
theorem d_Mo_isIn_2 : decode b_Mo_isIn 2 = .ok (.ishr, 1) := by decide +kernel
theorem d_Mo_isIn_3 : decode b_Mo_isIn 3 = .ok (.iconst 1, 1) := by decide +kernel
theorem d_Mo_isIn_4 : decode b_Mo_isIn 4 = .ok (.iand, 1) := by decide +kernel
theorem d_Mo_isIn_5 : decode b_Mo_isIn 5 = .ok (.iconst 1, 1) := by decide +kernel
theorem d_Mo_isIn_6 : decode b_Mo_isIn 6 = .ok (.if_icmp .ne 7, 3) := by decide +kernel
theorem d_Mo_isIn_9 : decode b_Mo_isIn 9 = .ok (.iconst 1, 1) := by decide +kernel
theorem d_Mo_isIn_10 : decode b_Mo_isIn 10 = .ok (.goto 4, 3) := by decide +kernel
theorem d_Mo_isIn_13 : decode b_Mo_isIn 13 = .ok (.iconst 0, 1) := by decide +kernel
theorem d_Mo_isIn_14 : decode b_Mo_isIn 14 = .ok (.ireturn, 1) := by decide +kernel
theorem d_Mo_comesStraw_0 : decode b_Mo_comesStraw 0 = .ok (.aload_n 0, 1) := by decide +kernel
theorem d_Mo_comesStraw_1 : decode b_Mo_comesStraw 1 = .ok (.getfield 43, 3) := by decide +kernel
theorem d_Mo_comesStraw_4 : decode b_Mo_comesStraw 4 = .ok (.iload_n 1, 1) := by decide +kernel
theorem d_Mo_comesStraw_5 : decode b_Mo_comesStraw 5 = .ok (.dup2, 1) := by decide +kernel
theorem d_Mo_comesStraw_6 : decode b_Mo_comesStraw 6 = .ok (.iaload, 1) := by decide +kernel
theorem d_Mo_comesStraw_7 : decode b_Mo_comesStraw 7 = .ok (.iconst 1, 1) := by decide +kernel
theorem d_Mo_comesStraw_8 : decode b_Mo_comesStraw 8 = .ok (.iadd, 1) := by decide +kernel
theorem d_Mo_comesStraw_9 : decode b_Mo_comesStraw 9 = .ok (.iastore, 1) := by decide +kernel
theorem d_Mo_comesStraw_10 : decode b_Mo_comesStraw 10 = .ok (.aload_n 0, 1) := by decide +kernel
theorem d_Mo_comesStraw_11 : decode b_Mo_comesStraw 11 = .ok (.aload_n 0, 1) := by decide +kernel
theorem d_Mo_comesStraw_12 : decode b_Mo_comesStraw 12 = .ok (.getfield 43, 3) := by decide +kernel
theorem d_Mo_comesStraw_15 : decode b_Mo_comesStraw 15 = .ok (.iload_n 1, 1) := by decide +kernel
theorem d_Mo_comesStraw_16 : decode b_Mo_comesStraw 16 = .ok (.iaload, 1) := by decide +kernel
theorem d_Mo_comesStraw_17 : decode b_Mo_comesStraw 17 = .ok (.aload_n 0, 1) := by decide +kernel
theorem d_Mo_comesStraw_18 : decode b_Mo_comesStraw 18 = .ok (.getfield 46, 3) := by decide +kernel
theorem d_Mo_comesStraw_21 : decode b_Mo_comesStraw 21 = .ok (.iload_n 1, 1) := by decide +kernel
theorem d_Mo_comesStraw_22 : decode b_Mo_comesStraw 22 = .ok (.iaload, 1) := by decide +kernel
theorem d_Mo_comesStraw_23 : decode b_Mo_comesStraw 23 = .ok (.if_icmp .ne 7, 3) := by decide +kernel
theorem d_Mo_comesStraw_26 : decode b_Mo_comesStraw 26 = .ok (.iconst 1, 1) := by decide +kernel
theorem d_Mo_comesStraw_27 : decode b_Mo_comesStraw 27 = .ok (.goto 4, 3) := by decide +kernel
theorem d_Mo_comesStraw_30 : decode b_Mo_comesStraw 30 = .ok (.iconst 0, 1) := by decide +kernel
theorem d_Mo_comesStraw_31 : decode b_Mo_comesStraw 31 = .ok (.putfield 205, 3) := by decide +kernel
theorem d_Mo_comesStraw_34 : decode b_Mo_comesStraw 34 = .ok (.aload_n 0, 1) := by decide +kernel
theorem d_Mo_comesStraw_35 : decode b_Mo_comesStraw 35 = .ok (.getfield 52, 3) := by decide +kernel
theorem d_Mo_comesStraw_38 : decode b_Mo_comesStraw 38 = .ok (.iload_n 1, 1) := by decide +kernel
theorem d_Mo_comesStraw_39 : decode b_Mo_comesStraw 39 = .ok (.dup2, 1) := by decide +kernel
theorem d_Mo_comesStraw_40 : decode b_Mo_comesStraw 40 = .ok (.iaload, 1) := by decide +kernel
theorem d_Mo_comesStraw_41 : decode b_Mo_comesStraw 41 = .ok (.aload_n 0, 1) := by decide +kernel
theorem d_Mo_comesStraw_42 : decode b_Mo_comesStraw 42 = .ok (.getfield 205, 3) := by decide +kernel
theorem d_Mo_comesStraw_45 : decode b_Mo_comesStraw 45 = .ok (.ifCond .eq 12, 3) := by decide +kernel
theorem d_Mo_comesStraw_48 : decode b_Mo_comesStraw 48 = .ok (.aload_n 0, 1) := by decide +kernel
theorem d_Mo_comesStraw_49 : decode b_Mo_comesStraw 49 = .ok (.getfield 43, 3) := by decide +kernel
theorem d_Mo_comesStraw_52 : decode b_Mo_comesStraw 52 = .ok (.iload_n 1, 1) := by decide +kernel
theorem d_Mo_comesStraw_53 : decode b_Mo_comesStraw 53 = .ok (.iaload, 1) := by decide +kernel
theorem d_Mo_comesStraw_54 : decode b_Mo_comesStraw 54 = .ok (.goto 4, 3) := by decide +kernel
theorem d_Mo_comesStraw_57 : decode b_Mo_comesStraw 57 = .ok (.iconst 0, 1) := by decide +kernel
theorem d_Mo_comesStraw_58 : decode b_Mo_comesStraw 58 = .ok (.iadd, 1) := by decide +kernel
theorem d_Mo_comesStraw_59 : decode b_Mo_comesStraw 59 = .ok (.iastore, 1) := by decide +kernel
theorem d_Mo_comesStraw_60 : decode b_Mo_comesStraw 60 = .ok (.aload_n 0, 1) := by decide +kernel
theorem d_Mo_comesStraw_61 : decode b_Mo_comesStraw 61 = .ok (.iload_n 1, 1) := by decide +kernel
theorem d_Mo_comesStraw_62 : decode b_Mo_comesStraw 62 = .ok (.iload_n 2, 1) := by decide +kernel
theorem d_Mo_comesStraw_63 : decode b_Mo_comesStraw 63 = .ok (.invokevirtual 201, 3) := by decide +kernel
theorem d_Mo_comesStraw_66 : decode b_Mo_comesStraw 66 = .ok (.return_, 1) := by decide +kernel
theorem d_Mo_comeStraws_0 : decode b_Mo_comeStraws 0 = .ok (.iconst 0, 1) := by decide +kernel
theorem d_Mo_comeStraws_1 : decode b_Mo_comeStraws 1 = .ok (.istore_n 2, 1) := by decide +kernel
theorem d_Mo_comeStraws_2 : decode b_Mo_comeStraws 2 = .ok (.iload_n 2, 1) := by decide +kernel
theorem d_Mo_comeStraws_3 : decode b_Mo_comeStraws 3 = .ok (.aload_n 0, 1) := by decide +kernel
theorem d_Mo_comeStraws_4 : decode b_Mo_comeStraws 4 = .ok (.getfield 183, 3) := by decide +kernel
theorem d_Mo_comeStraws_7 : decode b_Mo_comeStraws 7 = .ok (.if_icmp .ge 59, 3) := by decide +kernel
theorem d_Mo_comeStraws_10 : decode b_Mo_comeStraws 10 = .ok (.aload_n 0, 1) := by decide +kernel
theorem d_Mo_comeStraws_11 : decode b_Mo_comeStraws 11 = .ok (.getfield 37, 3) := by decide +kernel
theorem d_Mo_comeStraws_14 : decode b_Mo_comeStraws 14 = .ok (.iload_n 2, 1) := by decide +kernel
theorem d_Mo_comeStraws_15 : decode b_Mo_comeStraws 15 = .ok (.iaload, 1) := by decide +kernel
theorem d_Mo_comeStraws_16 : decode b_Mo_comeStraws 16 = .ok (.iload_n 1, 1) := by decide +kernel
theorem d_Mo_comeStraws_17 : decode b_Mo_comeStraws 17 = .ok (.if_icmp .ne 43, 3) := by decide +kernel
theorem d_Mo_comeStraws_20 : decode b_Mo_comeStraws 20 = .ok (.aload_n 0, 1) := by decide +kernel
theorem d_Mo_comeStraws_21 : decode b_Mo_comeStraws 21 = .ok (.getfield 186, 3) := by decide +kernel
theorem d_Mo_comeStraws_24 : decode b_Mo_comeStraws 24 = .ok (.iload_n 2, 1) := by decide +kernel
theorem d_Mo_comeStraws_25 : decode b_Mo_comeStraws 25 = .ok (.invokestatic 209, 3) := by decide +kernel
theorem d_Mo_comeStraws_28 : decode b_Mo_comeStraws 28 = .ok (.ifCond .ne 32, 3) := by decide +kernel
theorem d_Mo_comeStraws_31 : decode b_Mo_comeStraws 31 = .ok (.aload_n 0, 1) := by decide +kernel
theorem d_Mo_comeStraws_32 : decode b_Mo_comeStraws 32 = .ok (.iconst 0, 1) := by decide +kernel
theorem d_Mo_comeStraws_33 : decode b_Mo_comeStraws 33 = .ok (.putfield 205, 3) := by decide +kernel
theorem d_Mo_comeStraws_36 : decode b_Mo_comeStraws 36 = .ok (.aload_n 0, 1) := by decide +kernel
theorem d_Mo_comeStraws_37 : decode b_Mo_comeStraws 37 = .ok (.aload_n 0, 1) := by decide +kernel
theorem d_Mo_comeStraws_38 : decode b_Mo_comeStraws 38 = .ok (.getfield 40, 3) := by decide +kernel
theorem d_Mo_comeStraws_41 : decode b_Mo_comeStraws 41 = .ok (.iload_n 2, 1) := by decide +kernel
theorem d_Mo_comeStraws_42 : decode b_Mo_comeStraws 42 = .ok (.iaload, 1) := by decide +kernel
theorem d_Mo_comeStraws_43 : decode b_Mo_comeStraws 43 = .ok (.invokevirtual 198, 3) := by decide +kernel
theorem d_Mo_comeStraws_46 : decode b_Mo_comeStraws 46 = .ok (.ifCond .eq 14, 3) := by decide +kernel
theorem d_Mo_comeStraws_49 : decode b_Mo_comeStraws 49 = .ok (.aload_n 0, 1) := by decide +kernel
theorem d_Mo_comeStraws_50 : decode b_Mo_comeStraws 50 = .ok (.aload_n 0, 1) := by decide +kernel
theorem d_Mo_comeStraws_51 : decode b_Mo_comeStraws 51 = .ok (.getfield 40, 3) := by decide +kernel
theorem d_Mo_comeStraws_54 : decode b_Mo_comeStraws 54 = .ok (.iload_n 2, 1) := by decide +kernel
theorem d_Mo_comeStraws_55 : decode b_Mo_comeStraws 55 = .ok (.iaload, 1) := by decide +kernel
theorem d_Mo_comeStraws_56 : decode b_Mo_comeStraws 56 = .ok (.iload_n 1, 1) := by decide +kernel
theorem d_Mo_comeStraws_57 : decode b_Mo_comeStraws 57 = .ok (.invokevirtual 213, 3) := by decide +kernel
theorem d_Mo_comeStraws_60 : decode b_Mo_comeStraws 60 = .ok (.iinc 2 1, 3) := by decide +kernel
theorem d_Mo_comeStraws_63 : decode b_Mo_comeStraws 63 = .ok (.goto (-61), 3) := by decide +kernel
theorem d_Mo_comeStraws_66 : decode b_Mo_comeStraws 66 = .ok (.return_, 1) := by decide +kernel
theorem d_Mo_wears_0 : decode b_Mo_wears 0 = .ok (.aload_n 0, 1) := by decide +kernel
theorem d_Mo_wears_1 : decode b_Mo_wears 1 = .ok (.getfield 16, 3) := by decide +kernel
theorem d_Mo_wears_4 : decode b_Mo_wears 4 = .ok (.iload_n 1, 1) := by decide +kernel
theorem d_Mo_wears_5 : decode b_Mo_wears 5 = .ok (.iaload, 1) := by decide +kernel
theorem d_Mo_wears_6 : decode b_Mo_wears 6 = .ok (.ifCond .ne 18, 3) := by decide +kernel
theorem d_Mo_wears_9 : decode b_Mo_wears 9 = .ok (.iload_n 2, 1) := by decide +kernel
theorem d_Mo_wears_10 : decode b_Mo_wears 10 = .ok (.iconst 3, 1) := by decide +kernel
theorem d_Mo_wears_11 : decode b_Mo_wears 11 = .ok (.irem, 1) := by decide +kernel
theorem d_Mo_wears_12 : decode b_Mo_wears 12 = .ok (.iconst 2, 1) := by decide +kernel
theorem d_Mo_wears_13 : decode b_Mo_wears 13 = .ok (.if_icmp .ne 7, 3) := by decide +kernel
theorem d_Mo_wears_16 : decode b_Mo_wears 16 = .ok (.iconst 1, 1) := by decide +kernel
theorem d_Mo_wears_17 : decode b_Mo_wears 17 = .ok (.goto 39, 3) := by decide +kernel
theorem d_Mo_wears_20 : decode b_Mo_wears 20 = .ok (.iconst 0, 1) := by decide +kernel
theorem d_Mo_wears_21 : decode b_Mo_wears 21 = .ok (.goto 35, 3) := by decide +kernel
theorem d_Mo_wears_24 : decode b_Mo_wears 24 = .ok (.aload_n 0, 1) := by decide +kernel
theorem d_Mo_wears_25 : decode b_Mo_wears 25 = .ok (.getfield 16, 3) := by decide +kernel
theorem d_Mo_wears_28 : decode b_Mo_wears 28 = .ok (.iload_n 1, 1) := by decide +kernel
theorem d_Mo_wears_29 : decode b_Mo_wears 29 = .ok (.iaload, 1) := by decide +kernel
theorem d_Mo_wears_30 : decode b_Mo_wears 30 = .ok (.iconst 2, 1) := by decide +kernel
theorem d_Mo_wears_31 : decode b_Mo_wears 31 = .ok (.if_icmp .eq 20, 3) := by decide +kernel
theorem d_Mo_wears_34 : decode b_Mo_wears 34 = .ok (.iconst 2, 1) := by decide +kernel
theorem d_Mo_wears_35 : decode b_Mo_wears 35 = .ok (.aload_n 0, 1) := by decide +kernel
theorem d_Mo_wears_36 : decode b_Mo_wears 36 = .ok (.getfield 43, 3) := by decide +kernel
theorem d_Mo_wears_39 : decode b_Mo_wears 39 = .ok (.iload_n 1, 1) := by decide +kernel
theorem d_Mo_wears_40 : decode b_Mo_wears 40 = .ok (.iaload, 1) := by decide +kernel
theorem d_Mo_wears_41 : decode b_Mo_wears 41 = .ok (.imul, 1) := by decide +kernel
theorem d_Mo_wears_42 : decode b_Mo_wears 42 = .ok (.aload_n 0, 1) := by decide +kernel
theorem d_Mo_wears_43 : decode b_Mo_wears 43 = .ok (.getfield 46, 3) := by decide +kernel
theorem d_Mo_wears_46 : decode b_Mo_wears 46 = .ok (.iload_n 1, 1) := by decide +kernel
theorem d_Mo_wears_47 : decode b_Mo_wears 47 = .ok (.iaload, 1) := by decide +kernel
theorem d_Mo_wears_48 : decode b_Mo_wears 48 = .ok (.if_icmp .le 7, 3) := by decide +kernel
theorem d_Mo_wears_51 : decode b_Mo_wears 51 = .ok (.iconst 1, 1) := by decide +kernel
theorem d_Mo_wears_52 : decode b_Mo_wears 52 = .ok (.goto 4, 3) := by decide +kernel
theorem d_Mo_wears_55 : decode b_Mo_wears 55 = .ok (.iconst 0, 1) := by decide +kernel
theorem d_Mo_wears_56 : decode b_Mo_wears 56 = .ok (.ireturn, 1) := by decide +kernel
theorem d_Mo_tires_0 : decode b_Mo_tires 0 = .ok (.aload_n 0, 1) := by decide +kernel
theorem d_Mo_tires_1 : decode b_Mo_tires 1 = .ok (.getfield 43, 3) := by decide +kernel
theorem d_Mo_tires_4 : decode b_Mo_tires 4 = .ok (.iload_n 1, 1) := by decide +kernel
theorem d_Mo_tires_5 : decode b_Mo_tires 5 = .ok (.iaload, 1) := by decide +kernel
theorem d_Mo_tires_6 : decode b_Mo_tires 6 = .ok (.ifCond .le 38, 3) := by decide +kernel
theorem d_Mo_tires_9 : decode b_Mo_tires 9 = .ok (.aload_n 0, 1) := by decide +kernel
theorem d_Mo_tires_10 : decode b_Mo_tires 10 = .ok (.getfield 46, 3) := by decide +kernel
theorem d_Mo_tires_13 : decode b_Mo_tires 13 = .ok (.iload_n 1, 1) := by decide +kernel
theorem d_Mo_tires_14 : decode b_Mo_tires 14 = .ok (.dup2, 1) := by decide +kernel
theorem d_Mo_tires_15 : decode b_Mo_tires 15 = .ok (.iaload, 1) := by decide +kernel
theorem d_Mo_tires_16 : decode b_Mo_tires 16 = .ok (.aload_n 0, 1) := by decide +kernel
theorem d_Mo_tires_17 : decode b_Mo_tires 17 = .ok (.iload_n 1, 1) := by decide +kernel
theorem d_Mo_tires_18 : decode b_Mo_tires 18 = .ok (.iload_n 2, 1) := by decide +kernel
theorem d_Mo_tires_19 : decode b_Mo_tires 19 = .ok (.invokevirtual 216, 3) := by decide +kernel
theorem d_Mo_tires_22 : decode b_Mo_tires 22 = .ok (.ifCond .eq 16, 3) := by decide +kernel
theorem d_Mo_tires_25 : decode b_Mo_tires 25 = .ok (.aload_n 0, 1) := by decide +kernel
theorem d_Mo_tires_26 : decode b_Mo_tires 26 = .ok (.getfield 46, 3) := by decide +kernel
theorem d_Mo_tires_29 : decode b_Mo_tires 29 = .ok (.iload_n 1, 1) := by decide +kernel
theorem d_Mo_tires_30 : decode b_Mo_tires 30 = .ok (.iaload, 1) := by decide +kernel
theorem d_Mo_tires_31 : decode b_Mo_tires 31 = .ok (.ifCond .le 7, 3) := by decide +kernel
theorem d_Mo_tires_34 : decode b_Mo_tires 34 = .ok (.iconst 1, 1) := by decide +kernel
theorem d_Mo_tires_35 : decode b_Mo_tires 35 = .ok (.goto 4, 3) := by decide +kernel
theorem d_Mo_tires_38 : decode b_Mo_tires 38 = .ok (.iconst 0, 1) := by decide +kernel
theorem d_Mo_tires_39 : decode b_Mo_tires 39 = .ok (.isub, 1) := by decide +kernel
theorem d_Mo_tires_40 : decode b_Mo_tires 40 = .ok (.iastore, 1) := by decide +kernel
theorem d_Mo_tires_41 : decode b_Mo_tires 41 = .ok (.goto 34, 3) := by decide +kernel
theorem d_Mo_tires_44 : decode b_Mo_tires 44 = .ok (.aload_n 0, 1) := by decide +kernel
theorem d_Mo_tires_45 : decode b_Mo_tires 45 = .ok (.getfield 46, 3) := by decide +kernel
theorem d_Mo_tires_48 : decode b_Mo_tires 48 = .ok (.iload_n 1, 1) := by decide +kernel
theorem d_Mo_tires_49 : decode b_Mo_tires 49 = .ok (.dup2, 1) := by decide +kernel
theorem d_Mo_tires_50 : decode b_Mo_tires 50 = .ok (.iaload, 1) := by decide +kernel
theorem d_Mo_tires_51 : decode b_Mo_tires 51 = .ok (.aload_n 0, 1) := by decide +kernel
theorem d_Mo_tires_52 : decode b_Mo_tires 52 = .ok (.getfield 46, 3) := by decide +kernel
theorem d_Mo_tires_55 : decode b_Mo_tires 55 = .ok (.iload_n 1, 1) := by decide +kernel
theorem d_Mo_tires_56 : decode b_Mo_tires 56 = .ok (.iaload, 1) := by decide +kernel
theorem d_Mo_tires_57 : decode b_Mo_tires 57 = .ok (.iconst 4, 1) := by decide +kernel
theorem d_Mo_tires_58 : decode b_Mo_tires 58 = .ok (.aload_n 0, 1) := by decide +kernel
theorem d_Mo_tires_59 : decode b_Mo_tires 59 = .ok (.getfield 19, 3) := by decide +kernel
theorem d_Mo_tires_62 : decode b_Mo_tires 62 = .ok (.iload_n 1, 1) := by decide +kernel
theorem d_Mo_tires_63 : decode b_Mo_tires 63 = .ok (.iaload, 1) := by decide +kernel
theorem d_Mo_tires_64 : decode b_Mo_tires 64 = .ok (.imul, 1) := by decide +kernel
theorem d_Mo_tires_65 : decode b_Mo_tires 65 = .ok (.if_icmp .ge 7, 3) := by decide +kernel
theorem d_Mo_tires_68 : decode b_Mo_tires 68 = .ok (.iconst 1, 1) := by decide +kernel
theorem d_Mo_tires_69 : decode b_Mo_tires 69 = .ok (.goto 4, 3) := by decide +kernel
theorem d_Mo_tires_72 : decode b_Mo_tires 72 = .ok (.iconst 0, 1) := by decide +kernel
theorem d_Mo_tires_73 : decode b_Mo_tires 73 = .ok (.iadd, 1) := by decide +kernel
theorem d_Mo_tires_74 : decode b_Mo_tires 74 = .ok (.iastore, 1) := by decide +kernel
theorem d_Mo_tires_75 : decode b_Mo_tires 75 = .ok (.aload_n 0, 1) := by decide +kernel
theorem d_Mo_tires_76 : decode b_Mo_tires 76 = .ok (.iload_n 1, 1) := by decide +kernel
theorem d_Mo_tires_77 : decode b_Mo_tires 77 = .ok (.iload_n 2, 1) := by decide +kernel
theorem d_Mo_tires_78 : decode b_Mo_tires 78 = .ok (.invokevirtual 201, 3) := by decide +kernel
theorem d_Mo_tires_81 : decode b_Mo_tires 81 = .ok (.return_, 1) := by decide +kernel
