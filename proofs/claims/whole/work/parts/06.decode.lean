/-! decode rows (printed) -/
theorem d_Mo_years_0 : decode b_Mo_years 0 = .ok (.iload_n 2, 1) := by decide +kernel
theorem d_Mo_years_1 : decode b_Mo_years 1 = .ok (.iconst 0, 1) := by decide +kernel
theorem d_Mo_years_2 : decode b_Mo_years 2 = .ok (.bipush 8, 2) := by decide +kernel
theorem d_Mo_years_4 : decode b_Mo_years 4 = .ok (.invokestatic 115, 3) := by decide +kernel
theorem d_Mo_years_7 : decode b_Mo_years 7 = .ok (.ifCond .eq 20, 3) := by decide +kernel
theorem d_Mo_years_10 : decode b_Mo_years 10 = .ok (.iload_n 3, 1) := by decide +kernel
theorem d_Mo_years_11 : decode b_Mo_years 11 = .ok (.invokestatic 153, 3) := by decide +kernel
theorem d_Mo_years_14 : decode b_Mo_years 14 = .ok (.ifCond .eq 13, 3) := by decide +kernel
theorem d_Mo_years_17 : decode b_Mo_years 17 = .ok (.aload_n 0, 1) := by decide +kernel
theorem d_Mo_years_18 : decode b_Mo_years 18 = .ok (.iload_n 1, 1) := by decide +kernel
theorem d_Mo_years_19 : decode b_Mo_years 19 = .ok (.iload_n 2, 1) := by decide +kernel
theorem d_Mo_years_20 : decode b_Mo_years 20 = .ok (.iload_n 3, 1) := by decide +kernel
theorem d_Mo_years_21 : decode b_Mo_years 21 = .ok (.invokevirtual 326, 3) := by decide +kernel
theorem d_Mo_years_24 : decode b_Mo_years 24 = .ok (.goto 5, 3) := by decide +kernel
theorem d_Mo_years_27 : decode b_Mo_years 27 = .ok (.bipush (-2), 2) := by decide +kernel
theorem d_Mo_years_29 : decode b_Mo_years 29 = .ok (.ireturn, 1) := by decide +kernel
theorem d_Mo_sheet_0 : decode b_Mo_sheet 0 = .ok (.iload_n 1, 1) := by decide +kernel
theorem d_Mo_sheet_1 : decode b_Mo_sheet 1 = .ok (.invokestatic 174, 3) := by decide +kernel
theorem d_Mo_sheet_4 : decode b_Mo_sheet 4 = .ok (.ifCond .eq 18, 3) := by decide +kernel
theorem d_Mo_sheet_7 : decode b_Mo_sheet 7 = .ok (.iload_n 2, 1) := by decide +kernel
theorem d_Mo_sheet_8 : decode b_Mo_sheet 8 = .ok (.iconst 0, 1) := by decide +kernel
theorem d_Mo_sheet_9 : decode b_Mo_sheet 9 = .ok (.iconst 2, 1) := by decide +kernel
theorem d_Mo_sheet_10 : decode b_Mo_sheet 10 = .ok (.invokestatic 115, 3) := by decide +kernel
theorem d_Mo_sheet_13 : decode b_Mo_sheet 13 = .ok (.ifCond .eq 9, 3) := by decide +kernel
theorem d_Mo_sheet_16 : decode b_Mo_sheet 16 = .ok (.iload_n 3, 1) := by decide +kernel
theorem d_Mo_sheet_17 : decode b_Mo_sheet 17 = .ok (.bipush 60, 2) := by decide +kernel
theorem d_Mo_sheet_19 : decode b_Mo_sheet 19 = .ok (.if_icmp .le 6, 3) := by decide +kernel
theorem d_Mo_sheet_22 : decode b_Mo_sheet 22 = .ok (.bipush (-2), 2) := by decide +kernel
theorem d_Mo_sheet_24 : decode b_Mo_sheet 24 = .ok (.ireturn, 1) := by decide +kernel
theorem d_Mo_sheet_25 : decode b_Mo_sheet 25 = .ok (.iload_n 3, 1) := by decide +kernel
theorem d_Mo_sheet_26 : decode b_Mo_sheet 26 = .ok (.ifCond .ge 9, 3) := by decide +kernel
theorem d_Mo_sheet_29 : decode b_Mo_sheet 29 = .ok (.aload_n 0, 1) := by decide +kernel
theorem d_Mo_sheet_30 : decode b_Mo_sheet 30 = .ok (.iconst 5, 1) := by decide +kernel
theorem d_Mo_sheet_31 : decode b_Mo_sheet 31 = .ok (.invokevirtual 177, 3) := by decide +kernel
theorem d_Mo_sheet_34 : decode b_Mo_sheet 34 = .ok (.ireturn, 1) := by decide +kernel
theorem d_Mo_sheet_35 : decode b_Mo_sheet 35 = .ok (.aload_n 0, 1) := by decide +kernel
theorem d_Mo_sheet_36 : decode b_Mo_sheet 36 = .ok (.getfield 97, 3) := by decide +kernel
theorem d_Mo_sheet_39 : decode b_Mo_sheet 39 = .ok (.iload_n 1, 1) := by decide +kernel
theorem d_Mo_sheet_40 : decode b_Mo_sheet 40 = .ok (.iconst 1, 1) := by decide +kernel
theorem d_Mo_sheet_41 : decode b_Mo_sheet 41 = .ok (.bastore, 1) := by decide +kernel
theorem d_Mo_sheet_42 : decode b_Mo_sheet 42 = .ok (.aload_n 0, 1) := by decide +kernel
theorem d_Mo_sheet_43 : decode b_Mo_sheet 43 = .ok (.getfield 101, 3) := by decide +kernel
theorem d_Mo_sheet_46 : decode b_Mo_sheet 46 = .ok (.iload_n 1, 1) := by decide +kernel
theorem d_Mo_sheet_47 : decode b_Mo_sheet 47 = .ok (.iload_n 2, 1) := by decide +kernel
theorem d_Mo_sheet_48 : decode b_Mo_sheet 48 = .ok (.iastore, 1) := by decide +kernel
theorem d_Mo_sheet_49 : decode b_Mo_sheet 49 = .ok (.aload_n 0, 1) := by decide +kernel
theorem d_Mo_sheet_50 : decode b_Mo_sheet 50 = .ok (.getfield 104, 3) := by decide +kernel
theorem d_Mo_sheet_53 : decode b_Mo_sheet 53 = .ok (.iload_n 1, 1) := by decide +kernel
theorem d_Mo_sheet_54 : decode b_Mo_sheet 54 = .ok (.iload_n 3, 1) := by decide +kernel
theorem d_Mo_sheet_55 : decode b_Mo_sheet 55 = .ok (.iastore, 1) := by decide +kernel
theorem d_Mo_sheet_56 : decode b_Mo_sheet 56 = .ok (.iconst 0, 1) := by decide +kernel
theorem d_Mo_sheet_57 : decode b_Mo_sheet 57 = .ok (.istore 4, 2) := by decide +kernel
theorem d_Mo_sheet_59 : decode b_Mo_sheet 59 = .ok (.iload 4, 2) := by decide +kernel
theorem d_Mo_sheet_61 : decode b_Mo_sheet 61 = .ok (.bipush 60, 2) := by decide +kernel
theorem d_Mo_sheet_63 : decode b_Mo_sheet 63 = .ok (.if_icmp .ge 22, 3) := by decide +kernel
theorem d_Mo_sheet_66 : decode b_Mo_sheet 66 = .ok (.aload_n 0, 1) := by decide +kernel
theorem d_Mo_sheet_67 : decode b_Mo_sheet 67 = .ok (.getfield 107, 3) := by decide +kernel
theorem d_Mo_sheet_70 : decode b_Mo_sheet 70 = .ok (.bipush 60, 2) := by decide +kernel
theorem d_Mo_sheet_72 : decode b_Mo_sheet 72 = .ok (.iload_n 1, 1) := by decide +kernel
theorem d_Mo_sheet_73 : decode b_Mo_sheet 73 = .ok (.imul, 1) := by decide +kernel
theorem d_Mo_sheet_74 : decode b_Mo_sheet 74 = .ok (.iload 4, 2) := by decide +kernel
theorem d_Mo_sheet_76 : decode b_Mo_sheet 76 = .ok (.iadd, 1) := by decide +kernel
theorem d_Mo_sheet_77 : decode b_Mo_sheet 77 = .ok (.iconst 0, 1) := by decide +kernel
theorem d_Mo_sheet_78 : decode b_Mo_sheet 78 = .ok (.iastore, 1) := by decide +kernel
theorem d_Mo_sheet_79 : decode b_Mo_sheet 79 = .ok (.iinc 4 1, 3) := by decide +kernel
theorem d_Mo_sheet_82 : decode b_Mo_sheet 82 = .ok (.goto (-23), 3) := by decide +kernel
theorem d_Mo_sheet_85 : decode b_Mo_sheet 85 = .ok (.iload_n 3, 1) := by decide +kernel
theorem d_Mo_sheet_86 : decode b_Mo_sheet 86 = .ok (.ireturn, 1) := by decide +kernel
theorem d_Mo_lose_0 : decode b_Mo_lose 0 = .ok (.iload_n 1, 1) := by decide +kernel
theorem d_Mo_lose_1 : decode b_Mo_lose 1 = .ok (.invokestatic 174, 3) := by decide +kernel
theorem d_Mo_lose_4 : decode b_Mo_lose 4 = .ok (.ifCond .ne 6, 3) := by decide +kernel
theorem d_Mo_lose_7 : decode b_Mo_lose 7 = .ok (.bipush (-2), 2) := by decide +kernel
theorem d_Mo_lose_9 : decode b_Mo_lose 9 = .ok (.ireturn, 1) := by decide +kernel
theorem d_Mo_lose_10 : decode b_Mo_lose 10 = .ok (.aload_n 0, 1) := by decide +kernel
theorem d_Mo_lose_11 : decode b_Mo_lose 11 = .ok (.getfield 97, 3) := by decide +kernel
theorem d_Mo_lose_14 : decode b_Mo_lose 14 = .ok (.iload_n 1, 1) := by decide +kernel
theorem d_Mo_lose_15 : decode b_Mo_lose 15 = .ok (.baload, 1) := by decide +kernel
theorem d_Mo_lose_16 : decode b_Mo_lose 16 = .ok (.ifCond .ne 9, 3) := by decide +kernel
theorem d_Mo_lose_19 : decode b_Mo_lose 19 = .ok (.aload_n 0, 1) := by decide +kernel
theorem d_Mo_lose_20 : decode b_Mo_lose 20 = .ok (.iconst 1, 1) := by decide +kernel
theorem d_Mo_lose_21 : decode b_Mo_lose 21 = .ok (.invokevirtual 177, 3) := by decide +kernel
theorem d_Mo_lose_24 : decode b_Mo_lose 24 = .ok (.ireturn, 1) := by decide +kernel
theorem d_Mo_lose_25 : decode b_Mo_lose 25 = .ok (.aload_n 0, 1) := by decide +kernel
theorem d_Mo_lose_26 : decode b_Mo_lose 26 = .ok (.getfield 97, 3) := by decide +kernel
theorem d_Mo_lose_29 : decode b_Mo_lose 29 = .ok (.iload_n 1, 1) := by decide +kernel
theorem d_Mo_lose_30 : decode b_Mo_lose 30 = .ok (.iconst 0, 1) := by decide +kernel
theorem d_Mo_lose_31 : decode b_Mo_lose 31 = .ok (.bastore, 1) := by decide +kernel
theorem d_Mo_lose_32 : decode b_Mo_lose 32 = .ok (.aload_n 0, 1) := by decide +kernel
theorem d_Mo_lose_33 : decode b_Mo_lose 33 = .ok (.getfield 104, 3) := by decide +kernel
theorem d_Mo_lose_36 : decode b_Mo_lose 36 = .ok (.iload_n 1, 1) := by decide +kernel
theorem d_Mo_lose_37 : decode b_Mo_lose 37 = .ok (.iaload, 1) := by decide +kernel
theorem d_Mo_lose_38 : decode b_Mo_lose 38 = .ok (.ireturn, 1) := by decide +kernel
theorem d_Mo_lacks_0 : decode b_Mo_lacks 0 = .ok (.aload_n 0, 1) := by decide +kernel
theorem d_Mo_lacks_1 : decode b_Mo_lacks 1 = .ok (.getfield 97, 3) := by decide +kernel
theorem d_Mo_lacks_4 : decode b_Mo_lacks 4 = .ok (.iload_n 1, 1) := by decide +kernel
theorem d_Mo_lacks_5 : decode b_Mo_lacks 5 = .ok (.baload, 1) := by decide +kernel
theorem d_Mo_lacks_6 : decode b_Mo_lacks 6 = .ok (.ifCond .ne 7, 3) := by decide +kernel
theorem d_Mo_lacks_9 : decode b_Mo_lacks 9 = .ok (.iconst 1, 1) := by decide +kernel
theorem d_Mo_lacks_10 : decode b_Mo_lacks 10 = .ok (.goto 38, 3) := by decide +kernel
theorem d_Mo_lacks_13 : decode b_Mo_lacks 13 = .ok (.aload_n 0, 1) := by decide +kernel
theorem d_Mo_lacks_14 : decode b_Mo_lacks 14 = .ok (.getfield 101, 3) := by decide +kernel
theorem d_Mo_lacks_17 : decode b_Mo_lacks 17 = .ok (.iload_n 1, 1) := by decide +kernel
theorem d_Mo_lacks_18 : decode b_Mo_lacks 18 = .ok (.iaload, 1) := by decide +kernel
theorem d_Mo_lacks_19 : decode b_Mo_lacks 19 = .ok (.iload_n 2, 1) := by decide +kernel
theorem d_Mo_lacks_20 : decode b_Mo_lacks 20 = .ok (.if_icmp .eq 7, 3) := by decide +kernel
theorem d_Mo_lacks_23 : decode b_Mo_lacks 23 = .ok (.iconst 3, 1) := by decide +kernel
theorem d_Mo_lacks_24 : decode b_Mo_lacks 24 = .ok (.goto 24, 3) := by decide +kernel
theorem d_Mo_lacks_27 : decode b_Mo_lacks 27 = .ok (.iload_n 3, 1) := by decide +kernel
theorem d_Mo_lacks_28 : decode b_Mo_lacks 28 = .ok (.iconst 0, 1) := by decide +kernel
theorem d_Mo_lacks_29 : decode b_Mo_lacks 29 = .ok (.aload_n 0, 1) := by decide +kernel
theorem d_Mo_lacks_30 : decode b_Mo_lacks 30 = .ok (.getfield 104, 3) := by decide +kernel
theorem d_Mo_lacks_33 : decode b_Mo_lacks 33 = .ok (.iload_n 1, 1) := by decide +kernel
theorem d_Mo_lacks_34 : decode b_Mo_lacks 34 = .ok (.iaload, 1) := by decide +kernel
theorem d_Mo_lacks_35 : decode b_Mo_lacks 35 = .ok (.iconst 1, 1) := by decide +kernel
theorem d_Mo_lacks_36 : decode b_Mo_lacks 36 = .ok (.isub, 1) := by decide +kernel
theorem d_Mo_lacks_37 : decode b_Mo_lacks 37 = .ok (.invokestatic 115, 3) := by decide +kernel
theorem d_Mo_lacks_40 : decode b_Mo_lacks 40 = .ok (.ifCond .eq 7, 3) := by decide +kernel
theorem d_Mo_lacks_43 : decode b_Mo_lacks 43 = .ok (.iconst 0, 1) := by decide +kernel
theorem d_Mo_lacks_44 : decode b_Mo_lacks 44 = .ok (.goto 4, 3) := by decide +kernel
theorem d_Mo_lacks_47 : decode b_Mo_lacks 47 = .ok (.iconst 2, 1) := by decide +kernel
theorem d_Mo_lacks_48 : decode b_Mo_lacks 48 = .ok (.ireturn, 1) := by decide +kernel
theorem d_Mo_keep_0 : decode b_Mo_keep 0 = .ok (.aload_n 0, 1) := by decide +kernel
theorem d_Mo_keep_1 : decode b_Mo_keep 1 = .ok (.getfield 107, 3) := by decide +kernel
theorem d_Mo_keep_4 : decode b_Mo_keep 4 = .ok (.bipush 60, 2) := by decide +kernel
theorem d_Mo_keep_6 : decode b_Mo_keep 6 = .ok (.iload_n 1, 1) := by decide +kernel
theorem d_Mo_keep_7 : decode b_Mo_keep 7 = .ok (.imul, 1) := by decide +kernel
theorem d_Mo_keep_8 : decode b_Mo_keep 8 = .ok (.iload_n 2, 1) := by decide +kernel
theorem d_Mo_keep_9 : decode b_Mo_keep 9 = .ok (.iadd, 1) := by decide +kernel
theorem d_Mo_keep_10 : decode b_Mo_keep 10 = .ok (.aload_n 0, 1) := by decide +kernel
theorem d_Mo_keep_11 : decode b_Mo_keep 11 = .ok (.getfield 101, 3) := by decide +kernel
theorem d_Mo_keep_14 : decode b_Mo_keep 14 = .ok (.iload_n 1, 1) := by decide +kernel
theorem d_Mo_keep_15 : decode b_Mo_keep 15 = .ok (.iaload, 1) := by decide +kernel
theorem d_Mo_keep_16 : decode b_Mo_keep 16 = .ok (.ifCond .ne 8, 3) := by decide +kernel
theorem d_Mo_keep_19 : decode b_Mo_keep 19 = .ok (.iload_n 3, 1) := by decide +kernel
theorem d_Mo_keep_20 : decode b_Mo_keep 20 = .ok (.i2b, 1) := by decide +kernel
theorem d_Mo_keep_21 : decode b_Mo_keep 21 = .ok (.goto 19, 3) := by decide +kernel
theorem d_Mo_keep_24 : decode b_Mo_keep 24 = .ok (.aload_n 0, 1) := by decide +kernel
theorem d_Mo_keep_25 : decode b_Mo_keep 25 = .ok (.getfield 101, 3) := by decide +kernel
theorem d_Mo_keep_28 : decode b_Mo_keep 28 = .ok (.iload_n 1, 1) := by decide +kernel
theorem d_Mo_keep_29 : decode b_Mo_keep 29 = .ok (.iaload, 1) := by decide +kernel
theorem d_Mo_keep_30 : decode b_Mo_keep 30 = .ok (.iconst 1, 1) := by decide +kernel
theorem d_Mo_keep_31 : decode b_Mo_keep 31 = .ok (.if_icmp .ne 8, 3) := by decide +kernel
theorem d_Mo_keep_34 : decode b_Mo_keep 34 = .ok (.iload_n 3, 1) := by decide +kernel
theorem d_Mo_keep_35 : decode b_Mo_keep 35 = .ok (.i2s, 1) := by decide +kernel
theorem d_Mo_keep_36 : decode b_Mo_keep 36 = .ok (.goto 4, 3) := by decide +kernel
theorem d_Mo_keep_39 : decode b_Mo_keep 39 = .ok (.iload_n 3, 1) := by decide +kernel
theorem d_Mo_keep_40 : decode b_Mo_keep 40 = .ok (.iastore, 1) := by decide +kernel
theorem d_Mo_keep_41 : decode b_Mo_keep 41 = .ok (.return_, 1) := by decide +kernel
theorem d_Mo_put_0 : decode b_Mo_put 0 = .ok (.iload_n 1, 1) := by decide +kernel
theorem d_Mo_put_1 : decode b_Mo_put 1 = .ok (.invokestatic 174, 3) := by decide +kernel
theorem d_Mo_put_4 : decode b_Mo_put 4 = .ok (.ifCond .eq 12, 3) := by decide +kernel
theorem d_Mo_put_7 : decode b_Mo_put 7 = .ok (.iload_n 2, 1) := by decide +kernel
theorem d_Mo_put_8 : decode b_Mo_put 8 = .ok (.iconst 0, 1) := by decide +kernel
theorem d_Mo_put_9 : decode b_Mo_put 9 = .ok (.iconst 2, 1) := by decide +kernel
theorem d_Mo_put_10 : decode b_Mo_put 10 = .ok (.invokestatic 115, 3) := by decide +kernel
theorem d_Mo_put_13 : decode b_Mo_put 13 = .ok (.ifCond .ne 6, 3) := by decide +kernel
theorem d_Mo_put_16 : decode b_Mo_put 16 = .ok (.bipush (-2), 2) := by decide +kernel
theorem d_Mo_put_18 : decode b_Mo_put 18 = .ok (.ireturn, 1) := by decide +kernel
theorem d_Mo_put_19 : decode b_Mo_put 19 = .ok (.aload_n 0, 1) := by decide +kernel
theorem d_Mo_put_20 : decode b_Mo_put 20 = .ok (.iload_n 1, 1) := by decide +kernel
theorem d_Mo_put_21 : decode b_Mo_put 21 = .ok (.iload_n 2, 1) := by decide +kernel
theorem d_Mo_put_22 : decode b_Mo_put 22 = .ok (.iload_n 3, 1) := by decide +kernel
theorem d_Mo_put_23 : decode b_Mo_put 23 = .ok (.invokevirtual 332, 3) := by decide +kernel
theorem d_Mo_put_26 : decode b_Mo_put 26 = .ok (.istore 5, 2) := by decide +kernel
theorem d_Mo_put_28 : decode b_Mo_put 28 = .ok (.iload 5, 2) := by decide +kernel
theorem d_Mo_put_30 : decode b_Mo_put 30 = .ok (.ifCond .le 10, 3) := by decide +kernel
theorem d_Mo_put_33 : decode b_Mo_put 33 = .ok (.aload_n 0, 1) := by decide +kernel
theorem d_Mo_put_34 : decode b_Mo_put 34 = .ok (.iload 5, 2) := by decide +kernel
theorem d_Mo_put_36 : decode b_Mo_put 36 = .ok (.invokevirtual 177, 3) := by decide +kernel
theorem d_Mo_put_39 : decode b_Mo_put 39 = .ok (.ireturn, 1) := by decide +kernel
theorem d_Mo_put_40 : decode b_Mo_put 40 = .ok (.aload_n 0, 1) := by decide +kernel
theorem d_Mo_put_41 : decode b_Mo_put 41 = .ok (.iload_n 1, 1) := by decide +kernel
theorem d_Mo_put_42 : decode b_Mo_put 42 = .ok (.iload_n 3, 1) := by decide +kernel
theorem d_Mo_put_43 : decode b_Mo_put 43 = .ok (.iload 4, 2) := by decide +kernel
theorem d_Mo_put_45 : decode b_Mo_put 45 = .ok (.invokevirtual 335, 3) := by decide +kernel
theorem d_Mo_put_48 : decode b_Mo_put 48 = .ok (.iconst 1, 1) := by decide +kernel
theorem d_Mo_put_49 : decode b_Mo_put 49 = .ok (.ireturn, 1) := by decide +kernel
theorem d_Mo_get_0 : decode b_Mo_get 0 = .ok (.iload_n 1, 1) := by decide +kernel
theorem d_Mo_get_1 : decode b_Mo_get 1 = .ok (.invokestatic 174, 3) := by decide +kernel
theorem d_Mo_get_4 : decode b_Mo_get 4 = .ok (.ifCond .eq 12, 3) := by decide +kernel
theorem d_Mo_get_7 : decode b_Mo_get 7 = .ok (.iload_n 2, 1) := by decide +kernel
theorem d_Mo_get_8 : decode b_Mo_get 8 = .ok (.iconst 0, 1) := by decide +kernel
theorem d_Mo_get_9 : decode b_Mo_get 9 = .ok (.iconst 2, 1) := by decide +kernel
theorem d_Mo_get_10 : decode b_Mo_get 10 = .ok (.invokestatic 115, 3) := by decide +kernel
theorem d_Mo_get_13 : decode b_Mo_get 13 = .ok (.ifCond .ne 7, 3) := by decide +kernel
theorem d_Mo_get_16 : decode b_Mo_get 16 = .ok (.ldc_w 339, 3) := by decide +kernel
theorem d_Mo_get_19 : decode b_Mo_get 19 = .ok (.ireturn, 1) := by decide +kernel
theorem d_Mo_get_20 : decode b_Mo_get 20 = .ok (.aload_n 0, 1) := by decide +kernel
theorem d_Mo_get_21 : decode b_Mo_get 21 = .ok (.iload_n 1, 1) := by decide +kernel
theorem d_Mo_get_22 : decode b_Mo_get 22 = .ok (.iload_n 2, 1) := by decide +kernel
theorem d_Mo_get_23 : decode b_Mo_get 23 = .ok (.iload_n 3, 1) := by decide +kernel
theorem d_Mo_get_24 : decode b_Mo_get 24 = .ok (.invokevirtual 332, 3) := by decide +kernel
theorem d_Mo_get_27 : decode b_Mo_get 27 = .ok (.istore 4, 2) := by decide +kernel
theorem d_Mo_get_29 : decode b_Mo_get 29 = .ok (.iload 4, 2) := by decide +kernel
theorem d_Mo_get_31 : decode b_Mo_get 31 = .ok (.ifCond .le 13, 3) := by decide +kernel
theorem d_Mo_get_34 : decode b_Mo_get 34 = .ok (.aload_n 0, 1) := by decide +kernel
theorem d_Mo_get_35 : decode b_Mo_get 35 = .ok (.iload 4, 2) := by decide +kernel
theorem d_Mo_get_37 : decode b_Mo_get 37 = .ok (.putfield 329, 3) := by decide +kernel
theorem d_Mo_get_40 : decode b_Mo_get 40 = .ok (.ldc_w 339, 3) := by decide +kernel
theorem d_Mo_get_43 : decode b_Mo_get 43 = .ok (.ireturn, 1) := by decide +kernel
theorem d_Mo_get_44 : decode b_Mo_get 44 = .ok (.aload_n 0, 1) := by decide +kernel
theorem d_Mo_get_45 : decode b_Mo_get 45 = .ok (.getfield 107, 3) := by decide +kernel
theorem d_Mo_get_48 : decode b_Mo_get 48 = .ok (.bipush 60, 2) := by decide +kernel
theorem d_Mo_get_50 : decode b_Mo_get 50 = .ok (.iload_n 1, 1) := by decide +kernel
theorem d_Mo_get_51 : decode b_Mo_get 51 = .ok (.imul, 1) := by decide +kernel
theorem d_Mo_get_52 : decode b_Mo_get 52 = .ok (.iload_n 3, 1) := by decide +kernel
theorem d_Mo_get_53 : decode b_Mo_get 53 = .ok (.iadd, 1) := by decide +kernel
theorem d_Mo_get_54 : decode b_Mo_get 54 = .ok (.iaload, 1) := by decide +kernel
theorem d_Mo_get_55 : decode b_Mo_get 55 = .ok (.ireturn, 1) := by decide +kernel
theorem d_Mo_copy_0 : decode b_Mo_copy 0 = .ok (.iload_n 1, 1) := by decide +kernel
theorem d_Mo_copy_1 : decode b_Mo_copy 1 = .ok (.invokestatic 174, 3) := by decide +kernel
theorem d_Mo_copy_4 : decode b_Mo_copy 4 = .ok (.ifCond .eq 10, 3) := by decide +kernel
theorem d_Mo_copy_7 : decode b_Mo_copy 7 = .ok (.iload_n 3, 1) := by decide +kernel
theorem d_Mo_copy_8 : decode b_Mo_copy 8 = .ok (.invokestatic 174, 3) := by decide +kernel
theorem d_Mo_copy_11 : decode b_Mo_copy 11 = .ok (.ifCond .ne 6, 3) := by decide +kernel
theorem d_Mo_copy_14 : decode b_Mo_copy 14 = .ok (.bipush (-2), 2) := by decide +kernel
theorem d_Mo_copy_16 : decode b_Mo_copy 16 = .ok (.ireturn, 1) := by decide +kernel
theorem d_Mo_copy_17 : decode b_Mo_copy 17 = .ok (.aload_n 0, 1) := by decide +kernel
theorem d_Mo_copy_18 : decode b_Mo_copy 18 = .ok (.getfield 97, 3) := by decide +kernel
theorem d_Mo_copy_21 : decode b_Mo_copy 21 = .ok (.iload_n 1, 1) := by decide +kernel
theorem d_Mo_copy_22 : decode b_Mo_copy 22 = .ok (.baload, 1) := by decide +kernel
theorem d_Mo_copy_23 : decode b_Mo_copy 23 = .ok (.ifCond .eq 12, 3) := by decide +kernel
theorem d_Mo_copy_26 : decode b_Mo_copy 26 = .ok (.aload_n 0, 1) := by decide +kernel
theorem d_Mo_copy_27 : decode b_Mo_copy 27 = .ok (.getfield 97, 3) := by decide +kernel
theorem d_Mo_copy_30 : decode b_Mo_copy 30 = .ok (.iload_n 3, 1) := by decide +kernel
theorem d_Mo_copy_31 : decode b_Mo_copy 31 = .ok (.baload, 1) := by decide +kernel
theorem d_Mo_copy_32 : decode b_Mo_copy 32 = .ok (.ifCond .ne 9, 3) := by decide +kernel
theorem d_Mo_copy_35 : decode b_Mo_copy 35 = .ok (.aload_n 0, 1) := by decide +kernel
theorem d_Mo_copy_36 : decode b_Mo_copy 36 = .ok (.iconst 1, 1) := by decide +kernel
theorem d_Mo_copy_37 : decode b_Mo_copy 37 = .ok (.invokevirtual 177, 3) := by decide +kernel
theorem d_Mo_copy_40 : decode b_Mo_copy 40 = .ok (.ireturn, 1) := by decide +kernel
theorem d_Mo_copy_41 : decode b_Mo_copy 41 = .ok (.aload_n 0, 1) := by decide +kernel
theorem d_Mo_copy_42 : decode b_Mo_copy 42 = .ok (.getfield 101, 3) := by decide +kernel
theorem d_Mo_copy_45 : decode b_Mo_copy 45 = .ok (.iload_n 1, 1) := by decide +kernel
theorem d_Mo_copy_46 : decode b_Mo_copy 46 = .ok (.iaload, 1) := by decide +kernel
theorem d_Mo_copy_47 : decode b_Mo_copy 47 = .ok (.aload_n 0, 1) := by decide +kernel
theorem d_Mo_copy_48 : decode b_Mo_copy 48 = .ok (.getfield 101, 3) := by decide +kernel
theorem d_Mo_copy_51 : decode b_Mo_copy 51 = .ok (.iload_n 3, 1) := by decide +kernel
theorem d_Mo_copy_52 : decode b_Mo_copy 52 = .ok (.iaload, 1) := by decide +kernel
theorem d_Mo_copy_53 : decode b_Mo_copy 53 = .ok (.if_icmp .eq 9, 3) := by decide +kernel
theorem d_Mo_copy_56 : decode b_Mo_copy 56 = .ok (.aload_n 0, 1) := by decide +kernel
theorem d_Mo_copy_57 : decode b_Mo_copy 57 = .ok (.iconst 4, 1) := by decide +kernel
theorem d_Mo_copy_58 : decode b_Mo_copy 58 = .ok (.invokevirtual 177, 3) := by decide +kernel
theorem d_Mo_copy_61 : decode b_Mo_copy 61 = .ok (.ireturn, 1) := by decide +kernel
theorem d_Mo_copy_62 : decode b_Mo_copy 62 = .ok (.iload_n 2, 1) := by decide +kernel
theorem d_Mo_copy_63 : decode b_Mo_copy 63 = .ok (.ifCond .lt 48, 3) := by decide +kernel
theorem d_Mo_copy_66 : decode b_Mo_copy 66 = .ok (.iload 4, 2) := by decide +kernel
theorem d_Mo_copy_68 : decode b_Mo_copy 68 = .ok (.ifCond .lt 43, 3) := by decide +kernel
theorem d_Mo_copy_71 : decode b_Mo_copy 71 = .ok (.iload 5, 2) := by decide +kernel
theorem d_Mo_copy_73 : decode b_Mo_copy 73 = .ok (.ifCond .lt 38, 3) := by decide +kernel
theorem d_Mo_copy_76 : decode b_Mo_copy 76 = .ok (.iload_n 2, 1) := by decide +kernel
theorem d_Mo_copy_77 : decode b_Mo_copy 77 = .ok (.i2l, 1) := by decide +kernel
theorem d_Mo_copy_78 : decode b_Mo_copy 78 = .ok (.iload 5, 2) := by decide +kernel
theorem d_Mo_copy_80 : decode b_Mo_copy 80 = .ok (.i2l, 1) := by decide +kernel
theorem d_Mo_copy_81 : decode b_Mo_copy 81 = .ok (.ladd, 1) := by decide +kernel
theorem d_Mo_copy_82 : decode b_Mo_copy 82 = .ok (.aload_n 0, 1) := by decide +kernel
theorem d_Mo_copy_83 : decode b_Mo_copy 83 = .ok (.getfield 104, 3) := by decide +kernel
theorem d_Mo_copy_86 : decode b_Mo_copy 86 = .ok (.iload_n 1, 1) := by decide +kernel
theorem d_Mo_copy_87 : decode b_Mo_copy 87 = .ok (.iaload, 1) := by decide +kernel
theorem d_Mo_copy_88 : decode b_Mo_copy 88 = .ok (.i2l, 1) := by decide +kernel
theorem d_Mo_copy_89 : decode b_Mo_copy 89 = .ok (.lcmp, 1) := by decide +kernel
theorem d_Mo_copy_90 : decode b_Mo_copy 90 = .ok (.ifCond .gt 21, 3) := by decide +kernel
theorem d_Mo_copy_93 : decode b_Mo_copy 93 = .ok (.iload 4, 2) := by decide +kernel
theorem d_Mo_copy_95 : decode b_Mo_copy 95 = .ok (.i2l, 1) := by decide +kernel
theorem d_Mo_copy_96 : decode b_Mo_copy 96 = .ok (.iload 5, 2) := by decide +kernel
theorem d_Mo_copy_98 : decode b_Mo_copy 98 = .ok (.i2l, 1) := by decide +kernel
theorem d_Mo_copy_99 : decode b_Mo_copy 99 = .ok (.ladd, 1) := by decide +kernel
theorem d_Mo_copy_100 : decode b_Mo_copy 100 = .ok (.aload_n 0, 1) := by decide +kernel
theorem d_Mo_copy_101 : decode b_Mo_copy 101 = .ok (.getfield 104, 3) := by decide +kernel
theorem d_Mo_copy_104 : decode b_Mo_copy 104 = .ok (.iload_n 3, 1) := by decide +kernel
theorem d_Mo_copy_105 : decode b_Mo_copy 105 = .ok (.iaload, 1) := by decide +kernel
theorem d_Mo_copy_106 : decode b_Mo_copy 106 = .ok (.i2l, 1) := by decide +kernel
theorem d_Mo_copy_107 : decode b_Mo_copy 107 = .ok (.lcmp, 1) := by decide +kernel
theorem d_Mo_copy_108 : decode b_Mo_copy 108 = .ok (.ifCond .le 9, 3) := by decide +kernel
theorem d_Mo_copy_111 : decode b_Mo_copy 111 = .ok (.aload_n 0, 1) := by decide +kernel
theorem d_Mo_copy_112 : decode b_Mo_copy 112 = .ok (.iconst 2, 1) := by decide +kernel
theorem d_Mo_copy_113 : decode b_Mo_copy 113 = .ok (.invokevirtual 177, 3) := by decide +kernel
theorem d_Mo_copy_116 : decode b_Mo_copy 116 = .ok (.ireturn, 1) := by decide +kernel
theorem d_Mo_copy_117 : decode b_Mo_copy 117 = .ok (.iconst 0, 1) := by decide +kernel
theorem d_Mo_copy_118 : decode b_Mo_copy 118 = .ok (.istore 6, 2) := by decide +kernel
theorem d_Mo_copy_120 : decode b_Mo_copy 120 = .ok (.iload 6, 2) := by decide +kernel
theorem d_Mo_copy_122 : decode b_Mo_copy 122 = .ok (.iload 5, 2) := by decide +kernel
theorem d_Mo_copy_124 : decode b_Mo_copy 124 = .ok (.if_icmp .ge 30, 3) := by decide +kernel
theorem d_Mo_copy_127 : decode b_Mo_copy 127 = .ok (.aload_n 0, 1) := by decide +kernel
theorem d_Mo_copy_128 : decode b_Mo_copy 128 = .ok (.getfield 110, 3) := by decide +kernel
theorem d_Mo_copy_131 : decode b_Mo_copy 131 = .ok (.iload 6, 2) := by decide +kernel
theorem d_Mo_copy_133 : decode b_Mo_copy 133 = .ok (.aload_n 0, 1) := by decide +kernel
theorem d_Mo_copy_134 : decode b_Mo_copy 134 = .ok (.getfield 107, 3) := by decide +kernel
theorem d_Mo_copy_137 : decode b_Mo_copy 137 = .ok (.bipush 60, 2) := by decide +kernel
theorem d_Mo_copy_139 : decode b_Mo_copy 139 = .ok (.iload_n 1, 1) := by decide +kernel
theorem d_Mo_copy_140 : decode b_Mo_copy 140 = .ok (.imul, 1) := by decide +kernel
theorem d_Mo_copy_141 : decode b_Mo_copy 141 = .ok (.iload_n 2, 1) := by decide +kernel
theorem d_Mo_copy_142 : decode b_Mo_copy 142 = .ok (.iadd, 1) := by decide +kernel
theorem d_Mo_copy_143 : decode b_Mo_copy 143 = .ok (.iload 6, 2) := by decide +kernel
theorem d_Mo_copy_145 : decode b_Mo_copy 145 = .ok (.iadd, 1) := by decide +kernel
theorem d_Mo_copy_146 : decode b_Mo_copy 146 = .ok (.iaload, 1) := by decide +kernel
theorem d_Mo_copy_147 : decode b_Mo_copy 147 = .ok (.iastore, 1) := by decide +kernel
theorem d_Mo_copy_148 : decode b_Mo_copy 148 = .ok (.iinc 6 1, 3) := by decide +kernel
theorem d_Mo_copy_151 : decode b_Mo_copy 151 = .ok (.goto (-31), 3) := by decide +kernel
theorem d_Mo_copy_154 : decode b_Mo_copy 154 = .ok (.iconst 0, 1) := by decide +kernel
theorem d_Mo_copy_155 : decode b_Mo_copy 155 = .ok (.istore 6, 2) := by decide +kernel
theorem d_Mo_copy_157 : decode b_Mo_copy 157 = .ok (.iload 6, 2) := by decide +kernel
theorem d_Mo_copy_159 : decode b_Mo_copy 159 = .ok (.iload 5, 2) := by decide +kernel
theorem d_Mo_copy_161 : decode b_Mo_copy 161 = .ok (.if_icmp .ge 31, 3) := by decide +kernel
theorem d_Mo_copy_164 : decode b_Mo_copy 164 = .ok (.aload_n 0, 1) := by decide +kernel
theorem d_Mo_copy_165 : decode b_Mo_copy 165 = .ok (.getfield 107, 3) := by decide +kernel
theorem d_Mo_copy_168 : decode b_Mo_copy 168 = .ok (.bipush 60, 2) := by decide +kernel
theorem d_Mo_copy_170 : decode b_Mo_copy 170 = .ok (.iload_n 3, 1) := by decide +kernel
theorem d_Mo_copy_171 : decode b_Mo_copy 171 = .ok (.imul, 1) := by decide +kernel
theorem d_Mo_copy_172 : decode b_Mo_copy 172 = .ok (.iload 4, 2) := by decide +kernel
theorem d_Mo_copy_174 : decode b_Mo_copy 174 = .ok (.iadd, 1) := by decide +kernel
theorem d_Mo_copy_175 : decode b_Mo_copy 175 = .ok (.iload 6, 2) := by decide +kernel
theorem d_Mo_copy_177 : decode b_Mo_copy 177 = .ok (.iadd, 1) := by decide +kernel
theorem d_Mo_copy_178 : decode b_Mo_copy 178 = .ok (.aload_n 0, 1) := by decide +kernel
theorem d_Mo_copy_179 : decode b_Mo_copy 179 = .ok (.getfield 110, 3) := by decide +kernel
theorem d_Mo_copy_182 : decode b_Mo_copy 182 = .ok (.iload 6, 2) := by decide +kernel
theorem d_Mo_copy_184 : decode b_Mo_copy 184 = .ok (.iaload, 1) := by decide +kernel
theorem d_Mo_copy_185 : decode b_Mo_copy 185 = .ok (.iastore, 1) := by decide +kernel
theorem d_Mo_copy_186 : decode b_Mo_copy 186 = .ok (.iinc 6 1, 3) := by decide +kernel
theorem d_Mo_copy_189 : decode b_Mo_copy 189 = .ok (.goto (-32), 3) := by decide +kernel
theorem d_Mo_copy_192 : decode b_Mo_copy 192 = .ok (.iconst 1, 1) := by decide +kernel
theorem d_Mo_copy_193 : decode b_Mo_copy 193 = .ok (.ireturn, 1) := by decide +kernel
theorem d_Mo_write_0 : decode b_Mo_write 0 = .ok (.aload_n 0, 1) := by decide +kernel
theorem d_Mo_write_1 : decode b_Mo_write 1 = .ok (.iload_n 1, 1) := by decide +kernel
theorem d_Mo_write_2 : decode b_Mo_write 2 = .ok (.invokevirtual 150, 3) := by decide +kernel
theorem d_Mo_write_5 : decode b_Mo_write 5 = .ok (.ifCond .eq 10, 3) := by decide +kernel
theorem d_Mo_write_8 : decode b_Mo_write 8 = .ok (.iload_n 2, 1) := by decide +kernel
theorem d_Mo_write_9 : decode b_Mo_write 9 = .ok (.invokestatic 174, 3) := by decide +kernel
theorem d_Mo_write_12 : decode b_Mo_write 12 = .ok (.ifCond .ne 6, 3) := by decide +kernel
theorem d_Mo_write_15 : decode b_Mo_write 15 = .ok (.bipush (-2), 2) := by decide +kernel
theorem d_Mo_write_17 : decode b_Mo_write 17 = .ok (.ireturn, 1) := by decide +kernel
theorem d_Mo_write_18 : decode b_Mo_write 18 = .ok (.aload_n 0, 1) := by decide +kernel
theorem d_Mo_write_19 : decode b_Mo_write 19 = .ok (.getfield 97, 3) := by decide +kernel
theorem d_Mo_write_22 : decode b_Mo_write 22 = .ok (.iload_n 2, 1) := by decide +kernel
theorem d_Mo_write_23 : decode b_Mo_write 23 = .ok (.baload, 1) := by decide +kernel
theorem d_Mo_write_24 : decode b_Mo_write 24 = .ok (.ifCond .ne 9, 3) := by decide +kernel
theorem d_Mo_write_27 : decode b_Mo_write 27 = .ok (.aload_n 0, 1) := by decide +kernel
theorem d_Mo_write_28 : decode b_Mo_write 28 = .ok (.iconst 1, 1) := by decide +kernel
theorem d_Mo_write_29 : decode b_Mo_write 29 = .ok (.invokevirtual 177, 3) := by decide +kernel
theorem d_Mo_write_32 : decode b_Mo_write 32 = .ok (.ireturn, 1) := by decide +kernel
theorem d_Mo_write_33 : decode b_Mo_write 33 = .ok (.aload_n 0, 1) := by decide +kernel
theorem d_Mo_write_34 : decode b_Mo_write 34 = .ok (.invokevirtual 241, 3) := by decide +kernel
theorem d_Mo_write_37 : decode b_Mo_write 37 = .ok (.iconst 0, 1) := by decide +kernel
theorem d_Mo_write_38 : decode b_Mo_write 38 = .ok (.istore_n 3, 1) := by decide +kernel
theorem d_Mo_write_39 : decode b_Mo_write 39 = .ok (.iload_n 3, 1) := by decide +kernel
theorem d_Mo_write_40 : decode b_Mo_write 40 = .ok (.aload_n 0, 1) := by decide +kernel
theorem d_Mo_write_41 : decode b_Mo_write 41 = .ok (.getfield 104, 3) := by decide +kernel
theorem d_Mo_write_44 : decode b_Mo_write 44 = .ok (.iload_n 2, 1) := by decide +kernel
theorem d_Mo_write_45 : decode b_Mo_write 45 = .ok (.iaload, 1) := by decide +kernel
theorem d_Mo_write_46 : decode b_Mo_write 46 = .ok (.if_icmp .ge 32, 3) := by decide +kernel
theorem d_Mo_write_49 : decode b_Mo_write 49 = .ok (.iload_n 3, 1) := by decide +kernel
theorem d_Mo_write_50 : decode b_Mo_write 50 = .ok (.bipush 24, 2) := by decide +kernel
theorem d_Mo_write_52 : decode b_Mo_write 52 = .ok (.if_icmp .ge 26, 3) := by decide +kernel
theorem d_Mo_write_55 : decode b_Mo_write 55 = .ok (.aload_n 0, 1) := by decide +kernel
theorem d_Mo_write_56 : decode b_Mo_write 56 = .ok (.iload_n 2, 1) := by decide +kernel
theorem d_Mo_write_57 : decode b_Mo_write 57 = .ok (.iload_n 3, 1) := by decide +kernel
theorem d_Mo_write_58 : decode b_Mo_write 58 = .ok (.aload_n 0, 1) := by decide +kernel
theorem d_Mo_write_59 : decode b_Mo_write 59 = .ok (.getfield 64, 3) := by decide +kernel
theorem d_Mo_write_62 : decode b_Mo_write 62 = .ok (.bipush 8, 2) := by decide +kernel
theorem d_Mo_write_64 : decode b_Mo_write 64 = .ok (.iload_n 3, 1) := by decide +kernel
theorem d_Mo_write_65 : decode b_Mo_write 65 = .ok (.imul, 1) := by decide +kernel
theorem d_Mo_write_66 : decode b_Mo_write 66 = .ok (.iload_n 1, 1) := by decide +kernel
theorem d_Mo_write_67 : decode b_Mo_write 67 = .ok (.iadd, 1) := by decide +kernel
theorem d_Mo_write_68 : decode b_Mo_write 68 = .ok (.iaload, 1) := by decide +kernel
theorem d_Mo_write_69 : decode b_Mo_write 69 = .ok (.invokevirtual 335, 3) := by decide +kernel
theorem d_Mo_write_72 : decode b_Mo_write 72 = .ok (.iinc 3 1, 3) := by decide +kernel
theorem d_Mo_write_75 : decode b_Mo_write 75 = .ok (.goto (-36), 3) := by decide +kernel
theorem d_Mo_write_78 : decode b_Mo_write 78 = .ok (.iload_n 3, 1) := by decide +kernel
theorem d_Mo_write_79 : decode b_Mo_write 79 = .ok (.ireturn, 1) := by decide +kernel
theorem d_Mo_feesAll_0 : decode b_Mo_feesAll 0 = .ok (.iconst 0, 1) := by decide +kernel
theorem d_Mo_feesAll_1 : decode b_Mo_feesAll 1 = .ok (.istore_n 1, 1) := by decide +kernel
theorem d_Mo_feesAll_2 : decode b_Mo_feesAll 2 = .ok (.iconst 0, 1) := by decide +kernel
theorem d_Mo_feesAll_3 : decode b_Mo_feesAll 3 = .ok (.istore_n 2, 1) := by decide +kernel
theorem d_Mo_feesAll_4 : decode b_Mo_feesAll 4 = .ok (.iload_n 2, 1) := by decide +kernel
theorem d_Mo_feesAll_5 : decode b_Mo_feesAll 5 = .ok (.aload_n 0, 1) := by decide +kernel
theorem d_Mo_feesAll_6 : decode b_Mo_feesAll 6 = .ok (.getfield 127, 3) := by decide +kernel
theorem d_Mo_feesAll_9 : decode b_Mo_feesAll 9 = .ok (.if_icmp .ge 18, 3) := by decide +kernel
theorem d_Mo_feesAll_12 : decode b_Mo_feesAll 12 = .ok (.iload_n 1, 1) := by decide +kernel
theorem d_Mo_feesAll_13 : decode b_Mo_feesAll 13 = .ok (.aload_n 0, 1) := by decide +kernel
theorem d_Mo_feesAll_14 : decode b_Mo_feesAll 14 = .ok (.getfield 52, 3) := by decide +kernel
theorem d_Mo_feesAll_17 : decode b_Mo_feesAll 17 = .ok (.iload_n 2, 1) := by decide +kernel
theorem d_Mo_feesAll_18 : decode b_Mo_feesAll 18 = .ok (.iaload, 1) := by decide +kernel
theorem d_Mo_feesAll_19 : decode b_Mo_feesAll 19 = .ok (.iadd, 1) := by decide +kernel
theorem d_Mo_feesAll_20 : decode b_Mo_feesAll 20 = .ok (.istore_n 1, 1) := by decide +kernel
theorem d_Mo_feesAll_21 : decode b_Mo_feesAll 21 = .ok (.iinc 2 1, 3) := by decide +kernel
theorem d_Mo_feesAll_24 : decode b_Mo_feesAll 24 = .ok (.goto (-20), 3) := by decide +kernel
theorem d_Mo_feesAll_27 : decode b_Mo_feesAll 27 = .ok (.iload_n 1, 1) := by decide +kernel
theorem d_Mo_feesAll_28 : decode b_Mo_feesAll 28 = .ok (.ireturn, 1) := by decide +kernel
theorem d_Mo_sumOf_0 : decode b_Mo_sumOf 0 = .ok (.aload_n 0, 1) := by decide +kernel
theorem d_Mo_sumOf_1 : decode b_Mo_sumOf 1 = .ok (.invokevirtual 241, 3) := by decide +kernel
theorem d_Mo_sumOf_4 : decode b_Mo_sumOf 4 = .ok (.iload_n 1, 1) := by decide +kernel
theorem d_Mo_sumOf_5 : decode b_Mo_sumOf 5 = .ok (.ifCond .ne 10, 3) := by decide +kernel
theorem d_Mo_sumOf_8 : decode b_Mo_sumOf 8 = .ok (.aload_n 0, 1) := by decide +kernel
theorem d_Mo_sumOf_9 : decode b_Mo_sumOf 9 = .ok (.getfield 127, 3) := by decide +kernel
theorem d_Mo_sumOf_12 : decode b_Mo_sumOf 12 = .ok (.goto 31, 3) := by decide +kernel
theorem d_Mo_sumOf_15 : decode b_Mo_sumOf 15 = .ok (.iload_n 1, 1) := by decide +kernel
theorem d_Mo_sumOf_16 : decode b_Mo_sumOf 16 = .ok (.iconst 1, 1) := by decide +kernel
theorem d_Mo_sumOf_17 : decode b_Mo_sumOf 17 = .ok (.if_icmp .ne 10, 3) := by decide +kernel
theorem d_Mo_sumOf_20 : decode b_Mo_sumOf 20 = .ok (.aload_n 0, 1) := by decide +kernel
theorem d_Mo_sumOf_21 : decode b_Mo_sumOf 21 = .ok (.getfield 131, 3) := by decide +kernel
theorem d_Mo_sumOf_24 : decode b_Mo_sumOf 24 = .ok (.goto 19, 3) := by decide +kernel
theorem d_Mo_sumOf_27 : decode b_Mo_sumOf 27 = .ok (.iload_n 1, 1) := by decide +kernel
theorem d_Mo_sumOf_28 : decode b_Mo_sumOf 28 = .ok (.iconst 5, 1) := by decide +kernel
theorem d_Mo_sumOf_29 : decode b_Mo_sumOf 29 = .ok (.if_icmp .ne 10, 3) := by decide +kernel
theorem d_Mo_sumOf_32 : decode b_Mo_sumOf 32 = .ok (.aload_n 0, 1) := by decide +kernel
theorem d_Mo_sumOf_33 : decode b_Mo_sumOf 33 = .ok (.invokevirtual 340, 3) := by decide +kernel
theorem d_Mo_sumOf_36 : decode b_Mo_sumOf 36 = .ok (.goto 7, 3) := by decide +kernel
theorem d_Mo_sumOf_39 : decode b_Mo_sumOf 39 = .ok (.aload_n 0, 1) := by decide +kernel
theorem d_Mo_sumOf_40 : decode b_Mo_sumOf 40 = .ok (.invokevirtual 282, 3) := by decide +kernel
theorem d_Mo_sumOf_43 : decode b_Mo_sumOf 43 = .ok (.ireturn, 1) := by decide +kernel
theorem d_Mo_count_0 : decode b_Mo_count 0 = .ok (.iload_n 1, 1) := by decide +kernel
theorem d_Mo_count_1 : decode b_Mo_count 1 = .ok (.tableswitch 81 0 8 #[51, 51, 57, 57, 66, 51, 51, 71, 76], 51) := by decide +kernel
theorem d_Mo_count_52 : decode b_Mo_count 52 = .ok (.aload_n 0, 1) := by decide +kernel
theorem d_Mo_count_53 : decode b_Mo_count 53 = .ok (.iload_n 1, 1) := by decide +kernel
theorem d_Mo_count_54 : decode b_Mo_count 54 = .ok (.invokevirtual 343, 3) := by decide +kernel
theorem d_Mo_count_57 : decode b_Mo_count 57 = .ok (.ireturn, 1) := by decide +kernel
theorem d_Mo_count_58 : decode b_Mo_count 58 = .ok (.aload_n 0, 1) := by decide +kernel
theorem d_Mo_count_59 : decode b_Mo_count 59 = .ok (.getfield 7, 3) := by decide +kernel
theorem d_Mo_count_62 : decode b_Mo_count 62 = .ok (.iload_n 1, 1) := by decide +kernel
theorem d_Mo_count_63 : decode b_Mo_count 63 = .ok (.iconst 2, 1) := by decide +kernel
theorem d_Mo_count_64 : decode b_Mo_count 64 = .ok (.isub, 1) := by decide +kernel
theorem d_Mo_count_65 : decode b_Mo_count 65 = .ok (.iaload, 1) := by decide +kernel
theorem d_Mo_count_66 : decode b_Mo_count 66 = .ok (.ireturn, 1) := by decide +kernel
theorem d_Mo_count_67 : decode b_Mo_count 67 = .ok (.aload_n 0, 1) := by decide +kernel
theorem d_Mo_count_68 : decode b_Mo_count 68 = .ok (.getfield 171, 3) := by decide +kernel
theorem d_Mo_count_71 : decode b_Mo_count 71 = .ok (.ireturn, 1) := by decide +kernel
theorem d_Mo_count_72 : decode b_Mo_count 72 = .ok (.aload_n 0, 1) := by decide +kernel
theorem d_Mo_count_73 : decode b_Mo_count 73 = .ok (.getfield 294, 3) := by decide +kernel
theorem d_Mo_count_76 : decode b_Mo_count 76 = .ok (.ireturn, 1) := by decide +kernel
theorem d_Mo_count_77 : decode b_Mo_count 77 = .ok (.aload_n 0, 1) := by decide +kernel
theorem d_Mo_count_78 : decode b_Mo_count 78 = .ok (.getfield 329, 3) := by decide +kernel
theorem d_Mo_count_81 : decode b_Mo_count 81 = .ok (.ireturn, 1) := by decide +kernel
theorem d_Mo_count_82 : decode b_Mo_count 82 = .ok (.bipush (-2), 2) := by decide +kernel
theorem d_Mo_count_84 : decode b_Mo_count 84 = .ok (.ireturn, 1) := by decide +kernel
theorem d_Mo_baleDigest_0 : decode b_Mo_baleDigest 0 = .ok (.lload_n 1, 1) := by decide +kernel
theorem d_Mo_baleDigest_1 : decode b_Mo_baleDigest 1 = .ok (.lstore 4, 2) := by decide +kernel
theorem d_Mo_baleDigest_3 : decode b_Mo_baleDigest 3 = .ok (.iconst 0, 1) := by decide +kernel
theorem d_Mo_baleDigest_4 : decode b_Mo_baleDigest 4 = .ok (.istore 6, 2) := by decide +kernel
theorem d_Mo_baleDigest_6 : decode b_Mo_baleDigest 6 = .ok (.iload 6, 2) := by decide +kernel
theorem d_Mo_baleDigest_8 : decode b_Mo_baleDigest 8 = .ok (.iconst 3, 1) := by decide +kernel
theorem d_Mo_baleDigest_9 : decode b_Mo_baleDigest 9 = .ok (.if_icmp .ge 26, 3) := by decide +kernel
theorem d_Mo_baleDigest_12 : decode b_Mo_baleDigest 12 = .ok (.ldc2_w 346, 3) := by decide +kernel
theorem d_Mo_baleDigest_15 : decode b_Mo_baleDigest 15 = .ok (.lload 4, 2) := by decide +kernel
theorem d_Mo_baleDigest_17 : decode b_Mo_baleDigest 17 = .ok (.lmul, 1) := by decide +kernel
theorem d_Mo_baleDigest_18 : decode b_Mo_baleDigest 18 = .ok (.aload_n 0, 1) := by decide +kernel
theorem d_Mo_baleDigest_19 : decode b_Mo_baleDigest 19 = .ok (.iload_n 3, 1) := by decide +kernel
theorem d_Mo_baleDigest_20 : decode b_Mo_baleDigest 20 = .ok (.iload 6, 2) := by decide +kernel
theorem d_Mo_baleDigest_22 : decode b_Mo_baleDigest 22 = .ok (.invokevirtual 162, 3) := by decide +kernel
theorem d_Mo_baleDigest_25 : decode b_Mo_baleDigest 25 = .ok (.i2l, 1) := by decide +kernel
theorem d_Mo_baleDigest_26 : decode b_Mo_baleDigest 26 = .ok (.ladd, 1) := by decide +kernel
theorem d_Mo_baleDigest_27 : decode b_Mo_baleDigest 27 = .ok (.lstore 4, 2) := by decide +kernel
theorem d_Mo_baleDigest_29 : decode b_Mo_baleDigest 29 = .ok (.iinc 6 1, 3) := by decide +kernel
theorem d_Mo_baleDigest_32 : decode b_Mo_baleDigest 32 = .ok (.goto (-26), 3) := by decide +kernel
theorem d_Mo_baleDigest_35 : decode b_Mo_baleDigest 35 = .ok (.ldc2_w 346, 3) := by decide +kernel
theorem d_Mo_baleDigest_38 : decode b_Mo_baleDigest 38 = .ok (.lload 4, 2) := by decide +kernel
theorem d_Mo_baleDigest_40 : decode b_Mo_baleDigest 40 = .ok (.lmul, 1) := by decide +kernel
theorem d_Mo_baleDigest_41 : decode b_Mo_baleDigest 41 = .ok (.aload_n 0, 1) := by decide +kernel
theorem d_Mo_baleDigest_42 : decode b_Mo_baleDigest 42 = .ok (.iload_n 3, 1) := by decide +kernel
theorem d_Mo_baleDigest_43 : decode b_Mo_baleDigest 43 = .ok (.iconst 0, 1) := by decide +kernel
theorem d_Mo_baleDigest_44 : decode b_Mo_baleDigest 44 = .ok (.invokevirtual 276, 3) := by decide +kernel
theorem d_Mo_baleDigest_47 : decode b_Mo_baleDigest 47 = .ok (.i2l, 1) := by decide +kernel
theorem d_Mo_baleDigest_48 : decode b_Mo_baleDigest 48 = .ok (.ladd, 1) := by decide +kernel
theorem d_Mo_baleDigest_49 : decode b_Mo_baleDigest 49 = .ok (.lstore 4, 2) := by decide +kernel
theorem d_Mo_baleDigest_51 : decode b_Mo_baleDigest 51 = .ok (.ldc2_w 346, 3) := by decide +kernel
theorem d_Mo_baleDigest_54 : decode b_Mo_baleDigest 54 = .ok (.lload 4, 2) := by decide +kernel
theorem d_Mo_baleDigest_56 : decode b_Mo_baleDigest 56 = .ok (.lmul, 1) := by decide +kernel
theorem d_Mo_baleDigest_57 : decode b_Mo_baleDigest 57 = .ok (.aload_n 0, 1) := by decide +kernel
theorem d_Mo_baleDigest_58 : decode b_Mo_baleDigest 58 = .ok (.iload_n 3, 1) := by decide +kernel
theorem d_Mo_baleDigest_59 : decode b_Mo_baleDigest 59 = .ok (.iconst 1, 1) := by decide +kernel
theorem d_Mo_baleDigest_60 : decode b_Mo_baleDigest 60 = .ok (.invokevirtual 276, 3) := by decide +kernel
theorem d_Mo_baleDigest_63 : decode b_Mo_baleDigest 63 = .ok (.i2l, 1) := by decide +kernel
theorem d_Mo_baleDigest_64 : decode b_Mo_baleDigest 64 = .ok (.ladd, 1) := by decide +kernel
theorem d_Mo_baleDigest_65 : decode b_Mo_baleDigest 65 = .ok (.lstore 4, 2) := by decide +kernel
theorem d_Mo_baleDigest_67 : decode b_Mo_baleDigest 67 = .ok (.ldc2_w 346, 3) := by decide +kernel
theorem d_Mo_baleDigest_70 : decode b_Mo_baleDigest 70 = .ok (.lload 4, 2) := by decide +kernel
theorem d_Mo_baleDigest_72 : decode b_Mo_baleDigest 72 = .ok (.lmul, 1) := by decide +kernel
theorem d_Mo_baleDigest_73 : decode b_Mo_baleDigest 73 = .ok (.aload_n 0, 1) := by decide +kernel
theorem d_Mo_baleDigest_74 : decode b_Mo_baleDigest 74 = .ok (.iload_n 3, 1) := by decide +kernel
theorem d_Mo_baleDigest_75 : decode b_Mo_baleDigest 75 = .ok (.iconst 0, 1) := by decide +kernel
theorem d_Mo_baleDigest_76 : decode b_Mo_baleDigest 76 = .ok (.invokevirtual 279, 3) := by decide +kernel
theorem d_Mo_baleDigest_79 : decode b_Mo_baleDigest 79 = .ok (.i2l, 1) := by decide +kernel
theorem d_Mo_baleDigest_80 : decode b_Mo_baleDigest 80 = .ok (.ladd, 1) := by decide +kernel
theorem d_Mo_baleDigest_81 : decode b_Mo_baleDigest 81 = .ok (.lstore 4, 2) := by decide +kernel
theorem d_Mo_baleDigest_83 : decode b_Mo_baleDigest 83 = .ok (.ldc2_w 346, 3) := by decide +kernel
theorem d_Mo_baleDigest_86 : decode b_Mo_baleDigest 86 = .ok (.lload 4, 2) := by decide +kernel
theorem d_Mo_baleDigest_88 : decode b_Mo_baleDigest 88 = .ok (.lmul, 1) := by decide +kernel
theorem d_Mo_baleDigest_89 : decode b_Mo_baleDigest 89 = .ok (.aload_n 0, 1) := by decide +kernel
theorem d_Mo_baleDigest_90 : decode b_Mo_baleDigest 90 = .ok (.iload_n 3, 1) := by decide +kernel
theorem d_Mo_baleDigest_91 : decode b_Mo_baleDigest 91 = .ok (.iconst 1, 1) := by decide +kernel
theorem d_Mo_baleDigest_92 : decode b_Mo_baleDigest 92 = .ok (.invokevirtual 279, 3) := by decide +kernel
theorem d_Mo_baleDigest_95 : decode b_Mo_baleDigest 95 = .ok (.i2l, 1) := by decide +kernel
theorem d_Mo_baleDigest_96 : decode b_Mo_baleDigest 96 = .ok (.ladd, 1) := by decide +kernel
theorem d_Mo_baleDigest_97 : decode b_Mo_baleDigest 97 = .ok (.lreturn, 1) := by decide +kernel
theorem d_Mo_dayDigest_0 : decode b_Mo_dayDigest 0 = .ok (.lload_n 1, 1) := by decide +kernel
theorem d_Mo_dayDigest_1 : decode b_Mo_dayDigest 1 = .ok (.lstore 5, 2) := by decide +kernel
theorem d_Mo_dayDigest_3 : decode b_Mo_dayDigest 3 = .ok (.iconst 0, 1) := by decide +kernel
theorem d_Mo_dayDigest_4 : decode b_Mo_dayDigest 4 = .ok (.istore 7, 2) := by decide +kernel
theorem d_Mo_dayDigest_6 : decode b_Mo_dayDigest 6 = .ok (.iload 7, 2) := by decide +kernel
theorem d_Mo_dayDigest_8 : decode b_Mo_dayDigest 8 = .ok (.bipush 6, 2) := by decide +kernel
theorem d_Mo_dayDigest_10 : decode b_Mo_dayDigest 10 = .ok (.if_icmp .ge 28, 3) := by decide +kernel
theorem d_Mo_dayDigest_13 : decode b_Mo_dayDigest 13 = .ok (.ldc2_w 346, 3) := by decide +kernel
theorem d_Mo_dayDigest_16 : decode b_Mo_dayDigest 16 = .ok (.lload 5, 2) := by decide +kernel
theorem d_Mo_dayDigest_18 : decode b_Mo_dayDigest 18 = .ok (.lmul, 1) := by decide +kernel
theorem d_Mo_dayDigest_19 : decode b_Mo_dayDigest 19 = .ok (.aload_n 0, 1) := by decide +kernel
theorem d_Mo_dayDigest_20 : decode b_Mo_dayDigest 20 = .ok (.iload_n 3, 1) := by decide +kernel
theorem d_Mo_dayDigest_21 : decode b_Mo_dayDigest 21 = .ok (.iload 4, 2) := by decide +kernel
theorem d_Mo_dayDigest_23 : decode b_Mo_dayDigest 23 = .ok (.iload 7, 2) := by decide +kernel
theorem d_Mo_dayDigest_25 : decode b_Mo_dayDigest 25 = .ok (.invokevirtual 244, 3) := by decide +kernel
theorem d_Mo_dayDigest_28 : decode b_Mo_dayDigest 28 = .ok (.i2l, 1) := by decide +kernel
theorem d_Mo_dayDigest_29 : decode b_Mo_dayDigest 29 = .ok (.ladd, 1) := by decide +kernel
theorem d_Mo_dayDigest_30 : decode b_Mo_dayDigest 30 = .ok (.lstore 5, 2) := by decide +kernel
theorem d_Mo_dayDigest_32 : decode b_Mo_dayDigest 32 = .ok (.iinc 7 1, 3) := by decide +kernel
theorem d_Mo_dayDigest_35 : decode b_Mo_dayDigest 35 = .ok (.goto (-29), 3) := by decide +kernel
theorem d_Mo_dayDigest_38 : decode b_Mo_dayDigest 38 = .ok (.lload 5, 2) := by decide +kernel
theorem d_Mo_dayDigest_40 : decode b_Mo_dayDigest 40 = .ok (.lreturn, 1) := by decide +kernel
theorem d_Mo_camelDigest_0 : decode b_Mo_camelDigest 0 = .ok (.ldc2_w 346, 3) := by decide +kernel
theorem d_Mo_camelDigest_3 : decode b_Mo_camelDigest 3 = .ok (.lload_n 1, 1) := by decide +kernel
theorem d_Mo_camelDigest_4 : decode b_Mo_camelDigest 4 = .ok (.lmul, 1) := by decide +kernel
theorem d_Mo_camelDigest_5 : decode b_Mo_camelDigest 5 = .ok (.aload_n 0, 1) := by decide +kernel
theorem d_Mo_camelDigest_6 : decode b_Mo_camelDigest 6 = .ok (.iload_n 3, 1) := by decide +kernel
theorem d_Mo_camelDigest_7 : decode b_Mo_camelDigest 7 = .ok (.iconst 0, 1) := by decide +kernel
theorem d_Mo_camelDigest_8 : decode b_Mo_camelDigest 8 = .ok (.invokevirtual 156, 3) := by decide +kernel
theorem d_Mo_camelDigest_11 : decode b_Mo_camelDigest 11 = .ok (.i2l, 1) := by decide +kernel
theorem d_Mo_camelDigest_12 : decode b_Mo_camelDigest 12 = .ok (.ladd, 1) := by decide +kernel
theorem d_Mo_camelDigest_13 : decode b_Mo_camelDigest 13 = .ok (.lstore 4, 2) := by decide +kernel
theorem d_Mo_camelDigest_15 : decode b_Mo_camelDigest 15 = .ok (.ldc2_w 346, 3) := by decide +kernel
theorem d_Mo_camelDigest_18 : decode b_Mo_camelDigest 18 = .ok (.lload 4, 2) := by decide +kernel
theorem d_Mo_camelDigest_20 : decode b_Mo_camelDigest 20 = .ok (.lmul, 1) := by decide +kernel
theorem d_Mo_camelDigest_21 : decode b_Mo_camelDigest 21 = .ok (.aload_n 0, 1) := by decide +kernel
theorem d_Mo_camelDigest_22 : decode b_Mo_camelDigest 22 = .ok (.iload_n 3, 1) := by decide +kernel
theorem d_Mo_camelDigest_23 : decode b_Mo_camelDigest 23 = .ok (.iconst 1, 1) := by decide +kernel
theorem d_Mo_camelDigest_24 : decode b_Mo_camelDigest 24 = .ok (.invokevirtual 156, 3) := by decide +kernel
theorem d_Mo_camelDigest_27 : decode b_Mo_camelDigest 27 = .ok (.i2l, 1) := by decide +kernel
theorem d_Mo_camelDigest_28 : decode b_Mo_camelDigest 28 = .ok (.ladd, 1) := by decide +kernel
theorem d_Mo_camelDigest_29 : decode b_Mo_camelDigest 29 = .ok (.lstore 4, 2) := by decide +kernel
theorem d_Mo_camelDigest_31 : decode b_Mo_camelDigest 31 = .ok (.aload_n 0, 1) := by decide +kernel
theorem d_Mo_camelDigest_32 : decode b_Mo_camelDigest 32 = .ok (.lload 4, 2) := by decide +kernel
theorem d_Mo_camelDigest_34 : decode b_Mo_camelDigest 34 = .ok (.iconst 0, 1) := by decide +kernel
theorem d_Mo_camelDigest_35 : decode b_Mo_camelDigest 35 = .ok (.iload_n 3, 1) := by decide +kernel
theorem d_Mo_camelDigest_36 : decode b_Mo_camelDigest 36 = .ok (.invokevirtual 348, 3) := by decide +kernel
theorem d_Mo_camelDigest_39 : decode b_Mo_camelDigest 39 = .ok (.lstore 4, 2) := by decide +kernel
theorem d_Mo_camelDigest_41 : decode b_Mo_camelDigest 41 = .ok (.aload_n 0, 1) := by decide +kernel
theorem d_Mo_camelDigest_42 : decode b_Mo_camelDigest 42 = .ok (.lload 4, 2) := by decide +kernel
theorem d_Mo_camelDigest_44 : decode b_Mo_camelDigest 44 = .ok (.bipush 7, 2) := by decide +kernel
theorem d_Mo_camelDigest_46 : decode b_Mo_camelDigest 46 = .ok (.iload_n 3, 1) := by decide +kernel
theorem d_Mo_camelDigest_47 : decode b_Mo_camelDigest 47 = .ok (.invokevirtual 348, 3) := by decide +kernel
theorem d_Mo_camelDigest_50 : decode b_Mo_camelDigest 50 = .ok (.lstore 4, 2) := by decide +kernel
theorem d_Mo_camelDigest_52 : decode b_Mo_camelDigest 52 = .ok (.aload_n 0, 1) := by decide +kernel
theorem d_Mo_camelDigest_53 : decode b_Mo_camelDigest 53 = .ok (.lload 4, 2) := by decide +kernel
theorem d_Mo_camelDigest_55 : decode b_Mo_camelDigest 55 = .ok (.bipush 14, 2) := by decide +kernel
theorem d_Mo_camelDigest_57 : decode b_Mo_camelDigest 57 = .ok (.iload_n 3, 1) := by decide +kernel
theorem d_Mo_camelDigest_58 : decode b_Mo_camelDigest 58 = .ok (.invokevirtual 348, 3) := by decide +kernel
theorem d_Mo_camelDigest_61 : decode b_Mo_camelDigest 61 = .ok (.lstore 4, 2) := by decide +kernel
theorem d_Mo_camelDigest_63 : decode b_Mo_camelDigest 63 = .ok (.aload_n 0, 1) := by decide +kernel
theorem d_Mo_camelDigest_64 : decode b_Mo_camelDigest 64 = .ok (.lload 4, 2) := by decide +kernel
theorem d_Mo_camelDigest_66 : decode b_Mo_camelDigest 66 = .ok (.bipush 23, 2) := by decide +kernel
theorem d_Mo_camelDigest_68 : decode b_Mo_camelDigest 68 = .ok (.iload_n 3, 1) := by decide +kernel
theorem d_Mo_camelDigest_69 : decode b_Mo_camelDigest 69 = .ok (.invokevirtual 348, 3) := by decide +kernel
theorem d_Mo_camelDigest_72 : decode b_Mo_camelDigest 72 = .ok (.lstore 4, 2) := by decide +kernel
theorem d_Mo_camelDigest_74 : decode b_Mo_camelDigest 74 = .ok (.ldc2_w 346, 3) := by decide +kernel
theorem d_Mo_camelDigest_77 : decode b_Mo_camelDigest 77 = .ok (.lload 4, 2) := by decide +kernel
theorem d_Mo_camelDigest_79 : decode b_Mo_camelDigest 79 = .ok (.lmul, 1) := by decide +kernel
theorem d_Mo_camelDigest_80 : decode b_Mo_camelDigest 80 = .ok (.aload_n 0, 1) := by decide +kernel
theorem d_Mo_camelDigest_81 : decode b_Mo_camelDigest 81 = .ok (.iload_n 3, 1) := by decide +kernel
theorem d_Mo_camelDigest_82 : decode b_Mo_camelDigest 82 = .ok (.iconst 5, 1) := by decide +kernel
theorem d_Mo_camelDigest_83 : decode b_Mo_camelDigest 83 = .ok (.invokevirtual 273, 3) := by decide +kernel
theorem d_Mo_camelDigest_86 : decode b_Mo_camelDigest 86 = .ok (.i2l, 1) := by decide +kernel
theorem d_Mo_camelDigest_87 : decode b_Mo_camelDigest 87 = .ok (.ladd, 1) := by decide +kernel
theorem d_Mo_camelDigest_88 : decode b_Mo_camelDigest 88 = .ok (.lstore 4, 2) := by decide +kernel
theorem d_Mo_camelDigest_90 : decode b_Mo_camelDigest 90 = .ok (.ldc2_w 346, 3) := by decide +kernel
theorem d_Mo_camelDigest_93 : decode b_Mo_camelDigest 93 = .ok (.lload 4, 2) := by decide +kernel
theorem d_Mo_camelDigest_95 : decode b_Mo_camelDigest 95 = .ok (.lmul, 1) := by decide +kernel
theorem d_Mo_camelDigest_96 : decode b_Mo_camelDigest 96 = .ok (.aload_n 0, 1) := by decide +kernel
theorem d_Mo_camelDigest_97 : decode b_Mo_camelDigest 97 = .ok (.iload_n 3, 1) := by decide +kernel
theorem d_Mo_camelDigest_98 : decode b_Mo_camelDigest 98 = .ok (.invokevirtual 304, 3) := by decide +kernel
theorem d_Mo_camelDigest_101 : decode b_Mo_camelDigest 101 = .ok (.i2l, 1) := by decide +kernel
theorem d_Mo_camelDigest_102 : decode b_Mo_camelDigest 102 = .ok (.ladd, 1) := by decide +kernel
theorem d_Mo_camelDigest_103 : decode b_Mo_camelDigest 103 = .ok (.lstore 4, 2) := by decide +kernel
theorem d_Mo_camelDigest_105 : decode b_Mo_camelDigest 105 = .ok (.ldc2_w 346, 3) := by decide +kernel
theorem d_Mo_camelDigest_108 : decode b_Mo_camelDigest 108 = .ok (.lload 4, 2) := by decide +kernel
theorem d_Mo_camelDigest_110 : decode b_Mo_camelDigest 110 = .ok (.lmul, 1) := by decide +kernel
theorem d_Mo_camelDigest_111 : decode b_Mo_camelDigest 111 = .ok (.aload_n 0, 1) := by decide +kernel
theorem d_Mo_camelDigest_112 : decode b_Mo_camelDigest 112 = .ok (.iload_n 3, 1) := by decide +kernel
theorem d_Mo_camelDigest_113 : decode b_Mo_camelDigest 113 = .ok (.invokevirtual 307, 3) := by decide +kernel
theorem d_Mo_camelDigest_116 : decode b_Mo_camelDigest 116 = .ok (.i2l, 1) := by decide +kernel
theorem d_Mo_camelDigest_117 : decode b_Mo_camelDigest 117 = .ok (.ladd, 1) := by decide +kernel
theorem d_Mo_camelDigest_118 : decode b_Mo_camelDigest 118 = .ok (.lstore 4, 2) := by decide +kernel
theorem d_Mo_camelDigest_120 : decode b_Mo_camelDigest 120 = .ok (.ldc2_w 346, 3) := by decide +kernel
theorem d_Mo_camelDigest_123 : decode b_Mo_camelDigest 123 = .ok (.lload 4, 2) := by decide +kernel
theorem d_Mo_camelDigest_125 : decode b_Mo_camelDigest 125 = .ok (.lmul, 1) := by decide +kernel
theorem d_Mo_camelDigest_126 : decode b_Mo_camelDigest 126 = .ok (.aload_n 0, 1) := by decide +kernel
theorem d_Mo_camelDigest_127 : decode b_Mo_camelDigest 127 = .ok (.iload_n 3, 1) := by decide +kernel
theorem d_Mo_camelDigest_128 : decode b_Mo_camelDigest 128 = .ok (.invokevirtual 310, 3) := by decide +kernel
theorem d_Mo_camelDigest_131 : decode b_Mo_camelDigest 131 = .ok (.i2l, 1) := by decide +kernel
theorem d_Mo_camelDigest_132 : decode b_Mo_camelDigest 132 = .ok (.ladd, 1) := by decide +kernel
theorem d_Mo_camelDigest_133 : decode b_Mo_camelDigest 133 = .ok (.lstore 4, 2) := by decide +kernel
theorem d_Mo_camelDigest_135 : decode b_Mo_camelDigest 135 = .ok (.ldc2_w 346, 3) := by decide +kernel
theorem d_Mo_camelDigest_138 : decode b_Mo_camelDigest 138 = .ok (.lload 4, 2) := by decide +kernel
theorem d_Mo_camelDigest_140 : decode b_Mo_camelDigest 140 = .ok (.lmul, 1) := by decide +kernel
theorem d_Mo_camelDigest_141 : decode b_Mo_camelDigest 141 = .ok (.aload_n 0, 1) := by decide +kernel
theorem d_Mo_camelDigest_142 : decode b_Mo_camelDigest 142 = .ok (.iconst 5, 1) := by decide +kernel
theorem d_Mo_camelDigest_143 : decode b_Mo_camelDigest 143 = .ok (.iload_n 3, 1) := by decide +kernel
theorem d_Mo_camelDigest_144 : decode b_Mo_camelDigest 144 = .ok (.iconst 0, 1) := by decide +kernel
theorem d_Mo_camelDigest_145 : decode b_Mo_camelDigest 145 = .ok (.invokevirtual 317, 3) := by decide +kernel
theorem d_Mo_camelDigest_148 : decode b_Mo_camelDigest 148 = .ok (.ladd, 1) := by decide +kernel
theorem d_Mo_camelDigest_149 : decode b_Mo_camelDigest 149 = .ok (.lstore 4, 2) := by decide +kernel
theorem d_Mo_camelDigest_151 : decode b_Mo_camelDigest 151 = .ok (.ldc2_w 346, 3) := by decide +kernel
theorem d_Mo_camelDigest_154 : decode b_Mo_camelDigest 154 = .ok (.lload 4, 2) := by decide +kernel
theorem d_Mo_camelDigest_156 : decode b_Mo_camelDigest 156 = .ok (.lmul, 1) := by decide +kernel
theorem d_Mo_camelDigest_157 : decode b_Mo_camelDigest 157 = .ok (.aload_n 0, 1) := by decide +kernel
theorem d_Mo_camelDigest_158 : decode b_Mo_camelDigest 158 = .ok (.iconst 5, 1) := by decide +kernel
theorem d_Mo_camelDigest_159 : decode b_Mo_camelDigest 159 = .ok (.iload_n 3, 1) := by decide +kernel
theorem d_Mo_camelDigest_160 : decode b_Mo_camelDigest 160 = .ok (.iconst 1, 1) := by decide +kernel
theorem d_Mo_camelDigest_161 : decode b_Mo_camelDigest 161 = .ok (.invokevirtual 317, 3) := by decide +kernel
theorem d_Mo_camelDigest_164 : decode b_Mo_camelDigest 164 = .ok (.ladd, 1) := by decide +kernel
theorem d_Mo_camelDigest_165 : decode b_Mo_camelDigest 165 = .ok (.lreturn, 1) := by decide +kernel
theorem d_Mo_digest_0 : decode b_Mo_digest 0 = .ok (.ldc2_w 352, 3) := by decide +kernel
theorem d_Mo_digest_3 : decode b_Mo_digest 3 = .ok (.lstore_n 1, 1) := by decide +kernel
theorem d_Mo_digest_4 : decode b_Mo_digest 4 = .ok (.iconst 0, 1) := by decide +kernel
theorem d_Mo_digest_5 : decode b_Mo_digest 5 = .ok (.istore_n 3, 1) := by decide +kernel
theorem d_Mo_digest_6 : decode b_Mo_digest 6 = .ok (.iload_n 3, 1) := by decide +kernel
theorem d_Mo_digest_7 : decode b_Mo_digest 7 = .ok (.bipush 8, 2) := by decide +kernel
theorem d_Mo_digest_9 : decode b_Mo_digest 9 = .ok (.if_icmp .ge 22, 3) := by decide +kernel
theorem d_Mo_digest_12 : decode b_Mo_digest 12 = .ok (.ldc2_w 346, 3) := by decide +kernel
theorem d_Mo_digest_15 : decode b_Mo_digest 15 = .ok (.lload_n 1, 1) := by decide +kernel
theorem d_Mo_digest_16 : decode b_Mo_digest 16 = .ok (.lmul, 1) := by decide +kernel
theorem d_Mo_digest_17 : decode b_Mo_digest 17 = .ok (.aload_n 0, 1) := by decide +kernel
theorem d_Mo_digest_18 : decode b_Mo_digest 18 = .ok (.iload_n 3, 1) := by decide +kernel
theorem d_Mo_digest_19 : decode b_Mo_digest 19 = .ok (.invokevirtual 354, 3) := by decide +kernel
theorem d_Mo_digest_22 : decode b_Mo_digest 22 = .ok (.i2l, 1) := by decide +kernel
theorem d_Mo_digest_23 : decode b_Mo_digest 23 = .ok (.ladd, 1) := by decide +kernel
theorem d_Mo_digest_24 : decode b_Mo_digest 24 = .ok (.lstore_n 1, 1) := by decide +kernel
theorem d_Mo_digest_25 : decode b_Mo_digest 25 = .ok (.iinc 3 1, 3) := by decide +kernel
theorem d_Mo_digest_28 : decode b_Mo_digest 28 = .ok (.goto (-22), 3) := by decide +kernel
theorem d_Mo_digest_31 : decode b_Mo_digest 31 = .ok (.ldc2_w 346, 3) := by decide +kernel
theorem d_Mo_digest_34 : decode b_Mo_digest 34 = .ok (.lload_n 1, 1) := by decide +kernel
theorem d_Mo_digest_35 : decode b_Mo_digest 35 = .ok (.lmul, 1) := by decide +kernel
theorem d_Mo_digest_36 : decode b_Mo_digest 36 = .ok (.aload_n 0, 1) := by decide +kernel
theorem d_Mo_digest_37 : decode b_Mo_digest 37 = .ok (.iconst 0, 1) := by decide +kernel
theorem d_Mo_digest_38 : decode b_Mo_digest 38 = .ok (.invokevirtual 144, 3) := by decide +kernel
theorem d_Mo_digest_41 : decode b_Mo_digest 41 = .ok (.i2l, 1) := by decide +kernel
theorem d_Mo_digest_42 : decode b_Mo_digest 42 = .ok (.ladd, 1) := by decide +kernel
theorem d_Mo_digest_43 : decode b_Mo_digest 43 = .ok (.lstore_n 1, 1) := by decide +kernel
theorem d_Mo_digest_44 : decode b_Mo_digest 44 = .ok (.ldc2_w 346, 3) := by decide +kernel
theorem d_Mo_digest_47 : decode b_Mo_digest 47 = .ok (.lload_n 1, 1) := by decide +kernel
theorem d_Mo_digest_48 : decode b_Mo_digest 48 = .ok (.lmul, 1) := by decide +kernel
theorem d_Mo_digest_49 : decode b_Mo_digest 49 = .ok (.aload_n 0, 1) := by decide +kernel
theorem d_Mo_digest_50 : decode b_Mo_digest 50 = .ok (.iconst 1, 1) := by decide +kernel
theorem d_Mo_digest_51 : decode b_Mo_digest 51 = .ok (.invokevirtual 144, 3) := by decide +kernel
theorem d_Mo_digest_54 : decode b_Mo_digest 54 = .ok (.i2l, 1) := by decide +kernel
theorem d_Mo_digest_55 : decode b_Mo_digest 55 = .ok (.ladd, 1) := by decide +kernel
theorem d_Mo_digest_56 : decode b_Mo_digest 56 = .ok (.lstore_n 1, 1) := by decide +kernel
theorem d_Mo_digest_57 : decode b_Mo_digest 57 = .ok (.iconst 0, 1) := by decide +kernel
theorem d_Mo_digest_58 : decode b_Mo_digest 58 = .ok (.istore_n 3, 1) := by decide +kernel
theorem d_Mo_digest_59 : decode b_Mo_digest 59 = .ok (.iload_n 3, 1) := by decide +kernel
theorem d_Mo_digest_60 : decode b_Mo_digest 60 = .ok (.aload_n 0, 1) := by decide +kernel
theorem d_Mo_digest_61 : decode b_Mo_digest 61 = .ok (.getfield 131, 3) := by decide +kernel
theorem d_Mo_digest_64 : decode b_Mo_digest 64 = .ok (.if_icmp .ge 16, 3) := by decide +kernel
theorem d_Mo_digest_67 : decode b_Mo_digest 67 = .ok (.aload_n 0, 1) := by decide +kernel
theorem d_Mo_digest_68 : decode b_Mo_digest 68 = .ok (.lload_n 1, 1) := by decide +kernel
theorem d_Mo_digest_69 : decode b_Mo_digest 69 = .ok (.iload_n 3, 1) := by decide +kernel
theorem d_Mo_digest_70 : decode b_Mo_digest 70 = .ok (.invokevirtual 357, 3) := by decide +kernel
theorem d_Mo_digest_73 : decode b_Mo_digest 73 = .ok (.lstore_n 1, 1) := by decide +kernel
theorem d_Mo_digest_74 : decode b_Mo_digest 74 = .ok (.iinc 3 1, 3) := by decide +kernel
theorem d_Mo_digest_77 : decode b_Mo_digest 77 = .ok (.goto (-18), 3) := by decide +kernel
theorem d_Mo_digest_80 : decode b_Mo_digest 80 = .ok (.iconst 0, 1) := by decide +kernel
theorem d_Mo_digest_81 : decode b_Mo_digest 81 = .ok (.istore_n 3, 1) := by decide +kernel
theorem d_Mo_digest_82 : decode b_Mo_digest 82 = .ok (.iload_n 3, 1) := by decide +kernel
theorem d_Mo_digest_83 : decode b_Mo_digest 83 = .ok (.aload_n 0, 1) := by decide +kernel
theorem d_Mo_digest_84 : decode b_Mo_digest 84 = .ok (.getfield 127, 3) := by decide +kernel
theorem d_Mo_digest_87 : decode b_Mo_digest 87 = .ok (.if_icmp .ge 16, 3) := by decide +kernel
theorem d_Mo_digest_90 : decode b_Mo_digest 90 = .ok (.aload_n 0, 1) := by decide +kernel
theorem d_Mo_digest_91 : decode b_Mo_digest 91 = .ok (.lload_n 1, 1) := by decide +kernel
theorem d_Mo_digest_92 : decode b_Mo_digest 92 = .ok (.iload_n 3, 1) := by decide +kernel
theorem d_Mo_digest_93 : decode b_Mo_digest 93 = .ok (.invokevirtual 361, 3) := by decide +kernel
theorem d_Mo_digest_96 : decode b_Mo_digest 96 = .ok (.lstore_n 1, 1) := by decide +kernel
theorem d_Mo_digest_97 : decode b_Mo_digest 97 = .ok (.iinc 3 1, 3) := by decide +kernel
theorem d_Mo_digest_100 : decode b_Mo_digest 100 = .ok (.goto (-18), 3) := by decide +kernel
theorem d_Mo_digest_103 : decode b_Mo_digest 103 = .ok (.ldc2_w 346, 3) := by decide +kernel
theorem d_Mo_digest_106 : decode b_Mo_digest 106 = .ok (.lload_n 1, 1) := by decide +kernel
theorem d_Mo_digest_107 : decode b_Mo_digest 107 = .ok (.lmul, 1) := by decide +kernel
theorem d_Mo_digest_108 : decode b_Mo_digest 108 = .ok (.aload_n 0, 1) := by decide +kernel
theorem d_Mo_digest_109 : decode b_Mo_digest 109 = .ok (.invokevirtual 252, 3) := by decide +kernel
theorem d_Mo_digest_112 : decode b_Mo_digest 112 = .ok (.i2l, 1) := by decide +kernel
theorem d_Mo_digest_113 : decode b_Mo_digest 113 = .ok (.ladd, 1) := by decide +kernel
theorem d_Mo_digest_114 : decode b_Mo_digest 114 = .ok (.lstore_n 1, 1) := by decide +kernel
theorem d_Mo_digest_115 : decode b_Mo_digest 115 = .ok (.ldc2_w 346, 3) := by decide +kernel
theorem d_Mo_digest_118 : decode b_Mo_digest 118 = .ok (.lload_n 1, 1) := by decide +kernel
theorem d_Mo_digest_119 : decode b_Mo_digest 119 = .ok (.lmul, 1) := by decide +kernel
theorem d_Mo_digest_120 : decode b_Mo_digest 120 = .ok (.aload_n 0, 1) := by decide +kernel
theorem d_Mo_digest_121 : decode b_Mo_digest 121 = .ok (.invokevirtual 255, 3) := by decide +kernel
theorem d_Mo_digest_124 : decode b_Mo_digest 124 = .ok (.i2l, 1) := by decide +kernel
theorem d_Mo_digest_125 : decode b_Mo_digest 125 = .ok (.ladd, 1) := by decide +kernel
theorem d_Mo_digest_126 : decode b_Mo_digest 126 = .ok (.lstore_n 1, 1) := by decide +kernel
theorem d_Mo_digest_127 : decode b_Mo_digest 127 = .ok (.ldc2_w 346, 3) := by decide +kernel
theorem d_Mo_digest_130 : decode b_Mo_digest 130 = .ok (.lload_n 1, 1) := by decide +kernel
theorem d_Mo_digest_131 : decode b_Mo_digest 131 = .ok (.lmul, 1) := by decide +kernel
theorem d_Mo_digest_132 : decode b_Mo_digest 132 = .ok (.aload_n 0, 1) := by decide +kernel
theorem d_Mo_digest_133 : decode b_Mo_digest 133 = .ok (.iconst 0, 1) := by decide +kernel
theorem d_Mo_digest_134 : decode b_Mo_digest 134 = .ok (.invokevirtual 258, 3) := by decide +kernel
theorem d_Mo_digest_137 : decode b_Mo_digest 137 = .ok (.i2l, 1) := by decide +kernel
theorem d_Mo_digest_138 : decode b_Mo_digest 138 = .ok (.ladd, 1) := by decide +kernel
theorem d_Mo_digest_139 : decode b_Mo_digest 139 = .ok (.lstore_n 1, 1) := by decide +kernel
theorem d_Mo_digest_140 : decode b_Mo_digest 140 = .ok (.ldc2_w 346, 3) := by decide +kernel
theorem d_Mo_digest_143 : decode b_Mo_digest 143 = .ok (.lload_n 1, 1) := by decide +kernel
theorem d_Mo_digest_144 : decode b_Mo_digest 144 = .ok (.lmul, 1) := by decide +kernel
theorem d_Mo_digest_145 : decode b_Mo_digest 145 = .ok (.aload_n 0, 1) := by decide +kernel
theorem d_Mo_digest_146 : decode b_Mo_digest 146 = .ok (.iconst 1, 1) := by decide +kernel
theorem d_Mo_digest_147 : decode b_Mo_digest 147 = .ok (.invokevirtual 258, 3) := by decide +kernel
theorem d_Mo_digest_150 : decode b_Mo_digest 150 = .ok (.i2l, 1) := by decide +kernel
theorem d_Mo_digest_151 : decode b_Mo_digest 151 = .ok (.ladd, 1) := by decide +kernel
theorem d_Mo_digest_152 : decode b_Mo_digest 152 = .ok (.lstore_n 1, 1) := by decide +kernel
theorem d_Mo_digest_153 : decode b_Mo_digest 153 = .ok (.ldc2_w 346, 3) := by decide +kernel
theorem d_Mo_digest_156 : decode b_Mo_digest 156 = .ok (.lload_n 1, 1) := by decide +kernel
theorem d_Mo_digest_157 : decode b_Mo_digest 157 = .ok (.lmul, 1) := by decide +kernel
theorem d_Mo_digest_158 : decode b_Mo_digest 158 = .ok (.aload_n 0, 1) := by decide +kernel
theorem d_Mo_digest_159 : decode b_Mo_digest 159 = .ok (.invokevirtual 261, 3) := by decide +kernel
theorem d_Mo_digest_162 : decode b_Mo_digest 162 = .ok (.i2l, 1) := by decide +kernel
theorem d_Mo_digest_163 : decode b_Mo_digest 163 = .ok (.ladd, 1) := by decide +kernel
theorem d_Mo_digest_164 : decode b_Mo_digest 164 = .ok (.lstore_n 1, 1) := by decide +kernel
theorem d_Mo_digest_165 : decode b_Mo_digest 165 = .ok (.ldc2_w 346, 3) := by decide +kernel
theorem d_Mo_digest_168 : decode b_Mo_digest 168 = .ok (.lload_n 1, 1) := by decide +kernel
theorem d_Mo_digest_169 : decode b_Mo_digest 169 = .ok (.lmul, 1) := by decide +kernel
theorem d_Mo_digest_170 : decode b_Mo_digest 170 = .ok (.aload_n 0, 1) := by decide +kernel
theorem d_Mo_digest_171 : decode b_Mo_digest 171 = .ok (.invokevirtual 264, 3) := by decide +kernel
theorem d_Mo_digest_174 : decode b_Mo_digest 174 = .ok (.i2l, 1) := by decide +kernel
theorem d_Mo_digest_175 : decode b_Mo_digest 175 = .ok (.ladd, 1) := by decide +kernel
theorem d_Mo_digest_176 : decode b_Mo_digest 176 = .ok (.lstore_n 1, 1) := by decide +kernel
theorem d_Mo_digest_177 : decode b_Mo_digest 177 = .ok (.ldc2_w 346, 3) := by decide +kernel
theorem d_Mo_digest_180 : decode b_Mo_digest 180 = .ok (.lload_n 1, 1) := by decide +kernel
theorem d_Mo_digest_181 : decode b_Mo_digest 181 = .ok (.lmul, 1) := by decide +kernel
theorem d_Mo_digest_182 : decode b_Mo_digest 182 = .ok (.aload_n 0, 1) := by decide +kernel
theorem d_Mo_digest_183 : decode b_Mo_digest 183 = .ok (.invokevirtual 270, 3) := by decide +kernel
theorem d_Mo_digest_186 : decode b_Mo_digest 186 = .ok (.i2l, 1) := by decide +kernel
theorem d_Mo_digest_187 : decode b_Mo_digest 187 = .ok (.ladd, 1) := by decide +kernel
theorem d_Mo_digest_188 : decode b_Mo_digest 188 = .ok (.lstore_n 1, 1) := by decide +kernel
theorem d_Mo_digest_189 : decode b_Mo_digest 189 = .ok (.aload_n 0, 1) := by decide +kernel
theorem d_Mo_digest_190 : decode b_Mo_digest 190 = .ok (.invokevirtual 288, 3) := by decide +kernel
theorem d_Mo_digest_193 : decode b_Mo_digest 193 = .ok (.istore_n 3, 1) := by decide +kernel
theorem d_Mo_digest_194 : decode b_Mo_digest 194 = .ok (.ldc2_w 346, 3) := by decide +kernel
theorem d_Mo_digest_197 : decode b_Mo_digest 197 = .ok (.lload_n 1, 1) := by decide +kernel
theorem d_Mo_digest_198 : decode b_Mo_digest 198 = .ok (.lmul, 1) := by decide +kernel
theorem d_Mo_digest_199 : decode b_Mo_digest 199 = .ok (.iload_n 3, 1) := by decide +kernel
theorem d_Mo_digest_200 : decode b_Mo_digest 200 = .ok (.i2l, 1) := by decide +kernel
theorem d_Mo_digest_201 : decode b_Mo_digest 201 = .ok (.ladd, 1) := by decide +kernel
theorem d_Mo_digest_202 : decode b_Mo_digest 202 = .ok (.lstore_n 1, 1) := by decide +kernel
theorem d_Mo_digest_203 : decode b_Mo_digest 203 = .ok (.ldc2_w 346, 3) := by decide +kernel
theorem d_Mo_digest_206 : decode b_Mo_digest 206 = .ok (.lload_n 1, 1) := by decide +kernel
theorem d_Mo_digest_207 : decode b_Mo_digest 207 = .ok (.lmul, 1) := by decide +kernel
theorem d_Mo_digest_208 : decode b_Mo_digest 208 = .ok (.aload_n 0, 1) := by decide +kernel
theorem d_Mo_digest_209 : decode b_Mo_digest 209 = .ok (.iload_n 3, 1) := by decide +kernel
theorem d_Mo_digest_210 : decode b_Mo_digest 210 = .ok (.iconst 0, 1) := by decide +kernel
theorem d_Mo_digest_211 : decode b_Mo_digest 211 = .ok (.invokevirtual 291, 3) := by decide +kernel
theorem d_Mo_digest_214 : decode b_Mo_digest 214 = .ok (.i2l, 1) := by decide +kernel
theorem d_Mo_digest_215 : decode b_Mo_digest 215 = .ok (.ladd, 1) := by decide +kernel
theorem d_Mo_digest_216 : decode b_Mo_digest 216 = .ok (.lstore_n 1, 1) := by decide +kernel
theorem d_Mo_digest_217 : decode b_Mo_digest 217 = .ok (.ldc2_w 346, 3) := by decide +kernel
theorem d_Mo_digest_220 : decode b_Mo_digest 220 = .ok (.lload_n 1, 1) := by decide +kernel
theorem d_Mo_digest_221 : decode b_Mo_digest 221 = .ok (.lmul, 1) := by decide +kernel
theorem d_Mo_digest_222 : decode b_Mo_digest 222 = .ok (.aload_n 0, 1) := by decide +kernel
theorem d_Mo_digest_223 : decode b_Mo_digest 223 = .ok (.invokevirtual 301, 3) := by decide +kernel
theorem d_Mo_digest_226 : decode b_Mo_digest 226 = .ok (.i2l, 1) := by decide +kernel
theorem d_Mo_digest_227 : decode b_Mo_digest 227 = .ok (.ladd, 1) := by decide +kernel
theorem d_Mo_digest_228 : decode b_Mo_digest 228 = .ok (.lstore_n 1, 1) := by decide +kernel
theorem d_Mo_digest_229 : decode b_Mo_digest 229 = .ok (.ldc2_w 346, 3) := by decide +kernel
theorem d_Mo_digest_232 : decode b_Mo_digest 232 = .ok (.lload_n 1, 1) := by decide +kernel
theorem d_Mo_digest_233 : decode b_Mo_digest 233 = .ok (.lmul, 1) := by decide +kernel
theorem d_Mo_digest_234 : decode b_Mo_digest 234 = .ok (.aload_n 0, 1) := by decide +kernel
theorem d_Mo_digest_235 : decode b_Mo_digest 235 = .ok (.bipush 7, 2) := by decide +kernel
theorem d_Mo_digest_237 : decode b_Mo_digest 237 = .ok (.bipush 6, 2) := by decide +kernel
theorem d_Mo_digest_239 : decode b_Mo_digest 239 = .ok (.iconst 0, 1) := by decide +kernel
theorem d_Mo_digest_240 : decode b_Mo_digest 240 = .ok (.invokevirtual 326, 3) := by decide +kernel
theorem d_Mo_digest_243 : decode b_Mo_digest 243 = .ok (.i2l, 1) := by decide +kernel
theorem d_Mo_digest_244 : decode b_Mo_digest 244 = .ok (.ladd, 1) := by decide +kernel
theorem d_Mo_digest_245 : decode b_Mo_digest 245 = .ok (.lstore_n 1, 1) := by decide +kernel
theorem d_Mo_digest_246 : decode b_Mo_digest 246 = .ok (.ldc2_w 346, 3) := by decide +kernel
theorem d_Mo_digest_249 : decode b_Mo_digest 249 = .ok (.lload_n 1, 1) := by decide +kernel
theorem d_Mo_digest_250 : decode b_Mo_digest 250 = .ok (.lmul, 1) := by decide +kernel
theorem d_Mo_digest_251 : decode b_Mo_digest 251 = .ok (.aload_n 0, 1) := by decide +kernel
theorem d_Mo_digest_252 : decode b_Mo_digest 252 = .ok (.bipush 7, 2) := by decide +kernel
theorem d_Mo_digest_254 : decode b_Mo_digest 254 = .ok (.bipush 6, 2) := by decide +kernel
theorem d_Mo_digest_256 : decode b_Mo_digest 256 = .ok (.iconst 1, 1) := by decide +kernel
theorem d_Mo_digest_257 : decode b_Mo_digest 257 = .ok (.invokevirtual 326, 3) := by decide +kernel
theorem d_Mo_digest_260 : decode b_Mo_digest 260 = .ok (.i2l, 1) := by decide +kernel
theorem d_Mo_digest_261 : decode b_Mo_digest 261 = .ok (.ladd, 1) := by decide +kernel
theorem d_Mo_digest_262 : decode b_Mo_digest 262 = .ok (.lreturn, 1) := by decide +kernel
