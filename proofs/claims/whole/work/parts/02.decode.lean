/-! decode rows (printed) -/
theorem d_CS_isText_0 : decode b_CS_isText 0 = .ok (.iload_n 0, 1) := by decide +kernel
theorem d_CS_isText_1 : decode b_CS_isText 1 = .ok (.ifCond .lt 12, 3) := by decide +kernel
theorem d_CS_isText_4 : decode b_CS_isText 4 = .ok (.iload_n 0, 1) := by decide +kernel
theorem d_CS_isText_5 : decode b_CS_isText 5 = .ok (.iconst 2, 1) := by decide +kernel
theorem d_CS_isText_6 : decode b_CS_isText 6 = .ok (.if_icmp .ge 7, 3) := by decide +kernel
theorem d_CS_isText_9 : decode b_CS_isText 9 = .ok (.iconst 1, 1) := by decide +kernel
theorem d_CS_isText_10 : decode b_CS_isText 10 = .ok (.goto 4, 3) := by decide +kernel
theorem d_CS_isText_13 : decode b_CS_isText 13 = .ok (.iconst 0, 1) := by decide +kernel
theorem d_CS_isText_14 : decode b_CS_isText 14 = .ok (.ireturn, 1) := by decide +kernel
theorem d_CS_isBetween_0 : decode b_CS_isBetween 0 = .ok (.iload_n 0, 1) := by decide +kernel
theorem d_CS_isBetween_1 : decode b_CS_isBetween 1 = .ok (.iload_n 1, 1) := by decide +kernel
theorem d_CS_isBetween_2 : decode b_CS_isBetween 2 = .ok (.if_icmp .lt 12, 3) := by decide +kernel
theorem d_CS_isBetween_5 : decode b_CS_isBetween 5 = .ok (.iload_n 0, 1) := by decide +kernel
theorem d_CS_isBetween_6 : decode b_CS_isBetween 6 = .ok (.iload_n 2, 1) := by decide +kernel
theorem d_CS_isBetween_7 : decode b_CS_isBetween 7 = .ok (.if_icmp .gt 7, 3) := by decide +kernel
theorem d_CS_isBetween_10 : decode b_CS_isBetween 10 = .ok (.iconst 1, 1) := by decide +kernel
theorem d_CS_isBetween_11 : decode b_CS_isBetween 11 = .ok (.goto 4, 3) := by decide +kernel
theorem d_CS_isBetween_14 : decode b_CS_isBetween 14 = .ok (.iconst 0, 1) := by decide +kernel
theorem d_CS_isBetween_15 : decode b_CS_isBetween 15 = .ok (.ireturn, 1) := by decide +kernel
theorem d_Ca_fits_0 : decode b_Ca_fits 0 = .ok (.iload_n 1, 1) := by decide +kernel
theorem d_Ca_fits_1 : decode b_Ca_fits 1 = .ok (.lookupswitch 60 #[(0, 27), (1, 51)], 27) := by decide +kernel
theorem d_Ca_fits_28 : decode b_Ca_fits 28 = .ok (.iload_n 2, 1) := by decide +kernel
theorem d_Ca_fits_29 : decode b_Ca_fits 29 = .ok (.bipush 121, 2) := by decide +kernel
theorem d_Ca_fits_31 : decode b_Ca_fits 31 = .ok (.if_icmp .eq 15, 3) := by decide +kernel
theorem d_Ca_fits_34 : decode b_Ca_fits 34 = .ok (.iload_n 2, 1) := by decide +kernel
theorem d_Ca_fits_35 : decode b_Ca_fits 35 = .ok (.bipush 111, 2) := by decide +kernel
theorem d_Ca_fits_37 : decode b_Ca_fits 37 = .ok (.if_icmp .eq 9, 3) := by decide +kernel
theorem d_Ca_fits_40 : decode b_Ca_fits 40 = .ok (.iload_n 2, 1) := by decide +kernel
theorem d_Ca_fits_41 : decode b_Ca_fits 41 = .ok (.bipush 115, 2) := by decide +kernel
theorem d_Ca_fits_43 : decode b_Ca_fits 43 = .ok (.if_icmp .ne 7, 3) := by decide +kernel
theorem d_Ca_fits_46 : decode b_Ca_fits 46 = .ok (.iconst 1, 1) := by decide +kernel
theorem d_Ca_fits_47 : decode b_Ca_fits 47 = .ok (.goto 4, 3) := by decide +kernel
theorem d_Ca_fits_50 : decode b_Ca_fits 50 = .ok (.iconst 0, 1) := by decide +kernel
theorem d_Ca_fits_51 : decode b_Ca_fits 51 = .ok (.ireturn, 1) := by decide +kernel
theorem d_Ca_fits_52 : decode b_Ca_fits 52 = .ok (.iload_n 2, 1) := by decide +kernel
theorem d_Ca_fits_53 : decode b_Ca_fits 53 = .ok (.bipush 49, 2) := by decide +kernel
theorem d_Ca_fits_55 : decode b_Ca_fits 55 = .ok (.bipush 57, 2) := by decide +kernel
theorem d_Ca_fits_57 : decode b_Ca_fits 57 = .ok (.invokestatic 18, 3) := by decide +kernel
theorem d_Ca_fits_60 : decode b_Ca_fits 60 = .ok (.ireturn, 1) := by decide +kernel
theorem d_Ca_fits_61 : decode b_Ca_fits 61 = .ok (.iload_n 2, 1) := by decide +kernel
theorem d_Ca_fits_62 : decode b_Ca_fits 62 = .ok (.bipush 59, 2) := by decide +kernel
theorem d_Ca_fits_64 : decode b_Ca_fits 64 = .ok (.if_icmp .ne 7, 3) := by decide +kernel
theorem d_Ca_fits_67 : decode b_Ca_fits 67 = .ok (.iconst 1, 1) := by decide +kernel
theorem d_Ca_fits_68 : decode b_Ca_fits 68 = .ok (.goto 4, 3) := by decide +kernel
theorem d_Ca_fits_71 : decode b_Ca_fits 71 = .ok (.iconst 0, 1) := by decide +kernel
theorem d_Ca_fits_72 : decode b_Ca_fits 72 = .ok (.ireturn, 1) := by decide +kernel
theorem d_Ba_fits_0 : decode b_Ba_fits 0 = .ok (.iload_n 1, 1) := by decide +kernel
theorem d_Ba_fits_1 : decode b_Ba_fits 1 = .ok (.tableswitch 54 0 2 #[27, 36, 45], 27) := by decide +kernel
theorem d_Ba_fits_28 : decode b_Ba_fits 28 = .ok (.iload_n 2, 1) := by decide +kernel
theorem d_Ba_fits_29 : decode b_Ba_fits 29 = .ok (.bipush 97, 2) := by decide +kernel
theorem d_Ba_fits_31 : decode b_Ba_fits 31 = .ok (.bipush 104, 2) := by decide +kernel
theorem d_Ba_fits_33 : decode b_Ba_fits 33 = .ok (.invokestatic 21, 3) := by decide +kernel
theorem d_Ba_fits_36 : decode b_Ba_fits 36 = .ok (.ireturn, 1) := by decide +kernel
theorem d_Ba_fits_37 : decode b_Ba_fits 37 = .ok (.iload_n 2, 1) := by decide +kernel
theorem d_Ba_fits_38 : decode b_Ba_fits 38 = .ok (.bipush 49, 2) := by decide +kernel
theorem d_Ba_fits_40 : decode b_Ba_fits 40 = .ok (.bipush 57, 2) := by decide +kernel
theorem d_Ba_fits_42 : decode b_Ba_fits 42 = .ok (.invokestatic 21, 3) := by decide +kernel
theorem d_Ba_fits_45 : decode b_Ba_fits 45 = .ok (.ireturn, 1) := by decide +kernel
theorem d_Ba_fits_46 : decode b_Ba_fits 46 = .ok (.iload_n 2, 1) := by decide +kernel
theorem d_Ba_fits_47 : decode b_Ba_fits 47 = .ok (.bipush 97, 2) := by decide +kernel
theorem d_Ba_fits_49 : decode b_Ba_fits 49 = .ok (.bipush 120, 2) := by decide +kernel
theorem d_Ba_fits_51 : decode b_Ba_fits 51 = .ok (.invokestatic 21, 3) := by decide +kernel
theorem d_Ba_fits_54 : decode b_Ba_fits 54 = .ok (.ireturn, 1) := by decide +kernel
theorem d_Ba_fits_55 : decode b_Ba_fits 55 = .ok (.iload_n 2, 1) := by decide +kernel
theorem d_Ba_fits_56 : decode b_Ba_fits 56 = .ok (.bipush 59, 2) := by decide +kernel
theorem d_Ba_fits_58 : decode b_Ba_fits 58 = .ok (.if_icmp .ne 7, 3) := by decide +kernel
theorem d_Ba_fits_61 : decode b_Ba_fits 61 = .ok (.iconst 1, 1) := by decide +kernel
theorem d_Ba_fits_62 : decode b_Ba_fits 62 = .ok (.goto 4, 3) := by decide +kernel
theorem d_Ba_fits_65 : decode b_Ba_fits 65 = .ok (.iconst 0, 1) := by decide +kernel
theorem d_Ba_fits_66 : decode b_Ba_fits 66 = .ok (.ireturn, 1) := by decide +kernel
theorem d_Tx_findFault_0 : decode b_Tx_findFault 0 = .ok (.iconst 0, 1) := by decide +kernel
theorem d_Tx_findFault_1 : decode b_Tx_findFault 1 = .ok (.istore_n 1, 1) := by decide +kernel
theorem d_Tx_findFault_2 : decode b_Tx_findFault 2 = .ok (.iconst 0, 1) := by decide +kernel
theorem d_Tx_findFault_3 : decode b_Tx_findFault 3 = .ok (.istore_n 2, 1) := by decide +kernel
theorem d_Tx_findFault_4 : decode b_Tx_findFault 4 = .ok (.iload_n 2, 1) := by decide +kernel
theorem d_Tx_findFault_5 : decode b_Tx_findFault 5 = .ok (.aload_n 0, 1) := by decide +kernel
theorem d_Tx_findFault_6 : decode b_Tx_findFault 6 = .ok (.getfield 22, 3) := by decide +kernel
theorem d_Tx_findFault_9 : decode b_Tx_findFault 9 = .ok (.if_icmp .ge 43, 3) := by decide +kernel
theorem d_Tx_findFault_12 : decode b_Tx_findFault 12 = .ok (.aload_n 0, 1) := by decide +kernel
theorem d_Tx_findFault_13 : decode b_Tx_findFault 13 = .ok (.iload_n 1, 1) := by decide +kernel
theorem d_Tx_findFault_14 : decode b_Tx_findFault 14 = .ok (.aload_n 0, 1) := by decide +kernel
theorem d_Tx_findFault_15 : decode b_Tx_findFault 15 = .ok (.getfield 15, 3) := by decide +kernel
theorem d_Tx_findFault_18 : decode b_Tx_findFault 18 = .ok (.iload_n 2, 1) := by decide +kernel
theorem d_Tx_findFault_19 : decode b_Tx_findFault 19 = .ok (.iaload, 1) := by decide +kernel
theorem d_Tx_findFault_20 : decode b_Tx_findFault 20 = .ok (.invokevirtual 39, 3) := by decide +kernel
theorem d_Tx_findFault_23 : decode b_Tx_findFault 23 = .ok (.ifCond .ne 5, 3) := by decide +kernel
theorem d_Tx_findFault_26 : decode b_Tx_findFault 26 = .ok (.iload_n 2, 1) := by decide +kernel
theorem d_Tx_findFault_27 : decode b_Tx_findFault 27 = .ok (.ireturn, 1) := by decide +kernel
theorem d_Tx_findFault_28 : decode b_Tx_findFault 28 = .ok (.iload_n 1, 1) := by decide +kernel
theorem d_Tx_findFault_29 : decode b_Tx_findFault 29 = .ok (.aload_n 0, 1) := by decide +kernel
theorem d_Tx_findFault_30 : decode b_Tx_findFault 30 = .ok (.getfield 19, 3) := by decide +kernel
theorem d_Tx_findFault_33 : decode b_Tx_findFault 33 = .ok (.iconst 1, 1) := by decide +kernel
theorem d_Tx_findFault_34 : decode b_Tx_findFault 34 = .ok (.isub, 1) := by decide +kernel
theorem d_Tx_findFault_35 : decode b_Tx_findFault 35 = .ok (.if_icmp .ne 7, 3) := by decide +kernel
theorem d_Tx_findFault_38 : decode b_Tx_findFault 38 = .ok (.iconst 0, 1) := by decide +kernel
theorem d_Tx_findFault_39 : decode b_Tx_findFault 39 = .ok (.goto 6, 3) := by decide +kernel
theorem d_Tx_findFault_42 : decode b_Tx_findFault 42 = .ok (.iload_n 1, 1) := by decide +kernel
theorem d_Tx_findFault_43 : decode b_Tx_findFault 43 = .ok (.iconst 1, 1) := by decide +kernel
theorem d_Tx_findFault_44 : decode b_Tx_findFault 44 = .ok (.iadd, 1) := by decide +kernel
theorem d_Tx_findFault_45 : decode b_Tx_findFault 45 = .ok (.istore_n 1, 1) := by decide +kernel
theorem d_Tx_findFault_46 : decode b_Tx_findFault 46 = .ok (.iinc 2 1, 3) := by decide +kernel
theorem d_Tx_findFault_49 : decode b_Tx_findFault 49 = .ok (.goto (-45), 3) := by decide +kernel
theorem d_Tx_findFault_52 : decode b_Tx_findFault 52 = .ok (.aload_n 0, 1) := by decide +kernel
theorem d_Tx_findFault_53 : decode b_Tx_findFault 53 = .ok (.getfield 22, 3) := by decide +kernel
theorem d_Tx_findFault_56 : decode b_Tx_findFault 56 = .ok (.ifCond .eq 13, 3) := by decide +kernel
theorem d_Tx_findFault_59 : decode b_Tx_findFault 59 = .ok (.iload_n 1, 1) := by decide +kernel
theorem d_Tx_findFault_60 : decode b_Tx_findFault 60 = .ok (.aload_n 0, 1) := by decide +kernel
theorem d_Tx_findFault_61 : decode b_Tx_findFault 61 = .ok (.getfield 19, 3) := by decide +kernel
theorem d_Tx_findFault_64 : decode b_Tx_findFault 64 = .ok (.iconst 1, 1) := by decide +kernel
theorem d_Tx_findFault_65 : decode b_Tx_findFault 65 = .ok (.isub, 1) := by decide +kernel
theorem d_Tx_findFault_66 : decode b_Tx_findFault 66 = .ok (.if_icmp .ne 7, 3) := by decide +kernel
theorem d_Tx_findFault_69 : decode b_Tx_findFault 69 = .ok (.iconst 1, 1) := by decide +kernel
theorem d_Tx_findFault_70 : decode b_Tx_findFault 70 = .ok (.goto 4, 3) := by decide +kernel
theorem d_Tx_findFault_73 : decode b_Tx_findFault 73 = .ok (.iconst 0, 1) := by decide +kernel
theorem d_Tx_findFault_74 : decode b_Tx_findFault 74 = .ok (.istore_n 2, 1) := by decide +kernel
theorem d_Tx_findFault_75 : decode b_Tx_findFault 75 = .ok (.iload_n 2, 1) := by decide +kernel
theorem d_Tx_findFault_76 : decode b_Tx_findFault 76 = .ok (.ifCond .eq 7, 3) := by decide +kernel
theorem d_Tx_findFault_79 : decode b_Tx_findFault 79 = .ok (.iconst (-1), 1) := by decide +kernel
theorem d_Tx_findFault_80 : decode b_Tx_findFault 80 = .ok (.goto 7, 3) := by decide +kernel
theorem d_Tx_findFault_83 : decode b_Tx_findFault 83 = .ok (.aload_n 0, 1) := by decide +kernel
theorem d_Tx_findFault_84 : decode b_Tx_findFault 84 = .ok (.getfield 22, 3) := by decide +kernel
theorem d_Tx_findFault_87 : decode b_Tx_findFault 87 = .ok (.ireturn, 1) := by decide +kernel
theorem d_Ca_learn_0 : decode b_Ca_learn 0 = .ok (.aload_n 0, 1) := by decide +kernel
theorem d_Ca_learn_1 : decode b_Ca_learn 1 = .ok (.getfield 22, 3) := by decide +kernel
theorem d_Ca_learn_4 : decode b_Ca_learn 4 = .ok (.iload_n 2, 1) := by decide +kernel
theorem d_Ca_learn_5 : decode b_Ca_learn 5 = .ok (.iaload, 1) := by decide +kernel
theorem d_Ca_learn_6 : decode b_Ca_learn 6 = .ok (.istore_n 3, 1) := by decide +kernel
theorem d_Ca_learn_7 : decode b_Ca_learn 7 = .ok (.aload_n 0, 1) := by decide +kernel
theorem d_Ca_learn_8 : decode b_Ca_learn 8 = .ok (.getfield 9, 3) := by decide +kernel
theorem d_Ca_learn_11 : decode b_Ca_learn 11 = .ok (.iload_n 1, 1) := by decide +kernel
theorem d_Ca_learn_12 : decode b_Ca_learn 12 = .ok (.iload_n 3, 1) := by decide +kernel
theorem d_Ca_learn_13 : decode b_Ca_learn 13 = .ok (.bipush 121, 2) := by decide +kernel
theorem d_Ca_learn_15 : decode b_Ca_learn 15 = .ok (.if_icmp .ne 7, 3) := by decide +kernel
theorem d_Ca_learn_18 : decode b_Ca_learn 18 = .ok (.iconst 0, 1) := by decide +kernel
theorem d_Ca_learn_19 : decode b_Ca_learn 19 = .ok (.goto 14, 3) := by decide +kernel
theorem d_Ca_learn_22 : decode b_Ca_learn 22 = .ok (.iload_n 3, 1) := by decide +kernel
theorem d_Ca_learn_23 : decode b_Ca_learn 23 = .ok (.bipush 111, 2) := by decide +kernel
theorem d_Ca_learn_25 : decode b_Ca_learn 25 = .ok (.if_icmp .ne 7, 3) := by decide +kernel
theorem d_Ca_learn_28 : decode b_Ca_learn 28 = .ok (.iconst 1, 1) := by decide +kernel
theorem d_Ca_learn_29 : decode b_Ca_learn 29 = .ok (.goto 4, 3) := by decide +kernel
theorem d_Ca_learn_32 : decode b_Ca_learn 32 = .ok (.iconst 2, 1) := by decide +kernel
theorem d_Ca_learn_33 : decode b_Ca_learn 33 = .ok (.iastore, 1) := by decide +kernel
theorem d_Ca_learn_34 : decode b_Ca_learn 34 = .ok (.aload_n 0, 1) := by decide +kernel
theorem d_Ca_learn_35 : decode b_Ca_learn 35 = .ok (.getfield 15, 3) := by decide +kernel
theorem d_Ca_learn_38 : decode b_Ca_learn 38 = .ok (.iload_n 1, 1) := by decide +kernel
theorem d_Ca_learn_39 : decode b_Ca_learn 39 = .ok (.aload_n 0, 1) := by decide +kernel
theorem d_Ca_learn_40 : decode b_Ca_learn 40 = .ok (.getfield 22, 3) := by decide +kernel
theorem d_Ca_learn_43 : decode b_Ca_learn 43 = .ok (.iload_n 2, 1) := by decide +kernel
theorem d_Ca_learn_44 : decode b_Ca_learn 44 = .ok (.iconst 1, 1) := by decide +kernel
theorem d_Ca_learn_45 : decode b_Ca_learn 45 = .ok (.iadd, 1) := by decide +kernel
theorem d_Ca_learn_46 : decode b_Ca_learn 46 = .ok (.iaload, 1) := by decide +kernel
theorem d_Ca_learn_47 : decode b_Ca_learn 47 = .ok (.bipush 48, 2) := by decide +kernel
theorem d_Ca_learn_49 : decode b_Ca_learn 49 = .ok (.isub, 1) := by decide +kernel
theorem d_Ca_learn_50 : decode b_Ca_learn 50 = .ok (.iastore, 1) := by decide +kernel
theorem d_Ca_learn_51 : decode b_Ca_learn 51 = .ok (.return_, 1) := by decide +kernel
theorem d_Ba_learn_0 : decode b_Ba_learn 0 = .ok (.aload_n 0, 1) := by decide +kernel
theorem d_Ba_learn_1 : decode b_Ba_learn 1 = .ok (.getfield 9, 3) := by decide +kernel
theorem d_Ba_learn_4 : decode b_Ba_learn 4 = .ok (.iload_n 1, 1) := by decide +kernel
theorem d_Ba_learn_5 : decode b_Ba_learn 5 = .ok (.aload_n 0, 1) := by decide +kernel
theorem d_Ba_learn_6 : decode b_Ba_learn 6 = .ok (.getfield 25, 3) := by decide +kernel
theorem d_Ba_learn_9 : decode b_Ba_learn 9 = .ok (.iload_n 2, 1) := by decide +kernel
theorem d_Ba_learn_10 : decode b_Ba_learn 10 = .ok (.iaload, 1) := by decide +kernel
theorem d_Ba_learn_11 : decode b_Ba_learn 11 = .ok (.bipush 97, 2) := by decide +kernel
theorem d_Ba_learn_13 : decode b_Ba_learn 13 = .ok (.isub, 1) := by decide +kernel
theorem d_Ba_learn_14 : decode b_Ba_learn 14 = .ok (.iastore, 1) := by decide +kernel
theorem d_Ba_learn_15 : decode b_Ba_learn 15 = .ok (.aload_n 0, 1) := by decide +kernel
theorem d_Ba_learn_16 : decode b_Ba_learn 16 = .ok (.getfield 15, 3) := by decide +kernel
theorem d_Ba_learn_19 : decode b_Ba_learn 19 = .ok (.iload_n 1, 1) := by decide +kernel
theorem d_Ba_learn_20 : decode b_Ba_learn 20 = .ok (.aload_n 0, 1) := by decide +kernel
theorem d_Ba_learn_21 : decode b_Ba_learn 21 = .ok (.getfield 25, 3) := by decide +kernel
theorem d_Ba_learn_24 : decode b_Ba_learn 24 = .ok (.iload_n 2, 1) := by decide +kernel
theorem d_Ba_learn_25 : decode b_Ba_learn 25 = .ok (.iconst 1, 1) := by decide +kernel
theorem d_Ba_learn_26 : decode b_Ba_learn 26 = .ok (.iadd, 1) := by decide +kernel
theorem d_Ba_learn_27 : decode b_Ba_learn 27 = .ok (.iaload, 1) := by decide +kernel
theorem d_Ba_learn_28 : decode b_Ba_learn 28 = .ok (.bipush 48, 2) := by decide +kernel
theorem d_Ba_learn_30 : decode b_Ba_learn 30 = .ok (.isub, 1) := by decide +kernel
theorem d_Ba_learn_31 : decode b_Ba_learn 31 = .ok (.iastore, 1) := by decide +kernel
theorem d_Ba_learn_32 : decode b_Ba_learn 32 = .ok (.aload_n 0, 1) := by decide +kernel
theorem d_Ba_learn_33 : decode b_Ba_learn 33 = .ok (.getfield 18, 3) := by decide +kernel
theorem d_Ba_learn_36 : decode b_Ba_learn 36 = .ok (.iload_n 1, 1) := by decide +kernel
theorem d_Ba_learn_37 : decode b_Ba_learn 37 = .ok (.aload_n 0, 1) := by decide +kernel
theorem d_Ba_learn_38 : decode b_Ba_learn 38 = .ok (.getfield 25, 3) := by decide +kernel
theorem d_Ba_learn_41 : decode b_Ba_learn 41 = .ok (.iload_n 2, 1) := by decide +kernel
theorem d_Ba_learn_42 : decode b_Ba_learn 42 = .ok (.iconst 2, 1) := by decide +kernel
theorem d_Ba_learn_43 : decode b_Ba_learn 43 = .ok (.iadd, 1) := by decide +kernel
theorem d_Ba_learn_44 : decode b_Ba_learn 44 = .ok (.iaload, 1) := by decide +kernel
theorem d_Ba_learn_45 : decode b_Ba_learn 45 = .ok (.bipush 97, 2) := by decide +kernel
theorem d_Ba_learn_47 : decode b_Ba_learn 47 = .ok (.isub, 1) := by decide +kernel
theorem d_Ba_learn_48 : decode b_Ba_learn 48 = .ok (.iastore, 1) := by decide +kernel
theorem d_Ba_learn_49 : decode b_Ba_learn 49 = .ok (.return_, 1) := by decide +kernel
theorem d_Tx_parse_0 : decode b_Tx_parse 0 = .ok (.aload_n 0, 1) := by decide +kernel
theorem d_Tx_parse_1 : decode b_Tx_parse 1 = .ok (.aload_n 0, 1) := by decide +kernel
theorem d_Tx_parse_2 : decode b_Tx_parse 2 = .ok (.invokevirtual 28, 3) := by decide +kernel
theorem d_Tx_parse_5 : decode b_Tx_parse 5 = .ok (.putfield 9, 3) := by decide +kernel
theorem d_Tx_parse_8 : decode b_Tx_parse 8 = .ok (.aload_n 0, 1) := by decide +kernel
theorem d_Tx_parse_9 : decode b_Tx_parse 9 = .ok (.iconst 0, 1) := by decide +kernel
theorem d_Tx_parse_10 : decode b_Tx_parse 10 = .ok (.putfield 32, 3) := by decide +kernel
theorem d_Tx_parse_13 : decode b_Tx_parse 13 = .ok (.aload_n 0, 1) := by decide +kernel
theorem d_Tx_parse_14 : decode b_Tx_parse 14 = .ok (.getfield 9, 3) := by decide +kernel
theorem d_Tx_parse_17 : decode b_Tx_parse 17 = .ok (.iconst (-1), 1) := by decide +kernel
theorem d_Tx_parse_18 : decode b_Tx_parse 18 = .ok (.if_icmp .ne 42, 3) := by decide +kernel
theorem d_Tx_parse_21 : decode b_Tx_parse 21 = .ok (.iconst 0, 1) := by decide +kernel
theorem d_Tx_parse_22 : decode b_Tx_parse 22 = .ok (.istore_n 1, 1) := by decide +kernel
theorem d_Tx_parse_23 : decode b_Tx_parse 23 = .ok (.iload_n 1, 1) := by decide +kernel
theorem d_Tx_parse_24 : decode b_Tx_parse 24 = .ok (.aload_n 0, 1) := by decide +kernel
theorem d_Tx_parse_25 : decode b_Tx_parse 25 = .ok (.getfield 22, 3) := by decide +kernel
theorem d_Tx_parse_28 : decode b_Tx_parse 28 = .ok (.if_icmp .ge 32, 3) := by decide +kernel
theorem d_Tx_parse_31 : decode b_Tx_parse 31 = .ok (.aload_n 0, 1) := by decide +kernel
theorem d_Tx_parse_32 : decode b_Tx_parse 32 = .ok (.aload_n 0, 1) := by decide +kernel
theorem d_Tx_parse_33 : decode b_Tx_parse 33 = .ok (.getfield 32, 3) := by decide +kernel
theorem d_Tx_parse_36 : decode b_Tx_parse 36 = .ok (.iload_n 1, 1) := by decide +kernel
theorem d_Tx_parse_37 : decode b_Tx_parse 37 = .ok (.invokevirtual 35, 3) := by decide +kernel
theorem d_Tx_parse_40 : decode b_Tx_parse 40 = .ok (.aload_n 0, 1) := by decide +kernel
theorem d_Tx_parse_41 : decode b_Tx_parse 41 = .ok (.dup, 1) := by decide +kernel
theorem d_Tx_parse_42 : decode b_Tx_parse 42 = .ok (.getfield 32, 3) := by decide +kernel
theorem d_Tx_parse_45 : decode b_Tx_parse 45 = .ok (.iconst 1, 1) := by decide +kernel
theorem d_Tx_parse_46 : decode b_Tx_parse 46 = .ok (.iadd, 1) := by decide +kernel
theorem d_Tx_parse_47 : decode b_Tx_parse 47 = .ok (.putfield 32, 3) := by decide +kernel
theorem d_Tx_parse_50 : decode b_Tx_parse 50 = .ok (.iload_n 1, 1) := by decide +kernel
theorem d_Tx_parse_51 : decode b_Tx_parse 51 = .ok (.aload_n 0, 1) := by decide +kernel
theorem d_Tx_parse_52 : decode b_Tx_parse 52 = .ok (.getfield 19, 3) := by decide +kernel
theorem d_Tx_parse_55 : decode b_Tx_parse 55 = .ok (.iadd, 1) := by decide +kernel
theorem d_Tx_parse_56 : decode b_Tx_parse 56 = .ok (.istore_n 1, 1) := by decide +kernel
theorem d_Tx_parse_57 : decode b_Tx_parse 57 = .ok (.goto (-34), 3) := by decide +kernel
theorem d_Tx_parse_60 : decode b_Tx_parse 60 = .ok (.return_, 1) := by decide +kernel
theorem d_Tx_append_0 : decode b_Tx_append 0 = .ok (.aload_n 0, 1) := by decide +kernel
theorem d_Tx_append_1 : decode b_Tx_append 1 = .ok (.getfield 22, 3) := by decide +kernel
theorem d_Tx_append_4 : decode b_Tx_append 4 = .ok (.aload_n 0, 1) := by decide +kernel
theorem d_Tx_append_5 : decode b_Tx_append 5 = .ok (.getfield 15, 3) := by decide +kernel
theorem d_Tx_append_8 : decode b_Tx_append 8 = .ok (.arraylength, 1) := by decide +kernel
theorem d_Tx_append_9 : decode b_Tx_append 9 = .ok (.if_icmp .lt 5, 3) := by decide +kernel
theorem d_Tx_append_12 : decode b_Tx_append 12 = .ok (.iconst 0, 1) := by decide +kernel
theorem d_Tx_append_13 : decode b_Tx_append 13 = .ok (.ireturn, 1) := by decide +kernel
theorem d_Tx_append_14 : decode b_Tx_append 14 = .ok (.aload_n 0, 1) := by decide +kernel
theorem d_Tx_append_15 : decode b_Tx_append 15 = .ok (.getfield 15, 3) := by decide +kernel
theorem d_Tx_append_18 : decode b_Tx_append 18 = .ok (.aload_n 0, 1) := by decide +kernel
theorem d_Tx_append_19 : decode b_Tx_append 19 = .ok (.getfield 22, 3) := by decide +kernel
theorem d_Tx_append_22 : decode b_Tx_append 22 = .ok (.iload_n 1, 1) := by decide +kernel
theorem d_Tx_append_23 : decode b_Tx_append 23 = .ok (.iastore, 1) := by decide +kernel
theorem d_Tx_append_24 : decode b_Tx_append 24 = .ok (.aload_n 0, 1) := by decide +kernel
theorem d_Tx_append_25 : decode b_Tx_append 25 = .ok (.dup, 1) := by decide +kernel
theorem d_Tx_append_26 : decode b_Tx_append 26 = .ok (.getfield 22, 3) := by decide +kernel
theorem d_Tx_append_29 : decode b_Tx_append 29 = .ok (.iconst 1, 1) := by decide +kernel
theorem d_Tx_append_30 : decode b_Tx_append 30 = .ok (.iadd, 1) := by decide +kernel
theorem d_Tx_append_31 : decode b_Tx_append 31 = .ok (.putfield 22, 3) := by decide +kernel
theorem d_Tx_append_34 : decode b_Tx_append 34 = .ok (.aload_n 0, 1) := by decide +kernel
theorem d_Tx_append_35 : decode b_Tx_append 35 = .ok (.invokevirtual 25, 3) := by decide +kernel
theorem d_Tx_append_38 : decode b_Tx_append 38 = .ok (.iconst 1, 1) := by decide +kernel
theorem d_Tx_append_39 : decode b_Tx_append 39 = .ok (.ireturn, 1) := by decide +kernel
theorem d_CS_type_0 : decode b_CS_type 0 = .ok (.iload_n 1, 1) := by decide +kernel
theorem d_CS_type_1 : decode b_CS_type 1 = .ok (.invokestatic 78, 3) := by decide +kernel
theorem d_CS_type_4 : decode b_CS_type 4 = .ok (.ifCond .eq 14, 3) := by decide +kernel
theorem d_CS_type_7 : decode b_CS_type 7 = .ok (.iload_n 2, 1) := by decide +kernel
theorem d_CS_type_8 : decode b_CS_type 8 = .ok (.ifCond .lt 10, 3) := by decide +kernel
theorem d_CS_type_11 : decode b_CS_type 11 = .ok (.iload_n 2, 1) := by decide +kernel
theorem d_CS_type_12 : decode b_CS_type 12 = .ok (.sipush 255, 3) := by decide +kernel
theorem d_CS_type_15 : decode b_CS_type 15 = .ok (.if_icmp .le 6, 3) := by decide +kernel
theorem d_CS_type_18 : decode b_CS_type 18 = .ok (.bipush (-2), 2) := by decide +kernel
theorem d_CS_type_20 : decode b_CS_type 20 = .ok (.ireturn, 1) := by decide +kernel
theorem d_CS_type_21 : decode b_CS_type 21 = .ok (.aload_n 0, 1) := by decide +kernel
theorem d_CS_type_22 : decode b_CS_type 22 = .ok (.getfield 25, 3) := by decide +kernel
theorem d_CS_type_25 : decode b_CS_type 25 = .ok (.iload_n 1, 1) := by decide +kernel
theorem d_CS_type_26 : decode b_CS_type 26 = .ok (.aaload, 1) := by decide +kernel
theorem d_CS_type_27 : decode b_CS_type 27 = .ok (.iload_n 2, 1) := by decide +kernel
theorem d_CS_type_28 : decode b_CS_type 28 = .ok (.invokevirtual 82, 3) := by decide +kernel
theorem d_CS_type_31 : decode b_CS_type 31 = .ok (.ifCond .eq 15, 3) := by decide +kernel
theorem d_CS_type_34 : decode b_CS_type 34 = .ok (.aload_n 0, 1) := by decide +kernel
theorem d_CS_type_35 : decode b_CS_type 35 = .ok (.getfield 25, 3) := by decide +kernel
theorem d_CS_type_38 : decode b_CS_type 38 = .ok (.iload_n 1, 1) := by decide +kernel
theorem d_CS_type_39 : decode b_CS_type 39 = .ok (.aaload, 1) := by decide +kernel
theorem d_CS_type_40 : decode b_CS_type 40 = .ok (.getfield 85, 3) := by decide +kernel
theorem d_CS_type_43 : decode b_CS_type 43 = .ok (.goto 5, 3) := by decide +kernel
theorem d_CS_type_46 : decode b_CS_type 46 = .ok (.bipush (-4), 2) := by decide +kernel
theorem d_CS_type_48 : decode b_CS_type 48 = .ok (.ireturn, 1) := by decide +kernel
theorem d_Tx_cutTo_0 : decode b_Tx_cutTo 0 = .ok (.aload_n 0, 1) := by decide +kernel
theorem d_Tx_cutTo_1 : decode b_Tx_cutTo 1 = .ok (.iload_n 1, 1) := by decide +kernel
theorem d_Tx_cutTo_2 : decode b_Tx_cutTo 2 = .ok (.putfield 22, 3) := by decide +kernel
theorem d_Tx_cutTo_5 : decode b_Tx_cutTo 5 = .ok (.aload_n 0, 1) := by decide +kernel
theorem d_Tx_cutTo_6 : decode b_Tx_cutTo 6 = .ok (.invokevirtual 25, 3) := by decide +kernel
theorem d_Tx_cutTo_9 : decode b_Tx_cutTo 9 = .ok (.return_, 1) := by decide +kernel
theorem d_CS_wipe_0 : decode b_CS_wipe 0 = .ok (.iload_n 1, 1) := by decide +kernel
theorem d_CS_wipe_1 : decode b_CS_wipe 1 = .ok (.invokestatic 78, 3) := by decide +kernel
theorem d_CS_wipe_4 : decode b_CS_wipe 4 = .ok (.ifCond .ne 6, 3) := by decide +kernel
theorem d_CS_wipe_7 : decode b_CS_wipe 7 = .ok (.bipush (-2), 2) := by decide +kernel
theorem d_CS_wipe_9 : decode b_CS_wipe 9 = .ok (.ireturn, 1) := by decide +kernel
theorem d_CS_wipe_10 : decode b_CS_wipe 10 = .ok (.aload_n 0, 1) := by decide +kernel
theorem d_CS_wipe_11 : decode b_CS_wipe 11 = .ok (.getfield 25, 3) := by decide +kernel
theorem d_CS_wipe_14 : decode b_CS_wipe 14 = .ok (.iload_n 1, 1) := by decide +kernel
theorem d_CS_wipe_15 : decode b_CS_wipe 15 = .ok (.aaload, 1) := by decide +kernel
theorem d_CS_wipe_16 : decode b_CS_wipe 16 = .ok (.getfield 85, 3) := by decide +kernel
theorem d_CS_wipe_19 : decode b_CS_wipe 19 = .ok (.istore_n 2, 1) := by decide +kernel
theorem d_CS_wipe_20 : decode b_CS_wipe 20 = .ok (.aload_n 0, 1) := by decide +kernel
theorem d_CS_wipe_21 : decode b_CS_wipe 21 = .ok (.getfield 25, 3) := by decide +kernel
theorem d_CS_wipe_24 : decode b_CS_wipe 24 = .ok (.iload_n 1, 1) := by decide +kernel
theorem d_CS_wipe_25 : decode b_CS_wipe 25 = .ok (.aaload, 1) := by decide +kernel
theorem d_CS_wipe_26 : decode b_CS_wipe 26 = .ok (.iconst 0, 1) := by decide +kernel
theorem d_CS_wipe_27 : decode b_CS_wipe 27 = .ok (.invokevirtual 89, 3) := by decide +kernel
theorem d_CS_wipe_30 : decode b_CS_wipe 30 = .ok (.iload_n 2, 1) := by decide +kernel
theorem d_CS_wipe_31 : decode b_CS_wipe 31 = .ok (.ireturn, 1) := by decide +kernel
theorem d_CS_undo_0 : decode b_CS_undo 0 = .ok (.iload_n 1, 1) := by decide +kernel
theorem d_CS_undo_1 : decode b_CS_undo 1 = .ok (.invokestatic 78, 3) := by decide +kernel
theorem d_CS_undo_4 : decode b_CS_undo 4 = .ok (.ifCond .ne 6, 3) := by decide +kernel
theorem d_CS_undo_7 : decode b_CS_undo 7 = .ok (.bipush (-2), 2) := by decide +kernel
theorem d_CS_undo_9 : decode b_CS_undo 9 = .ok (.ireturn, 1) := by decide +kernel
theorem d_CS_undo_10 : decode b_CS_undo 10 = .ok (.aload_n 0, 1) := by decide +kernel
theorem d_CS_undo_11 : decode b_CS_undo 11 = .ok (.getfield 25, 3) := by decide +kernel
theorem d_CS_undo_14 : decode b_CS_undo 14 = .ok (.iload_n 1, 1) := by decide +kernel
theorem d_CS_undo_15 : decode b_CS_undo 15 = .ok (.aaload, 1) := by decide +kernel
theorem d_CS_undo_16 : decode b_CS_undo 16 = .ok (.getfield 85, 3) := by decide +kernel
theorem d_CS_undo_19 : decode b_CS_undo 19 = .ok (.istore_n 2, 1) := by decide +kernel
theorem d_CS_undo_20 : decode b_CS_undo 20 = .ok (.iload_n 2, 1) := by decide +kernel
theorem d_CS_undo_21 : decode b_CS_undo 21 = .ok (.ifCond .ne 6, 3) := by decide +kernel
theorem d_CS_undo_24 : decode b_CS_undo 24 = .ok (.bipush (-3), 2) := by decide +kernel
theorem d_CS_undo_26 : decode b_CS_undo 26 = .ok (.ireturn, 1) := by decide +kernel
theorem d_CS_undo_27 : decode b_CS_undo 27 = .ok (.aload_n 0, 1) := by decide +kernel
theorem d_CS_undo_28 : decode b_CS_undo 28 = .ok (.getfield 25, 3) := by decide +kernel
theorem d_CS_undo_31 : decode b_CS_undo 31 = .ok (.iload_n 1, 1) := by decide +kernel
theorem d_CS_undo_32 : decode b_CS_undo 32 = .ok (.aaload, 1) := by decide +kernel
theorem d_CS_undo_33 : decode b_CS_undo 33 = .ok (.iload_n 2, 1) := by decide +kernel
theorem d_CS_undo_34 : decode b_CS_undo 34 = .ok (.iconst 1, 1) := by decide +kernel
theorem d_CS_undo_35 : decode b_CS_undo 35 = .ok (.isub, 1) := by decide +kernel
theorem d_CS_undo_36 : decode b_CS_undo 36 = .ok (.invokevirtual 89, 3) := by decide +kernel
theorem d_CS_undo_39 : decode b_CS_undo 39 = .ok (.iload_n 2, 1) := by decide +kernel
theorem d_CS_undo_40 : decode b_CS_undo 40 = .ok (.iconst 1, 1) := by decide +kernel
theorem d_CS_undo_41 : decode b_CS_undo 41 = .ok (.isub, 1) := by decide +kernel
theorem d_CS_undo_42 : decode b_CS_undo 42 = .ok (.ireturn, 1) := by decide +kernel
theorem d_CS_fault_0 : decode b_CS_fault 0 = .ok (.iload_n 1, 1) := by decide +kernel
theorem d_CS_fault_1 : decode b_CS_fault 1 = .ok (.invokestatic 78, 3) := by decide +kernel
theorem d_CS_fault_4 : decode b_CS_fault 4 = .ok (.ifCond .eq 15, 3) := by decide +kernel
theorem d_CS_fault_7 : decode b_CS_fault 7 = .ok (.aload_n 0, 1) := by decide +kernel
theorem d_CS_fault_8 : decode b_CS_fault 8 = .ok (.getfield 25, 3) := by decide +kernel
theorem d_CS_fault_11 : decode b_CS_fault 11 = .ok (.iload_n 1, 1) := by decide +kernel
theorem d_CS_fault_12 : decode b_CS_fault 12 = .ok (.aaload, 1) := by decide +kernel
theorem d_CS_fault_13 : decode b_CS_fault 13 = .ok (.getfield 93, 3) := by decide +kernel
theorem d_CS_fault_16 : decode b_CS_fault 16 = .ok (.goto 5, 3) := by decide +kernel
theorem d_CS_fault_19 : decode b_CS_fault 19 = .ok (.bipush (-2), 2) := by decide +kernel
theorem d_CS_fault_21 : decode b_CS_fault 21 = .ok (.ireturn, 1) := by decide +kernel
theorem d_CS_isCamel_0 : decode b_CS_isCamel 0 = .ok (.iload_n 1, 1) := by decide +kernel
theorem d_CS_isCamel_1 : decode b_CS_isCamel 1 = .ok (.ifCond .lt 18, 3) := by decide +kernel
theorem d_CS_isCamel_4 : decode b_CS_isCamel 4 = .ok (.iload_n 1, 1) := by decide +kernel
theorem d_CS_isCamel_5 : decode b_CS_isCamel 5 = .ok (.aload_n 0, 1) := by decide +kernel
theorem d_CS_isCamel_6 : decode b_CS_isCamel 6 = .ok (.getfield 10, 3) := by decide +kernel
theorem d_CS_isCamel_9 : decode b_CS_isCamel 9 = .ok (.getfield 229, 3) := by decide +kernel
theorem d_CS_isCamel_12 : decode b_CS_isCamel 12 = .ok (.if_icmp .ge 7, 3) := by decide +kernel
theorem d_CS_isCamel_15 : decode b_CS_isCamel 15 = .ok (.iconst 1, 1) := by decide +kernel
theorem d_CS_isCamel_16 : decode b_CS_isCamel 16 = .ok (.goto 4, 3) := by decide +kernel
theorem d_CS_isCamel_19 : decode b_CS_isCamel 19 = .ok (.iconst 0, 1) := by decide +kernel
theorem d_CS_isCamel_20 : decode b_CS_isCamel 20 = .ok (.ireturn, 1) := by decide +kernel
theorem d_CS_strengthOf_0 : decode b_CS_strengthOf 0 = .ok (.iconst 4, 1) := by decide +kernel
theorem d_CS_strengthOf_1 : decode b_CS_strengthOf 1 = .ok (.iload_n 0, 1) := by decide +kernel
theorem d_CS_strengthOf_2 : decode b_CS_strengthOf 2 = .ok (.imul, 1) := by decide +kernel
theorem d_CS_strengthOf_3 : decode b_CS_strengthOf 3 = .ok (.ireturn, 1) := by decide +kernel
theorem d_CS_camel_0 : decode b_CS_camel 0 = .ok (.aload_n 0, 1) := by decide +kernel
theorem d_CS_camel_1 : decode b_CS_camel 1 = .ok (.iload_n 1, 1) := by decide +kernel
theorem d_CS_camel_2 : decode b_CS_camel 2 = .ok (.invokevirtual 96, 3) := by decide +kernel
theorem d_CS_camel_5 : decode b_CS_camel 5 = .ok (.ifCond .eq 12, 3) := by decide +kernel
theorem d_CS_camel_8 : decode b_CS_camel 8 = .ok (.iload_n 2, 1) := by decide +kernel
theorem d_CS_camel_9 : decode b_CS_camel 9 = .ok (.ifCond .lt 8, 3) := by decide +kernel
theorem d_CS_camel_12 : decode b_CS_camel 12 = .ok (.iload_n 2, 1) := by decide +kernel
theorem d_CS_camel_13 : decode b_CS_camel 13 = .ok (.iconst 1, 1) := by decide +kernel
theorem d_CS_camel_14 : decode b_CS_camel 14 = .ok (.if_icmp .le 6, 3) := by decide +kernel
theorem d_CS_camel_17 : decode b_CS_camel 17 = .ok (.bipush (-2), 2) := by decide +kernel
theorem d_CS_camel_19 : decode b_CS_camel 19 = .ok (.ireturn, 1) := by decide +kernel
theorem d_CS_camel_20 : decode b_CS_camel 20 = .ok (.iload_n 2, 1) := by decide +kernel
theorem d_CS_camel_21 : decode b_CS_camel 21 = .ok (.ifCond .ne 15, 3) := by decide +kernel
theorem d_CS_camel_24 : decode b_CS_camel 24 = .ok (.aload_n 0, 1) := by decide +kernel
theorem d_CS_camel_25 : decode b_CS_camel 25 = .ok (.getfield 10, 3) := by decide +kernel
theorem d_CS_camel_28 : decode b_CS_camel 28 = .ok (.getfield 99, 3) := by decide +kernel
theorem d_CS_camel_31 : decode b_CS_camel 31 = .ok (.iload_n 1, 1) := by decide +kernel
theorem d_CS_camel_32 : decode b_CS_camel 32 = .ok (.iaload, 1) := by decide +kernel
theorem d_CS_camel_33 : decode b_CS_camel 33 = .ok (.goto 15, 3) := by decide +kernel
theorem d_CS_camel_36 : decode b_CS_camel 36 = .ok (.aload_n 0, 1) := by decide +kernel
theorem d_CS_camel_37 : decode b_CS_camel 37 = .ok (.getfield 10, 3) := by decide +kernel
theorem d_CS_camel_40 : decode b_CS_camel 40 = .ok (.getfield 103, 3) := by decide +kernel
theorem d_CS_camel_43 : decode b_CS_camel 43 = .ok (.iload_n 1, 1) := by decide +kernel
theorem d_CS_camel_44 : decode b_CS_camel 44 = .ok (.iaload, 1) := by decide +kernel
theorem d_CS_camel_45 : decode b_CS_camel 45 = .ok (.invokestatic 106, 3) := by decide +kernel
theorem d_CS_camel_48 : decode b_CS_camel 48 = .ok (.ireturn, 1) := by decide +kernel
theorem d_CS_isBale_0 : decode b_CS_isBale 0 = .ok (.iload_n 1, 1) := by decide +kernel
theorem d_CS_isBale_1 : decode b_CS_isBale 1 = .ok (.ifCond .lt 18, 3) := by decide +kernel
theorem d_CS_isBale_4 : decode b_CS_isBale 4 = .ok (.iload_n 1, 1) := by decide +kernel
theorem d_CS_isBale_5 : decode b_CS_isBale 5 = .ok (.aload_n 0, 1) := by decide +kernel
theorem d_CS_isBale_6 : decode b_CS_isBale 6 = .ok (.getfield 19, 3) := by decide +kernel
theorem d_CS_isBale_9 : decode b_CS_isBale 9 = .ok (.getfield 269, 3) := by decide +kernel
theorem d_CS_isBale_12 : decode b_CS_isBale 12 = .ok (.if_icmp .ge 7, 3) := by decide +kernel
theorem d_CS_isBale_15 : decode b_CS_isBale 15 = .ok (.iconst 1, 1) := by decide +kernel
theorem d_CS_isBale_16 : decode b_CS_isBale 16 = .ok (.goto 4, 3) := by decide +kernel
theorem d_CS_isBale_19 : decode b_CS_isBale 19 = .ok (.iconst 0, 1) := by decide +kernel
theorem d_CS_isBale_20 : decode b_CS_isBale 20 = .ok (.ireturn, 1) := by decide +kernel
theorem d_CS_bale_0 : decode b_CS_bale 0 = .ok (.aload_n 0, 1) := by decide +kernel
theorem d_CS_bale_1 : decode b_CS_bale 1 = .ok (.iload_n 1, 1) := by decide +kernel
theorem d_CS_bale_2 : decode b_CS_bale 2 = .ok (.invokevirtual 110, 3) := by decide +kernel
theorem d_CS_bale_5 : decode b_CS_bale 5 = .ok (.ifCond .ne 6, 3) := by decide +kernel
theorem d_CS_bale_8 : decode b_CS_bale 8 = .ok (.bipush (-2), 2) := by decide +kernel
theorem d_CS_bale_10 : decode b_CS_bale 10 = .ok (.ireturn, 1) := by decide +kernel
theorem d_CS_bale_11 : decode b_CS_bale 11 = .ok (.iload_n 2, 1) := by decide +kernel
theorem d_CS_bale_12 : decode b_CS_bale 12 = .ok (.tableswitch 58 0 2 #[28, 38, 48], 28) := by decide +kernel
theorem d_CS_bale_40 : decode b_CS_bale 40 = .ok (.aload_n 0, 1) := by decide +kernel
theorem d_CS_bale_41 : decode b_CS_bale 41 = .ok (.getfield 19, 3) := by decide +kernel
theorem d_CS_bale_44 : decode b_CS_bale 44 = .ok (.getfield 113, 3) := by decide +kernel
theorem d_CS_bale_47 : decode b_CS_bale 47 = .ok (.iload_n 1, 1) := by decide +kernel
theorem d_CS_bale_48 : decode b_CS_bale 48 = .ok (.iaload, 1) := by decide +kernel
theorem d_CS_bale_49 : decode b_CS_bale 49 = .ok (.ireturn, 1) := by decide +kernel
theorem d_CS_bale_50 : decode b_CS_bale 50 = .ok (.aload_n 0, 1) := by decide +kernel
theorem d_CS_bale_51 : decode b_CS_bale 51 = .ok (.getfield 19, 3) := by decide +kernel
theorem d_CS_bale_54 : decode b_CS_bale 54 = .ok (.getfield 115, 3) := by decide +kernel
theorem d_CS_bale_57 : decode b_CS_bale 57 = .ok (.iload_n 1, 1) := by decide +kernel
theorem d_CS_bale_58 : decode b_CS_bale 58 = .ok (.iaload, 1) := by decide +kernel
theorem d_CS_bale_59 : decode b_CS_bale 59 = .ok (.ireturn, 1) := by decide +kernel
theorem d_CS_bale_60 : decode b_CS_bale 60 = .ok (.aload_n 0, 1) := by decide +kernel
theorem d_CS_bale_61 : decode b_CS_bale 61 = .ok (.getfield 19, 3) := by decide +kernel
theorem d_CS_bale_64 : decode b_CS_bale 64 = .ok (.getfield 118, 3) := by decide +kernel
theorem d_CS_bale_67 : decode b_CS_bale 67 = .ok (.iload_n 1, 1) := by decide +kernel
theorem d_CS_bale_68 : decode b_CS_bale 68 = .ok (.iaload, 1) := by decide +kernel
theorem d_CS_bale_69 : decode b_CS_bale 69 = .ok (.ireturn, 1) := by decide +kernel
theorem d_CS_bale_70 : decode b_CS_bale 70 = .ok (.bipush (-2), 2) := by decide +kernel
theorem d_CS_bale_72 : decode b_CS_bale 72 = .ok (.ireturn, 1) := by decide +kernel
theorem d_CS_isDay_0 : decode b_CS_isDay 0 = .ok (.iload_n 0, 1) := by decide +kernel
theorem d_CS_isDay_1 : decode b_CS_isDay 1 = .ok (.ifCond .lt 13, 3) := by decide +kernel
theorem d_CS_isDay_4 : decode b_CS_isDay 4 = .ok (.iload_n 0, 1) := by decide +kernel
theorem d_CS_isDay_5 : decode b_CS_isDay 5 = .ok (.bipush 24, 2) := by decide +kernel
theorem d_CS_isDay_7 : decode b_CS_isDay 7 = .ok (.if_icmp .ge 7, 3) := by decide +kernel
theorem d_CS_isDay_10 : decode b_CS_isDay 10 = .ok (.iconst 1, 1) := by decide +kernel
theorem d_CS_isDay_11 : decode b_CS_isDay 11 = .ok (.goto 4, 3) := by decide +kernel
theorem d_CS_isDay_14 : decode b_CS_isDay 14 = .ok (.iconst 0, 1) := by decide +kernel
theorem d_CS_isDay_15 : decode b_CS_isDay 15 = .ok (.ireturn, 1) := by decide +kernel
theorem d_CS_isPlaceOfCamel_0 : decode b_CS_isPlaceOfCamel 0 = .ok (.iload_n 0, 1) := by decide +kernel
theorem d_CS_isPlaceOfCamel_1 : decode b_CS_isPlaceOfCamel 1 = .ok (.ifCond .lt 13, 3) := by decide +kernel
theorem d_CS_isPlaceOfCamel_4 : decode b_CS_isPlaceOfCamel 4 = .ok (.iload_n 0, 1) := by decide +kernel
theorem d_CS_isPlaceOfCamel_5 : decode b_CS_isPlaceOfCamel 5 = .ok (.bipush 8, 2) := by decide +kernel
theorem d_CS_isPlaceOfCamel_7 : decode b_CS_isPlaceOfCamel 7 = .ok (.if_icmp .ge 7, 3) := by decide +kernel
theorem d_CS_isPlaceOfCamel_10 : decode b_CS_isPlaceOfCamel 10 = .ok (.iconst 1, 1) := by decide +kernel
theorem d_CS_isPlaceOfCamel_11 : decode b_CS_isPlaceOfCamel 11 = .ok (.goto 4, 3) := by decide +kernel
theorem d_CS_isPlaceOfCamel_14 : decode b_CS_isPlaceOfCamel 14 = .ok (.iconst 0, 1) := by decide +kernel
theorem d_CS_isPlaceOfCamel_15 : decode b_CS_isPlaceOfCamel 15 = .ok (.ireturn, 1) := by decide +kernel
theorem d_St_append_0 : decode b_St_append 0 = .ok (.aload_n 0, 1) := by decide +kernel
theorem d_St_append_1 : decode b_St_append 1 = .ok (.getfield 18, 3) := by decide +kernel
theorem d_St_append_4 : decode b_St_append 4 = .ok (.bipush 8, 2) := by decide +kernel
theorem d_St_append_6 : decode b_St_append 6 = .ok (.if_icmp .lt 5, 3) := by decide +kernel
theorem d_St_append_9 : decode b_St_append 9 = .ok (.iconst 0, 1) := by decide +kernel
theorem d_St_append_10 : decode b_St_append 10 = .ok (.ireturn, 1) := by decide +kernel
theorem d_St_append_11 : decode b_St_append 11 = .ok (.aload_n 0, 1) := by decide +kernel
theorem d_St_append_12 : decode b_St_append 12 = .ok (.getfield 9, 3) := by decide +kernel
theorem d_St_append_15 : decode b_St_append 15 = .ok (.aload_n 0, 1) := by decide +kernel
theorem d_St_append_16 : decode b_St_append 16 = .ok (.getfield 18, 3) := by decide +kernel
theorem d_St_append_19 : decode b_St_append 19 = .ok (.iload_n 1, 1) := by decide +kernel
theorem d_St_append_20 : decode b_St_append 20 = .ok (.iastore, 1) := by decide +kernel
theorem d_St_append_21 : decode b_St_append 21 = .ok (.aload_n 0, 1) := by decide +kernel
theorem d_St_append_22 : decode b_St_append 22 = .ok (.getfield 15, 3) := by decide +kernel
theorem d_St_append_25 : decode b_St_append 25 = .ok (.aload_n 0, 1) := by decide +kernel
theorem d_St_append_26 : decode b_St_append 26 = .ok (.getfield 18, 3) := by decide +kernel
theorem d_St_append_29 : decode b_St_append 29 = .ok (.iload_n 2, 1) := by decide +kernel
theorem d_St_append_30 : decode b_St_append 30 = .ok (.iastore, 1) := by decide +kernel
theorem d_St_append_31 : decode b_St_append 31 = .ok (.aload_n 0, 1) := by decide +kernel
theorem d_St_append_32 : decode b_St_append 32 = .ok (.dup, 1) := by decide +kernel
theorem d_St_append_33 : decode b_St_append 33 = .ok (.getfield 18, 3) := by decide +kernel
theorem d_St_append_36 : decode b_St_append 36 = .ok (.iconst 1, 1) := by decide +kernel
theorem d_St_append_37 : decode b_St_append 37 = .ok (.iadd, 1) := by decide +kernel
theorem d_St_append_38 : decode b_St_append 38 = .ok (.putfield 18, 3) := by decide +kernel
theorem d_St_append_41 : decode b_St_append 41 = .ok (.iconst 1, 1) := by decide +kernel
theorem d_St_append_42 : decode b_St_append 42 = .ok (.ireturn, 1) := by decide +kernel
theorem d_CS_straw_0 : decode b_CS_straw 0 = .ok (.iload_n 1, 1) := by decide +kernel
theorem d_CS_straw_1 : decode b_CS_straw 1 = .ok (.invokestatic 121, 3) := by decide +kernel
theorem d_CS_straw_4 : decode b_CS_straw 4 = .ok (.ifCond .eq 10, 3) := by decide +kernel
theorem d_CS_straw_7 : decode b_CS_straw 7 = .ok (.iload_n 2, 1) := by decide +kernel
theorem d_CS_straw_8 : decode b_CS_straw 8 = .ok (.invokestatic 124, 3) := by decide +kernel
theorem d_CS_straw_11 : decode b_CS_straw 11 = .ok (.ifCond .ne 6, 3) := by decide +kernel
theorem d_CS_straw_14 : decode b_CS_straw 14 = .ok (.bipush (-2), 2) := by decide +kernel
theorem d_CS_straw_16 : decode b_CS_straw 16 = .ok (.ireturn, 1) := by decide +kernel
theorem d_CS_straw_17 : decode b_CS_straw 17 = .ok (.aload_n 0, 1) := by decide +kernel
theorem d_CS_straw_18 : decode b_CS_straw 18 = .ok (.getfield 32, 3) := by decide +kernel
theorem d_CS_straw_21 : decode b_CS_straw 21 = .ok (.iload_n 1, 1) := by decide +kernel
theorem d_CS_straw_22 : decode b_CS_straw 22 = .ok (.iload_n 2, 1) := by decide +kernel
theorem d_CS_straw_23 : decode b_CS_straw 23 = .ok (.invokevirtual 127, 3) := by decide +kernel
theorem d_CS_straw_26 : decode b_CS_straw 26 = .ok (.ifCond .eq 13, 3) := by decide +kernel
theorem d_CS_straw_29 : decode b_CS_straw 29 = .ok (.aload_n 0, 1) := by decide +kernel
theorem d_CS_straw_30 : decode b_CS_straw 30 = .ok (.getfield 32, 3) := by decide +kernel
theorem d_CS_straw_33 : decode b_CS_straw 33 = .ok (.getfield 130, 3) := by decide +kernel
theorem d_CS_straw_36 : decode b_CS_straw 36 = .ok (.goto 5, 3) := by decide +kernel
theorem d_CS_straw_39 : decode b_CS_straw 39 = .ok (.bipush (-4), 2) := by decide +kernel
theorem d_CS_straw_41 : decode b_CS_straw 41 = .ok (.ireturn, 1) := by decide +kernel
theorem d_CS_back_0 : decode b_CS_back 0 = .ok (.aload_n 0, 1) := by decide +kernel
theorem d_CS_back_1 : decode b_CS_back 1 = .ok (.getfield 32, 3) := by decide +kernel
theorem d_CS_back_4 : decode b_CS_back 4 = .ok (.getfield 130, 3) := by decide +kernel
theorem d_CS_back_7 : decode b_CS_back 7 = .ok (.ifCond .ne 6, 3) := by decide +kernel
theorem d_CS_back_10 : decode b_CS_back 10 = .ok (.bipush (-3), 2) := by decide +kernel
theorem d_CS_back_12 : decode b_CS_back 12 = .ok (.ireturn, 1) := by decide +kernel
theorem d_CS_back_13 : decode b_CS_back 13 = .ok (.aload_n 0, 1) := by decide +kernel
theorem d_CS_back_14 : decode b_CS_back 14 = .ok (.getfield 32, 3) := by decide +kernel
theorem d_CS_back_17 : decode b_CS_back 17 = .ok (.dup, 1) := by decide +kernel
theorem d_CS_back_18 : decode b_CS_back 18 = .ok (.getfield 130, 3) := by decide +kernel
theorem d_CS_back_21 : decode b_CS_back 21 = .ok (.iconst 1, 1) := by decide +kernel
theorem d_CS_back_22 : decode b_CS_back 22 = .ok (.isub, 1) := by decide +kernel
theorem d_CS_back_23 : decode b_CS_back 23 = .ok (.putfield 130, 3) := by decide +kernel
theorem d_CS_back_26 : decode b_CS_back 26 = .ok (.aload_n 0, 1) := by decide +kernel
theorem d_CS_back_27 : decode b_CS_back 27 = .ok (.getfield 32, 3) := by decide +kernel
theorem d_CS_back_30 : decode b_CS_back 30 = .ok (.getfield 130, 3) := by decide +kernel
theorem d_CS_back_33 : decode b_CS_back 33 = .ok (.ireturn, 1) := by decide +kernel
theorem d_CS_isSheet_0 : decode b_CS_isSheet 0 = .ok (.iload_n 0, 1) := by decide +kernel
theorem d_CS_isSheet_1 : decode b_CS_isSheet 1 = .ok (.ifCond .lt 12, 3) := by decide +kernel
theorem d_CS_isSheet_4 : decode b_CS_isSheet 4 = .ok (.iload_n 0, 1) := by decide +kernel
theorem d_CS_isSheet_5 : decode b_CS_isSheet 5 = .ok (.iconst 4, 1) := by decide +kernel
theorem d_CS_isSheet_6 : decode b_CS_isSheet 6 = .ok (.if_icmp .ge 7, 3) := by decide +kernel
theorem d_CS_isSheet_9 : decode b_CS_isSheet 9 = .ok (.iconst 1, 1) := by decide +kernel
theorem d_CS_isSheet_10 : decode b_CS_isSheet 10 = .ok (.goto 4, 3) := by decide +kernel
theorem d_CS_isSheet_13 : decode b_CS_isSheet 13 = .ok (.iconst 0, 1) := by decide +kernel
theorem d_CS_isSheet_14 : decode b_CS_isSheet 14 = .ok (.ireturn, 1) := by decide +kernel
theorem d_Sh_isLost_0 : decode b_Sh_isLost 0 = .ok (.aload_n 0, 1) := by decide +kernel
theorem d_Sh_isLost_1 : decode b_Sh_isLost 1 = .ok (.getfield 15, 3) := by decide +kernel
theorem d_Sh_isLost_4 : decode b_Sh_isLost 4 = .ok (.iconst (-1), 1) := by decide +kernel
theorem d_Sh_isLost_5 : decode b_Sh_isLost 5 = .ok (.if_icmp .ne 7, 3) := by decide +kernel
theorem d_Sh_isLost_8 : decode b_Sh_isLost 8 = .ok (.iconst 1, 1) := by decide +kernel
theorem d_Sh_isLost_9 : decode b_Sh_isLost 9 = .ok (.goto 4, 3) := by decide +kernel
theorem d_Sh_isLost_12 : decode b_Sh_isLost 12 = .ok (.iconst 0, 1) := by decide +kernel
theorem d_Sh_isLost_13 : decode b_Sh_isLost 13 = .ok (.ireturn, 1) := by decide +kernel
theorem d_CS_finding_0 : decode b_CS_finding 0 = .ok (.aload_n 0, 1) := by decide +kernel
theorem d_CS_finding_1 : decode b_CS_finding 1 = .ok (.iload_n 1, 1) := by decide +kernel
theorem d_CS_finding_2 : decode b_CS_finding 2 = .ok (.putfield 249, 3) := by decide +kernel
theorem d_CS_finding_5 : decode b_CS_finding 5 = .ok (.bipush (-10), 2) := by decide +kernel
theorem d_CS_finding_7 : decode b_CS_finding 7 = .ok (.iload_n 1, 1) := by decide +kernel
theorem d_CS_finding_8 : decode b_CS_finding 8 = .ok (.isub, 1) := by decide +kernel
theorem d_CS_finding_9 : decode b_CS_finding 9 = .ok (.ireturn, 1) := by decide +kernel
theorem d_CS_read_0 : decode b_CS_read 0 = .ok (.iload_n 1, 1) := by decide +kernel
theorem d_CS_read_1 : decode b_CS_read 1 = .ok (.invokestatic 133, 3) := by decide +kernel
theorem d_CS_read_4 : decode b_CS_read 4 = .ok (.ifCond .ne 6, 3) := by decide +kernel
theorem d_CS_read_7 : decode b_CS_read 7 = .ok (.bipush (-2), 2) := by decide +kernel
theorem d_CS_read_9 : decode b_CS_read 9 = .ok (.ireturn, 1) := by decide +kernel
theorem d_CS_read_10 : decode b_CS_read 10 = .ok (.aload_n 0, 1) := by decide +kernel
theorem d_CS_read_11 : decode b_CS_read 11 = .ok (.getfield 74, 3) := by decide +kernel
theorem d_CS_read_14 : decode b_CS_read 14 = .ok (.iload_n 1, 1) := by decide +kernel
theorem d_CS_read_15 : decode b_CS_read 15 = .ok (.aaload, 1) := by decide +kernel
theorem d_CS_read_16 : decode b_CS_read 16 = .ok (.astore_n 2, 1) := by decide +kernel
theorem d_CS_read_17 : decode b_CS_read 17 = .ok (.aload_n 2, 1) := by decide +kernel
theorem d_CS_read_18 : decode b_CS_read 18 = .ok (.invokevirtual 136, 3) := by decide +kernel
theorem d_CS_read_21 : decode b_CS_read 21 = .ok (.ifCond .eq 9, 3) := by decide +kernel
theorem d_CS_read_24 : decode b_CS_read 24 = .ok (.aload_n 0, 1) := by decide +kernel
theorem d_CS_read_25 : decode b_CS_read 25 = .ok (.iconst 1, 1) := by decide +kernel
theorem d_CS_read_26 : decode b_CS_read 26 = .ok (.invokevirtual 140, 3) := by decide +kernel
theorem d_CS_read_29 : decode b_CS_read 29 = .ok (.ireturn, 1) := by decide +kernel
theorem d_CS_read_30 : decode b_CS_read 30 = .ok (.iconst 0, 1) := by decide +kernel
theorem d_CS_read_31 : decode b_CS_read 31 = .ok (.istore_n 3, 1) := by decide +kernel
theorem d_CS_read_32 : decode b_CS_read 32 = .ok (.iconst 0, 1) := by decide +kernel
theorem d_CS_read_33 : decode b_CS_read 33 = .ok (.istore 4, 2) := by decide +kernel
theorem d_CS_read_35 : decode b_CS_read 35 = .ok (.iload 4, 2) := by decide +kernel
theorem d_CS_read_37 : decode b_CS_read 37 = .ok (.iconst 1, 1) := by decide +kernel
theorem d_CS_read_38 : decode b_CS_read 38 = .ok (.iadd, 1) := by decide +kernel
theorem d_CS_read_39 : decode b_CS_read 39 = .ok (.aload_n 2, 1) := by decide +kernel
theorem d_CS_read_40 : decode b_CS_read 40 = .ok (.getfield 143, 3) := by decide +kernel
theorem d_CS_read_43 : decode b_CS_read 43 = .ok (.if_icmp .ge 38, 3) := by decide +kernel
theorem d_CS_read_46 : decode b_CS_read 46 = .ok (.aload_n 0, 1) := by decide +kernel
theorem d_CS_read_47 : decode b_CS_read 47 = .ok (.aload_n 2, 1) := by decide +kernel
theorem d_CS_read_48 : decode b_CS_read 48 = .ok (.getfield 144, 3) := by decide +kernel
theorem d_CS_read_51 : decode b_CS_read 51 = .ok (.iload 4, 2) := by decide +kernel
theorem d_CS_read_53 : decode b_CS_read 53 = .ok (.iaload, 1) := by decide +kernel
theorem d_CS_read_54 : decode b_CS_read 54 = .ok (.aload_n 2, 1) := by decide +kernel
theorem d_CS_read_55 : decode b_CS_read 55 = .ok (.getfield 144, 3) := by decide +kernel
theorem d_CS_read_58 : decode b_CS_read 58 = .ok (.iload 4, 2) := by decide +kernel
theorem d_CS_read_60 : decode b_CS_read 60 = .ok (.iconst 1, 1) := by decide +kernel
theorem d_CS_read_61 : decode b_CS_read 61 = .ok (.iadd, 1) := by decide +kernel
theorem d_CS_read_62 : decode b_CS_read 62 = .ok (.iaload, 1) := by decide +kernel
theorem d_CS_read_63 : decode b_CS_read 63 = .ok (.invokevirtual 147, 3) := by decide +kernel
theorem d_CS_read_66 : decode b_CS_read 66 = .ok (.ifCond .ge 6, 3) := by decide +kernel
theorem d_CS_read_69 : decode b_CS_read 69 = .ok (.goto 12, 3) := by decide +kernel
theorem d_CS_read_72 : decode b_CS_read 72 = .ok (.iinc 3 1, 3) := by decide +kernel
theorem d_CS_read_75 : decode b_CS_read 75 = .ok (.iinc 4 2, 3) := by decide +kernel
theorem d_CS_read_78 : decode b_CS_read 78 = .ok (.goto (-43), 3) := by decide +kernel
theorem d_CS_read_81 : decode b_CS_read 81 = .ok (.iload_n 3, 1) := by decide +kernel
theorem d_CS_read_82 : decode b_CS_read 82 = .ok (.ireturn, 1) := by decide +kernel
theorem d_Cv_busyDaysOf_0 : decode b_Cv_busyDaysOf 0 = .ok (.iconst 0, 1) := by decide +kernel
theorem d_Cv_busyDaysOf_1 : decode b_Cv_busyDaysOf 1 = .ok (.istore_n 2, 1) := by decide +kernel
theorem d_Cv_busyDaysOf_2 : decode b_Cv_busyDaysOf 2 = .ok (.iconst 0, 1) := by decide +kernel
theorem d_Cv_busyDaysOf_3 : decode b_Cv_busyDaysOf 3 = .ok (.istore_n 3, 1) := by decide +kernel
theorem d_Cv_busyDaysOf_4 : decode b_Cv_busyDaysOf 4 = .ok (.iload_n 3, 1) := by decide +kernel
theorem d_Cv_busyDaysOf_5 : decode b_Cv_busyDaysOf 5 = .ok (.aload_n 0, 1) := by decide +kernel
theorem d_Cv_busyDaysOf_6 : decode b_Cv_busyDaysOf 6 = .ok (.getfield 26, 3) := by decide +kernel
theorem d_Cv_busyDaysOf_9 : decode b_Cv_busyDaysOf 9 = .ok (.getfield 57, 3) := by decide +kernel
theorem d_Cv_busyDaysOf_12 : decode b_Cv_busyDaysOf 12 = .ok (.if_icmp .ge 36, 3) := by decide +kernel
theorem d_Cv_busyDaysOf_15 : decode b_Cv_busyDaysOf 15 = .ok (.aload_n 0, 1) := by decide +kernel
theorem d_Cv_busyDaysOf_16 : decode b_Cv_busyDaysOf 16 = .ok (.getfield 26, 3) := by decide +kernel
theorem d_Cv_busyDaysOf_19 : decode b_Cv_busyDaysOf 19 = .ok (.getfield 66, 3) := by decide +kernel
theorem d_Cv_busyDaysOf_22 : decode b_Cv_busyDaysOf 22 = .ok (.iload_n 3, 1) := by decide +kernel
theorem d_Cv_busyDaysOf_23 : decode b_Cv_busyDaysOf 23 = .ok (.iaload, 1) := by decide +kernel
theorem d_Cv_busyDaysOf_24 : decode b_Cv_busyDaysOf 24 = .ok (.iload_n 1, 1) := by decide +kernel
theorem d_Cv_busyDaysOf_25 : decode b_Cv_busyDaysOf 25 = .ok (.if_icmp .ne 17, 3) := by decide +kernel
theorem d_Cv_busyDaysOf_28 : decode b_Cv_busyDaysOf 28 = .ok (.iload_n 2, 1) := by decide +kernel
theorem d_Cv_busyDaysOf_29 : decode b_Cv_busyDaysOf 29 = .ok (.iconst 1, 1) := by decide +kernel
theorem d_Cv_busyDaysOf_30 : decode b_Cv_busyDaysOf 30 = .ok (.aload_n 0, 1) := by decide +kernel
theorem d_Cv_busyDaysOf_31 : decode b_Cv_busyDaysOf 31 = .ok (.getfield 26, 3) := by decide +kernel
theorem d_Cv_busyDaysOf_34 : decode b_Cv_busyDaysOf 34 = .ok (.getfield 63, 3) := by decide +kernel
theorem d_Cv_busyDaysOf_37 : decode b_Cv_busyDaysOf 37 = .ok (.iload_n 3, 1) := by decide +kernel
theorem d_Cv_busyDaysOf_38 : decode b_Cv_busyDaysOf 38 = .ok (.iaload, 1) := by decide +kernel
theorem d_Cv_busyDaysOf_39 : decode b_Cv_busyDaysOf 39 = .ok (.ishl, 1) := by decide +kernel
theorem d_Cv_busyDaysOf_40 : decode b_Cv_busyDaysOf 40 = .ok (.ior, 1) := by decide +kernel
theorem d_Cv_busyDaysOf_41 : decode b_Cv_busyDaysOf 41 = .ok (.istore_n 2, 1) := by decide +kernel
theorem d_Cv_busyDaysOf_42 : decode b_Cv_busyDaysOf 42 = .ok (.iinc 3 1, 3) := by decide +kernel
theorem d_Cv_busyDaysOf_45 : decode b_Cv_busyDaysOf 45 = .ok (.goto (-41), 3) := by decide +kernel
theorem d_Cv_busyDaysOf_48 : decode b_Cv_busyDaysOf 48 = .ok (.iconst 0, 1) := by decide +kernel
theorem d_Cv_busyDaysOf_49 : decode b_Cv_busyDaysOf 49 = .ok (.istore_n 3, 1) := by decide +kernel
theorem d_Cv_busyDaysOf_50 : decode b_Cv_busyDaysOf 50 = .ok (.iload_n 3, 1) := by decide +kernel
theorem d_Cv_busyDaysOf_51 : decode b_Cv_busyDaysOf 51 = .ok (.aload_n 0, 1) := by decide +kernel
theorem d_Cv_busyDaysOf_52 : decode b_Cv_busyDaysOf 52 = .ok (.getfield 30, 3) := by decide +kernel
theorem d_Cv_busyDaysOf_55 : decode b_Cv_busyDaysOf 55 = .ok (.getfield 77, 3) := by decide +kernel
theorem d_Cv_busyDaysOf_58 : decode b_Cv_busyDaysOf 58 = .ok (.if_icmp .ge 36, 3) := by decide +kernel
theorem d_Cv_busyDaysOf_61 : decode b_Cv_busyDaysOf 61 = .ok (.aload_n 0, 1) := by decide +kernel
theorem d_Cv_busyDaysOf_62 : decode b_Cv_busyDaysOf 62 = .ok (.getfield 30, 3) := by decide +kernel
theorem d_Cv_busyDaysOf_65 : decode b_Cv_busyDaysOf 65 = .ok (.getfield 83, 3) := by decide +kernel
theorem d_Cv_busyDaysOf_68 : decode b_Cv_busyDaysOf 68 = .ok (.iload_n 3, 1) := by decide +kernel
theorem d_Cv_busyDaysOf_69 : decode b_Cv_busyDaysOf 69 = .ok (.iaload, 1) := by decide +kernel
theorem d_Cv_busyDaysOf_70 : decode b_Cv_busyDaysOf 70 = .ok (.iload_n 1, 1) := by decide +kernel
theorem d_Cv_busyDaysOf_71 : decode b_Cv_busyDaysOf 71 = .ok (.if_icmp .ne 17, 3) := by decide +kernel
theorem d_Cv_busyDaysOf_74 : decode b_Cv_busyDaysOf 74 = .ok (.iload_n 2, 1) := by decide +kernel
theorem d_Cv_busyDaysOf_75 : decode b_Cv_busyDaysOf 75 = .ok (.iconst 1, 1) := by decide +kernel
theorem d_Cv_busyDaysOf_76 : decode b_Cv_busyDaysOf 76 = .ok (.aload_n 0, 1) := by decide +kernel
theorem d_Cv_busyDaysOf_77 : decode b_Cv_busyDaysOf 77 = .ok (.getfield 30, 3) := by decide +kernel
theorem d_Cv_busyDaysOf_80 : decode b_Cv_busyDaysOf 80 = .ok (.getfield 82, 3) := by decide +kernel
theorem d_Cv_busyDaysOf_83 : decode b_Cv_busyDaysOf 83 = .ok (.iload_n 3, 1) := by decide +kernel
theorem d_Cv_busyDaysOf_84 : decode b_Cv_busyDaysOf 84 = .ok (.iaload, 1) := by decide +kernel
theorem d_Cv_busyDaysOf_85 : decode b_Cv_busyDaysOf 85 = .ok (.ishl, 1) := by decide +kernel
theorem d_Cv_busyDaysOf_86 : decode b_Cv_busyDaysOf 86 = .ok (.ior, 1) := by decide +kernel
theorem d_Cv_busyDaysOf_87 : decode b_Cv_busyDaysOf 87 = .ok (.istore_n 2, 1) := by decide +kernel
theorem d_Cv_busyDaysOf_88 : decode b_Cv_busyDaysOf 88 = .ok (.iinc 3 1, 3) := by decide +kernel
theorem d_Cv_busyDaysOf_91 : decode b_Cv_busyDaysOf 91 = .ok (.goto (-41), 3) := by decide +kernel
theorem d_Cv_busyDaysOf_94 : decode b_Cv_busyDaysOf 94 = .ok (.iload_n 2, 1) := by decide +kernel
theorem d_Cv_busyDaysOf_95 : decode b_Cv_busyDaysOf 95 = .ok (.ireturn, 1) := by decide +kernel
theorem d_Wa_start_0 : decode b_Wa_start 0 = .ok (.aload_n 0, 1) := by decide +kernel
theorem d_Wa_start_1 : decode b_Wa_start 1 = .ok (.iload_n 1, 1) := by decide +kernel
theorem d_Wa_start_2 : decode b_Wa_start 2 = .ok (.putfield 15, 3) := by decide +kernel
theorem d_Wa_start_5 : decode b_Wa_start 5 = .ok (.aload_n 0, 1) := by decide +kernel
theorem d_Wa_start_6 : decode b_Wa_start 6 = .ok (.iload_n 2, 1) := by decide +kernel
theorem d_Wa_start_7 : decode b_Wa_start 7 = .ok (.putfield 19, 3) := by decide +kernel
theorem d_Wa_start_10 : decode b_Wa_start 10 = .ok (.aload_n 0, 1) := by decide +kernel
theorem d_Wa_start_11 : decode b_Wa_start 11 = .ok (.iload_n 2, 1) := by decide +kernel
theorem d_Wa_start_12 : decode b_Wa_start 12 = .ok (.putfield 22, 3) := by decide +kernel
theorem d_Wa_start_15 : decode b_Wa_start 15 = .ok (.aload_n 0, 1) := by decide +kernel
theorem d_Wa_start_16 : decode b_Wa_start 16 = .ok (.iconst 0, 1) := by decide +kernel
theorem d_Wa_start_17 : decode b_Wa_start 17 = .ok (.putfield 25, 3) := by decide +kernel
theorem d_Wa_start_20 : decode b_Wa_start 20 = .ok (.aload_n 0, 1) := by decide +kernel
theorem d_Wa_start_21 : decode b_Wa_start 21 = .ok (.iconst 0, 1) := by decide +kernel
theorem d_Wa_start_22 : decode b_Wa_start 22 = .ok (.putfield 28, 3) := by decide +kernel
theorem d_Wa_start_25 : decode b_Wa_start 25 = .ok (.aload_n 0, 1) := by decide +kernel
theorem d_Wa_start_26 : decode b_Wa_start 26 = .ok (.iconst 0, 1) := by decide +kernel
theorem d_Wa_start_27 : decode b_Wa_start 27 = .ok (.putfield 32, 3) := by decide +kernel
theorem d_Wa_start_30 : decode b_Wa_start 30 = .ok (.aload_n 0, 1) := by decide +kernel
theorem d_Wa_start_31 : decode b_Wa_start 31 = .ok (.iconst 0, 1) := by decide +kernel
theorem d_Wa_start_32 : decode b_Wa_start 32 = .ok (.putfield 35, 3) := by decide +kernel
theorem d_Wa_start_35 : decode b_Wa_start 35 = .ok (.aload_n 0, 1) := by decide +kernel
theorem d_Wa_start_36 : decode b_Wa_start 36 = .ok (.iconst 0, 1) := by decide +kernel
theorem d_Wa_start_37 : decode b_Wa_start 37 = .ok (.putfield 38, 3) := by decide +kernel
theorem d_Wa_start_40 : decode b_Wa_start 40 = .ok (.aload_n 0, 1) := by decide +kernel
theorem d_Wa_start_41 : decode b_Wa_start 41 = .ok (.iconst 0, 1) := by decide +kernel
theorem d_Wa_start_42 : decode b_Wa_start 42 = .ok (.putfield 41, 3) := by decide +kernel
theorem d_Wa_start_45 : decode b_Wa_start 45 = .ok (.aload_n 0, 1) := by decide +kernel
theorem d_Wa_start_46 : decode b_Wa_start 46 = .ok (.iconst (-1), 1) := by decide +kernel
theorem d_Wa_start_47 : decode b_Wa_start 47 = .ok (.putfield 44, 3) := by decide +kernel
theorem d_Wa_start_50 : decode b_Wa_start 50 = .ok (.return_, 1) := by decide +kernel
theorem d_Wa_rise_0 : decode b_Wa_rise 0 = .ok (.aload_n 0, 1) := by decide +kernel
theorem d_Wa_rise_1 : decode b_Wa_rise 1 = .ok (.getfield 28, 3) := by decide +kernel
theorem d_Wa_rise_4 : decode b_Wa_rise 4 = .ok (.ifCond .eq 18, 3) := by decide +kernel
theorem d_Wa_rise_7 : decode b_Wa_rise 7 = .ok (.iload_n 1, 1) := by decide +kernel
theorem d_Wa_rise_8 : decode b_Wa_rise 8 = .ok (.aload_n 0, 1) := by decide +kernel
theorem d_Wa_rise_9 : decode b_Wa_rise 9 = .ok (.getfield 47, 3) := by decide +kernel
theorem d_Wa_rise_12 : decode b_Wa_rise 12 = .ok (.isub, 1) := by decide +kernel
theorem d_Wa_rise_13 : decode b_Wa_rise 13 = .ok (.iconst 3, 1) := by decide +kernel
theorem d_Wa_rise_14 : decode b_Wa_rise 14 = .ok (.if_icmp .lt 8, 3) := by decide +kernel
theorem d_Wa_rise_17 : decode b_Wa_rise 17 = .ok (.aload_n 0, 1) := by decide +kernel
theorem d_Wa_rise_18 : decode b_Wa_rise 18 = .ok (.iconst 0, 1) := by decide +kernel
theorem d_Wa_rise_19 : decode b_Wa_rise 19 = .ok (.putfield 28, 3) := by decide +kernel
theorem d_Wa_rise_22 : decode b_Wa_rise 22 = .ok (.return_, 1) := by decide +kernel
theorem d_Wa_take_0 : decode b_Wa_take 0 = .ok (.aload_n 0, 1) := by decide +kernel
theorem d_Wa_take_1 : decode b_Wa_take 1 = .ok (.getfield 28, 3) := by decide +kernel
theorem d_Wa_take_4 : decode b_Wa_take 4 = .ok (.ifCond .ne 13, 3) := by decide +kernel
theorem d_Wa_take_7 : decode b_Wa_take 7 = .ok (.aload_n 0, 1) := by decide +kernel
theorem d_Wa_take_8 : decode b_Wa_take 8 = .ok (.dup, 1) := by decide +kernel
theorem d_Wa_take_9 : decode b_Wa_take 9 = .ok (.getfield 25, 3) := by decide +kernel
theorem d_Wa_take_12 : decode b_Wa_take 12 = .ok (.iload_n 1, 1) := by decide +kernel
theorem d_Wa_take_13 : decode b_Wa_take 13 = .ok (.iadd, 1) := by decide +kernel
theorem d_Wa_take_14 : decode b_Wa_take 14 = .ok (.putfield 25, 3) := by decide +kernel
theorem d_Wa_take_17 : decode b_Wa_take 17 = .ok (.return_, 1) := by decide +kernel
theorem d_Wa_breakIfOver_0 : decode b_Wa_breakIfOver 0 = .ok (.aload_n 0, 1) := by decide +kernel
theorem d_Wa_breakIfOver_1 : decode b_Wa_breakIfOver 1 = .ok (.getfield 25, 3) := by decide +kernel
theorem d_Wa_breakIfOver_4 : decode b_Wa_breakIfOver 4 = .ok (.aload_n 0, 1) := by decide +kernel
theorem d_Wa_breakIfOver_5 : decode b_Wa_breakIfOver 5 = .ok (.getfield 22, 3) := by decide +kernel
theorem d_Wa_breakIfOver_8 : decode b_Wa_breakIfOver 8 = .ok (.if_icmp .gt 4, 3) := by decide +kernel
theorem d_Wa_breakIfOver_11 : decode b_Wa_breakIfOver 11 = .ok (.return_, 1) := by decide +kernel
theorem d_Wa_breakIfOver_12 : decode b_Wa_breakIfOver 12 = .ok (.aload_n 0, 1) := by decide +kernel
theorem d_Wa_breakIfOver_13 : decode b_Wa_breakIfOver 13 = .ok (.iconst 1, 1) := by decide +kernel
theorem d_Wa_breakIfOver_14 : decode b_Wa_breakIfOver 14 = .ok (.putfield 28, 3) := by decide +kernel
theorem d_Wa_breakIfOver_17 : decode b_Wa_breakIfOver 17 = .ok (.aload_n 0, 1) := by decide +kernel
theorem d_Wa_breakIfOver_18 : decode b_Wa_breakIfOver 18 = .ok (.iload_n 1, 1) := by decide +kernel
theorem d_Wa_breakIfOver_19 : decode b_Wa_breakIfOver 19 = .ok (.putfield 47, 3) := by decide +kernel
theorem d_Wa_breakIfOver_22 : decode b_Wa_breakIfOver 22 = .ok (.aload_n 0, 1) := by decide +kernel
theorem d_Wa_breakIfOver_23 : decode b_Wa_breakIfOver 23 = .ok (.getfield 44, 3) := by decide +kernel
theorem d_Wa_breakIfOver_26 : decode b_Wa_breakIfOver 26 = .ok (.iconst (-1), 1) := by decide +kernel
theorem d_Wa_breakIfOver_27 : decode b_Wa_breakIfOver 27 = .ok (.if_icmp .ne 8, 3) := by decide +kernel
theorem d_Wa_breakIfOver_30 : decode b_Wa_breakIfOver 30 = .ok (.aload_n 0, 1) := by decide +kernel
theorem d_Wa_breakIfOver_31 : decode b_Wa_breakIfOver 31 = .ok (.iload_n 1, 1) := by decide +kernel
theorem d_Wa_breakIfOver_32 : decode b_Wa_breakIfOver 32 = .ok (.putfield 44, 3) := by decide +kernel
theorem d_Wa_breakIfOver_35 : decode b_Wa_breakIfOver 35 = .ok (.aload_n 0, 1) := by decide +kernel
theorem d_Wa_breakIfOver_36 : decode b_Wa_breakIfOver 36 = .ok (.dup, 1) := by decide +kernel
theorem d_Wa_breakIfOver_37 : decode b_Wa_breakIfOver 37 = .ok (.getfield 41, 3) := by decide +kernel
theorem d_Wa_breakIfOver_40 : decode b_Wa_breakIfOver 40 = .ok (.iconst 1, 1) := by decide +kernel
theorem d_Wa_breakIfOver_41 : decode b_Wa_breakIfOver 41 = .ok (.iadd, 1) := by decide +kernel
theorem d_Wa_breakIfOver_42 : decode b_Wa_breakIfOver 42 = .ok (.putfield 41, 3) := by decide +kernel
theorem d_Wa_breakIfOver_45 : decode b_Wa_breakIfOver 45 = .ok (.aload_n 0, 1) := by decide +kernel
theorem d_Wa_breakIfOver_46 : decode b_Wa_breakIfOver 46 = .ok (.dup, 1) := by decide +kernel
theorem d_Wa_breakIfOver_47 : decode b_Wa_breakIfOver 47 = .ok (.getfield 38, 3) := by decide +kernel
theorem d_Wa_breakIfOver_50 : decode b_Wa_breakIfOver 50 = .ok (.aload_n 0, 1) := by decide +kernel
theorem d_Wa_breakIfOver_51 : decode b_Wa_breakIfOver 51 = .ok (.getfield 25, 3) := by decide +kernel
theorem d_Wa_breakIfOver_54 : decode b_Wa_breakIfOver 54 = .ok (.iadd, 1) := by decide +kernel
theorem d_Wa_breakIfOver_55 : decode b_Wa_breakIfOver 55 = .ok (.putfield 38, 3) := by decide +kernel
theorem d_Wa_breakIfOver_58 : decode b_Wa_breakIfOver 58 = .ok (.aload_n 0, 1) := by decide +kernel
theorem d_Wa_breakIfOver_59 : decode b_Wa_breakIfOver 59 = .ok (.iconst 0, 1) := by decide +kernel
theorem d_Wa_breakIfOver_60 : decode b_Wa_breakIfOver 60 = .ok (.putfield 25, 3) := by decide +kernel
theorem d_Wa_breakIfOver_63 : decode b_Wa_breakIfOver 63 = .ok (.aload_n 0, 1) := by decide +kernel
theorem d_Wa_breakIfOver_64 : decode b_Wa_breakIfOver 64 = .ok (.aload_n 0, 1) := by decide +kernel
theorem d_Wa_breakIfOver_65 : decode b_Wa_breakIfOver 65 = .ok (.getfield 22, 3) := by decide +kernel
theorem d_Wa_breakIfOver_68 : decode b_Wa_breakIfOver 68 = .ok (.iconst 3, 1) := by decide +kernel
theorem d_Wa_breakIfOver_69 : decode b_Wa_breakIfOver 69 = .ok (.if_icmp .le 12, 3) := by decide +kernel
theorem d_Wa_breakIfOver_72 : decode b_Wa_breakIfOver 72 = .ok (.aload_n 0, 1) := by decide +kernel
theorem d_Wa_breakIfOver_73 : decode b_Wa_breakIfOver 73 = .ok (.getfield 22, 3) := by decide +kernel
theorem d_Wa_breakIfOver_76 : decode b_Wa_breakIfOver 76 = .ok (.iconst 3, 1) := by decide +kernel
theorem d_Wa_breakIfOver_77 : decode b_Wa_breakIfOver 77 = .ok (.isub, 1) := by decide +kernel
theorem d_Wa_breakIfOver_78 : decode b_Wa_breakIfOver 78 = .ok (.goto 4, 3) := by decide +kernel
theorem d_Wa_breakIfOver_81 : decode b_Wa_breakIfOver 81 = .ok (.iconst 0, 1) := by decide +kernel
theorem d_Wa_breakIfOver_82 : decode b_Wa_breakIfOver 82 = .ok (.putfield 22, 3) := by decide +kernel
theorem d_Wa_breakIfOver_85 : decode b_Wa_breakIfOver 85 = .ok (.return_, 1) := by decide +kernel
theorem d_Wa_payIfLast_0 : decode b_Wa_payIfLast 0 = .ok (.aload_n 0, 1) := by decide +kernel
theorem d_Wa_payIfLast_1 : decode b_Wa_payIfLast 1 = .ok (.getfield 28, 3) := by decide +kernel
theorem d_Wa_payIfLast_4 : decode b_Wa_payIfLast 4 = .ok (.ifCond .ne 27, 3) := by decide +kernel
theorem d_Wa_payIfLast_7 : decode b_Wa_payIfLast 7 = .ok (.aload_n 0, 1) := by decide +kernel
theorem d_Wa_payIfLast_8 : decode b_Wa_payIfLast 8 = .ok (.getfield 25, 3) := by decide +kernel
theorem d_Wa_payIfLast_11 : decode b_Wa_payIfLast 11 = .ok (.aload_n 0, 1) := by decide +kernel
theorem d_Wa_payIfLast_12 : decode b_Wa_payIfLast 12 = .ok (.getfield 22, 3) := by decide +kernel
theorem d_Wa_payIfLast_15 : decode b_Wa_payIfLast 15 = .ok (.if_icmp .ne 16, 3) := by decide +kernel
theorem d_Wa_payIfLast_18 : decode b_Wa_payIfLast 18 = .ok (.aload_n 0, 1) := by decide +kernel
theorem d_Wa_payIfLast_19 : decode b_Wa_payIfLast 19 = .ok (.dup, 1) := by decide +kernel
theorem d_Wa_payIfLast_20 : decode b_Wa_payIfLast 20 = .ok (.getfield 32, 3) := by decide +kernel
theorem d_Wa_payIfLast_23 : decode b_Wa_payIfLast 23 = .ok (.aload_n 0, 1) := by decide +kernel
theorem d_Wa_payIfLast_24 : decode b_Wa_payIfLast 24 = .ok (.getfield 25, 3) := by decide +kernel
theorem d_Wa_payIfLast_27 : decode b_Wa_payIfLast 27 = .ok (.iadd, 1) := by decide +kernel
theorem d_Wa_payIfLast_28 : decode b_Wa_payIfLast 28 = .ok (.putfield 32, 3) := by decide +kernel
theorem d_Wa_payIfLast_31 : decode b_Wa_payIfLast 31 = .ok (.return_, 1) := by decide +kernel
theorem d_Wa_measureRoom_0 : decode b_Wa_measureRoom 0 = .ok (.aload_n 0, 1) := by decide +kernel
theorem d_Wa_measureRoom_1 : decode b_Wa_measureRoom 1 = .ok (.aload_n 0, 1) := by decide +kernel
theorem d_Wa_measureRoom_2 : decode b_Wa_measureRoom 2 = .ok (.getfield 28, 3) := by decide +kernel
theorem d_Wa_measureRoom_5 : decode b_Wa_measureRoom 5 = .ok (.ifCond .eq 7, 3) := by decide +kernel
theorem d_Wa_measureRoom_8 : decode b_Wa_measureRoom 8 = .ok (.iconst 0, 1) := by decide +kernel
theorem d_Wa_measureRoom_9 : decode b_Wa_measureRoom 9 = .ok (.goto 12, 3) := by decide +kernel
theorem d_Wa_measureRoom_12 : decode b_Wa_measureRoom 12 = .ok (.aload_n 0, 1) := by decide +kernel
theorem d_Wa_measureRoom_13 : decode b_Wa_measureRoom 13 = .ok (.getfield 22, 3) := by decide +kernel
theorem d_Wa_measureRoom_16 : decode b_Wa_measureRoom 16 = .ok (.aload_n 0, 1) := by decide +kernel
theorem d_Wa_measureRoom_17 : decode b_Wa_measureRoom 17 = .ok (.getfield 25, 3) := by decide +kernel
theorem d_Wa_measureRoom_20 : decode b_Wa_measureRoom 20 = .ok (.isub, 1) := by decide +kernel
theorem d_Wa_measureRoom_21 : decode b_Wa_measureRoom 21 = .ok (.putfield 50, 3) := by decide +kernel
theorem d_Wa_measureRoom_24 : decode b_Wa_measureRoom 24 = .ok (.return_, 1) := by decide +kernel
theorem d_Wa_wear_0 : decode b_Wa_wear 0 = .ok (.aload_n 0, 1) := by decide +kernel
theorem d_Wa_wear_1 : decode b_Wa_wear 1 = .ok (.getfield 28, 3) := by decide +kernel
theorem d_Wa_wear_4 : decode b_Wa_wear 4 = .ok (.ifCond .eq 4, 3) := by decide +kernel
theorem d_Wa_wear_7 : decode b_Wa_wear 7 = .ok (.return_, 1) := by decide +kernel
theorem d_Wa_wear_8 : decode b_Wa_wear 8 = .ok (.aload_n 0, 1) := by decide +kernel
theorem d_Wa_wear_9 : decode b_Wa_wear 9 = .ok (.getfield 25, 3) := by decide +kernel
theorem d_Wa_wear_12 : decode b_Wa_wear 12 = .ok (.ifCond .ne 32, 3) := by decide +kernel
theorem d_Wa_wear_15 : decode b_Wa_wear 15 = .ok (.aload_n 0, 1) := by decide +kernel
theorem d_Wa_wear_16 : decode b_Wa_wear 16 = .ok (.aload_n 0, 1) := by decide +kernel
theorem d_Wa_wear_17 : decode b_Wa_wear 17 = .ok (.getfield 22, 3) := by decide +kernel
theorem d_Wa_wear_20 : decode b_Wa_wear 20 = .ok (.aload_n 0, 1) := by decide +kernel
theorem d_Wa_wear_21 : decode b_Wa_wear 21 = .ok (.getfield 19, 3) := by decide +kernel
theorem d_Wa_wear_24 : decode b_Wa_wear 24 = .ok (.if_icmp .ge 12, 3) := by decide +kernel
theorem d_Wa_wear_27 : decode b_Wa_wear 27 = .ok (.aload_n 0, 1) := by decide +kernel
theorem d_Wa_wear_28 : decode b_Wa_wear 28 = .ok (.getfield 22, 3) := by decide +kernel
theorem d_Wa_wear_31 : decode b_Wa_wear 31 = .ok (.iconst 1, 1) := by decide +kernel
theorem d_Wa_wear_32 : decode b_Wa_wear 32 = .ok (.iadd, 1) := by decide +kernel
theorem d_Wa_wear_33 : decode b_Wa_wear 33 = .ok (.goto 7, 3) := by decide +kernel
theorem d_Wa_wear_36 : decode b_Wa_wear 36 = .ok (.aload_n 0, 1) := by decide +kernel
theorem d_Wa_wear_37 : decode b_Wa_wear 37 = .ok (.getfield 19, 3) := by decide +kernel
theorem d_Wa_wear_40 : decode b_Wa_wear 40 = .ok (.putfield 22, 3) := by decide +kernel
theorem d_Wa_wear_43 : decode b_Wa_wear 43 = .ok (.return_, 1) := by decide +kernel
theorem d_Wa_wear_44 : decode b_Wa_wear 44 = .ok (.aload_n 0, 1) := by decide +kernel
theorem d_Wa_wear_45 : decode b_Wa_wear 45 = .ok (.getfield 15, 3) := by decide +kernel
theorem d_Wa_wear_48 : decode b_Wa_wear 48 = .ok (.iconst 2, 1) := by decide +kernel
theorem d_Wa_wear_49 : decode b_Wa_wear 49 = .ok (.if_icmp .eq 38, 3) := by decide +kernel
theorem d_Wa_wear_52 : decode b_Wa_wear 52 = .ok (.aload_n 0, 1) := by decide +kernel
theorem d_Wa_wear_53 : decode b_Wa_wear 53 = .ok (.getfield 15, 3) := by decide +kernel
theorem d_Wa_wear_56 : decode b_Wa_wear 56 = .ok (.ifCond .ne 10, 3) := by decide +kernel
theorem d_Wa_wear_59 : decode b_Wa_wear 59 = .ok (.iload_n 1, 1) := by decide +kernel
theorem d_Wa_wear_60 : decode b_Wa_wear 60 = .ok (.iconst 3, 1) := by decide +kernel
theorem d_Wa_wear_61 : decode b_Wa_wear 61 = .ok (.irem, 1) := by decide +kernel
theorem d_Wa_wear_62 : decode b_Wa_wear 62 = .ok (.iconst 2, 1) := by decide +kernel
theorem d_Wa_wear_63 : decode b_Wa_wear 63 = .ok (.if_icmp .eq 24, 3) := by decide +kernel
theorem d_Wa_wear_66 : decode b_Wa_wear 66 = .ok (.aload_n 0, 1) := by decide +kernel
theorem d_Wa_wear_67 : decode b_Wa_wear 67 = .ok (.getfield 15, 3) := by decide +kernel
theorem d_Wa_wear_70 : decode b_Wa_wear 70 = .ok (.iconst 1, 1) := by decide +kernel
theorem d_Wa_wear_71 : decode b_Wa_wear 71 = .ok (.if_icmp .ne 20, 3) := by decide +kernel
theorem d_Wa_wear_74 : decode b_Wa_wear 74 = .ok (.iconst 2, 1) := by decide +kernel
theorem d_Wa_wear_75 : decode b_Wa_wear 75 = .ok (.aload_n 0, 1) := by decide +kernel
theorem d_Wa_wear_76 : decode b_Wa_wear 76 = .ok (.getfield 25, 3) := by decide +kernel
theorem d_Wa_wear_79 : decode b_Wa_wear 79 = .ok (.imul, 1) := by decide +kernel
theorem d_Wa_wear_80 : decode b_Wa_wear 80 = .ok (.aload_n 0, 1) := by decide +kernel
theorem d_Wa_wear_81 : decode b_Wa_wear 81 = .ok (.getfield 22, 3) := by decide +kernel
theorem d_Wa_wear_84 : decode b_Wa_wear 84 = .ok (.if_icmp .le 7, 3) := by decide +kernel
theorem d_Wa_wear_87 : decode b_Wa_wear 87 = .ok (.iconst 1, 1) := by decide +kernel
theorem d_Wa_wear_88 : decode b_Wa_wear 88 = .ok (.goto 4, 3) := by decide +kernel
theorem d_Wa_wear_91 : decode b_Wa_wear 91 = .ok (.iconst 0, 1) := by decide +kernel
theorem d_Wa_wear_92 : decode b_Wa_wear 92 = .ok (.istore_n 2, 1) := by decide +kernel
theorem d_Wa_wear_93 : decode b_Wa_wear 93 = .ok (.iload_n 2, 1) := by decide +kernel
theorem d_Wa_wear_94 : decode b_Wa_wear 94 = .ok (.ifCond .eq 20, 3) := by decide +kernel
theorem d_Wa_wear_97 : decode b_Wa_wear 97 = .ok (.aload_n 0, 1) := by decide +kernel
theorem d_Wa_wear_98 : decode b_Wa_wear 98 = .ok (.getfield 22, 3) := by decide +kernel
theorem d_Wa_wear_101 : decode b_Wa_wear 101 = .ok (.ifCond .le 13, 3) := by decide +kernel
theorem d_Wa_wear_104 : decode b_Wa_wear 104 = .ok (.aload_n 0, 1) := by decide +kernel
theorem d_Wa_wear_105 : decode b_Wa_wear 105 = .ok (.dup, 1) := by decide +kernel
theorem d_Wa_wear_106 : decode b_Wa_wear 106 = .ok (.getfield 22, 3) := by decide +kernel
theorem d_Wa_wear_109 : decode b_Wa_wear 109 = .ok (.iconst 1, 1) := by decide +kernel
theorem d_Wa_wear_110 : decode b_Wa_wear 110 = .ok (.isub, 1) := by decide +kernel
theorem d_Wa_wear_111 : decode b_Wa_wear 111 = .ok (.putfield 22, 3) := by decide +kernel
theorem d_Wa_wear_114 : decode b_Wa_wear 114 = .ok (.return_, 1) := by decide +kernel
theorem d_Wa_unloadAtWell_0 : decode b_Wa_unloadAtWell 0 = .ok (.iload_n 1, 1) := by decide +kernel
theorem d_Wa_unloadAtWell_1 : decode b_Wa_unloadAtWell 1 = .ok (.bipush 8, 2) := by decide +kernel
theorem d_Wa_unloadAtWell_3 : decode b_Wa_unloadAtWell 3 = .ok (.irem, 1) := by decide +kernel
theorem d_Wa_unloadAtWell_4 : decode b_Wa_unloadAtWell 4 = .ok (.bipush 7, 2) := by decide +kernel
theorem d_Wa_unloadAtWell_6 : decode b_Wa_unloadAtWell 6 = .ok (.if_icmp .ne 21, 3) := by decide +kernel
theorem d_Wa_unloadAtWell_9 : decode b_Wa_unloadAtWell 9 = .ok (.aload_n 0, 1) := by decide +kernel
theorem d_Wa_unloadAtWell_10 : decode b_Wa_unloadAtWell 10 = .ok (.dup, 1) := by decide +kernel
theorem d_Wa_unloadAtWell_11 : decode b_Wa_unloadAtWell 11 = .ok (.getfield 35, 3) := by decide +kernel
theorem d_Wa_unloadAtWell_14 : decode b_Wa_unloadAtWell 14 = .ok (.aload_n 0, 1) := by decide +kernel
theorem d_Wa_unloadAtWell_15 : decode b_Wa_unloadAtWell 15 = .ok (.getfield 25, 3) := by decide +kernel
theorem d_Wa_unloadAtWell_18 : decode b_Wa_unloadAtWell 18 = .ok (.iadd, 1) := by decide +kernel
theorem d_Wa_unloadAtWell_19 : decode b_Wa_unloadAtWell 19 = .ok (.putfield 35, 3) := by decide +kernel
theorem d_Wa_unloadAtWell_22 : decode b_Wa_unloadAtWell 22 = .ok (.aload_n 0, 1) := by decide +kernel
theorem d_Wa_unloadAtWell_23 : decode b_Wa_unloadAtWell 23 = .ok (.iconst 0, 1) := by decide +kernel
theorem d_Wa_unloadAtWell_24 : decode b_Wa_unloadAtWell 24 = .ok (.putfield 25, 3) := by decide +kernel
theorem d_Wa_unloadAtWell_27 : decode b_Wa_unloadAtWell 27 = .ok (.return_, 1) := by decide +kernel
theorem d_Wa_keep_0 : decode b_Wa_keep 0 = .ok (.iload_n 1, 1) := by decide +kernel
theorem d_Wa_keep_1 : decode b_Wa_keep 1 = .ok (.bipush 8, 2) := by decide +kernel
theorem d_Wa_keep_3 : decode b_Wa_keep 3 = .ok (.imul, 1) := by decide +kernel
theorem d_Wa_keep_4 : decode b_Wa_keep 4 = .ok (.istore_n 2, 1) := by decide +kernel
theorem d_Wa_keep_5 : decode b_Wa_keep 5 = .ok (.aload_n 0, 1) := by decide +kernel
theorem d_Wa_keep_6 : decode b_Wa_keep 6 = .ok (.getfield 9, 3) := by decide +kernel
theorem d_Wa_keep_9 : decode b_Wa_keep 9 = .ok (.iload_n 2, 1) := by decide +kernel
theorem d_Wa_keep_10 : decode b_Wa_keep 10 = .ok (.iconst 0, 1) := by decide +kernel
theorem d_Wa_keep_11 : decode b_Wa_keep 11 = .ok (.iadd, 1) := by decide +kernel
theorem d_Wa_keep_12 : decode b_Wa_keep 12 = .ok (.aload_n 0, 1) := by decide +kernel
theorem d_Wa_keep_13 : decode b_Wa_keep 13 = .ok (.getfield 25, 3) := by decide +kernel
theorem d_Wa_keep_16 : decode b_Wa_keep 16 = .ok (.iastore, 1) := by decide +kernel
theorem d_Wa_keep_17 : decode b_Wa_keep 17 = .ok (.aload_n 0, 1) := by decide +kernel
theorem d_Wa_keep_18 : decode b_Wa_keep 18 = .ok (.getfield 9, 3) := by decide +kernel
theorem d_Wa_keep_21 : decode b_Wa_keep 21 = .ok (.iload_n 2, 1) := by decide +kernel
theorem d_Wa_keep_22 : decode b_Wa_keep 22 = .ok (.iconst 1, 1) := by decide +kernel
theorem d_Wa_keep_23 : decode b_Wa_keep 23 = .ok (.iadd, 1) := by decide +kernel
theorem d_Wa_keep_24 : decode b_Wa_keep 24 = .ok (.aload_n 0, 1) := by decide +kernel
theorem d_Wa_keep_25 : decode b_Wa_keep 25 = .ok (.getfield 22, 3) := by decide +kernel
theorem d_Wa_keep_28 : decode b_Wa_keep 28 = .ok (.iastore, 1) := by decide +kernel
theorem d_Wa_keep_29 : decode b_Wa_keep 29 = .ok (.aload_n 0, 1) := by decide +kernel
theorem d_Wa_keep_30 : decode b_Wa_keep 30 = .ok (.getfield 9, 3) := by decide +kernel
theorem d_Wa_keep_33 : decode b_Wa_keep 33 = .ok (.iload_n 2, 1) := by decide +kernel
theorem d_Wa_keep_34 : decode b_Wa_keep 34 = .ok (.iconst 2, 1) := by decide +kernel
theorem d_Wa_keep_35 : decode b_Wa_keep 35 = .ok (.iadd, 1) := by decide +kernel
theorem d_Wa_keep_36 : decode b_Wa_keep 36 = .ok (.aload_n 0, 1) := by decide +kernel
theorem d_Wa_keep_37 : decode b_Wa_keep 37 = .ok (.getfield 28, 3) := by decide +kernel
theorem d_Wa_keep_40 : decode b_Wa_keep 40 = .ok (.ifCond .eq 7, 3) := by decide +kernel
theorem d_Wa_keep_43 : decode b_Wa_keep 43 = .ok (.iconst 1, 1) := by decide +kernel
theorem d_Wa_keep_44 : decode b_Wa_keep 44 = .ok (.goto 4, 3) := by decide +kernel
theorem d_Wa_keep_47 : decode b_Wa_keep 47 = .ok (.iconst 0, 1) := by decide +kernel
theorem d_Wa_keep_48 : decode b_Wa_keep 48 = .ok (.iastore, 1) := by decide +kernel
theorem d_Wa_keep_49 : decode b_Wa_keep 49 = .ok (.aload_n 0, 1) := by decide +kernel
theorem d_Wa_keep_50 : decode b_Wa_keep 50 = .ok (.getfield 9, 3) := by decide +kernel
theorem d_Wa_keep_53 : decode b_Wa_keep 53 = .ok (.iload_n 2, 1) := by decide +kernel
theorem d_Wa_keep_54 : decode b_Wa_keep 54 = .ok (.iconst 3, 1) := by decide +kernel
theorem d_Wa_keep_55 : decode b_Wa_keep 55 = .ok (.iadd, 1) := by decide +kernel
theorem d_Wa_keep_56 : decode b_Wa_keep 56 = .ok (.aload_n 0, 1) := by decide +kernel
theorem d_Wa_keep_57 : decode b_Wa_keep 57 = .ok (.getfield 32, 3) := by decide +kernel
theorem d_Wa_keep_60 : decode b_Wa_keep 60 = .ok (.iastore, 1) := by decide +kernel
theorem d_Wa_keep_61 : decode b_Wa_keep 61 = .ok (.aload_n 0, 1) := by decide +kernel
theorem d_Wa_keep_62 : decode b_Wa_keep 62 = .ok (.getfield 9, 3) := by decide +kernel
theorem d_Wa_keep_65 : decode b_Wa_keep 65 = .ok (.iload_n 2, 1) := by decide +kernel
theorem d_Wa_keep_66 : decode b_Wa_keep 66 = .ok (.iconst 4, 1) := by decide +kernel
theorem d_Wa_keep_67 : decode b_Wa_keep 67 = .ok (.iadd, 1) := by decide +kernel
theorem d_Wa_keep_68 : decode b_Wa_keep 68 = .ok (.aload_n 0, 1) := by decide +kernel
theorem d_Wa_keep_69 : decode b_Wa_keep 69 = .ok (.getfield 35, 3) := by decide +kernel
theorem d_Wa_keep_72 : decode b_Wa_keep 72 = .ok (.iastore, 1) := by decide +kernel
theorem d_Wa_keep_73 : decode b_Wa_keep 73 = .ok (.aload_n 0, 1) := by decide +kernel
theorem d_Wa_keep_74 : decode b_Wa_keep 74 = .ok (.getfield 9, 3) := by decide +kernel
theorem d_Wa_keep_77 : decode b_Wa_keep 77 = .ok (.iload_n 2, 1) := by decide +kernel
theorem d_Wa_keep_78 : decode b_Wa_keep 78 = .ok (.iconst 5, 1) := by decide +kernel
theorem d_Wa_keep_79 : decode b_Wa_keep 79 = .ok (.iadd, 1) := by decide +kernel
theorem d_Wa_keep_80 : decode b_Wa_keep 80 = .ok (.aload_n 0, 1) := by decide +kernel
theorem d_Wa_keep_81 : decode b_Wa_keep 81 = .ok (.getfield 41, 3) := by decide +kernel
theorem d_Wa_keep_84 : decode b_Wa_keep 84 = .ok (.iastore, 1) := by decide +kernel
theorem d_Wa_keep_85 : decode b_Wa_keep 85 = .ok (.aload_n 0, 1) := by decide +kernel
theorem d_Wa_keep_86 : decode b_Wa_keep 86 = .ok (.getfield 9, 3) := by decide +kernel
theorem d_Wa_keep_89 : decode b_Wa_keep 89 = .ok (.iload_n 2, 1) := by decide +kernel
theorem d_Wa_keep_90 : decode b_Wa_keep 90 = .ok (.bipush 6, 2) := by decide +kernel
theorem d_Wa_keep_92 : decode b_Wa_keep 92 = .ok (.iadd, 1) := by decide +kernel
theorem d_Wa_keep_93 : decode b_Wa_keep 93 = .ok (.aload_n 0, 1) := by decide +kernel
theorem d_Wa_keep_94 : decode b_Wa_keep 94 = .ok (.getfield 50, 3) := by decide +kernel
theorem d_Wa_keep_97 : decode b_Wa_keep 97 = .ok (.iastore, 1) := by decide +kernel
theorem d_Wa_keep_98 : decode b_Wa_keep 98 = .ok (.aload_n 0, 1) := by decide +kernel
theorem d_Wa_keep_99 : decode b_Wa_keep 99 = .ok (.getfield 9, 3) := by decide +kernel
theorem d_Wa_keep_102 : decode b_Wa_keep 102 = .ok (.iload_n 2, 1) := by decide +kernel
theorem d_Wa_keep_103 : decode b_Wa_keep 103 = .ok (.bipush 7, 2) := by decide +kernel
theorem d_Wa_keep_105 : decode b_Wa_keep 105 = .ok (.iadd, 1) := by decide +kernel
theorem d_Wa_keep_106 : decode b_Wa_keep 106 = .ok (.aload_n 0, 1) := by decide +kernel
theorem d_Wa_keep_107 : decode b_Wa_keep 107 = .ok (.getfield 38, 3) := by decide +kernel
theorem d_Wa_keep_110 : decode b_Wa_keep 110 = .ok (.iastore, 1) := by decide +kernel
theorem d_Wa_keep_111 : decode b_Wa_keep 111 = .ok (.return_, 1) := by decide +kernel
theorem d_Cv_march_0 : decode b_Cv_march 0 = .ok (.aload_n 0, 1) := by decide +kernel
theorem d_Cv_march_1 : decode b_Cv_march 1 = .ok (.iload_n 1, 1) := by decide +kernel
theorem d_Cv_march_2 : decode b_Cv_march 2 = .ok (.invokevirtual 34, 3) := by decide +kernel
theorem d_Cv_march_5 : decode b_Cv_march 5 = .ok (.istore_n 2, 1) := by decide +kernel
theorem d_Cv_march_6 : decode b_Cv_march 6 = .ok (.aload_n 0, 1) := by decide +kernel
theorem d_Cv_march_7 : decode b_Cv_march 7 = .ok (.getfield 12, 3) := by decide +kernel
theorem d_Cv_march_10 : decode b_Cv_march 10 = .ok (.aload_n 0, 1) := by decide +kernel
theorem d_Cv_march_11 : decode b_Cv_march 11 = .ok (.getfield 22, 3) := by decide +kernel
theorem d_Cv_march_14 : decode b_Cv_march 14 = .ok (.getfield 38, 3) := by decide +kernel
theorem d_Cv_march_17 : decode b_Cv_march 17 = .ok (.iload_n 1, 1) := by decide +kernel
theorem d_Cv_march_18 : decode b_Cv_march 18 = .ok (.iaload, 1) := by decide +kernel
theorem d_Cv_march_19 : decode b_Cv_march 19 = .ok (.aload_n 0, 1) := by decide +kernel
theorem d_Cv_march_20 : decode b_Cv_march 20 = .ok (.getfield 22, 3) := by decide +kernel
theorem d_Cv_march_23 : decode b_Cv_march 23 = .ok (.getfield 43, 3) := by decide +kernel
theorem d_Cv_march_26 : decode b_Cv_march 26 = .ok (.iload_n 1, 1) := by decide +kernel
theorem d_Cv_march_27 : decode b_Cv_march 27 = .ok (.iaload, 1) := by decide +kernel
theorem d_Cv_march_28 : decode b_Cv_march 28 = .ok (.invokestatic 46, 3) := by decide +kernel
theorem d_Cv_march_31 : decode b_Cv_march 31 = .ok (.invokevirtual 49, 3) := by decide +kernel
theorem d_Cv_march_34 : decode b_Cv_march 34 = .ok (.iconst 0, 1) := by decide +kernel
theorem d_Cv_march_35 : decode b_Cv_march 35 = .ok (.istore_n 3, 1) := by decide +kernel
theorem d_Cv_march_36 : decode b_Cv_march 36 = .ok (.iload_n 3, 1) := by decide +kernel
theorem d_Cv_march_37 : decode b_Cv_march 37 = .ok (.bipush 24, 2) := by decide +kernel
theorem d_Cv_march_39 : decode b_Cv_march 39 = .ok (.if_icmp .ge 239, 3) := by decide +kernel
theorem d_Cv_march_42 : decode b_Cv_march 42 = .ok (.aload_n 0, 1) := by decide +kernel
theorem d_Cv_march_43 : decode b_Cv_march 43 = .ok (.getfield 12, 3) := by decide +kernel
theorem d_Cv_march_46 : decode b_Cv_march 46 = .ok (.iload_n 3, 1) := by decide +kernel
theorem d_Cv_march_47 : decode b_Cv_march 47 = .ok (.invokevirtual 53, 3) := by decide +kernel
theorem d_Cv_march_50 : decode b_Cv_march 50 = .ok (.iload_n 2, 1) := by decide +kernel
theorem d_Cv_march_51 : decode b_Cv_march 51 = .ok (.iload_n 3, 1) := by decide +kernel
theorem d_Cv_march_52 : decode b_Cv_march 52 = .ok (.ishr, 1) := by decide +kernel
theorem d_Cv_march_53 : decode b_Cv_march 53 = .ok (.iconst 1, 1) := by decide +kernel
theorem d_Cv_march_54 : decode b_Cv_march 54 = .ok (.iand, 1) := by decide +kernel
theorem d_Cv_march_55 : decode b_Cv_march 55 = .ok (.ifCond .eq 7, 3) := by decide +kernel
theorem d_Cv_march_58 : decode b_Cv_march 58 = .ok (.iconst 1, 1) := by decide +kernel
theorem d_Cv_march_59 : decode b_Cv_march 59 = .ok (.goto 4, 3) := by decide +kernel
theorem d_Cv_march_62 : decode b_Cv_march 62 = .ok (.iconst 0, 1) := by decide +kernel
theorem d_Cv_march_63 : decode b_Cv_march 63 = .ok (.istore 4, 2) := by decide +kernel
theorem d_Cv_march_65 : decode b_Cv_march 65 = .ok (.iconst 0, 1) := by decide +kernel
theorem d_Cv_march_66 : decode b_Cv_march 66 = .ok (.istore 5, 2) := by decide +kernel
theorem d_Cv_march_68 : decode b_Cv_march 68 = .ok (.iload 4, 2) := by decide +kernel
theorem d_Cv_march_70 : decode b_Cv_march 70 = .ok (.ifCond .eq 74, 3) := by decide +kernel
theorem d_Cv_march_73 : decode b_Cv_march 73 = .ok (.iload 5, 2) := by decide +kernel
theorem d_Cv_march_75 : decode b_Cv_march 75 = .ok (.aload_n 0, 1) := by decide +kernel
theorem d_Cv_march_76 : decode b_Cv_march 76 = .ok (.getfield 26, 3) := by decide +kernel
theorem d_Cv_march_79 : decode b_Cv_march 79 = .ok (.getfield 57, 3) := by decide +kernel
theorem d_Cv_march_82 : decode b_Cv_march 82 = .ok (.if_icmp .ge 62, 3) := by decide +kernel
theorem d_Cv_march_85 : decode b_Cv_march 85 = .ok (.aload_n 0, 1) := by decide +kernel
theorem d_Cv_march_86 : decode b_Cv_march 86 = .ok (.getfield 26, 3) := by decide +kernel
theorem d_Cv_march_89 : decode b_Cv_march 89 = .ok (.getfield 63, 3) := by decide +kernel
theorem d_Cv_march_92 : decode b_Cv_march 92 = .ok (.iload 5, 2) := by decide +kernel
theorem d_Cv_march_94 : decode b_Cv_march 94 = .ok (.iaload, 1) := by decide +kernel
theorem d_Cv_march_95 : decode b_Cv_march 95 = .ok (.iload_n 3, 1) := by decide +kernel
theorem d_Cv_march_96 : decode b_Cv_march 96 = .ok (.if_icmp .ne 42, 3) := by decide +kernel
theorem d_Cv_march_99 : decode b_Cv_march 99 = .ok (.aload_n 0, 1) := by decide +kernel
theorem d_Cv_march_100 : decode b_Cv_march 100 = .ok (.getfield 26, 3) := by decide +kernel
theorem d_Cv_march_103 : decode b_Cv_march 103 = .ok (.getfield 66, 3) := by decide +kernel
theorem d_Cv_march_106 : decode b_Cv_march 106 = .ok (.iload 5, 2) := by decide +kernel
theorem d_Cv_march_108 : decode b_Cv_march 108 = .ok (.iaload, 1) := by decide +kernel
theorem d_Cv_march_109 : decode b_Cv_march 109 = .ok (.iload_n 1, 1) := by decide +kernel
theorem d_Cv_march_110 : decode b_Cv_march 110 = .ok (.if_icmp .ne 28, 3) := by decide +kernel
theorem d_Cv_march_113 : decode b_Cv_march 113 = .ok (.aload_n 0, 1) := by decide +kernel
theorem d_Cv_march_114 : decode b_Cv_march 114 = .ok (.getfield 12, 3) := by decide +kernel
theorem d_Cv_march_117 : decode b_Cv_march 117 = .ok (.aload_n 0, 1) := by decide +kernel
theorem d_Cv_march_118 : decode b_Cv_march 118 = .ok (.getfield 26, 3) := by decide +kernel
theorem d_Cv_march_121 : decode b_Cv_march 121 = .ok (.getfield 68, 3) := by decide +kernel
theorem d_Cv_march_124 : decode b_Cv_march 124 = .ok (.iload 5, 2) := by decide +kernel
theorem d_Cv_march_126 : decode b_Cv_march 126 = .ok (.iaload, 1) := by decide +kernel
theorem d_Cv_march_127 : decode b_Cv_march 127 = .ok (.invokevirtual 71, 3) := by decide +kernel
theorem d_Cv_march_130 : decode b_Cv_march 130 = .ok (.aload_n 0, 1) := by decide +kernel
theorem d_Cv_march_131 : decode b_Cv_march 131 = .ok (.getfield 12, 3) := by decide +kernel
theorem d_Cv_march_134 : decode b_Cv_march 134 = .ok (.iload_n 3, 1) := by decide +kernel
theorem d_Cv_march_135 : decode b_Cv_march 135 = .ok (.invokevirtual 74, 3) := by decide +kernel
theorem d_Cv_march_138 : decode b_Cv_march 138 = .ok (.iinc 5 1, 3) := by decide +kernel
theorem d_Cv_march_141 : decode b_Cv_march 141 = .ok (.goto (-73), 3) := by decide +kernel
theorem d_Cv_march_144 : decode b_Cv_march 144 = .ok (.iconst 0, 1) := by decide +kernel
theorem d_Cv_march_145 : decode b_Cv_march 145 = .ok (.istore 5, 2) := by decide +kernel
theorem d_Cv_march_147 : decode b_Cv_march 147 = .ok (.iload 4, 2) := by decide +kernel
theorem d_Cv_march_149 : decode b_Cv_march 149 = .ok (.ifCond .eq 84, 3) := by decide +kernel
theorem d_Cv_march_152 : decode b_Cv_march 152 = .ok (.iload 5, 2) := by decide +kernel
theorem d_Cv_march_154 : decode b_Cv_march 154 = .ok (.aload_n 0, 1) := by decide +kernel
theorem d_Cv_march_155 : decode b_Cv_march 155 = .ok (.getfield 30, 3) := by decide +kernel
theorem d_Cv_march_158 : decode b_Cv_march 158 = .ok (.getfield 77, 3) := by decide +kernel
theorem d_Cv_march_161 : decode b_Cv_march 161 = .ok (.if_icmp .ge 72, 3) := by decide +kernel
theorem d_Cv_march_164 : decode b_Cv_march 164 = .ok (.aload_n 0, 1) := by decide +kernel
theorem d_Cv_march_165 : decode b_Cv_march 165 = .ok (.getfield 30, 3) := by decide +kernel
theorem d_Cv_march_168 : decode b_Cv_march 168 = .ok (.getfield 82, 3) := by decide +kernel
theorem d_Cv_march_171 : decode b_Cv_march 171 = .ok (.iload 5, 2) := by decide +kernel
theorem d_Cv_march_173 : decode b_Cv_march 173 = .ok (.iaload, 1) := by decide +kernel
theorem d_Cv_march_174 : decode b_Cv_march 174 = .ok (.iload_n 3, 1) := by decide +kernel
theorem d_Cv_march_175 : decode b_Cv_march 175 = .ok (.if_icmp .ne 52, 3) := by decide +kernel
theorem d_Cv_march_178 : decode b_Cv_march 178 = .ok (.aload_n 0, 1) := by decide +kernel
theorem d_Cv_march_179 : decode b_Cv_march 179 = .ok (.getfield 30, 3) := by decide +kernel
theorem d_Cv_march_182 : decode b_Cv_march 182 = .ok (.getfield 83, 3) := by decide +kernel
theorem d_Cv_march_185 : decode b_Cv_march 185 = .ok (.iload 5, 2) := by decide +kernel
theorem d_Cv_march_187 : decode b_Cv_march 187 = .ok (.iaload, 1) := by decide +kernel
theorem d_Cv_march_188 : decode b_Cv_march 188 = .ok (.iload_n 1, 1) := by decide +kernel
theorem d_Cv_march_189 : decode b_Cv_march 189 = .ok (.if_icmp .ne 38, 3) := by decide +kernel
theorem d_Cv_march_192 : decode b_Cv_march 192 = .ok (.aload_n 0, 1) := by decide +kernel
theorem d_Cv_march_193 : decode b_Cv_march 193 = .ok (.getfield 84, 3) := by decide +kernel
theorem d_Cv_march_196 : decode b_Cv_march 196 = .ok (.iload 5, 2) := by decide +kernel
theorem d_Cv_march_198 : decode b_Cv_march 198 = .ok (.ishr, 1) := by decide +kernel
theorem d_Cv_march_199 : decode b_Cv_march 199 = .ok (.iconst 1, 1) := by decide +kernel
theorem d_Cv_march_200 : decode b_Cv_march 200 = .ok (.iand, 1) := by decide +kernel
theorem d_Cv_march_201 : decode b_Cv_march 201 = .ok (.ifCond .ne 26, 3) := by decide +kernel
theorem d_Cv_march_204 : decode b_Cv_march 204 = .ok (.aload_n 0, 1) := by decide +kernel
theorem d_Cv_march_205 : decode b_Cv_march 205 = .ok (.getfield 12, 3) := by decide +kernel
theorem d_Cv_march_208 : decode b_Cv_march 208 = .ok (.iconst 1, 1) := by decide +kernel
theorem d_Cv_march_209 : decode b_Cv_march 209 = .ok (.invokevirtual 71, 3) := by decide +kernel
theorem d_Cv_march_212 : decode b_Cv_march 212 = .ok (.aload_n 0, 1) := by decide +kernel
theorem d_Cv_march_213 : decode b_Cv_march 213 = .ok (.getfield 12, 3) := by decide +kernel
theorem d_Cv_march_216 : decode b_Cv_march 216 = .ok (.iload_n 3, 1) := by decide +kernel
theorem d_Cv_march_217 : decode b_Cv_march 217 = .ok (.invokevirtual 74, 3) := by decide +kernel
theorem d_Cv_march_220 : decode b_Cv_march 220 = .ok (.aload_n 0, 1) := by decide +kernel
theorem d_Cv_march_221 : decode b_Cv_march 221 = .ok (.getfield 12, 3) := by decide +kernel
theorem d_Cv_march_224 : decode b_Cv_march 224 = .ok (.invokevirtual 87, 3) := by decide +kernel
theorem d_Cv_march_227 : decode b_Cv_march 227 = .ok (.iinc 5 1, 3) := by decide +kernel
theorem d_Cv_march_230 : decode b_Cv_march 230 = .ok (.goto (-83), 3) := by decide +kernel
theorem d_Cv_march_233 : decode b_Cv_march 233 = .ok (.aload_n 0, 1) := by decide +kernel
theorem d_Cv_march_234 : decode b_Cv_march 234 = .ok (.getfield 12, 3) := by decide +kernel
theorem d_Cv_march_237 : decode b_Cv_march 237 = .ok (.invokevirtual 90, 3) := by decide +kernel
theorem d_Cv_march_240 : decode b_Cv_march 240 = .ok (.aload_n 0, 1) := by decide +kernel
theorem d_Cv_march_241 : decode b_Cv_march 241 = .ok (.getfield 12, 3) := by decide +kernel
theorem d_Cv_march_244 : decode b_Cv_march 244 = .ok (.iload_n 3, 1) := by decide +kernel
theorem d_Cv_march_245 : decode b_Cv_march 245 = .ok (.invokevirtual 93, 3) := by decide +kernel
theorem d_Cv_march_248 : decode b_Cv_march 248 = .ok (.aload_n 0, 1) := by decide +kernel
theorem d_Cv_march_249 : decode b_Cv_march 249 = .ok (.getfield 12, 3) := by decide +kernel
theorem d_Cv_march_252 : decode b_Cv_march 252 = .ok (.iload_n 3, 1) := by decide +kernel
theorem d_Cv_march_253 : decode b_Cv_march 253 = .ok (.invokevirtual 74, 3) := by decide +kernel
theorem d_Cv_march_256 : decode b_Cv_march 256 = .ok (.aload_n 0, 1) := by decide +kernel
theorem d_Cv_march_257 : decode b_Cv_march 257 = .ok (.getfield 12, 3) := by decide +kernel
theorem d_Cv_march_260 : decode b_Cv_march 260 = .ok (.iload_n 3, 1) := by decide +kernel
theorem d_Cv_march_261 : decode b_Cv_march 261 = .ok (.invokevirtual 96, 3) := by decide +kernel
theorem d_Cv_march_264 : decode b_Cv_march 264 = .ok (.aload_n 0, 1) := by decide +kernel
theorem d_Cv_march_265 : decode b_Cv_march 265 = .ok (.getfield 12, 3) := by decide +kernel
theorem d_Cv_march_268 : decode b_Cv_march 268 = .ok (.iload_n 3, 1) := by decide +kernel
theorem d_Cv_march_269 : decode b_Cv_march 269 = .ok (.invokevirtual 99, 3) := by decide +kernel
theorem d_Cv_march_272 : decode b_Cv_march 272 = .ok (.iinc 3 1, 3) := by decide +kernel
theorem d_Cv_march_275 : decode b_Cv_march 275 = .ok (.goto (-239), 3) := by decide +kernel
theorem d_Cv_march_278 : decode b_Cv_march 278 = .ok (.aload_n 0, 1) := by decide +kernel
theorem d_Cv_march_279 : decode b_Cv_march 279 = .ok (.getfield 12, 3) := by decide +kernel
theorem d_Cv_march_282 : decode b_Cv_march 282 = .ok (.areturn, 1) := by decide +kernel
theorem d_Wa_behind_0 : decode b_Wa_behind 0 = .ok (.aload_n 0, 1) := by decide +kernel
theorem d_Wa_behind_1 : decode b_Wa_behind 1 = .ok (.getfield 9, 3) := by decide +kernel
theorem d_Wa_behind_4 : decode b_Wa_behind 4 = .ok (.iload_n 1, 1) := by decide +kernel
theorem d_Wa_behind_5 : decode b_Wa_behind 5 = .ok (.bipush 8, 2) := by decide +kernel
theorem d_Wa_behind_7 : decode b_Wa_behind 7 = .ok (.imul, 1) := by decide +kernel
theorem d_Wa_behind_8 : decode b_Wa_behind 8 = .ok (.iload_n 2, 1) := by decide +kernel
theorem d_Wa_behind_9 : decode b_Wa_behind 9 = .ok (.iadd, 1) := by decide +kernel
theorem d_Wa_behind_10 : decode b_Wa_behind 10 = .ok (.iaload, 1) := by decide +kernel
theorem d_Wa_behind_11 : decode b_Wa_behind 11 = .ok (.ireturn, 1) := by decide +kernel
theorem d_CS_at_0 : decode b_CS_at 0 = .ok (.iload_n 1, 1) := by decide +kernel
theorem d_CS_at_1 : decode b_CS_at 1 = .ok (.invokestatic 121, 3) := by decide +kernel
theorem d_CS_at_4 : decode b_CS_at 4 = .ok (.ifCond .eq 21, 3) := by decide +kernel
theorem d_CS_at_7 : decode b_CS_at 7 = .ok (.aload_n 0, 1) := by decide +kernel
theorem d_CS_at_8 : decode b_CS_at 8 = .ok (.iload_n 2, 1) := by decide +kernel
theorem d_CS_at_9 : decode b_CS_at 9 = .ok (.invokevirtual 96, 3) := by decide +kernel
theorem d_CS_at_12 : decode b_CS_at 12 = .ok (.ifCond .eq 13, 3) := by decide +kernel
theorem d_CS_at_15 : decode b_CS_at 15 = .ok (.iload_n 3, 1) := by decide +kernel
theorem d_CS_at_16 : decode b_CS_at 16 = .ok (.ifCond .lt 9, 3) := by decide +kernel
theorem d_CS_at_19 : decode b_CS_at 19 = .ok (.iload_n 3, 1) := by decide +kernel
theorem d_CS_at_20 : decode b_CS_at 20 = .ok (.bipush 6, 2) := by decide +kernel
theorem d_CS_at_22 : decode b_CS_at 22 = .ok (.if_icmp .lt 6, 3) := by decide +kernel
theorem d_CS_at_25 : decode b_CS_at 25 = .ok (.bipush (-2), 2) := by decide +kernel
theorem d_CS_at_27 : decode b_CS_at 27 = .ok (.ireturn, 1) := by decide +kernel
theorem d_CS_at_28 : decode b_CS_at 28 = .ok (.aload_n 0, 1) := by decide +kernel
theorem d_CS_at_29 : decode b_CS_at 29 = .ok (.getfield 44, 3) := by decide +kernel
theorem d_CS_at_32 : decode b_CS_at 32 = .ok (.iload_n 2, 1) := by decide +kernel
theorem d_CS_at_33 : decode b_CS_at 33 = .ok (.invokevirtual 151, 3) := by decide +kernel
theorem d_CS_at_36 : decode b_CS_at 36 = .ok (.iload_n 1, 1) := by decide +kernel
theorem d_CS_at_37 : decode b_CS_at 37 = .ok (.iload_n 3, 1) := by decide +kernel
theorem d_CS_at_38 : decode b_CS_at 38 = .ok (.invokevirtual 155, 3) := by decide +kernel
theorem d_CS_at_41 : decode b_CS_at 41 = .ok (.ireturn, 1) := by decide +kernel
theorem d_Cv_inAll_0 : decode b_Cv_inAll 0 = .ok (.iconst 0, 1) := by decide +kernel
theorem d_Cv_inAll_1 : decode b_Cv_inAll 1 = .ok (.istore_n 2, 1) := by decide +kernel
theorem d_Cv_inAll_2 : decode b_Cv_inAll 2 = .ok (.iconst 0, 1) := by decide +kernel
theorem d_Cv_inAll_3 : decode b_Cv_inAll 3 = .ok (.istore_n 3, 1) := by decide +kernel
theorem d_Cv_inAll_4 : decode b_Cv_inAll 4 = .ok (.iload_n 3, 1) := by decide +kernel
theorem d_Cv_inAll_5 : decode b_Cv_inAll 5 = .ok (.aload_n 0, 1) := by decide +kernel
theorem d_Cv_inAll_6 : decode b_Cv_inAll 6 = .ok (.getfield 22, 3) := by decide +kernel
theorem d_Cv_inAll_9 : decode b_Cv_inAll 9 = .ok (.getfield 102, 3) := by decide +kernel
theorem d_Cv_inAll_12 : decode b_Cv_inAll 12 = .ok (.if_icmp .ge 23, 3) := by decide +kernel
theorem d_Cv_inAll_15 : decode b_Cv_inAll 15 = .ok (.iload_n 2, 1) := by decide +kernel
theorem d_Cv_inAll_16 : decode b_Cv_inAll 16 = .ok (.aload_n 0, 1) := by decide +kernel
theorem d_Cv_inAll_17 : decode b_Cv_inAll 17 = .ok (.iload_n 3, 1) := by decide +kernel
theorem d_Cv_inAll_18 : decode b_Cv_inAll 18 = .ok (.invokevirtual 103, 3) := by decide +kernel
theorem d_Cv_inAll_21 : decode b_Cv_inAll 21 = .ok (.bipush 23, 2) := by decide +kernel
theorem d_Cv_inAll_23 : decode b_Cv_inAll 23 = .ok (.iload_n 1, 1) := by decide +kernel
theorem d_Cv_inAll_24 : decode b_Cv_inAll 24 = .ok (.invokevirtual 107, 3) := by decide +kernel
theorem d_Cv_inAll_27 : decode b_Cv_inAll 27 = .ok (.iadd, 1) := by decide +kernel
theorem d_Cv_inAll_28 : decode b_Cv_inAll 28 = .ok (.istore_n 2, 1) := by decide +kernel
theorem d_Cv_inAll_29 : decode b_Cv_inAll 29 = .ok (.iinc 3 1, 3) := by decide +kernel
theorem d_Cv_inAll_32 : decode b_Cv_inAll 32 = .ok (.goto (-28), 3) := by decide +kernel
theorem d_Cv_inAll_35 : decode b_Cv_inAll 35 = .ok (.iload_n 2, 1) := by decide +kernel
theorem d_Cv_inAll_36 : decode b_Cv_inAll 36 = .ok (.ireturn, 1) := by decide +kernel
theorem d_CS_through_0 : decode b_CS_through 0 = .ok (.aload_n 0, 1) := by decide +kernel
theorem d_CS_through_1 : decode b_CS_through 1 = .ok (.getfield 44, 3) := by decide +kernel
theorem d_CS_through_4 : decode b_CS_through 4 = .ok (.iconst 4, 1) := by decide +kernel
theorem d_CS_through_5 : decode b_CS_through 5 = .ok (.invokevirtual 160, 3) := by decide +kernel
theorem d_CS_through_8 : decode b_CS_through 8 = .ok (.ireturn, 1) := by decide +kernel
theorem d_CS_lost_0 : decode b_CS_lost 0 = .ok (.aload_n 0, 1) := by decide +kernel
theorem d_CS_lost_1 : decode b_CS_lost 1 = .ok (.getfield 44, 3) := by decide +kernel
theorem d_CS_lost_4 : decode b_CS_lost 4 = .ok (.bipush 7, 2) := by decide +kernel
theorem d_CS_lost_6 : decode b_CS_lost 6 = .ok (.invokevirtual 160, 3) := by decide +kernel
theorem d_CS_lost_9 : decode b_CS_lost 9 = .ok (.ireturn, 1) := by decide +kernel
theorem d_Cv_firstToBreak_0 : decode b_Cv_firstToBreak 0 = .ok (.iconst (-1), 1) := by decide +kernel
theorem d_Cv_firstToBreak_1 : decode b_Cv_firstToBreak 1 = .ok (.istore_n 1, 1) := by decide +kernel
theorem d_Cv_firstToBreak_2 : decode b_Cv_firstToBreak 2 = .ok (.bipush 24, 2) := by decide +kernel
theorem d_Cv_firstToBreak_4 : decode b_Cv_firstToBreak 4 = .ok (.istore_n 2, 1) := by decide +kernel
theorem d_Cv_firstToBreak_5 : decode b_Cv_firstToBreak 5 = .ok (.iconst 0, 1) := by decide +kernel
theorem d_Cv_firstToBreak_6 : decode b_Cv_firstToBreak 6 = .ok (.istore_n 3, 1) := by decide +kernel
theorem d_Cv_firstToBreak_7 : decode b_Cv_firstToBreak 7 = .ok (.iload_n 3, 1) := by decide +kernel
theorem d_Cv_firstToBreak_8 : decode b_Cv_firstToBreak 8 = .ok (.aload_n 0, 1) := by decide +kernel
theorem d_Cv_firstToBreak_9 : decode b_Cv_firstToBreak 9 = .ok (.getfield 22, 3) := by decide +kernel
theorem d_Cv_firstToBreak_12 : decode b_Cv_firstToBreak 12 = .ok (.getfield 102, 3) := by decide +kernel
theorem d_Cv_firstToBreak_15 : decode b_Cv_firstToBreak 15 = .ok (.if_icmp .ge 36, 3) := by decide +kernel
theorem d_Cv_firstToBreak_18 : decode b_Cv_firstToBreak 18 = .ok (.aload_n 0, 1) := by decide +kernel
theorem d_Cv_firstToBreak_19 : decode b_Cv_firstToBreak 19 = .ok (.iload_n 3, 1) := by decide +kernel
theorem d_Cv_firstToBreak_20 : decode b_Cv_firstToBreak 20 = .ok (.invokevirtual 103, 3) := by decide +kernel
theorem d_Cv_firstToBreak_23 : decode b_Cv_firstToBreak 23 = .ok (.getfield 111, 3) := by decide +kernel
theorem d_Cv_firstToBreak_26 : decode b_Cv_firstToBreak 26 = .ok (.istore 4, 2) := by decide +kernel
theorem d_Cv_firstToBreak_28 : decode b_Cv_firstToBreak 28 = .ok (.iload 4, 2) := by decide +kernel
theorem d_Cv_firstToBreak_30 : decode b_Cv_firstToBreak 30 = .ok (.iconst (-1), 1) := by decide +kernel
theorem d_Cv_firstToBreak_31 : decode b_Cv_firstToBreak 31 = .ok (.if_icmp .eq 14, 3) := by decide +kernel
theorem d_Cv_firstToBreak_34 : decode b_Cv_firstToBreak 34 = .ok (.iload 4, 2) := by decide +kernel
theorem d_Cv_firstToBreak_36 : decode b_Cv_firstToBreak 36 = .ok (.iload_n 2, 1) := by decide +kernel
theorem d_Cv_firstToBreak_37 : decode b_Cv_firstToBreak 37 = .ok (.if_icmp .ge 8, 3) := by decide +kernel
theorem d_Cv_firstToBreak_40 : decode b_Cv_firstToBreak 40 = .ok (.iload 4, 2) := by decide +kernel
theorem d_Cv_firstToBreak_42 : decode b_Cv_firstToBreak 42 = .ok (.istore_n 2, 1) := by decide +kernel
theorem d_Cv_firstToBreak_43 : decode b_Cv_firstToBreak 43 = .ok (.iload_n 3, 1) := by decide +kernel
theorem d_Cv_firstToBreak_44 : decode b_Cv_firstToBreak 44 = .ok (.istore_n 1, 1) := by decide +kernel
theorem d_Cv_firstToBreak_45 : decode b_Cv_firstToBreak 45 = .ok (.iinc 3 1, 3) := by decide +kernel
theorem d_Cv_firstToBreak_48 : decode b_Cv_firstToBreak 48 = .ok (.goto (-41), 3) := by decide +kernel
theorem d_Cv_firstToBreak_51 : decode b_Cv_firstToBreak 51 = .ok (.iload_n 1, 1) := by decide +kernel
theorem d_Cv_firstToBreak_52 : decode b_Cv_firstToBreak 52 = .ok (.ireturn, 1) := by decide +kernel
theorem d_CS_first_0 : decode b_CS_first 0 = .ok (.iload_n 1, 1) := by decide +kernel
theorem d_CS_first_1 : decode b_CS_first 1 = .ok (.ifCond .lt 8, 3) := by decide +kernel
theorem d_CS_first_4 : decode b_CS_first 4 = .ok (.iload_n 1, 1) := by decide +kernel
theorem d_CS_first_5 : decode b_CS_first 5 = .ok (.iconst 1, 1) := by decide +kernel
theorem d_CS_first_6 : decode b_CS_first 6 = .ok (.if_icmp .le 6, 3) := by decide +kernel
theorem d_CS_first_9 : decode b_CS_first 9 = .ok (.bipush (-2), 2) := by decide +kernel
theorem d_CS_first_11 : decode b_CS_first 11 = .ok (.ireturn, 1) := by decide +kernel
theorem d_CS_first_12 : decode b_CS_first 12 = .ok (.aload_n 0, 1) := by decide +kernel
theorem d_CS_first_13 : decode b_CS_first 13 = .ok (.getfield 44, 3) := by decide +kernel
theorem d_CS_first_16 : decode b_CS_first 16 = .ok (.invokevirtual 163, 3) := by decide +kernel
theorem d_CS_first_19 : decode b_CS_first 19 = .ok (.istore_n 2, 1) := by decide +kernel
theorem d_CS_first_20 : decode b_CS_first 20 = .ok (.iload_n 1, 1) := by decide +kernel
theorem d_CS_first_21 : decode b_CS_first 21 = .ok (.iconst 1, 1) := by decide +kernel
theorem d_CS_first_22 : decode b_CS_first 22 = .ok (.if_icmp .eq 8, 3) := by decide +kernel
theorem d_CS_first_25 : decode b_CS_first 25 = .ok (.iload_n 2, 1) := by decide +kernel
theorem d_CS_first_26 : decode b_CS_first 26 = .ok (.iconst (-1), 1) := by decide +kernel
theorem d_CS_first_27 : decode b_CS_first 27 = .ok (.if_icmp .ne 7, 3) := by decide +kernel
theorem d_CS_first_30 : decode b_CS_first 30 = .ok (.iload_n 2, 1) := by decide +kernel
theorem d_CS_first_31 : decode b_CS_first 31 = .ok (.goto 14, 3) := by decide +kernel
theorem d_CS_first_34 : decode b_CS_first 34 = .ok (.aload_n 0, 1) := by decide +kernel
theorem d_CS_first_35 : decode b_CS_first 35 = .ok (.getfield 44, 3) := by decide +kernel
theorem d_CS_first_38 : decode b_CS_first 38 = .ok (.iload_n 2, 1) := by decide +kernel
theorem d_CS_first_39 : decode b_CS_first 39 = .ok (.invokevirtual 151, 3) := by decide +kernel
theorem d_CS_first_42 : decode b_CS_first 42 = .ok (.getfield 167, 3) := by decide +kernel
theorem d_CS_first_45 : decode b_CS_first 45 = .ok (.ireturn, 1) := by decide +kernel
theorem d_Cv_broughtBy_0 : decode b_Cv_broughtBy 0 = .ok (.iload_n 1, 1) := by decide +kernel
theorem d_Cv_broughtBy_1 : decode b_Cv_broughtBy 1 = .ok (.ifCond .lt 28, 3) := by decide +kernel
theorem d_Cv_broughtBy_4 : decode b_Cv_broughtBy 4 = .ok (.iload_n 1, 1) := by decide +kernel
theorem d_Cv_broughtBy_5 : decode b_Cv_broughtBy 5 = .ok (.aload_n 0, 1) := by decide +kernel
theorem d_Cv_broughtBy_6 : decode b_Cv_broughtBy 6 = .ok (.getfield 22, 3) := by decide +kernel
theorem d_Cv_broughtBy_9 : decode b_Cv_broughtBy 9 = .ok (.getfield 102, 3) := by decide +kernel
theorem d_Cv_broughtBy_12 : decode b_Cv_broughtBy 12 = .ok (.if_icmp .ge 17, 3) := by decide +kernel
theorem d_Cv_broughtBy_15 : decode b_Cv_broughtBy 15 = .ok (.aload_n 0, 1) := by decide +kernel
theorem d_Cv_broughtBy_16 : decode b_Cv_broughtBy 16 = .ok (.iload_n 1, 1) := by decide +kernel
theorem d_Cv_broughtBy_17 : decode b_Cv_broughtBy 17 = .ok (.invokevirtual 103, 3) := by decide +kernel
theorem d_Cv_broughtBy_20 : decode b_Cv_broughtBy 20 = .ok (.bipush 23, 2) := by decide +kernel
theorem d_Cv_broughtBy_22 : decode b_Cv_broughtBy 22 = .ok (.iconst 4, 1) := by decide +kernel
theorem d_Cv_broughtBy_23 : decode b_Cv_broughtBy 23 = .ok (.invokevirtual 107, 3) := by decide +kernel
theorem d_Cv_broughtBy_26 : decode b_Cv_broughtBy 26 = .ok (.goto 4, 3) := by decide +kernel
theorem d_Cv_broughtBy_29 : decode b_Cv_broughtBy 29 = .ok (.iconst 0, 1) := by decide +kernel
theorem d_Cv_broughtBy_30 : decode b_Cv_broughtBy 30 = .ok (.ireturn, 1) := by decide +kernel
theorem d_Cv_bestCamel_0 : decode b_Cv_bestCamel 0 = .ok (.iconst (-1), 1) := by decide +kernel
theorem d_Cv_bestCamel_1 : decode b_Cv_bestCamel 1 = .ok (.istore_n 1, 1) := by decide +kernel
theorem d_Cv_bestCamel_2 : decode b_Cv_bestCamel 2 = .ok (.iconst (-1), 1) := by decide +kernel
theorem d_Cv_bestCamel_3 : decode b_Cv_bestCamel 3 = .ok (.istore_n 2, 1) := by decide +kernel
theorem d_Cv_bestCamel_4 : decode b_Cv_bestCamel 4 = .ok (.iconst 0, 1) := by decide +kernel
theorem d_Cv_bestCamel_5 : decode b_Cv_bestCamel 5 = .ok (.istore_n 3, 1) := by decide +kernel
theorem d_Cv_bestCamel_6 : decode b_Cv_bestCamel 6 = .ok (.iload_n 3, 1) := by decide +kernel
theorem d_Cv_bestCamel_7 : decode b_Cv_bestCamel 7 = .ok (.aload_n 0, 1) := by decide +kernel
theorem d_Cv_bestCamel_8 : decode b_Cv_bestCamel 8 = .ok (.getfield 22, 3) := by decide +kernel
theorem d_Cv_bestCamel_11 : decode b_Cv_bestCamel 11 = .ok (.getfield 102, 3) := by decide +kernel
theorem d_Cv_bestCamel_14 : decode b_Cv_bestCamel 14 = .ok (.if_icmp .ge 27, 3) := by decide +kernel
theorem d_Cv_bestCamel_17 : decode b_Cv_bestCamel 17 = .ok (.aload_n 0, 1) := by decide +kernel
theorem d_Cv_bestCamel_18 : decode b_Cv_bestCamel 18 = .ok (.iload_n 3, 1) := by decide +kernel
theorem d_Cv_bestCamel_19 : decode b_Cv_bestCamel 19 = .ok (.invokevirtual 114, 3) := by decide +kernel
theorem d_Cv_bestCamel_22 : decode b_Cv_bestCamel 22 = .ok (.istore 4, 2) := by decide +kernel
theorem d_Cv_bestCamel_24 : decode b_Cv_bestCamel 24 = .ok (.iload 4, 2) := by decide +kernel
theorem d_Cv_bestCamel_26 : decode b_Cv_bestCamel 26 = .ok (.iload_n 2, 1) := by decide +kernel
theorem d_Cv_bestCamel_27 : decode b_Cv_bestCamel 27 = .ok (.if_icmp .le 8, 3) := by decide +kernel
theorem d_Cv_bestCamel_30 : decode b_Cv_bestCamel 30 = .ok (.iload 4, 2) := by decide +kernel
theorem d_Cv_bestCamel_32 : decode b_Cv_bestCamel 32 = .ok (.istore_n 2, 1) := by decide +kernel
theorem d_Cv_bestCamel_33 : decode b_Cv_bestCamel 33 = .ok (.iload_n 3, 1) := by decide +kernel
theorem d_Cv_bestCamel_34 : decode b_Cv_bestCamel 34 = .ok (.istore_n 1, 1) := by decide +kernel
theorem d_Cv_bestCamel_35 : decode b_Cv_bestCamel 35 = .ok (.iinc 3 1, 3) := by decide +kernel
theorem d_Cv_bestCamel_38 : decode b_Cv_bestCamel 38 = .ok (.goto (-32), 3) := by decide +kernel
theorem d_Cv_bestCamel_41 : decode b_Cv_bestCamel 41 = .ok (.iload_n 1, 1) := by decide +kernel
theorem d_Cv_bestCamel_42 : decode b_Cv_bestCamel 42 = .ok (.ireturn, 1) := by decide +kernel
theorem d_CS_best_0 : decode b_CS_best 0 = .ok (.aload_n 0, 1) := by decide +kernel
theorem d_CS_best_1 : decode b_CS_best 1 = .ok (.getfield 44, 3) := by decide +kernel
theorem d_CS_best_4 : decode b_CS_best 4 = .ok (.invokevirtual 170, 3) := by decide +kernel
theorem d_CS_best_7 : decode b_CS_best 7 = .ok (.ireturn, 1) := by decide +kernel
theorem d_Cv_wholeCamels_0 : decode b_Cv_wholeCamels 0 = .ok (.iconst 0, 1) := by decide +kernel
theorem d_Cv_wholeCamels_1 : decode b_Cv_wholeCamels 1 = .ok (.istore_n 1, 1) := by decide +kernel
theorem d_Cv_wholeCamels_2 : decode b_Cv_wholeCamels 2 = .ok (.iconst 0, 1) := by decide +kernel
theorem d_Cv_wholeCamels_3 : decode b_Cv_wholeCamels 3 = .ok (.istore_n 2, 1) := by decide +kernel
theorem d_Cv_wholeCamels_4 : decode b_Cv_wholeCamels 4 = .ok (.iload_n 2, 1) := by decide +kernel
theorem d_Cv_wholeCamels_5 : decode b_Cv_wholeCamels 5 = .ok (.aload_n 0, 1) := by decide +kernel
theorem d_Cv_wholeCamels_6 : decode b_Cv_wholeCamels 6 = .ok (.getfield 22, 3) := by decide +kernel
theorem d_Cv_wholeCamels_9 : decode b_Cv_wholeCamels 9 = .ok (.getfield 102, 3) := by decide +kernel
theorem d_Cv_wholeCamels_12 : decode b_Cv_wholeCamels 12 = .ok (.if_icmp .ge 26, 3) := by decide +kernel
theorem d_Cv_wholeCamels_15 : decode b_Cv_wholeCamels 15 = .ok (.aload_n 0, 1) := by decide +kernel
theorem d_Cv_wholeCamels_16 : decode b_Cv_wholeCamels 16 = .ok (.iload_n 2, 1) := by decide +kernel
theorem d_Cv_wholeCamels_17 : decode b_Cv_wholeCamels 17 = .ok (.invokevirtual 103, 3) := by decide +kernel
theorem d_Cv_wholeCamels_20 : decode b_Cv_wholeCamels 20 = .ok (.getfield 117, 3) := by decide +kernel
theorem d_Cv_wholeCamels_23 : decode b_Cv_wholeCamels 23 = .ok (.ifCond .ne 9, 3) := by decide +kernel
theorem d_Cv_wholeCamels_26 : decode b_Cv_wholeCamels 26 = .ok (.iload_n 1, 1) := by decide +kernel
theorem d_Cv_wholeCamels_27 : decode b_Cv_wholeCamels 27 = .ok (.iconst 1, 1) := by decide +kernel
theorem d_Cv_wholeCamels_28 : decode b_Cv_wholeCamels 28 = .ok (.iload_n 2, 1) := by decide +kernel
theorem d_Cv_wholeCamels_29 : decode b_Cv_wholeCamels 29 = .ok (.ishl, 1) := by decide +kernel
theorem d_Cv_wholeCamels_30 : decode b_Cv_wholeCamels 30 = .ok (.ior, 1) := by decide +kernel
theorem d_Cv_wholeCamels_31 : decode b_Cv_wholeCamels 31 = .ok (.istore_n 1, 1) := by decide +kernel
theorem d_Cv_wholeCamels_32 : decode b_Cv_wholeCamels 32 = .ok (.iinc 2 1, 3) := by decide +kernel
theorem d_Cv_wholeCamels_35 : decode b_Cv_wholeCamels 35 = .ok (.goto (-31), 3) := by decide +kernel
theorem d_Cv_wholeCamels_38 : decode b_Cv_wholeCamels 38 = .ok (.iload_n 1, 1) := by decide +kernel
theorem d_Cv_wholeCamels_39 : decode b_Cv_wholeCamels 39 = .ok (.ireturn, 1) := by decide +kernel
theorem d_CS_whole_0 : decode b_CS_whole 0 = .ok (.aload_n 0, 1) := by decide +kernel
theorem d_CS_whole_1 : decode b_CS_whole 1 = .ok (.getfield 44, 3) := by decide +kernel
theorem d_CS_whole_4 : decode b_CS_whole 4 = .ok (.invokevirtual 173, 3) := by decide +kernel
theorem d_CS_whole_7 : decode b_CS_whole 7 = .ok (.ireturn, 1) := by decide +kernel
theorem d_Ar_fill_0 : decode b_Ar_fill 0 = .ok (.iconst 0, 1) := by decide +kernel
theorem d_Ar_fill_1 : decode b_Ar_fill 1 = .ok (.istore_n 2, 1) := by decide +kernel
theorem d_Ar_fill_2 : decode b_Ar_fill 2 = .ok (.aload_n 0, 1) := by decide +kernel
theorem d_Ar_fill_3 : decode b_Ar_fill 3 = .ok (.arraylength, 1) := by decide +kernel
theorem d_Ar_fill_4 : decode b_Ar_fill 4 = .ok (.istore_n 3, 1) := by decide +kernel
theorem d_Ar_fill_5 : decode b_Ar_fill 5 = .ok (.iload_n 2, 1) := by decide +kernel
theorem d_Ar_fill_6 : decode b_Ar_fill 6 = .ok (.iload_n 3, 1) := by decide +kernel
theorem d_Ar_fill_7 : decode b_Ar_fill 7 = .ok (.if_icmp .ge 13, 3) := by decide +kernel
theorem d_Ar_fill_10 : decode b_Ar_fill 10 = .ok (.aload_n 0, 1) := by decide +kernel
theorem d_Ar_fill_11 : decode b_Ar_fill 11 = .ok (.iload_n 2, 1) := by decide +kernel
theorem d_Ar_fill_12 : decode b_Ar_fill 12 = .ok (.iload_n 1, 1) := by decide +kernel
theorem d_Ar_fill_13 : decode b_Ar_fill 13 = .ok (.iastore, 1) := by decide +kernel
theorem d_Ar_fill_14 : decode b_Ar_fill 14 = .ok (.iinc 2 1, 3) := by decide +kernel
theorem d_Ar_fill_17 : decode b_Ar_fill 17 = .ok (.goto (-12), 3) := by decide +kernel
theorem d_Ar_fill_20 : decode b_Ar_fill 20 = .ok (.return_, 1) := by decide +kernel
theorem d_Cv_tiredDay_0 : decode b_Cv_tiredDay 0 = .ok (.aload_n 0, 1) := by decide +kernel
theorem d_Cv_tiredDay_1 : decode b_Cv_tiredDay 1 = .ok (.getfield 18, 3) := by decide +kernel
theorem d_Cv_tiredDay_4 : decode b_Cv_tiredDay 4 = .ok (.iconst 0, 1) := by decide +kernel
theorem d_Cv_tiredDay_5 : decode b_Cv_tiredDay 5 = .ok (.invokestatic 120, 3) := by decide +kernel
theorem d_Cv_tiredDay_8 : decode b_Cv_tiredDay 8 = .ok (.iconst 0, 1) := by decide +kernel
theorem d_Cv_tiredDay_9 : decode b_Cv_tiredDay 9 = .ok (.istore_n 1, 1) := by decide +kernel
theorem d_Cv_tiredDay_10 : decode b_Cv_tiredDay 10 = .ok (.iload_n 1, 1) := by decide +kernel
theorem d_Cv_tiredDay_11 : decode b_Cv_tiredDay 11 = .ok (.aload_n 0, 1) := by decide +kernel
theorem d_Cv_tiredDay_12 : decode b_Cv_tiredDay 12 = .ok (.getfield 22, 3) := by decide +kernel
theorem d_Cv_tiredDay_15 : decode b_Cv_tiredDay 15 = .ok (.getfield 102, 3) := by decide +kernel
theorem d_Cv_tiredDay_18 : decode b_Cv_tiredDay 18 = .ok (.if_icmp .ge 47, 3) := by decide +kernel
theorem d_Cv_tiredDay_21 : decode b_Cv_tiredDay 21 = .ok (.aload_n 0, 1) := by decide +kernel
theorem d_Cv_tiredDay_22 : decode b_Cv_tiredDay 22 = .ok (.iload_n 1, 1) := by decide +kernel
theorem d_Cv_tiredDay_23 : decode b_Cv_tiredDay 23 = .ok (.invokevirtual 103, 3) := by decide +kernel
theorem d_Cv_tiredDay_26 : decode b_Cv_tiredDay 26 = .ok (.pop, 1) := by decide +kernel
theorem d_Cv_tiredDay_27 : decode b_Cv_tiredDay 27 = .ok (.iconst 0, 1) := by decide +kernel
theorem d_Cv_tiredDay_28 : decode b_Cv_tiredDay 28 = .ok (.istore_n 2, 1) := by decide +kernel
theorem d_Cv_tiredDay_29 : decode b_Cv_tiredDay 29 = .ok (.iload_n 2, 1) := by decide +kernel
theorem d_Cv_tiredDay_30 : decode b_Cv_tiredDay 30 = .ok (.bipush 24, 2) := by decide +kernel
theorem d_Cv_tiredDay_32 : decode b_Cv_tiredDay 32 = .ok (.if_icmp .ge 27, 3) := by decide +kernel
theorem d_Cv_tiredDay_35 : decode b_Cv_tiredDay 35 = .ok (.aload_n 0, 1) := by decide +kernel
theorem d_Cv_tiredDay_36 : decode b_Cv_tiredDay 36 = .ok (.getfield 18, 3) := by decide +kernel
theorem d_Cv_tiredDay_39 : decode b_Cv_tiredDay 39 = .ok (.iload_n 2, 1) := by decide +kernel
theorem d_Cv_tiredDay_40 : decode b_Cv_tiredDay 40 = .ok (.dup2, 1) := by decide +kernel
theorem d_Cv_tiredDay_41 : decode b_Cv_tiredDay 41 = .ok (.iaload, 1) := by decide +kernel
theorem d_Cv_tiredDay_42 : decode b_Cv_tiredDay 42 = .ok (.aload_n 0, 1) := by decide +kernel
theorem d_Cv_tiredDay_43 : decode b_Cv_tiredDay 43 = .ok (.getfield 12, 3) := by decide +kernel
theorem d_Cv_tiredDay_46 : decode b_Cv_tiredDay 46 = .ok (.iload_n 2, 1) := by decide +kernel
theorem d_Cv_tiredDay_47 : decode b_Cv_tiredDay 47 = .ok (.iconst 1, 1) := by decide +kernel
theorem d_Cv_tiredDay_48 : decode b_Cv_tiredDay 48 = .ok (.invokevirtual 107, 3) := by decide +kernel
theorem d_Cv_tiredDay_51 : decode b_Cv_tiredDay 51 = .ok (.iadd, 1) := by decide +kernel
theorem d_Cv_tiredDay_52 : decode b_Cv_tiredDay 52 = .ok (.iastore, 1) := by decide +kernel
theorem d_Cv_tiredDay_53 : decode b_Cv_tiredDay 53 = .ok (.iinc 2 1, 3) := by decide +kernel
theorem d_Cv_tiredDay_56 : decode b_Cv_tiredDay 56 = .ok (.goto (-27), 3) := by decide +kernel
theorem d_Cv_tiredDay_59 : decode b_Cv_tiredDay 59 = .ok (.iinc 1 1, 3) := by decide +kernel
theorem d_Cv_tiredDay_62 : decode b_Cv_tiredDay 62 = .ok (.goto (-52), 3) := by decide +kernel
theorem d_Cv_tiredDay_65 : decode b_Cv_tiredDay 65 = .ok (.iconst 0, 1) := by decide +kernel
theorem d_Cv_tiredDay_66 : decode b_Cv_tiredDay 66 = .ok (.istore_n 1, 1) := by decide +kernel
theorem d_Cv_tiredDay_67 : decode b_Cv_tiredDay 67 = .ok (.iconst 1, 1) := by decide +kernel
theorem d_Cv_tiredDay_68 : decode b_Cv_tiredDay 68 = .ok (.istore_n 2, 1) := by decide +kernel
theorem d_Cv_tiredDay_69 : decode b_Cv_tiredDay 69 = .ok (.iload_n 2, 1) := by decide +kernel
theorem d_Cv_tiredDay_70 : decode b_Cv_tiredDay 70 = .ok (.bipush 24, 2) := by decide +kernel
theorem d_Cv_tiredDay_72 : decode b_Cv_tiredDay 72 = .ok (.if_icmp .ge 26, 3) := by decide +kernel
theorem d_Cv_tiredDay_75 : decode b_Cv_tiredDay 75 = .ok (.aload_n 0, 1) := by decide +kernel
theorem d_Cv_tiredDay_76 : decode b_Cv_tiredDay 76 = .ok (.getfield 18, 3) := by decide +kernel
theorem d_Cv_tiredDay_79 : decode b_Cv_tiredDay 79 = .ok (.iload_n 2, 1) := by decide +kernel
theorem d_Cv_tiredDay_80 : decode b_Cv_tiredDay 80 = .ok (.iaload, 1) := by decide +kernel
theorem d_Cv_tiredDay_81 : decode b_Cv_tiredDay 81 = .ok (.aload_n 0, 1) := by decide +kernel
theorem d_Cv_tiredDay_82 : decode b_Cv_tiredDay 82 = .ok (.getfield 18, 3) := by decide +kernel
theorem d_Cv_tiredDay_85 : decode b_Cv_tiredDay 85 = .ok (.iload_n 1, 1) := by decide +kernel
theorem d_Cv_tiredDay_86 : decode b_Cv_tiredDay 86 = .ok (.iaload, 1) := by decide +kernel
theorem d_Cv_tiredDay_87 : decode b_Cv_tiredDay 87 = .ok (.if_icmp .ge 5, 3) := by decide +kernel
theorem d_Cv_tiredDay_90 : decode b_Cv_tiredDay 90 = .ok (.iload_n 2, 1) := by decide +kernel
theorem d_Cv_tiredDay_91 : decode b_Cv_tiredDay 91 = .ok (.istore_n 1, 1) := by decide +kernel
theorem d_Cv_tiredDay_92 : decode b_Cv_tiredDay 92 = .ok (.iinc 2 1, 3) := by decide +kernel
theorem d_Cv_tiredDay_95 : decode b_Cv_tiredDay 95 = .ok (.goto (-26), 3) := by decide +kernel
theorem d_Cv_tiredDay_98 : decode b_Cv_tiredDay 98 = .ok (.iload_n 1, 1) := by decide +kernel
theorem d_Cv_tiredDay_99 : decode b_Cv_tiredDay 99 = .ok (.ireturn, 1) := by decide +kernel
