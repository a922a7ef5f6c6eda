theorem dX8_soundOf_40 : decode cX8_soundOf 40 = .ok (.ireturn, 1) := by decide +kernel
theorem dX8_lastTickOf_0 : decode cX8_lastTickOf 0 = .ok (.iload_n 1, 1) := by decide +kernel
theorem dX8_lastTickOf_1 : decode cX8_lastTickOf 1 = .ok (.ifCond .lt 9, 3) := by decide +kernel
theorem dX8_lastTickOf_4 : decode cX8_lastTickOf 4 = .ok (.iload_n 1, 1) := by decide +kernel
theorem dX8_lastTickOf_5 : decode cX8_lastTickOf 5 = .ok (.bipush 8, 2) := by decide +kernel
theorem dX8_lastTickOf_7 : decode cX8_lastTickOf 7 = .ok (.if_icmp .lt 7, 3) := by decide +kernel
theorem dX8_lastTickOf_10 : decode cX8_lastTickOf 10 = .ok (.iconst 0, 1) := by decide +kernel
theorem dX8_lastTickOf_11 : decode cX8_lastTickOf 11 = .ok (.goto 9, 3) := by decide +kernel
theorem dX8_lastTickOf_14 : decode cX8_lastTickOf 14 = .ok (.aload_n 0, 1) := by decide +kernel
theorem dX8_lastTickOf_15 : decode cX8_lastTickOf 15 = .ok (.getfield 15, 3) := by decide +kernel
theorem dX8_lastTickOf_18 : decode cX8_lastTickOf 18 = .ok (.iload_n 1, 1) := by decide +kernel
theorem dX8_lastTickOf_19 : decode cX8_lastTickOf 19 = .ok (.iaload, 1) := by decide +kernel
theorem dX8_lastTickOf_20 : decode cX8_lastTickOf 20 = .ok (.ireturn, 1) := by decide +kernel
theorem dX8_comingTo_0 : decode cX8_comingTo 0 = .ok (.iconst 0, 1) := by decide +kernel
theorem dX8_comingTo_1 : decode cX8_comingTo 1 = .ok (.istore_n 3, 1) := by decide +kernel
theorem dX8_comingTo_2 : decode cX8_comingTo 2 = .ok (.iconst 0, 1) := by decide +kernel
theorem dX8_comingTo_3 : decode cX8_comingTo 3 = .ok (.istore 4, 2) := by decide +kernel
theorem dX8_comingTo_5 : decode cX8_comingTo 5 = .ok (.iload 4, 2) := by decide +kernel
theorem dX8_comingTo_7 : decode cX8_comingTo 7 = .ok (.bipush 8, 2) := by decide +kernel
theorem dX8_comingTo_9 : decode cX8_comingTo 9 = .ok (.if_icmp .ge 61, 3) := by decide +kernel
theorem dX8_comingTo_12 : decode cX8_comingTo 12 = .ok (.iconst 1, 1) := by decide +kernel
theorem dX8_comingTo_13 : decode cX8_comingTo 13 = .ok (.istore 5, 2) := by decide +kernel
theorem dX8_comingTo_15 : decode cX8_comingTo 15 = .ok (.iload 5, 2) := by decide +kernel
theorem dX8_comingTo_17 : decode cX8_comingTo 17 = .ok (.aload_n 0, 1) := by decide +kernel
theorem dX8_comingTo_18 : decode cX8_comingTo 18 = .ok (.getfield 15, 3) := by decide +kernel
theorem dX8_comingTo_21 : decode cX8_comingTo 21 = .ok (.iload 4, 2) := by decide +kernel
theorem dX8_comingTo_23 : decode cX8_comingTo 23 = .ok (.iaload, 1) := by decide +kernel
theorem dX8_comingTo_24 : decode cX8_comingTo 24 = .ok (.if_icmp .gt 40, 3) := by decide +kernel
theorem dX8_comingTo_27 : decode cX8_comingTo 27 = .ok (.aload_n 0, 1) := by decide +kernel
theorem dX8_comingTo_28 : decode cX8_comingTo 28 = .ok (.iload 4, 2) := by decide +kernel
theorem dX8_comingTo_30 : decode cX8_comingTo 30 = .ok (.iload 5, 2) := by decide +kernel
theorem dX8_comingTo_32 : decode cX8_comingTo 32 = .ok (.invokevirtual 47, 3) := by decide +kernel
theorem dX8_comingTo_35 : decode cX8_comingTo 35 = .ok (.istore 6, 2) := by decide +kernel
theorem dX8_comingTo_37 : decode cX8_comingTo 37 = .ok (.iload 6, 2) := by decide +kernel
theorem dX8_comingTo_39 : decode cX8_comingTo 39 = .ok (.invokestatic 50, 3) := by decide +kernel
theorem dX8_comingTo_42 : decode cX8_comingTo 42 = .ok (.iload_n 1, 1) := by decide +kernel
theorem dX8_comingTo_43 : decode cX8_comingTo 43 = .ok (.if_icmp .ne 15, 3) := by decide +kernel
theorem dX8_comingTo_46 : decode cX8_comingTo 46 = .ok (.iload 6, 2) := by decide +kernel
theorem dX8_comingTo_48 : decode cX8_comingTo 48 = .ok (.invokestatic 54, 3) := by decide +kernel
theorem dX8_comingTo_51 : decode cX8_comingTo 51 = .ok (.iload_n 2, 1) := by decide +kernel
theorem dX8_comingTo_52 : decode cX8_comingTo 52 = .ok (.if_icmp .lt 6, 3) := by decide +kernel
theorem dX8_comingTo_55 : decode cX8_comingTo 55 = .ok (.iinc 3 1, 3) := by decide +kernel
theorem dX8_comingTo_58 : decode cX8_comingTo 58 = .ok (.iinc 5 1, 3) := by decide +kernel
theorem dX8_comingTo_61 : decode cX8_comingTo 61 = .ok (.goto (-46), 3) := by decide +kernel
theorem dX8_comingTo_64 : decode cX8_comingTo 64 = .ok (.iinc 4 1, 3) := by decide +kernel
theorem dX8_comingTo_67 : decode cX8_comingTo 67 = .ok (.goto (-62), 3) := by decide +kernel
theorem dX8_comingTo_70 : decode cX8_comingTo 70 = .ok (.iload_n 3, 1) := by decide +kernel
theorem dX8_comingTo_71 : decode cX8_comingTo 71 = .ok (.ireturn, 1) := by decide +kernel
theorem dX8_firstTickAt_0 : decode cX8_firstTickAt 0 = .ok (.iconst 1, 1) := by decide +kernel
theorem dX8_firstTickAt_1 : decode cX8_firstTickAt 1 = .ok (.istore_n 2, 1) := by decide +kernel
theorem dX8_firstTickAt_2 : decode cX8_firstTickAt 2 = .ok (.iload_n 2, 1) := by decide +kernel
theorem dX8_firstTickAt_3 : decode cX8_firstTickAt 3 = .ok (.bipush 60, 2) := by decide +kernel
theorem dX8_firstTickAt_5 : decode cX8_firstTickAt 5 = .ok (.if_icmp .gt 38, 3) := by decide +kernel
theorem dX8_firstTickAt_8 : decode cX8_firstTickAt 8 = .ok (.iconst 0, 1) := by decide +kernel
theorem dX8_firstTickAt_9 : decode cX8_firstTickAt 9 = .ok (.istore_n 3, 1) := by decide +kernel
theorem dX8_firstTickAt_10 : decode cX8_firstTickAt 10 = .ok (.iload_n 3, 1) := by decide +kernel
theorem dX8_firstTickAt_11 : decode cX8_firstTickAt 11 = .ok (.bipush 8, 2) := by decide +kernel
theorem dX8_firstTickAt_13 : decode cX8_firstTickAt 13 = .ok (.if_icmp .ge 24, 3) := by decide +kernel
theorem dX8_firstTickAt_16 : decode cX8_firstTickAt 16 = .ok (.aload_n 0, 1) := by decide +kernel
theorem dX8_firstTickAt_17 : decode cX8_firstTickAt 17 = .ok (.iload_n 3, 1) := by decide +kernel
theorem dX8_firstTickAt_18 : decode cX8_firstTickAt 18 = .ok (.iload_n 2, 1) := by decide +kernel
theorem dX8_firstTickAt_19 : decode cX8_firstTickAt 19 = .ok (.invokevirtual 47, 3) := by decide +kernel
theorem dX8_firstTickAt_22 : decode cX8_firstTickAt 22 = .ok (.invokestatic 50, 3) := by decide +kernel
theorem dX8_firstTickAt_25 : decode cX8_firstTickAt 25 = .ok (.iload_n 1, 1) := by decide +kernel
theorem dX8_firstTickAt_26 : decode cX8_firstTickAt 26 = .ok (.if_icmp .ne 5, 3) := by decide +kernel
theorem dX8_firstTickAt_29 : decode cX8_firstTickAt 29 = .ok (.iload_n 2, 1) := by decide +kernel
theorem dX8_firstTickAt_30 : decode cX8_firstTickAt 30 = .ok (.ireturn, 1) := by decide +kernel
theorem dX8_firstTickAt_31 : decode cX8_firstTickAt 31 = .ok (.iinc 3 1, 3) := by decide +kernel
theorem dX8_firstTickAt_34 : decode cX8_firstTickAt 34 = .ok (.goto (-24), 3) := by decide +kernel
theorem dX8_firstTickAt_37 : decode cX8_firstTickAt 37 = .ok (.iinc 2 1, 3) := by decide +kernel
theorem dX8_firstTickAt_40 : decode cX8_firstTickAt 40 = .ok (.goto (-38), 3) := by decide +kernel
theorem dX8_firstTickAt_43 : decode cX8_firstTickAt 43 = .ok (.iconst (-1), 1) := by decide +kernel
theorem dX8_firstTickAt_44 : decode cX8_firstTickAt 44 = .ok (.ireturn, 1) := by decide +kernel
theorem dX8_greatestLoudAt_0 : decode cX8_greatestLoudAt 0 = .ok (.iconst (-1), 1) := by decide +kernel
theorem dX8_greatestLoudAt_1 : decode cX8_greatestLoudAt 1 = .ok (.istore_n 2, 1) := by decide +kernel
theorem dX8_greatestLoudAt_2 : decode cX8_greatestLoudAt 2 = .ok (.iconst 0, 1) := by decide +kernel
theorem dX8_greatestLoudAt_3 : decode cX8_greatestLoudAt 3 = .ok (.istore_n 3, 1) := by decide +kernel
theorem dX8_greatestLoudAt_4 : decode cX8_greatestLoudAt 4 = .ok (.iload_n 3, 1) := by decide +kernel
theorem dX8_greatestLoudAt_5 : decode cX8_greatestLoudAt 5 = .ok (.bipush 8, 2) := by decide +kernel
theorem dX8_greatestLoudAt_7 : decode cX8_greatestLoudAt 7 = .ok (.if_icmp .ge 57, 3) := by decide +kernel
theorem dX8_greatestLoudAt_10 : decode cX8_greatestLoudAt 10 = .ok (.iconst 1, 1) := by decide +kernel
theorem dX8_greatestLoudAt_11 : decode cX8_greatestLoudAt 11 = .ok (.istore 4, 2) := by decide +kernel
theorem dX8_greatestLoudAt_13 : decode cX8_greatestLoudAt 13 = .ok (.iload 4, 2) := by decide +kernel
theorem dX8_greatestLoudAt_15 : decode cX8_greatestLoudAt 15 = .ok (.aload_n 0, 1) := by decide +kernel
theorem dX8_greatestLoudAt_16 : decode cX8_greatestLoudAt 16 = .ok (.getfield 15, 3) := by decide +kernel
theorem dX8_greatestLoudAt_19 : decode cX8_greatestLoudAt 19 = .ok (.iload_n 3, 1) := by decide +kernel
theorem dX8_greatestLoudAt_20 : decode cX8_greatestLoudAt 20 = .ok (.iaload, 1) := by decide +kernel
theorem dX8_greatestLoudAt_21 : decode cX8_greatestLoudAt 21 = .ok (.if_icmp .gt 37, 3) := by decide +kernel
theorem dX8_greatestLoudAt_24 : decode cX8_greatestLoudAt 24 = .ok (.aload_n 0, 1) := by decide +kernel
theorem dX8_greatestLoudAt_25 : decode cX8_greatestLoudAt 25 = .ok (.iload_n 3, 1) := by decide +kernel
theorem dX8_greatestLoudAt_26 : decode cX8_greatestLoudAt 26 = .ok (.iload 4, 2) := by decide +kernel
theorem dX8_greatestLoudAt_28 : decode cX8_greatestLoudAt 28 = .ok (.invokevirtual 47, 3) := by decide +kernel
theorem dX8_greatestLoudAt_31 : decode cX8_greatestLoudAt 31 = .ok (.istore 5, 2) := by decide +kernel
theorem dX8_greatestLoudAt_33 : decode cX8_greatestLoudAt 33 = .ok (.iload 5, 2) := by decide +kernel
theorem dX8_greatestLoudAt_35 : decode cX8_greatestLoudAt 35 = .ok (.invokestatic 50, 3) := by decide +kernel
theorem dX8_greatestLoudAt_38 : decode cX8_greatestLoudAt 38 = .ok (.iload_n 1, 1) := by decide +kernel
theorem dX8_greatestLoudAt_39 : decode cX8_greatestLoudAt 39 = .ok (.if_icmp .ne 13, 3) := by decide +kernel
theorem dX8_greatestLoudAt_42 : decode cX8_greatestLoudAt 42 = .ok (.iload_n 2, 1) := by decide +kernel
theorem dX8_greatestLoudAt_43 : decode cX8_greatestLoudAt 43 = .ok (.iload 5, 2) := by decide +kernel
theorem dX8_greatestLoudAt_45 : decode cX8_greatestLoudAt 45 = .ok (.invokestatic 57, 3) := by decide +kernel
theorem dX8_greatestLoudAt_48 : decode cX8_greatestLoudAt 48 = .ok (.invokestatic 60, 3) := by decide +kernel
theorem dX8_greatestLoudAt_51 : decode cX8_greatestLoudAt 51 = .ok (.istore_n 2, 1) := by decide +kernel
theorem dX8_greatestLoudAt_52 : decode cX8_greatestLoudAt 52 = .ok (.iinc 4 1, 3) := by decide +kernel
theorem dX8_greatestLoudAt_55 : decode cX8_greatestLoudAt 55 = .ok (.goto (-42), 3) := by decide +kernel
theorem dX8_greatestLoudAt_58 : decode cX8_greatestLoudAt 58 = .ok (.iinc 3 1, 3) := by decide +kernel
theorem dX8_greatestLoudAt_61 : decode cX8_greatestLoudAt 61 = .ok (.goto (-57), 3) := by decide +kernel
theorem dX8_greatestLoudAt_64 : decode cX8_greatestLoudAt 64 = .ok (.iload_n 2, 1) := by decide +kernel
theorem dX8_greatestLoudAt_65 : decode cX8_greatestLoudAt 65 = .ok (.ireturn, 1) := by decide +kernel
theorem dX8_sameAt_0 : decode cX8_sameAt 0 = .ok (.iconst 1, 1) := by decide +kernel
theorem dX8_sameAt_1 : decode cX8_sameAt 1 = .ok (.istore_n 3, 1) := by decide +kernel
theorem dX8_sameAt_2 : decode cX8_sameAt 2 = .ok (.iload_n 3, 1) := by decide +kernel
theorem dX8_sameAt_3 : decode cX8_sameAt 3 = .ok (.bipush 60, 2) := by decide +kernel
theorem dX8_sameAt_5 : decode cX8_sameAt 5 = .ok (.if_icmp .gt 63, 3) := by decide +kernel
theorem dX8_sameAt_8 : decode cX8_sameAt 8 = .ok (.iconst 0, 1) := by decide +kernel
theorem dX8_sameAt_9 : decode cX8_sameAt 9 = .ok (.istore 4, 2) := by decide +kernel
theorem dX8_sameAt_11 : decode cX8_sameAt 11 = .ok (.iload 4, 2) := by decide +kernel
theorem dX8_sameAt_13 : decode cX8_sameAt 13 = .ok (.bipush 8, 2) := by decide +kernel
theorem dX8_sameAt_15 : decode cX8_sameAt 15 = .ok (.if_icmp .ge 47, 3) := by decide +kernel
theorem dX8_sameAt_18 : decode cX8_sameAt 18 = .ok (.aload_n 0, 1) := by decide +kernel
theorem dX8_sameAt_19 : decode cX8_sameAt 19 = .ok (.aload_n 0, 1) := by decide +kernel
theorem dX8_sameAt_20 : decode cX8_sameAt 20 = .ok (.iload 4, 2) := by decide +kernel
theorem dX8_sameAt_22 : decode cX8_sameAt 22 = .ok (.iload_n 3, 1) := by decide +kernel
theorem dX8_sameAt_23 : decode cX8_sameAt 23 = .ok (.invokevirtual 47, 3) := by decide +kernel
theorem dX8_sameAt_26 : decode cX8_sameAt 26 = .ok (.iload_n 1, 1) := by decide +kernel
theorem dX8_sameAt_27 : decode cX8_sameAt 27 = .ok (.iload_n 3, 1) := by decide +kernel
theorem dX8_sameAt_28 : decode cX8_sameAt 28 = .ok (.aload_n 2, 1) := by decide +kernel
theorem dX8_sameAt_29 : decode cX8_sameAt 29 = .ok (.invokevirtual 65, 3) := by decide +kernel
theorem dX8_sameAt_32 : decode cX8_sameAt 32 = .ok (.ifCond .ne 5, 3) := by decide +kernel
theorem dX8_sameAt_35 : decode cX8_sameAt 35 = .ok (.iconst 0, 1) := by decide +kernel
theorem dX8_sameAt_36 : decode cX8_sameAt 36 = .ok (.ireturn, 1) := by decide +kernel
theorem dX8_sameAt_37 : decode cX8_sameAt 37 = .ok (.aload_n 0, 1) := by decide +kernel
theorem dX8_sameAt_38 : decode cX8_sameAt 38 = .ok (.aload_n 2, 1) := by decide +kernel
theorem dX8_sameAt_39 : decode cX8_sameAt 39 = .ok (.iload 4, 2) := by decide +kernel
theorem dX8_sameAt_41 : decode cX8_sameAt 41 = .ok (.iload_n 3, 1) := by decide +kernel
theorem dX8_sameAt_42 : decode cX8_sameAt 42 = .ok (.invokevirtual 47, 3) := by decide +kernel
theorem dX8_sameAt_45 : decode cX8_sameAt 45 = .ok (.iload_n 1, 1) := by decide +kernel
theorem dX8_sameAt_46 : decode cX8_sameAt 46 = .ok (.iload_n 3, 1) := by decide +kernel
theorem dX8_sameAt_47 : decode cX8_sameAt 47 = .ok (.aload_n 2, 1) := by decide +kernel
theorem dX8_sameAt_48 : decode cX8_sameAt 48 = .ok (.invokevirtual 65, 3) := by decide +kernel
theorem dX8_sameAt_51 : decode cX8_sameAt 51 = .ok (.ifCond .ne 5, 3) := by decide +kernel
theorem dX8_sameAt_54 : decode cX8_sameAt 54 = .ok (.iconst 0, 1) := by decide +kernel
theorem dX8_sameAt_55 : decode cX8_sameAt 55 = .ok (.ireturn, 1) := by decide +kernel
theorem dX8_sameAt_56 : decode cX8_sameAt 56 = .ok (.iinc 4 1, 3) := by decide +kernel
theorem dX8_sameAt_59 : decode cX8_sameAt 59 = .ok (.goto (-48), 3) := by decide +kernel
theorem dX8_sameAt_62 : decode cX8_sameAt 62 = .ok (.iinc 3 1, 3) := by decide +kernel
theorem dX8_sameAt_65 : decode cX8_sameAt 65 = .ok (.goto (-63), 3) := by decide +kernel
theorem dX8_sameAt_68 : decode cX8_sameAt 68 = .ok (.iconst 1, 1) := by decide +kernel
theorem dX8_sameAt_69 : decode cX8_sameAt 69 = .ok (.ireturn, 1) := by decide +kernel
theorem dX8_asOften_0 : decode cX8_asOften 0 = .ok (.iload_n 1, 1) := by decide +kernel
theorem dX8_asOften_1 : decode cX8_asOften 1 = .ok (.invokestatic 50, 3) := by decide +kernel
theorem dX8_asOften_4 : decode cX8_asOften 4 = .ok (.iload_n 2, 1) := by decide +kernel
theorem dX8_asOften_5 : decode cX8_asOften 5 = .ok (.if_icmp .eq 5, 3) := by decide +kernel
theorem dX8_asOften_8 : decode cX8_asOften 8 = .ok (.iconst 1, 1) := by decide +kernel
theorem dX8_asOften_9 : decode cX8_asOften 9 = .ok (.ireturn, 1) := by decide +kernel
theorem dX8_asOften_10 : decode cX8_asOften 10 = .ok (.aload_n 0, 1) := by decide +kernel
theorem dX8_asOften_11 : decode cX8_asOften 11 = .ok (.iload_n 1, 1) := by decide +kernel
theorem dX8_asOften_12 : decode cX8_asOften 12 = .ok (.iload_n 3, 1) := by decide +kernel
theorem dX8_asOften_13 : decode cX8_asOften 13 = .ok (.invokevirtual 69, 3) := by decide +kernel
theorem dX8_asOften_16 : decode cX8_asOften 16 = .ok (.aload 4, 2) := by decide +kernel
theorem dX8_asOften_18 : decode cX8_asOften 18 = .ok (.iload_n 1, 1) := by decide +kernel
theorem dX8_asOften_19 : decode cX8_asOften 19 = .ok (.iload_n 3, 1) := by decide +kernel
theorem dX8_asOften_20 : decode cX8_asOften 20 = .ok (.invokevirtual 69, 3) := by decide +kernel
theorem dX8_asOften_23 : decode cX8_asOften 23 = .ok (.if_icmp .ne 7, 3) := by decide +kernel
theorem dX8_asOften_26 : decode cX8_asOften 26 = .ok (.iconst 1, 1) := by decide +kernel
theorem dX8_asOften_27 : decode cX8_asOften 27 = .ok (.goto 4, 3) := by decide +kernel
theorem dX8_asOften_30 : decode cX8_asOften 30 = .ok (.iconst 0, 1) := by decide +kernel
theorem dX8_asOften_31 : decode cX8_asOften 31 = .ok (.ireturn, 1) := by decide +kernel
theorem dX8_howOften_0 : decode cX8_howOften 0 = .ok (.iconst 0, 1) := by decide +kernel
theorem dX8_howOften_1 : decode cX8_howOften 1 = .ok (.istore_n 3, 1) := by decide +kernel
theorem dX8_howOften_2 : decode cX8_howOften 2 = .ok (.iconst 0, 1) := by decide +kernel
theorem dX8_howOften_3 : decode cX8_howOften 3 = .ok (.istore 4, 2) := by decide +kernel
theorem dX8_howOften_5 : decode cX8_howOften 5 = .ok (.iload 4, 2) := by decide +kernel
theorem dX8_howOften_7 : decode cX8_howOften 7 = .ok (.bipush 8, 2) := by decide +kernel
theorem dX8_howOften_9 : decode cX8_howOften 9 = .ok (.if_icmp .ge 23, 3) := by decide +kernel
theorem dX8_howOften_12 : decode cX8_howOften 12 = .ok (.aload_n 0, 1) := by decide +kernel
theorem dX8_howOften_13 : decode cX8_howOften 13 = .ok (.iload 4, 2) := by decide +kernel
theorem dX8_howOften_15 : decode cX8_howOften 15 = .ok (.iload_n 2, 1) := by decide +kernel
theorem dX8_howOften_16 : decode cX8_howOften 16 = .ok (.invokevirtual 47, 3) := by decide +kernel
theorem dX8_howOften_19 : decode cX8_howOften 19 = .ok (.iload_n 1, 1) := by decide +kernel
theorem dX8_howOften_20 : decode cX8_howOften 20 = .ok (.if_icmp .ne 6, 3) := by decide +kernel
theorem dX8_howOften_23 : decode cX8_howOften 23 = .ok (.iinc 3 1, 3) := by decide +kernel
theorem dX8_howOften_26 : decode cX8_howOften 26 = .ok (.iinc 4 1, 3) := by decide +kernel
theorem dX8_howOften_29 : decode cX8_howOften 29 = .ok (.goto (-24), 3) := by decide +kernel
theorem dX8_howOften_32 : decode cX8_howOften 32 = .ok (.iload_n 3, 1) := by decide +kernel
theorem dX8_howOften_33 : decode cX8_howOften 33 = .ok (.ireturn, 1) := by decide +kernel
theorem dX9_init_0 : decode cX9_init 0 = .ok (.aload_n 0, 1) := by decide +kernel
theorem dX9_init_1 : decode cX9_init 1 = .ok (.invokespecial 3, 3) := by decide +kernel
theorem dX9_init_4 : decode cX9_init 4 = .ok (.aload_n 0, 1) := by decide +kernel
theorem dX9_init_5 : decode cX9_init 5 = .ok (.new 9, 3) := by decide +kernel
theorem dX9_init_8 : decode cX9_init 8 = .ok (.dup, 1) := by decide +kernel
theorem dX9_init_9 : decode cX9_init 9 = .ok (.invokespecial 11, 3) := by decide +kernel
theorem dX9_init_12 : decode cX9_init 12 = .ok (.putfield 12, 3) := by decide +kernel
theorem dX9_init_15 : decode cX9_init 15 = .ok (.aload_n 0, 1) := by decide +kernel
theorem dX9_init_16 : decode cX9_init 16 = .ok (.new 16, 3) := by decide +kernel
theorem dX9_init_19 : decode cX9_init 19 = .ok (.dup, 1) := by decide +kernel
theorem dX9_init_20 : decode cX9_init 20 = .ok (.invokespecial 18, 3) := by decide +kernel
theorem dX9_init_23 : decode cX9_init 23 = .ok (.putfield 19, 3) := by decide +kernel
theorem dX9_init_26 : decode cX9_init 26 = .ok (.aload_n 0, 1) := by decide +kernel
theorem dX9_init_27 : decode cX9_init 27 = .ok (.new 23, 3) := by decide +kernel
theorem dX9_init_30 : decode cX9_init 30 = .ok (.dup, 1) := by decide +kernel
theorem dX9_init_31 : decode cX9_init 31 = .ok (.invokespecial 25, 3) := by decide +kernel
theorem dX9_init_34 : decode cX9_init 34 = .ok (.putfield 26, 3) := by decide +kernel
theorem dX9_init_37 : decode cX9_init 37 = .ok (.aload_n 0, 1) := by decide +kernel
theorem dX9_init_38 : decode cX9_init 38 = .ok (.new 23, 3) := by decide +kernel
theorem dX9_init_41 : decode cX9_init 41 = .ok (.dup, 1) := by decide +kernel
theorem dX9_init_42 : decode cX9_init 42 = .ok (.invokespecial 25, 3) := by decide +kernel
theorem dX9_init_45 : decode cX9_init 45 = .ok (.putfield 30, 3) := by decide +kernel
theorem dX9_init_48 : decode cX9_init 48 = .ok (.aload_n 0, 1) := by decide +kernel
theorem dX9_init_49 : decode cX9_init 49 = .ok (.new 33, 3) := by decide +kernel
theorem dX9_init_52 : decode cX9_init 52 = .ok (.dup, 1) := by decide +kernel
theorem dX9_init_53 : decode cX9_init 53 = .ok (.invokespecial 35, 3) := by decide +kernel
theorem dX9_init_56 : decode cX9_init 56 = .ok (.putfield 36, 3) := by decide +kernel
theorem dX9_init_59 : decode cX9_init 59 = .ok (.aload_n 0, 1) := by decide +kernel
theorem dX9_init_60 : decode cX9_init 60 = .ok (.new 40, 3) := by decide +kernel
theorem dX9_init_63 : decode cX9_init 63 = .ok (.dup, 1) := by decide +kernel
theorem dX9_init_64 : decode cX9_init 64 = .ok (.invokespecial 42, 3) := by decide +kernel
theorem dX9_init_67 : decode cX9_init 67 = .ok (.putfield 43, 3) := by decide +kernel
theorem dX9_init_70 : decode cX9_init 70 = .ok (.aload_n 0, 1) := by decide +kernel
theorem dX9_init_71 : decode cX9_init 71 = .ok (.new 40, 3) := by decide +kernel
theorem dX9_init_74 : decode cX9_init 74 = .ok (.dup, 1) := by decide +kernel
theorem dX9_init_75 : decode cX9_init 75 = .ok (.invokespecial 42, 3) := by decide +kernel
theorem dX9_init_78 : decode cX9_init 78 = .ok (.putfield 47, 3) := by decide +kernel
theorem dX9_init_81 : decode cX9_init 81 = .ok (.aload_n 0, 1) := by decide +kernel
theorem dX9_init_82 : decode cX9_init 82 = .ok (.new 50, 3) := by decide +kernel
theorem dX9_init_85 : decode cX9_init 85 = .ok (.dup, 1) := by decide +kernel
theorem dX9_init_86 : decode cX9_init 86 = .ok (.invokespecial 52, 3) := by decide +kernel
theorem dX9_init_89 : decode cX9_init 89 = .ok (.putfield 53, 3) := by decide +kernel
theorem dX9_init_92 : decode cX9_init 92 = .ok (.aload_n 0, 1) := by decide +kernel
theorem dX9_init_93 : decode cX9_init 93 = .ok (.new 50, 3) := by decide +kernel
theorem dX9_init_96 : decode cX9_init 96 = .ok (.dup, 1) := by decide +kernel
theorem dX9_init_97 : decode cX9_init 97 = .ok (.invokespecial 52, 3) := by decide +kernel
theorem dX9_init_100 : decode cX9_init 100 = .ok (.putfield 57, 3) := by decide +kernel
theorem dX9_init_103 : decode cX9_init 103 = .ok (.aload_n 0, 1) := by decide +kernel
theorem dX9_init_104 : decode cX9_init 104 = .ok (.new 60, 3) := by decide +kernel
theorem dX9_init_107 : decode cX9_init 107 = .ok (.dup, 1) := by decide +kernel
theorem dX9_init_108 : decode cX9_init 108 = .ok (.invokespecial 62, 3) := by decide +kernel
theorem dX9_init_111 : decode cX9_init 111 = .ok (.putfield 63, 3) := by decide +kernel
theorem dX9_init_114 : decode cX9_init 114 = .ok (.aload_n 0, 1) := by decide +kernel
theorem dX9_init_115 : decode cX9_init 115 = .ok (.new 67, 3) := by decide +kernel
theorem dX9_init_118 : decode cX9_init 118 = .ok (.dup, 1) := by decide +kernel
theorem dX9_init_119 : decode cX9_init 119 = .ok (.invokespecial 69, 3) := by decide +kernel
theorem dX9_init_122 : decode cX9_init 122 = .ok (.putfield 70, 3) := by decide +kernel
theorem dX9_init_125 : decode cX9_init 125 = .ok (.aload_n 0, 1) := by decide +kernel
theorem dX9_init_126 : decode cX9_init 126 = .ok (.new 74, 3) := by decide +kernel
theorem dX9_init_129 : decode cX9_init 129 = .ok (.dup, 1) := by decide +kernel
theorem dX9_init_130 : decode cX9_init 130 = .ok (.invokespecial 76, 3) := by decide +kernel
theorem dX9_init_133 : decode cX9_init 133 = .ok (.putfield 77, 3) := by decide +kernel
theorem dX9_init_136 : decode cX9_init 136 = .ok (.aload_n 0, 1) := by decide +kernel
theorem dX9_init_137 : decode cX9_init 137 = .ok (.bipush 36, 2) := by decide +kernel
theorem dX9_init_139 : decode cX9_init 139 = .ok (.newarray .int, 2) := by decide +kernel
theorem dX9_init_141 : decode cX9_init 141 = .ok (.putfield 81, 3) := by decide +kernel
theorem dX9_init_144 : decode cX9_init 144 = .ok (.aload_n 0, 1) := by decide +kernel
theorem dX9_init_145 : decode cX9_init 145 = .ok (.bipush 41, 2) := by decide +kernel
theorem dX9_init_147 : decode cX9_init 147 = .ok (.newarray .int, 2) := by decide +kernel
theorem dX9_init_149 : decode cX9_init 149 = .ok (.putfield 85, 3) := by decide +kernel
theorem dX9_init_152 : decode cX9_init 152 = .ok (.return_, 1) := by decide +kernel
theorem dX9_write_0 : decode cX9_write 0 = .ok (.iload_n 3, 1) := by decide +kernel
theorem dX9_write_1 : decode cX9_write 1 = .ok (.iconst 1, 1) := by decide +kernel
theorem dX9_write_2 : decode cX9_write 2 = .ok (.if_icmp .lt 9, 3) := by decide +kernel
theorem dX9_write_5 : decode cX9_write 5 = .ok (.iload_n 3, 1) := by decide +kernel
theorem dX9_write_6 : decode cX9_write 6 = .ok (.bipush 8, 2) := by decide +kernel
theorem dX9_write_8 : decode cX9_write 8 = .ok (.if_icmp .le 6, 3) := by decide +kernel
theorem dX9_write_11 : decode cX9_write 11 = .ok (.bipush (-3), 2) := by decide +kernel
theorem dX9_write_13 : decode cX9_write 13 = .ok (.ireturn, 1) := by decide +kernel
theorem dX9_write_14 : decode cX9_write 14 = .ok (.aload_n 0, 1) := by decide +kernel
theorem dX9_write_15 : decode cX9_write 15 = .ok (.getfield 12, 3) := by decide +kernel
theorem dX9_write_18 : decode cX9_write 18 = .ok (.getfield 88, 3) := by decide +kernel
theorem dX9_write_21 : decode cX9_write 21 = .ok (.iload_n 3, 1) := by decide +kernel
theorem dX9_write_22 : decode cX9_write 22 = .ok (.iadd, 1) := by decide +kernel
theorem dX9_write_23 : decode cX9_write 23 = .ok (.sipush 200, 3) := by decide +kernel
theorem dX9_write_26 : decode cX9_write 26 = .ok (.if_icmp .le 6, 3) := by decide +kernel
theorem dX9_write_29 : decode cX9_write 29 = .ok (.bipush (-5), 2) := by decide +kernel
theorem dX9_write_31 : decode cX9_write 31 = .ok (.ireturn, 1) := by decide +kernel
theorem dX9_write_32 : decode cX9_write 32 = .ok (.iconst 0, 1) := by decide +kernel
theorem dX9_write_33 : decode cX9_write 33 = .ok (.istore 4, 2) := by decide +kernel
theorem dX9_write_35 : decode cX9_write 35 = .ok (.iload 4, 2) := by decide +kernel
theorem dX9_write_37 : decode cX9_write 37 = .ok (.iload_n 3, 1) := by decide +kernel
theorem dX9_write_38 : decode cX9_write 38 = .ok (.if_icmp .ge 28, 3) := by decide +kernel
theorem dX9_write_41 : decode cX9_write 41 = .ok (.aload_n 0, 1) := by decide +kernel
theorem dX9_write_42 : decode cX9_write 42 = .ok (.getfield 12, 3) := by decide +kernel
theorem dX9_write_45 : decode cX9_write 45 = .ok (.lload_n 1, 1) := by decide +kernel
theorem dX9_write_46 : decode cX9_write 46 = .ok (.bipush 8, 2) := by decide +kernel
theorem dX9_write_48 : decode cX9_write 48 = .ok (.iload 4, 2) := by decide +kernel
theorem dX9_write_50 : decode cX9_write 50 = .ok (.imul, 1) := by decide +kernel
theorem dX9_write_51 : decode cX9_write 51 = .ok (.lshr, 1) := by decide +kernel
theorem dX9_write_52 : decode cX9_write 52 = .ok (.ldc2_w 92, 3) := by decide +kernel
theorem dX9_write_55 : decode cX9_write 55 = .ok (.land, 1) := by decide +kernel
theorem dX9_write_56 : decode cX9_write 56 = .ok (.l2i, 1) := by decide +kernel
theorem dX9_write_57 : decode cX9_write 57 = .ok (.invokevirtual 94, 3) := by decide +kernel
theorem dX9_write_60 : decode cX9_write 60 = .ok (.iinc 4 1, 3) := by decide +kernel
theorem dX9_write_63 : decode cX9_write 63 = .ok (.goto (-28), 3) := by decide +kernel
theorem dX9_write_66 : decode cX9_write 66 = .ok (.aload_n 0, 1) := by decide +kernel
theorem dX9_write_67 : decode cX9_write 67 = .ok (.getfield 12, 3) := by decide +kernel
theorem dX9_write_70 : decode cX9_write 70 = .ok (.getfield 88, 3) := by decide +kernel
theorem dX9_write_73 : decode cX9_write 73 = .ok (.ireturn, 1) := by decide +kernel
theorem dX9_erase_0 : decode cX9_erase 0 = .ok (.aload_n 0, 1) := by decide +kernel
theorem dX9_erase_1 : decode cX9_erase 1 = .ok (.getfield 12, 3) := by decide +kernel
theorem dX9_erase_4 : decode cX9_erase 4 = .ok (.getfield 88, 3) := by decide +kernel
theorem dX9_erase_7 : decode cX9_erase 7 = .ok (.istore_n 1, 1) := by decide +kernel
theorem dX9_erase_8 : decode cX9_erase 8 = .ok (.aload_n 0, 1) := by decide +kernel
theorem dX9_erase_9 : decode cX9_erase 9 = .ok (.getfield 12, 3) := by decide +kernel
theorem dX9_erase_12 : decode cX9_erase 12 = .ok (.iconst 0, 1) := by decide +kernel
theorem dX9_erase_13 : decode cX9_erase 13 = .ok (.putfield 88, 3) := by decide +kernel
theorem dX9_erase_16 : decode cX9_erase 16 = .ok (.iload_n 1, 1) := by decide +kernel
theorem dX9_erase_17 : decode cX9_erase 17 = .ok (.ireturn, 1) := by decide +kernel
theorem dX9_fault_0 : decode cX9_fault 0 = .ok (.aload_n 0, 1) := by decide +kernel
theorem dX9_fault_1 : decode cX9_fault 1 = .ok (.getfield 30, 3) := by decide +kernel
theorem dX9_fault_4 : decode cX9_fault 4 = .ok (.aload_n 0, 1) := by decide +kernel
theorem dX9_fault_5 : decode cX9_fault 5 = .ok (.getfield 26, 3) := by decide +kernel
theorem dX9_fault_8 : decode cX9_fault 8 = .ok (.invokevirtual 98, 3) := by decide +kernel
theorem dX9_fault_11 : decode cX9_fault 11 = .ok (.aload_n 0, 1) := by decide +kernel
theorem dX9_fault_12 : decode cX9_fault 12 = .ok (.getfield 19, 3) := by decide +kernel
theorem dX9_fault_15 : decode cX9_fault 15 = .ok (.aload_n 0, 1) := by decide +kernel
theorem dX9_fault_16 : decode cX9_fault 16 = .ok (.getfield 12, 3) := by decide +kernel
theorem dX9_fault_19 : decode cX9_fault 19 = .ok (.aload_n 0, 1) := by decide +kernel
theorem dX9_fault_20 : decode cX9_fault 20 = .ok (.getfield 30, 3) := by decide +kernel
theorem dX9_fault_23 : decode cX9_fault 23 = .ok (.invokevirtual 102, 3) := by decide +kernel
theorem dX9_fault_26 : decode cX9_fault 26 = .ok (.ireturn, 1) := by decide +kernel
theorem dX9_canyon_0 : decode cX9_canyon 0 = .ok (.aload_n 0, 1) := by decide +kernel
theorem dX9_canyon_1 : decode cX9_canyon 1 = .ok (.getfield 30, 3) := by decide +kernel
theorem dX9_canyon_4 : decode cX9_canyon 4 = .ok (.aload_n 0, 1) := by decide +kernel
theorem dX9_canyon_5 : decode cX9_canyon 5 = .ok (.getfield 26, 3) := by decide +kernel
theorem dX9_canyon_8 : decode cX9_canyon 8 = .ok (.invokevirtual 98, 3) := by decide +kernel
theorem dX9_canyon_11 : decode cX9_canyon 11 = .ok (.aload_n 0, 1) := by decide +kernel
theorem dX9_canyon_12 : decode cX9_canyon 12 = .ok (.getfield 19, 3) := by decide +kernel
theorem dX9_canyon_15 : decode cX9_canyon 15 = .ok (.aload_n 0, 1) := by decide +kernel
theorem dX9_canyon_16 : decode cX9_canyon 16 = .ok (.getfield 12, 3) := by decide +kernel
theorem dX9_canyon_19 : decode cX9_canyon 19 = .ok (.aload_n 0, 1) := by decide +kernel
theorem dX9_canyon_20 : decode cX9_canyon 20 = .ok (.getfield 30, 3) := by decide +kernel
theorem dX9_canyon_23 : decode cX9_canyon 23 = .ok (.invokevirtual 102, 3) := by decide +kernel
theorem dX9_canyon_26 : decode cX9_canyon 26 = .ok (.iconst (-1), 1) := by decide +kernel
theorem dX9_canyon_27 : decode cX9_canyon 27 = .ok (.if_icmp .eq 6, 3) := by decide +kernel
theorem dX9_canyon_30 : decode cX9_canyon 30 = .ok (.bipush (-4), 2) := by decide +kernel
theorem dX9_canyon_32 : decode cX9_canyon 32 = .ok (.ireturn, 1) := by decide +kernel
theorem dX9_canyon_33 : decode cX9_canyon 33 = .ok (.aload_n 0, 1) := by decide +kernel
theorem dX9_canyon_34 : decode cX9_canyon 34 = .ok (.getfield 26, 3) := by decide +kernel
theorem dX9_canyon_37 : decode cX9_canyon 37 = .ok (.aload_n 0, 1) := by decide +kernel
theorem dX9_canyon_38 : decode cX9_canyon 38 = .ok (.getfield 30, 3) := by decide +kernel
theorem dX9_canyon_41 : decode cX9_canyon 41 = .ok (.invokevirtual 98, 3) := by decide +kernel
theorem dX9_canyon_44 : decode cX9_canyon 44 = .ok (.aload_n 0, 1) := by decide +kernel
theorem dX9_canyon_45 : decode cX9_canyon 45 = .ok (.getfield 12, 3) := by decide +kernel
theorem dX9_canyon_48 : decode cX9_canyon 48 = .ok (.iconst 0, 1) := by decide +kernel
theorem dX9_canyon_49 : decode cX9_canyon 49 = .ok (.putfield 88, 3) := by decide +kernel
theorem dX9_canyon_52 : decode cX9_canyon 52 = .ok (.aload_n 0, 1) := by decide +kernel
theorem dX9_canyon_53 : decode cX9_canyon 53 = .ok (.getfield 36, 3) := by decide +kernel
theorem dX9_canyon_56 : decode cX9_canyon 56 = .ok (.invokevirtual 106, 3) := by decide +kernel
theorem dX9_canyon_59 : decode cX9_canyon 59 = .ok (.aload_n 0, 1) := by decide +kernel
theorem dX9_canyon_60 : decode cX9_canyon 60 = .ok (.getfield 43, 3) := by decide +kernel
theorem dX9_canyon_63 : decode cX9_canyon 63 = .ok (.iconst 0, 1) := by decide +kernel
theorem dX9_canyon_64 : decode cX9_canyon 64 = .ok (.putfield 109, 3) := by decide +kernel
theorem dX9_canyon_67 : decode cX9_canyon 67 = .ok (.aload_n 0, 1) := by decide +kernel
theorem dX9_canyon_68 : decode cX9_canyon 68 = .ok (.getfield 47, 3) := by decide +kernel
theorem dX9_canyon_71 : decode cX9_canyon 71 = .ok (.iconst 0, 1) := by decide +kernel
theorem dX9_canyon_72 : decode cX9_canyon 72 = .ok (.putfield 109, 3) := by decide +kernel
theorem dX9_canyon_75 : decode cX9_canyon 75 = .ok (.aload_n 0, 1) := by decide +kernel
theorem dX9_canyon_76 : decode cX9_canyon 76 = .ok (.getfield 19, 3) := by decide +kernel
theorem dX9_canyon_79 : decode cX9_canyon 79 = .ok (.getfield 113, 3) := by decide +kernel
theorem dX9_canyon_82 : decode cX9_canyon 82 = .ok (.ireturn, 1) := by decide +kernel
theorem dX9_cell_0 : decode cX9_cell 0 = .ok (.aload_n 0, 1) := by decide +kernel
theorem dX9_cell_1 : decode cX9_cell 1 = .ok (.getfield 26, 3) := by decide +kernel
theorem dX9_cell_4 : decode cX9_cell 4 = .ok (.iload_n 1, 1) := by decide +kernel
theorem dX9_cell_5 : decode cX9_cell 5 = .ok (.invokevirtual 116, 3) := by decide +kernel
theorem dX9_cell_8 : decode cX9_cell 8 = .ok (.ifCond .ne 6, 3) := by decide +kernel
theorem dX9_cell_11 : decode cX9_cell 11 = .ok (.bipush (-2), 2) := by decide +kernel
theorem dX9_cell_13 : decode cX9_cell 13 = .ok (.ireturn, 1) := by decide +kernel
theorem dX9_cell_14 : decode cX9_cell 14 = .ok (.iload_n 2, 1) := by decide +kernel
theorem dX9_cell_15 : decode cX9_cell 15 = .ok (.tableswitch 60 0 2 #[25, 42, 51], 25) := by decide +kernel
theorem dX9_cell_40 : decode cX9_cell 40 = .ok (.aload_n 0, 1) := by decide +kernel
theorem dX9_cell_41 : decode cX9_cell 41 = .ok (.getfield 26, 3) := by decide +kernel
theorem dX9_cell_44 : decode cX9_cell 44 = .ok (.iload_n 1, 1) := by decide +kernel
theorem dX9_cell_45 : decode cX9_cell 45 = .ok (.invokevirtual 120, 3) := by decide +kernel
theorem dX9_cell_48 : decode cX9_cell 48 = .ok (.ifCond .eq 7, 3) := by decide +kernel
theorem dX9_cell_51 : decode cX9_cell 51 = .ok (.iconst 1, 1) := by decide +kernel
theorem dX9_cell_52 : decode cX9_cell 52 = .ok (.goto 4, 3) := by decide +kernel
theorem dX9_cell_55 : decode cX9_cell 55 = .ok (.iconst 0, 1) := by decide +kernel
theorem dX9_cell_56 : decode cX9_cell 56 = .ok (.ireturn, 1) := by decide +kernel
theorem dX9_cell_57 : decode cX9_cell 57 = .ok (.aload_n 0, 1) := by decide +kernel
theorem dX9_cell_58 : decode cX9_cell 58 = .ok (.getfield 26, 3) := by decide +kernel
theorem dX9_cell_61 : decode cX9_cell 61 = .ok (.iload_n 1, 1) := by decide +kernel
theorem dX9_cell_62 : decode cX9_cell 62 = .ok (.invokevirtual 123, 3) := by decide +kernel
theorem dX9_cell_65 : decode cX9_cell 65 = .ok (.ireturn, 1) := by decide +kernel
theorem dX9_cell_66 : decode cX9_cell 66 = .ok (.aload_n 0, 1) := by decide +kernel
theorem dX9_cell_67 : decode cX9_cell 67 = .ok (.getfield 26, 3) := by decide +kernel
theorem dX9_cell_70 : decode cX9_cell 70 = .ok (.iload_n 1, 1) := by decide +kernel
theorem dX9_cell_71 : decode cX9_cell 71 = .ok (.invokevirtual 127, 3) := by decide +kernel
theorem dX9_cell_74 : decode cX9_cell 74 = .ok (.ireturn, 1) := by decide +kernel
theorem dX9_cell_75 : decode cX9_cell 75 = .ok (.bipush (-3), 2) := by decide +kernel
theorem dX9_cell_77 : decode cX9_cell 77 = .ok (.ireturn, 1) := by decide +kernel
theorem dX9_person_0 : decode cX9_person 0 = .ok (.iload_n 1, 1) := by decide +kernel
theorem dX9_person_1 : decode cX9_person 1 = .ok (.invokestatic 130, 3) := by decide +kernel
theorem dX9_person_4 : decode cX9_person 4 = .ok (.ifCond .ne 6, 3) := by decide +kernel
theorem dX9_person_7 : decode cX9_person 7 = .ok (.bipush (-2), 2) := by decide +kernel
theorem dX9_person_9 : decode cX9_person 9 = .ok (.ireturn, 1) := by decide +kernel
theorem dX9_person_10 : decode cX9_person 10 = .ok (.iload_n 2, 1) := by decide +kernel
theorem dX9_person_11 : decode cX9_person 11 = .ok (.tableswitch 55 0 2 #[25, 34, 46], 25) := by decide +kernel
theorem dX9_person_36 : decode cX9_person 36 = .ok (.aload_n 0, 1) := by decide +kernel
theorem dX9_person_37 : decode cX9_person 37 = .ok (.getfield 26, 3) := by decide +kernel
theorem dX9_person_40 : decode cX9_person 40 = .ok (.iload_n 1, 1) := by decide +kernel
theorem dX9_person_41 : decode cX9_person 41 = .ok (.invokevirtual 133, 3) := by decide +kernel
theorem dX9_person_44 : decode cX9_person 44 = .ok (.ireturn, 1) := by decide +kernel
theorem dX9_person_45 : decode cX9_person 45 = .ok (.ldc 136, 2) := by decide +kernel
theorem dX9_person_47 : decode cX9_person 47 = .ok (.aload_n 0, 1) := by decide +kernel
theorem dX9_person_48 : decode cX9_person 48 = .ok (.getfield 36, 3) := by decide +kernel
theorem dX9_person_51 : decode cX9_person 51 = .ok (.iload_n 1, 1) := by decide +kernel
theorem dX9_person_52 : decode cX9_person 52 = .ok (.invokevirtual 137, 3) := by decide +kernel
theorem dX9_person_55 : decode cX9_person 55 = .ok (.iadd, 1) := by decide +kernel
theorem dX9_person_56 : decode cX9_person 56 = .ok (.ireturn, 1) := by decide +kernel
theorem dX9_person_57 : decode cX9_person 57 = .ok (.aload_n 0, 1) := by decide +kernel
theorem dX9_person_58 : decode cX9_person 58 = .ok (.getfield 36, 3) := by decide +kernel
theorem dX9_person_61 : decode cX9_person 61 = .ok (.iload_n 1, 1) := by decide +kernel
theorem dX9_person_62 : decode cX9_person 62 = .ok (.invokevirtual 140, 3) := by decide +kernel
theorem dX9_person_65 : decode cX9_person 65 = .ok (.ireturn, 1) := by decide +kernel
theorem dX9_person_66 : decode cX9_person 66 = .ok (.bipush (-3), 2) := by decide +kernel
theorem dX9_person_68 : decode cX9_person 68 = .ok (.ireturn, 1) := by decide +kernel
theorem dX9_law_0 : decode cX9_law 0 = .ok (.iload_n 1, 1) := by decide +kernel
theorem dX9_law_1 : decode cX9_law 1 = .ok (.ifCond .lt 12, 3) := by decide +kernel
theorem dX9_law_4 : decode cX9_law 4 = .ok (.iload_n 2, 1) := by decide +kernel
theorem dX9_law_5 : decode cX9_law 5 = .ok (.ifCond .lt 8, 3) := by decide +kernel
theorem dX9_law_8 : decode cX9_law 8 = .ok (.iload_n 2, 1) := by decide +kernel
theorem dX9_law_9 : decode cX9_law 9 = .ok (.iconst 2, 1) := by decide +kernel
theorem dX9_law_10 : decode cX9_law 10 = .ok (.if_icmp .le 6, 3) := by decide +kernel
theorem dX9_law_13 : decode cX9_law 13 = .ok (.bipush (-3), 2) := by decide +kernel
theorem dX9_law_15 : decode cX9_law 15 = .ok (.ireturn, 1) := by decide +kernel
theorem dX9_law_16 : decode cX9_law 16 = .ok (.iload_n 1, 1) := by decide +kernel
theorem dX9_law_17 : decode cX9_law 17 = .ok (.aload_n 0, 1) := by decide +kernel
theorem dX9_law_18 : decode cX9_law 18 = .ok (.getfield 26, 3) := by decide +kernel
theorem dX9_law_21 : decode cX9_law 21 = .ok (.getfield 143, 3) := by decide +kernel
theorem dX9_law_24 : decode cX9_law 24 = .ok (.if_icmp .lt 5, 3) := by decide +kernel
theorem dX9_law_27 : decode cX9_law 27 = .ok (.iconst (-1), 1) := by decide +kernel
theorem dX9_law_28 : decode cX9_law 28 = .ok (.ireturn, 1) := by decide +kernel
theorem dX9_law_29 : decode cX9_law 29 = .ok (.aload_n 0, 1) := by decide +kernel
theorem dX9_law_30 : decode cX9_law 30 = .ok (.getfield 26, 3) := by decide +kernel
theorem dX9_law_33 : decode cX9_law 33 = .ok (.iload_n 1, 1) := by decide +kernel
theorem dX9_law_34 : decode cX9_law 34 = .ok (.iload_n 2, 1) := by decide +kernel
theorem dX9_law_35 : decode cX9_law 35 = .ok (.invokevirtual 146, 3) := by decide +kernel
theorem dX9_law_38 : decode cX9_law 38 = .ok (.ireturn, 1) := by decide +kernel
theorem dX9_cry_0 : decode cX9_cry 0 = .ok (.aload_n 0, 1) := by decide +kernel
theorem dX9_cry_1 : decode cX9_cry 1 = .ok (.iload_n 1, 1) := by decide +kernel
theorem dX9_cry_2 : decode cX9_cry 2 = .ok (.iload_n 2, 1) := by decide +kernel
theorem dX9_cry_3 : decode cX9_cry 3 = .ok (.iload 4, 2) := by decide +kernel
theorem dX9_cry_5 : decode cX9_cry 5 = .ok (.invokevirtual 150, 3) := by decide +kernel
theorem dX9_cry_8 : decode cX9_cry 8 = .ok (.istore 5, 2) := by decide +kernel
theorem dX9_cry_10 : decode cX9_cry 10 = .ok (.iload 5, 2) := by decide +kernel
theorem dX9_cry_12 : decode cX9_cry 12 = .ok (.ifCond .eq 6, 3) := by decide +kernel
theorem dX9_cry_15 : decode cX9_cry 15 = .ok (.iload 5, 2) := by decide +kernel
theorem dX9_cry_17 : decode cX9_cry 17 = .ok (.ireturn, 1) := by decide +kernel
theorem dX9_cry_18 : decode cX9_cry 18 = .ok (.aload_n 0, 1) := by decide +kernel
theorem dX9_cry_19 : decode cX9_cry 19 = .ok (.getfield 36, 3) := by decide +kernel
theorem dX9_cry_22 : decode cX9_cry 22 = .ok (.getfield 154, 3) := by decide +kernel
theorem dX9_cry_25 : decode cX9_cry 25 = .ok (.bipush 20, 2) := by decide +kernel
theorem dX9_cry_27 : decode cX9_cry 27 = .ok (.if_icmp .lt 6, 3) := by decide +kernel
theorem dX9_cry_30 : decode cX9_cry 30 = .ok (.bipush (-5), 2) := by decide +kernel
theorem dX9_cry_32 : decode cX9_cry 32 = .ok (.ireturn, 1) := by decide +kernel
theorem dX9_cry_33 : decode cX9_cry 33 = .ok (.aload_n 0, 1) := by decide +kernel
theorem dX9_cry_34 : decode cX9_cry 34 = .ok (.getfield 26, 3) := by decide +kernel
theorem dX9_cry_37 : decode cX9_cry 37 = .ok (.iload_n 1, 1) := by decide +kernel
theorem dX9_cry_38 : decode cX9_cry 38 = .ok (.invokevirtual 133, 3) := by decide +kernel
theorem dX9_cry_41 : decode cX9_cry 41 = .ok (.istore 6, 2) := by decide +kernel
theorem dX9_cry_43 : decode cX9_cry 43 = .ok (.aload_n 0, 1) := by decide +kernel
theorem dX9_cry_44 : decode cX9_cry 44 = .ok (.iload_n 1, 1) := by decide +kernel
theorem dX9_cry_45 : decode cX9_cry 45 = .ok (.iload 6, 2) := by decide +kernel
theorem dX9_cry_47 : decode cX9_cry 47 = .ok (.iload_n 2, 1) := by decide +kernel
theorem dX9_cry_48 : decode cX9_cry 48 = .ok (.iload_n 3, 1) := by decide +kernel
theorem dX9_cry_49 : decode cX9_cry 49 = .ok (.iload 4, 2) := by decide +kernel
theorem dX9_cry_51 : decode cX9_cry 51 = .ok (.invokevirtual 157, 3) := by decide +kernel
theorem dX9_cry_54 : decode cX9_cry 54 = .ok (.istore 7, 2) := by decide +kernel
theorem dX9_cry_56 : decode cX9_cry 56 = .ok (.aload_n 0, 1) := by decide +kernel
theorem dX9_cry_57 : decode cX9_cry 57 = .ok (.getfield 26, 3) := by decide +kernel
theorem dX9_cry_60 : decode cX9_cry 60 = .ok (.iload 4, 2) := by decide +kernel
theorem dX9_cry_62 : decode cX9_cry 62 = .ok (.invokevirtual 161, 3) := by decide +kernel
theorem dX9_cry_65 : decode cX9_cry 65 = .ok (.istore 8, 2) := by decide +kernel
theorem dX9_cry_67 : decode cX9_cry 67 = .ok (.iconst 0, 1) := by decide +kernel
theorem dX9_cry_68 : decode cX9_cry 68 = .ok (.istore 9, 2) := by decide +kernel
theorem dX9_cry_70 : decode cX9_cry 70 = .ok (.iload 9, 2) := by decide +kernel
theorem dX9_cry_72 : decode cX9_cry 72 = .ok (.bipush 6, 2) := by decide +kernel
theorem dX9_cry_74 : decode cX9_cry 74 = .ok (.if_icmp .ge 44, 3) := by decide +kernel
theorem dX9_cry_77 : decode cX9_cry 77 = .ok (.iload 9, 2) := by decide +kernel
theorem dX9_cry_79 : decode cX9_cry 79 = .ok (.iload_n 1, 1) := by decide +kernel
theorem dX9_cry_80 : decode cX9_cry 80 = .ok (.if_icmp .eq 32, 3) := by decide +kernel
theorem dX9_cry_83 : decode cX9_cry 83 = .ok (.aload_n 0, 1) := by decide +kernel
theorem dX9_cry_84 : decode cX9_cry 84 = .ok (.getfield 36, 3) := by decide +kernel
theorem dX9_cry_87 : decode cX9_cry 87 = .ok (.iload_n 1, 1) := by decide +kernel
theorem dX9_cry_88 : decode cX9_cry 88 = .ok (.iload 9, 2) := by decide +kernel
theorem dX9_cry_90 : decode cX9_cry 90 = .ok (.aload_n 0, 1) := by decide +kernel
theorem dX9_cry_91 : decode cX9_cry 91 = .ok (.getfield 63, 3) := by decide +kernel
theorem dX9_cry_94 : decode cX9_cry 94 = .ok (.aload_n 0, 1) := by decide +kernel
theorem dX9_cry_95 : decode cX9_cry 95 = .ok (.getfield 26, 3) := by decide +kernel
theorem dX9_cry_98 : decode cX9_cry 98 = .ok (.iload 9, 2) := by decide +kernel
theorem dX9_cry_100 : decode cX9_cry 100 = .ok (.invokevirtual 133, 3) := by decide +kernel
theorem dX9_cry_103 : decode cX9_cry 103 = .ok (.invokevirtual 164, 3) := by decide +kernel
theorem dX9_cry_106 : decode cX9_cry 106 = .ok (.iload 8, 2) := by decide +kernel
theorem dX9_cry_108 : decode cX9_cry 108 = .ok (.imul, 1) := by decide +kernel
theorem dX9_cry_109 : decode cX9_cry 109 = .ok (.invokevirtual 167, 3) := by decide +kernel
theorem dX9_cry_112 : decode cX9_cry 112 = .ok (.iinc 9 1, 3) := by decide +kernel
theorem dX9_cry_115 : decode cX9_cry 115 = .ok (.goto (-45), 3) := by decide +kernel
theorem dX9_cry_118 : decode cX9_cry 118 = .ok (.aload_n 0, 1) := by decide +kernel
theorem dX9_cry_119 : decode cX9_cry 119 = .ok (.getfield 36, 3) := by decide +kernel
theorem dX9_cry_122 : decode cX9_cry 122 = .ok (.iload_n 1, 1) := by decide +kernel
theorem dX9_cry_123 : decode cX9_cry 123 = .ok (.iload_n 2, 1) := by decide +kernel
theorem dX9_cry_124 : decode cX9_cry 124 = .ok (.iload_n 3, 1) := by decide +kernel
theorem dX9_cry_125 : decode cX9_cry 125 = .ok (.iload 4, 2) := by decide +kernel
theorem dX9_cry_127 : decode cX9_cry 127 = .ok (.invokevirtual 171, 3) := by decide +kernel
theorem dX9_cry_130 : decode cX9_cry 130 = .ok (.iload 7, 2) := by decide +kernel
theorem dX9_cry_132 : decode cX9_cry 132 = .ok (.ireturn, 1) := by decide +kernel
theorem dX9_costs_0 : decode cX9_costs 0 = .ok (.aload_n 0, 1) := by decide +kernel
theorem dX9_costs_1 : decode cX9_costs 1 = .ok (.iload_n 1, 1) := by decide +kernel
theorem dX9_costs_2 : decode cX9_costs 2 = .ok (.iload_n 2, 1) := by decide +kernel
theorem dX9_costs_3 : decode cX9_costs 3 = .ok (.iload 4, 2) := by decide +kernel
theorem dX9_costs_5 : decode cX9_costs 5 = .ok (.invokevirtual 150, 3) := by decide +kernel
theorem dX9_costs_8 : decode cX9_costs 8 = .ok (.istore 5, 2) := by decide +kernel
theorem dX9_costs_10 : decode cX9_costs 10 = .ok (.iload 5, 2) := by decide +kernel
theorem dX9_costs_12 : decode cX9_costs 12 = .ok (.ifCond .eq 6, 3) := by decide +kernel
theorem dX9_costs_15 : decode cX9_costs 15 = .ok (.iload 5, 2) := by decide +kernel
theorem dX9_costs_17 : decode cX9_costs 17 = .ok (.ireturn, 1) := by decide +kernel
theorem dX9_costs_18 : decode cX9_costs 18 = .ok (.aload_n 0, 1) := by decide +kernel
theorem dX9_costs_19 : decode cX9_costs 19 = .ok (.iload_n 1, 1) := by decide +kernel
theorem dX9_costs_20 : decode cX9_costs 20 = .ok (.aload_n 0, 1) := by decide +kernel
theorem dX9_costs_21 : decode cX9_costs 21 = .ok (.getfield 26, 3) := by decide +kernel
theorem dX9_costs_24 : decode cX9_costs 24 = .ok (.iload_n 1, 1) := by decide +kernel
theorem dX9_costs_25 : decode cX9_costs 25 = .ok (.invokevirtual 133, 3) := by decide +kernel
theorem dX9_costs_28 : decode cX9_costs 28 = .ok (.iload_n 2, 1) := by decide +kernel
theorem dX9_costs_29 : decode cX9_costs 29 = .ok (.iload_n 3, 1) := by decide +kernel
theorem dX9_costs_30 : decode cX9_costs 30 = .ok (.iload 4, 2) := by decide +kernel
theorem dX9_costs_32 : decode cX9_costs 32 = .ok (.invokevirtual 157, 3) := by decide +kernel
theorem dX9_costs_35 : decode cX9_costs 35 = .ok (.ireturn, 1) := by decide +kernel
theorem dX9_sounds_0 : decode cX9_sounds 0 = .ok (.aload_n 0, 1) := by decide +kernel
theorem dX9_sounds_1 : decode cX9_sounds 1 = .ok (.getfield 26, 3) := by decide +kernel
theorem dX9_sounds_4 : decode cX9_sounds 4 = .ok (.iload_n 1, 1) := by decide +kernel
theorem dX9_sounds_5 : decode cX9_sounds 5 = .ok (.invokevirtual 116, 3) := by decide +kernel
theorem dX9_sounds_8 : decode cX9_sounds 8 = .ok (.ifCond .eq 15, 3) := by decide +kernel
theorem dX9_sounds_11 : decode cX9_sounds 11 = .ok (.aload_n 0, 1) := by decide +kernel
theorem dX9_sounds_12 : decode cX9_sounds 12 = .ok (.getfield 26, 3) := by decide +kernel
theorem dX9_sounds_15 : decode cX9_sounds 15 = .ok (.iload 4, 2) := by decide +kernel
theorem dX9_sounds_17 : decode cX9_sounds 17 = .ok (.invokevirtual 116, 3) := by decide +kernel
theorem dX9_sounds_20 : decode cX9_sounds 20 = .ok (.ifCond .ne 6, 3) := by decide +kernel
theorem dX9_sounds_23 : decode cX9_sounds 23 = .ok (.bipush (-2), 2) := by decide +kernel
theorem dX9_sounds_25 : decode cX9_sounds 25 = .ok (.ireturn, 1) := by decide +kernel
theorem dX9_sounds_26 : decode cX9_sounds 26 = .ok (.iload_n 2, 1) := by decide +kernel
theorem dX9_sounds_27 : decode cX9_sounds 27 = .ok (.invokestatic 175, 3) := by decide +kernel
theorem dX9_sounds_30 : decode cX9_sounds 30 = .ok (.ifCond .eq 14, 3) := by decide +kernel
theorem dX9_sounds_33 : decode cX9_sounds 33 = .ok (.iload 5, 2) := by decide +kernel
theorem dX9_sounds_35 : decode cX9_sounds 35 = .ok (.ifCond .lt 9, 3) := by decide +kernel
theorem dX9_sounds_38 : decode cX9_sounds 38 = .ok (.iload 5, 2) := by decide +kernel
theorem dX9_sounds_40 : decode cX9_sounds 40 = .ok (.iconst 3, 1) := by decide +kernel
theorem dX9_sounds_41 : decode cX9_sounds 41 = .ok (.if_icmp .le 6, 3) := by decide +kernel
theorem dX9_sounds_44 : decode cX9_sounds 44 = .ok (.bipush (-3), 2) := by decide +kernel
theorem dX9_sounds_46 : decode cX9_sounds 46 = .ok (.ireturn, 1) := by decide +kernel
theorem dX9_sounds_47 : decode cX9_sounds 47 = .ok (.aload_n 0, 1) := by decide +kernel
theorem dX9_sounds_48 : decode cX9_sounds 48 = .ok (.getfield 26, 3) := by decide +kernel
theorem dX9_sounds_51 : decode cX9_sounds 51 = .ok (.iload_n 1, 1) := by decide +kernel
theorem dX9_sounds_52 : decode cX9_sounds 52 = .ok (.invokevirtual 120, 3) := by decide +kernel
theorem dX9_sounds_55 : decode cX9_sounds 55 = .ok (.ifCond .ne 15, 3) := by decide +kernel
theorem dX9_sounds_58 : decode cX9_sounds 58 = .ok (.aload_n 0, 1) := by decide +kernel
theorem dX9_sounds_59 : decode cX9_sounds 59 = .ok (.getfield 26, 3) := by decide +kernel
theorem dX9_sounds_62 : decode cX9_sounds 62 = .ok (.iload 4, 2) := by decide +kernel
theorem dX9_sounds_64 : decode cX9_sounds 64 = .ok (.invokevirtual 120, 3) := by decide +kernel
theorem dX9_sounds_67 : decode cX9_sounds 67 = .ok (.ifCond .eq 6, 3) := by decide +kernel
theorem dX9_sounds_70 : decode cX9_sounds 70 = .ok (.bipush (-4), 2) := by decide +kernel
theorem dX9_sounds_72 : decode cX9_sounds 72 = .ok (.ireturn, 1) := by decide +kernel
theorem dX9_sounds_73 : decode cX9_sounds 73 = .ok (.aload_n 0, 1) := by decide +kernel
theorem dX9_sounds_74 : decode cX9_sounds 74 = .ok (.getfield 53, 3) := by decide +kernel
theorem dX9_sounds_77 : decode cX9_sounds 77 = .ok (.aload_n 0, 1) := by decide +kernel
theorem dX9_sounds_78 : decode cX9_sounds 78 = .ok (.getfield 26, 3) := by decide +kernel
theorem dX9_sounds_81 : decode cX9_sounds 81 = .ok (.iload_n 1, 1) := by decide +kernel
theorem dX9_sounds_82 : decode cX9_sounds 82 = .ok (.iload_n 2, 1) := by decide +kernel
theorem dX9_sounds_83 : decode cX9_sounds 83 = .ok (.iload_n 3, 1) := by decide +kernel
theorem dX9_sounds_84 : decode cX9_sounds 84 = .ok (.invokevirtual 178, 3) := by decide +kernel
theorem dX9_sounds_87 : decode cX9_sounds 87 = .ok (.iload 5, 2) := by decide +kernel
theorem dX9_sounds_89 : decode cX9_sounds 89 = .ok (.tableswitch 59 0 2 #[27, 38, 49], 27) := by decide +kernel
theorem dX9_sounds_116 : decode cX9_sounds 116 = .ok (.aload_n 0, 1) := by decide +kernel
theorem dX9_sounds_117 : decode cX9_sounds 117 = .ok (.getfield 53, 3) := by decide +kernel
theorem dX9_sounds_120 : decode cX9_sounds 120 = .ok (.iload 4, 2) := by decide +kernel
theorem dX9_sounds_122 : decode cX9_sounds 122 = .ok (.iconst 0, 1) := by decide +kernel
theorem dX9_sounds_123 : decode cX9_sounds 123 = .ok (.invokevirtual 182, 3) := by decide +kernel
theorem dX9_sounds_126 : decode cX9_sounds 126 = .ok (.ireturn, 1) := by decide +kernel
theorem dX9_sounds_127 : decode cX9_sounds 127 = .ok (.aload_n 0, 1) := by decide +kernel
theorem dX9_sounds_128 : decode cX9_sounds 128 = .ok (.getfield 53, 3) := by decide +kernel
theorem dX9_sounds_131 : decode cX9_sounds 131 = .ok (.iload 4, 2) := by decide +kernel
theorem dX9_sounds_133 : decode cX9_sounds 133 = .ok (.iconst 1, 1) := by decide +kernel
theorem dX9_sounds_134 : decode cX9_sounds 134 = .ok (.invokevirtual 182, 3) := by decide +kernel
theorem dX9_sounds_137 : decode cX9_sounds 137 = .ok (.ireturn, 1) := by decide +kernel
theorem dX9_sounds_138 : decode cX9_sounds 138 = .ok (.aload_n 0, 1) := by decide +kernel
theorem dX9_sounds_139 : decode cX9_sounds 139 = .ok (.getfield 53, 3) := by decide +kernel
theorem dX9_sounds_142 : decode cX9_sounds 142 = .ok (.iload 4, 2) := by decide +kernel
theorem dX9_sounds_144 : decode cX9_sounds 144 = .ok (.invokevirtual 185, 3) := by decide +kernel
theorem dX9_sounds_147 : decode cX9_sounds 147 = .ok (.ireturn, 1) := by decide +kernel
theorem dX9_sounds_148 : decode cX9_sounds 148 = .ok (.aload_n 0, 1) := by decide +kernel
theorem dX9_sounds_149 : decode cX9_sounds 149 = .ok (.getfield 53, 3) := by decide +kernel
theorem dX9_sounds_152 : decode cX9_sounds 152 = .ok (.iload 4, 2) := by decide +kernel
theorem dX9_sounds_154 : decode cX9_sounds 154 = .ok (.invokevirtual 188, 3) := by decide +kernel
theorem dX9_sounds_157 : decode cX9_sounds 157 = .ok (.ireturn, 1) := by decide +kernel
theorem dX9_led_0 : decode cX9_led 0 = .ok (.aload_n 0, 1) := by decide +kernel
theorem dX9_led_1 : decode cX9_led 1 = .ok (.getfield 26, 3) := by decide +kernel
theorem dX9_led_4 : decode cX9_led 4 = .ok (.iload_n 1, 1) := by decide +kernel
theorem dX9_led_5 : decode cX9_led 5 = .ok (.invokevirtual 116, 3) := by decide +kernel
theorem dX9_led_8 : decode cX9_led 8 = .ok (.ifCond .ne 6, 3) := by decide +kernel
theorem dX9_led_11 : decode cX9_led 11 = .ok (.bipush (-2), 2) := by decide +kernel
theorem dX9_led_13 : decode cX9_led 13 = .ok (.ireturn, 1) := by decide +kernel
theorem dX9_led_14 : decode cX9_led 14 = .ok (.iload_n 2, 1) := by decide +kernel
theorem dX9_led_15 : decode cX9_led 15 = .ok (.invokestatic 175, 3) := by decide +kernel
theorem dX9_led_18 : decode cX9_led 18 = .ok (.ifCond .eq 19, 3) := by decide +kernel
theorem dX9_led_21 : decode cX9_led 21 = .ok (.iload 4, 2) := by decide +kernel
theorem dX9_led_23 : decode cX9_led 23 = .ok (.ifCond .lt 14, 3) := by decide +kernel
theorem dX9_led_26 : decode cX9_led 26 = .ok (.iload 5, 2) := by decide +kernel
theorem dX9_led_28 : decode cX9_led 28 = .ok (.ifCond .lt 9, 3) := by decide +kernel
theorem dX9_led_31 : decode cX9_led 31 = .ok (.iload 5, 2) := by decide +kernel
theorem dX9_led_33 : decode cX9_led 33 = .ok (.iconst 4, 1) := by decide +kernel
theorem dX9_led_34 : decode cX9_led 34 = .ok (.if_icmp .le 6, 3) := by decide +kernel
theorem dX9_led_37 : decode cX9_led 37 = .ok (.bipush (-3), 2) := by decide +kernel
theorem dX9_led_39 : decode cX9_led 39 = .ok (.ireturn, 1) := by decide +kernel
theorem dX9_led_40 : decode cX9_led 40 = .ok (.aload_n 0, 1) := by decide +kernel
theorem dX9_led_41 : decode cX9_led 41 = .ok (.getfield 26, 3) := by decide +kernel
theorem dX9_led_44 : decode cX9_led 44 = .ok (.iload_n 1, 1) := by decide +kernel
theorem dX9_led_45 : decode cX9_led 45 = .ok (.invokevirtual 120, 3) := by decide +kernel
theorem dX9_led_48 : decode cX9_led 48 = .ok (.ifCond .eq 6, 3) := by decide +kernel
theorem dX9_led_51 : decode cX9_led 51 = .ok (.bipush (-4), 2) := by decide +kernel
theorem dX9_led_53 : decode cX9_led 53 = .ok (.ireturn, 1) := by decide +kernel
theorem dX9_led_54 : decode cX9_led 54 = .ok (.aload_n 0, 1) := by decide +kernel
theorem dX9_led_55 : decode cX9_led 55 = .ok (.getfield 53, 3) := by decide +kernel
theorem dX9_led_58 : decode cX9_led 58 = .ok (.aload_n 0, 1) := by decide +kernel
theorem dX9_led_59 : decode cX9_led 59 = .ok (.getfield 26, 3) := by decide +kernel
theorem dX9_led_62 : decode cX9_led 62 = .ok (.iload_n 1, 1) := by decide +kernel
theorem dX9_led_63 : decode cX9_led 63 = .ok (.iload_n 2, 1) := by decide +kernel
theorem dX9_led_64 : decode cX9_led 64 = .ok (.iload_n 3, 1) := by decide +kernel
theorem dX9_led_65 : decode cX9_led 65 = .ok (.invokevirtual 178, 3) := by decide +kernel
theorem dX9_led_68 : decode cX9_led 68 = .ok (.iconst 0, 1) := by decide +kernel
theorem dX9_led_69 : decode cX9_led 69 = .ok (.istore 6, 2) := by decide +kernel
theorem dX9_led_71 : decode cX9_led 71 = .ok (.iconst 1, 1) := by decide +kernel
theorem dX9_led_72 : decode cX9_led 72 = .ok (.istore 7, 2) := by decide +kernel
theorem dX9_led_74 : decode cX9_led 74 = .ok (.iload 7, 2) := by decide +kernel
theorem dX9_led_76 : decode cX9_led 76 = .ok (.bipush 60, 2) := by decide +kernel
theorem dX9_led_78 : decode cX9_led 78 = .ok (.if_icmp .gt 93, 3) := by decide +kernel
theorem dX9_led_81 : decode cX9_led 81 = .ok (.iconst 0, 1) := by decide +kernel
theorem dX9_led_82 : decode cX9_led 82 = .ok (.istore 8, 2) := by decide +kernel
theorem dX9_led_84 : decode cX9_led 84 = .ok (.iload 8, 2) := by decide +kernel
theorem dX9_led_86 : decode cX9_led 86 = .ok (.bipush 8, 2) := by decide +kernel
theorem dX9_led_88 : decode cX9_led 88 = .ok (.if_icmp .ge 77, 3) := by decide +kernel
theorem dX9_led_91 : decode cX9_led 91 = .ok (.aload_n 0, 1) := by decide +kernel
theorem dX9_led_92 : decode cX9_led 92 = .ok (.getfield 26, 3) := by decide +kernel
theorem dX9_led_95 : decode cX9_led 95 = .ok (.aload_n 0, 1) := by decide +kernel
theorem dX9_led_96 : decode cX9_led 96 = .ok (.getfield 53, 3) := by decide +kernel
theorem dX9_led_99 : decode cX9_led 99 = .ok (.iload 8, 2) := by decide +kernel
theorem dX9_led_101 : decode cX9_led 101 = .ok (.iload 7, 2) := by decide +kernel
theorem dX9_led_103 : decode cX9_led 103 = .ok (.invokevirtual 191, 3) := by decide +kernel
theorem dX9_led_106 : decode cX9_led 106 = .ok (.invokestatic 194, 3) := by decide +kernel
theorem dX9_led_109 : decode cX9_led 109 = .ok (.invokevirtual 127, 3) := by decide +kernel
theorem dX9_led_112 : decode cX9_led 112 = .ok (.istore 9, 2) := by decide +kernel
theorem dX9_led_114 : decode cX9_led 114 = .ok (.iload 9, 2) := by decide +kernel
theorem dX9_led_116 : decode cX9_led 116 = .ok (.invokestatic 197, 3) := by decide +kernel
theorem dX9_led_119 : decode cX9_led 119 = .ok (.istore 10, 2) := by decide +kernel
theorem dX9_led_121 : decode cX9_led 121 = .ok (.iload 4, 2) := by decide +kernel
theorem dX9_led_123 : decode cX9_led 123 = .ok (.iload 6, 2) := by decide +kernel
theorem dX9_led_125 : decode cX9_led 125 = .ok (.isub, 1) := by decide +kernel
theorem dX9_led_126 : decode cX9_led 126 = .ok (.iload 10, 2) := by decide +kernel
theorem dX9_led_128 : decode cX9_led 128 = .ok (.if_icmp .ge 24, 3) := by decide +kernel
theorem dX9_led_131 : decode cX9_led 131 = .ok (.aload_n 0, 1) := by decide +kernel
theorem dX9_led_132 : decode cX9_led 132 = .ok (.iload 8, 2) := by decide +kernel
theorem dX9_led_134 : decode cX9_led 134 = .ok (.iload 7, 2) := by decide +kernel
theorem dX9_led_136 : decode cX9_led 136 = .ok (.iload 9, 2) := by decide +kernel
theorem dX9_led_138 : decode cX9_led 138 = .ok (.iload 4, 2) := by decide +kernel
theorem dX9_led_140 : decode cX9_led 140 = .ok (.iload 6, 2) := by decide +kernel
theorem dX9_led_142 : decode cX9_led 142 = .ok (.isub, 1) := by decide +kernel
theorem dX9_led_143 : decode cX9_led 143 = .ok (.invokestatic 202, 3) := by decide +kernel
theorem dX9_led_146 : decode cX9_led 146 = .ok (.iload 5, 2) := by decide +kernel
theorem dX9_led_148 : decode cX9_led 148 = .ok (.invokevirtual 205, 3) := by decide +kernel
theorem dX9_led_151 : decode cX9_led 151 = .ok (.ireturn, 1) := by decide +kernel
theorem dX9_led_152 : decode cX9_led 152 = .ok (.iload 6, 2) := by decide +kernel
theorem dX9_led_154 : decode cX9_led 154 = .ok (.iload 10, 2) := by decide +kernel
theorem dX9_led_156 : decode cX9_led 156 = .ok (.iadd, 1) := by decide +kernel
theorem dX9_led_157 : decode cX9_led 157 = .ok (.istore 6, 2) := by decide +kernel
theorem dX9_led_159 : decode cX9_led 159 = .ok (.iinc 8 1, 3) := by decide +kernel
theorem dX9_led_162 : decode cX9_led 162 = .ok (.goto (-78), 3) := by decide +kernel
theorem dX9_led_165 : decode cX9_led 165 = .ok (.iinc 7 1, 3) := by decide +kernel
theorem dX9_led_168 : decode cX9_led 168 = .ok (.goto (-94), 3) := by decide +kernel
theorem dX9_led_171 : decode cX9_led 171 = .ok (.iconst (-1), 1) := by decide +kernel
theorem dX9_led_172 : decode cX9_led 172 = .ok (.ireturn, 1) := by decide +kernel
theorem dX9_whisper_0 : decode cX9_whisper 0 = .ok (.aload_n 0, 1) := by decide +kernel
theorem dX9_whisper_1 : decode cX9_whisper 1 = .ok (.getfield 26, 3) := by decide +kernel
theorem dX9_whisper_4 : decode cX9_whisper 4 = .ok (.iload_n 1, 1) := by decide +kernel
theorem dX9_whisper_5 : decode cX9_whisper 5 = .ok (.invokevirtual 116, 3) := by decide +kernel
theorem dX9_whisper_8 : decode cX9_whisper 8 = .ok (.ifCond .ne 6, 3) := by decide +kernel
theorem dX9_whisper_11 : decode cX9_whisper 11 = .ok (.bipush (-2), 2) := by decide +kernel
theorem dX9_whisper_13 : decode cX9_whisper 13 = .ok (.ireturn, 1) := by decide +kernel
theorem dX9_whisper_14 : decode cX9_whisper 14 = .ok (.iload_n 2, 1) := by decide +kernel
theorem dX9_whisper_15 : decode cX9_whisper 15 = .ok (.invokestatic 175, 3) := by decide +kernel
theorem dX9_whisper_18 : decode cX9_whisper 18 = .ok (.ifCond .ne 6, 3) := by decide +kernel
theorem dX9_whisper_21 : decode cX9_whisper 21 = .ok (.bipush (-3), 2) := by decide +kernel
theorem dX9_whisper_23 : decode cX9_whisper 23 = .ok (.ireturn, 1) := by decide +kernel
theorem dX9_whisper_24 : decode cX9_whisper 24 = .ok (.aload_n 0, 1) := by decide +kernel
theorem dX9_whisper_25 : decode cX9_whisper 25 = .ok (.getfield 26, 3) := by decide +kernel
theorem dX9_whisper_28 : decode cX9_whisper 28 = .ok (.iload_n 1, 1) := by decide +kernel
theorem dX9_whisper_29 : decode cX9_whisper 29 = .ok (.invokevirtual 120, 3) := by decide +kernel
theorem dX9_whisper_32 : decode cX9_whisper 32 = .ok (.ifCond .eq 6, 3) := by decide +kernel
theorem dX9_whisper_35 : decode cX9_whisper 35 = .ok (.bipush (-4), 2) := by decide +kernel
theorem dX9_whisper_37 : decode cX9_whisper 37 = .ok (.ireturn, 1) := by decide +kernel
theorem dX9_whisper_38 : decode cX9_whisper 38 = .ok (.aload_n 0, 1) := by decide +kernel
theorem dX9_whisper_39 : decode cX9_whisper 39 = .ok (.getfield 53, 3) := by decide +kernel
theorem dX9_whisper_42 : decode cX9_whisper 42 = .ok (.aload_n 0, 1) := by decide +kernel
theorem dX9_whisper_43 : decode cX9_whisper 43 = .ok (.getfield 26, 3) := by decide +kernel
theorem dX9_whisper_46 : decode cX9_whisper 46 = .ok (.iload_n 1, 1) := by decide +kernel
theorem dX9_whisper_47 : decode cX9_whisper 47 = .ok (.iload_n 2, 1) := by decide +kernel
theorem dX9_whisper_48 : decode cX9_whisper 48 = .ok (.iload_n 3, 1) := by decide +kernel
theorem dX9_whisper_49 : decode cX9_whisper 49 = .ok (.invokevirtual 178, 3) := by decide +kernel
theorem dX9_whisper_52 : decode cX9_whisper 52 = .ok (.aload_n 0, 1) := by decide +kernel
theorem dX9_whisper_53 : decode cX9_whisper 53 = .ok (.getfield 26, 3) := by decide +kernel
theorem dX9_whisper_56 : decode cX9_whisper 56 = .ok (.iload_n 1, 1) := by decide +kernel
theorem dX9_whisper_57 : decode cX9_whisper 57 = .ok (.invokevirtual 127, 3) := by decide +kernel
theorem dX9_whisper_60 : decode cX9_whisper 60 = .ok (.istore 4, 2) := by decide +kernel
theorem dX9_whisper_62 : decode cX9_whisper 62 = .ok (.iconst 0, 1) := by decide +kernel
theorem dX9_whisper_63 : decode cX9_whisper 63 = .ok (.istore 5, 2) := by decide +kernel
theorem dX9_whisper_65 : decode cX9_whisper 65 = .ok (.iload 5, 2) := by decide +kernel
theorem dX9_whisper_67 : decode cX9_whisper 67 = .ok (.bipush 8, 2) := by decide +kernel
theorem dX9_whisper_69 : decode cX9_whisper 69 = .ok (.if_icmp .ge 58, 3) := by decide +kernel
theorem dX9_whisper_72 : decode cX9_whisper 72 = .ok (.iconst 1, 1) := by decide +kernel
theorem dX9_whisper_73 : decode cX9_whisper 73 = .ok (.istore 6, 2) := by decide +kernel
theorem dX9_whisper_75 : decode cX9_whisper 75 = .ok (.iload 6, 2) := by decide +kernel
theorem dX9_whisper_77 : decode cX9_whisper 77 = .ok (.aload_n 0, 1) := by decide +kernel
theorem dX9_whisper_78 : decode cX9_whisper 78 = .ok (.getfield 53, 3) := by decide +kernel
theorem dX9_whisper_81 : decode cX9_whisper 81 = .ok (.iload 5, 2) := by decide +kernel
theorem dX9_whisper_83 : decode cX9_whisper 83 = .ok (.invokevirtual 209, 3) := by decide +kernel
theorem dX9_whisper_86 : decode cX9_whisper 86 = .ok (.if_icmp .gt 35, 3) := by decide +kernel
theorem dX9_whisper_89 : decode cX9_whisper 89 = .ok (.iload 4, 2) := by decide +kernel
theorem dX9_whisper_91 : decode cX9_whisper 91 = .ok (.aload_n 0, 1) := by decide +kernel
theorem dX9_whisper_92 : decode cX9_whisper 92 = .ok (.getfield 26, 3) := by decide +kernel
theorem dX9_whisper_95 : decode cX9_whisper 95 = .ok (.aload_n 0, 1) := by decide +kernel
theorem dX9_whisper_96 : decode cX9_whisper 96 = .ok (.getfield 53, 3) := by decide +kernel
theorem dX9_whisper_99 : decode cX9_whisper 99 = .ok (.iload 5, 2) := by decide +kernel
theorem dX9_whisper_101 : decode cX9_whisper 101 = .ok (.iload 6, 2) := by decide +kernel
theorem dX9_whisper_103 : decode cX9_whisper 103 = .ok (.invokevirtual 191, 3) := by decide +kernel
theorem dX9_whisper_106 : decode cX9_whisper 106 = .ok (.invokestatic 194, 3) := by decide +kernel
theorem dX9_whisper_109 : decode cX9_whisper 109 = .ok (.invokevirtual 127, 3) := by decide +kernel
theorem dX9_whisper_112 : decode cX9_whisper 112 = .ok (.ior, 1) := by decide +kernel
theorem dX9_whisper_113 : decode cX9_whisper 113 = .ok (.istore 4, 2) := by decide +kernel
theorem dX9_whisper_115 : decode cX9_whisper 115 = .ok (.iinc 6 1, 3) := by decide +kernel
theorem dX9_whisper_118 : decode cX9_whisper 118 = .ok (.goto (-43), 3) := by decide +kernel
theorem dX9_whisper_121 : decode cX9_whisper 121 = .ok (.iinc 5 1, 3) := by decide +kernel
theorem dX9_whisper_124 : decode cX9_whisper 124 = .ok (.goto (-59), 3) := by decide +kernel
theorem dX9_whisper_127 : decode cX9_whisper 127 = .ok (.iload 4, 2) := by decide +kernel
theorem dX9_whisper_129 : decode cX9_whisper 129 = .ok (.ireturn, 1) := by decide +kernel
theorem dX9_owed_0 : decode cX9_owed 0 = .ok (.iload_n 1, 1) := by decide +kernel
theorem dX9_owed_1 : decode cX9_owed 1 = .ok (.invokestatic 130, 3) := by decide +kernel
theorem dX9_owed_4 : decode cX9_owed 4 = .ok (.ifCond .eq 10, 3) := by decide +kernel
theorem dX9_owed_7 : decode cX9_owed 7 = .ok (.iload_n 2, 1) := by decide +kernel
theorem dX9_owed_8 : decode cX9_owed 8 = .ok (.invokestatic 130, 3) := by decide +kernel
theorem dX9_owed_11 : decode cX9_owed 11 = .ok (.ifCond .ne 6, 3) := by decide +kernel
theorem dX9_owed_14 : decode cX9_owed 14 = .ok (.bipush (-2), 2) := by decide +kernel
theorem dX9_owed_16 : decode cX9_owed 16 = .ok (.ireturn, 1) := by decide +kernel
theorem dX9_owed_17 : decode cX9_owed 17 = .ok (.iload_n 1, 1) := by decide +kernel
theorem dX9_owed_18 : decode cX9_owed 18 = .ok (.iload_n 2, 1) := by decide +kernel
theorem dX9_owed_19 : decode cX9_owed 19 = .ok (.if_icmp .ne 6, 3) := by decide +kernel
theorem dX9_owed_22 : decode cX9_owed 22 = .ok (.bipush (-3), 2) := by decide +kernel
theorem dX9_owed_24 : decode cX9_owed 24 = .ok (.ireturn, 1) := by decide +kernel
theorem dX9_owed_25 : decode cX9_owed 25 = .ok (.ldc 136, 2) := by decide +kernel
theorem dX9_owed_27 : decode cX9_owed 27 = .ok (.aload_n 0, 1) := by decide +kernel
theorem dX9_owed_28 : decode cX9_owed 28 = .ok (.getfield 36, 3) := by decide +kernel
theorem dX9_owed_31 : decode cX9_owed 31 = .ok (.iload_n 1, 1) := by decide +kernel
theorem dX9_owed_32 : decode cX9_owed 32 = .ok (.iload_n 2, 1) := by decide +kernel
theorem dX9_owed_33 : decode cX9_owed 33 = .ok (.invokevirtual 212, 3) := by decide +kernel
theorem dX9_owed_36 : decode cX9_owed 36 = .ok (.iadd, 1) := by decide +kernel
theorem dX9_owed_37 : decode cX9_owed 37 = .ok (.ireturn, 1) := by decide +kernel
theorem dX9_pay_0 : decode cX9_pay 0 = .ok (.iload_n 1, 1) := by decide +kernel
theorem dX9_pay_1 : decode cX9_pay 1 = .ok (.invokestatic 130, 3) := by decide +kernel
theorem dX9_pay_4 : decode cX9_pay 4 = .ok (.ifCond .eq 10, 3) := by decide +kernel
theorem dX9_pay_7 : decode cX9_pay 7 = .ok (.iload_n 2, 1) := by decide +kernel
theorem dX9_pay_8 : decode cX9_pay 8 = .ok (.invokestatic 130, 3) := by decide +kernel
theorem dX9_pay_11 : decode cX9_pay 11 = .ok (.ifCond .ne 6, 3) := by decide +kernel
theorem dX9_pay_14 : decode cX9_pay 14 = .ok (.bipush (-2), 2) := by decide +kernel
theorem dX9_pay_16 : decode cX9_pay 16 = .ok (.ireturn, 1) := by decide +kernel
theorem dX9_pay_17 : decode cX9_pay 17 = .ok (.iload_n 1, 1) := by decide +kernel
theorem dX9_pay_18 : decode cX9_pay 18 = .ok (.iload_n 2, 1) := by decide +kernel
theorem dX9_pay_19 : decode cX9_pay 19 = .ok (.if_icmp .eq 15, 3) := by decide +kernel
theorem dX9_pay_22 : decode cX9_pay 22 = .ok (.iload_n 3, 1) := by decide +kernel
theorem dX9_pay_23 : decode cX9_pay 23 = .ok (.iconst 1, 1) := by decide +kernel
theorem dX9_pay_24 : decode cX9_pay 24 = .ok (.if_icmp .lt 10, 3) := by decide +kernel
theorem dX9_pay_27 : decode cX9_pay 27 = .ok (.iload_n 3, 1) := by decide +kernel
theorem dX9_pay_28 : decode cX9_pay 28 = .ok (.sipush 9999, 3) := by decide +kernel
theorem dX9_pay_31 : decode cX9_pay 31 = .ok (.if_icmp .le 6, 3) := by decide +kernel
theorem dX9_pay_34 : decode cX9_pay 34 = .ok (.bipush (-3), 2) := by decide +kernel
theorem dX9_pay_36 : decode cX9_pay 36 = .ok (.ireturn, 1) := by decide +kernel
theorem dX9_pay_37 : decode cX9_pay 37 = .ok (.aload_n 0, 1) := by decide +kernel
theorem dX9_pay_38 : decode cX9_pay 38 = .ok (.getfield 36, 3) := by decide +kernel
theorem dX9_pay_41 : decode cX9_pay 41 = .ok (.iload_n 1, 1) := by decide +kernel
theorem dX9_pay_42 : decode cX9_pay 42 = .ok (.iload_n 2, 1) := by decide +kernel
theorem dX9_pay_43 : decode cX9_pay 43 = .ok (.invokevirtual 212, 3) := by decide +kernel
theorem dX9_pay_46 : decode cX9_pay 46 = .ok (.iload_n 3, 1) := by decide +kernel
theorem dX9_pay_47 : decode cX9_pay 47 = .ok (.if_icmp .ge 6, 3) := by decide +kernel
theorem dX9_pay_50 : decode cX9_pay 50 = .ok (.bipush (-4), 2) := by decide +kernel
theorem dX9_pay_52 : decode cX9_pay 52 = .ok (.ireturn, 1) := by decide +kernel
theorem dX9_pay_53 : decode cX9_pay 53 = .ok (.aload_n 0, 1) := by decide +kernel
theorem dX9_pay_54 : decode cX9_pay 54 = .ok (.getfield 36, 3) := by decide +kernel
theorem dX9_pay_57 : decode cX9_pay 57 = .ok (.iload_n 1, 1) := by decide +kernel
theorem dX9_pay_58 : decode cX9_pay 58 = .ok (.iload_n 2, 1) := by decide +kernel
theorem dX9_pay_59 : decode cX9_pay 59 = .ok (.iload_n 3, 1) := by decide +kernel
theorem dX9_pay_60 : decode cX9_pay 60 = .ok (.ineg, 1) := by decide +kernel
theorem dX9_pay_61 : decode cX9_pay 61 = .ok (.invokevirtual 167, 3) := by decide +kernel
theorem dX9_pay_64 : decode cX9_pay 64 = .ok (.ldc 136, 2) := by decide +kernel
theorem dX9_pay_66 : decode cX9_pay 66 = .ok (.aload_n 0, 1) := by decide +kernel
theorem dX9_pay_67 : decode cX9_pay 67 = .ok (.getfield 36, 3) := by decide +kernel
theorem dX9_pay_70 : decode cX9_pay 70 = .ok (.iload_n 1, 1) := by decide +kernel
theorem dX9_pay_71 : decode cX9_pay 71 = .ok (.iload_n 2, 1) := by decide +kernel
theorem dX9_pay_72 : decode cX9_pay 72 = .ok (.invokevirtual 212, 3) := by decide +kernel
theorem dX9_pay_75 : decode cX9_pay 75 = .ok (.iadd, 1) := by decide +kernel
theorem dX9_pay_76 : decode cX9_pay 76 = .ok (.ireturn, 1) := by decide +kernel
theorem dX9_settled_0 : decode cX9_settled 0 = .ok (.aload_n 0, 1) := by decide +kernel
theorem dX9_settled_1 : decode cX9_settled 1 = .ok (.getfield 77, 3) := by decide +kernel
theorem dX9_settled_4 : decode cX9_settled 4 = .ok (.aload_n 0, 1) := by decide +kernel
theorem dX9_settled_5 : decode cX9_settled 5 = .ok (.getfield 36, 3) := by decide +kernel
theorem dX9_settled_8 : decode cX9_settled 8 = .ok (.invokevirtual 215, 3) := by decide +kernel
theorem dX9_settled_11 : decode cX9_settled 11 = .ok (.ireturn, 1) := by decide +kernel
theorem dX9_stand_0 : decode cX9_stand 0 = .ok (.iload_n 1, 1) := by decide +kernel
theorem dX9_stand_1 : decode cX9_stand 1 = .ok (.invokestatic 130, 3) := by decide +kernel
theorem dX9_stand_4 : decode cX9_stand 4 = .ok (.ifCond .ne 6, 3) := by decide +kernel
theorem dX9_stand_7 : decode cX9_stand 7 = .ok (.bipush (-2), 2) := by decide +kernel
theorem dX9_stand_9 : decode cX9_stand 9 = .ok (.ireturn, 1) := by decide +kernel
theorem dX9_stand_10 : decode cX9_stand 10 = .ok (.iload_n 2, 1) := by decide +kernel
theorem dX9_stand_11 : decode cX9_stand 11 = .ok (.invokestatic 175, 3) := by decide +kernel
theorem dX9_stand_14 : decode cX9_stand 14 = .ok (.ifCond .eq 22, 3) := by decide +kernel
theorem dX9_stand_17 : decode cX9_stand 17 = .ok (.iload 4, 2) := by decide +kernel
theorem dX9_stand_19 : decode cX9_stand 19 = .ok (.invokestatic 219, 3) := by decide +kernel
theorem dX9_stand_22 : decode cX9_stand 22 = .ok (.ifCond .eq 14, 3) := by decide +kernel
theorem dX9_stand_25 : decode cX9_stand 25 = .ok (.iload 5, 2) := by decide +kernel
theorem dX9_stand_27 : decode cX9_stand 27 = .ok (.ifCond .lt 9, 3) := by decide +kernel
theorem dX9_stand_30 : decode cX9_stand 30 = .ok (.iload 5, 2) := by decide +kernel
theorem dX9_stand_32 : decode cX9_stand 32 = .ok (.iconst 1, 1) := by decide +kernel
theorem dX9_stand_33 : decode cX9_stand 33 = .ok (.if_icmp .le 6, 3) := by decide +kernel
theorem dX9_stand_36 : decode cX9_stand 36 = .ok (.bipush (-3), 2) := by decide +kernel
theorem dX9_stand_38 : decode cX9_stand 38 = .ok (.ireturn, 1) := by decide +kernel
theorem dX9_stand_39 : decode cX9_stand 39 = .ok (.aload_n 0, 1) := by decide +kernel
theorem dX9_stand_40 : decode cX9_stand 40 = .ok (.getfield 26, 3) := by decide +kernel
theorem dX9_stand_43 : decode cX9_stand 43 = .ok (.iload_n 1, 1) := by decide +kernel
theorem dX9_stand_44 : decode cX9_stand 44 = .ok (.invokevirtual 133, 3) := by decide +kernel
theorem dX9_stand_47 : decode cX9_stand 47 = .ok (.iconst (-1), 1) := by decide +kernel
theorem dX9_stand_48 : decode cX9_stand 48 = .ok (.if_icmp .ne 6, 3) := by decide +kernel
theorem dX9_stand_51 : decode cX9_stand 51 = .ok (.bipush (-4), 2) := by decide +kernel
theorem dX9_stand_53 : decode cX9_stand 53 = .ok (.ireturn, 1) := by decide +kernel
theorem dX9_stand_54 : decode cX9_stand 54 = .ok (.iconst (-1), 1) := by decide +kernel
theorem dX9_stand_55 : decode cX9_stand 55 = .ok (.istore 6, 2) := by decide +kernel
theorem dX9_stand_57 : decode cX9_stand 57 = .ok (.iconst 0, 1) := by decide +kernel
theorem dX9_stand_58 : decode cX9_stand 58 = .ok (.istore 7, 2) := by decide +kernel
theorem dX9_stand_60 : decode cX9_stand 60 = .ok (.iconst 0, 1) := by decide +kernel
theorem dX9_stand_61 : decode cX9_stand 61 = .ok (.istore 8, 2) := by decide +kernel
theorem dX9_stand_63 : decode cX9_stand 63 = .ok (.iload 8, 2) := by decide +kernel
theorem dX9_stand_65 : decode cX9_stand 65 = .ok (.aload_n 0, 1) := by decide +kernel
theorem dX9_stand_66 : decode cX9_stand 66 = .ok (.getfield 26, 3) := by decide +kernel
theorem dX9_stand_69 : decode cX9_stand 69 = .ok (.invokevirtual 222, 3) := by decide +kernel
theorem dX9_stand_72 : decode cX9_stand 72 = .ok (.if_icmp .ge 58, 3) := by decide +kernel
theorem dX9_stand_75 : decode cX9_stand 75 = .ok (.aload_n 0, 1) := by decide +kernel
theorem dX9_stand_76 : decode cX9_stand 76 = .ok (.getfield 26, 3) := by decide +kernel
theorem dX9_stand_79 : decode cX9_stand 79 = .ok (.iload 8, 2) := by decide +kernel
theorem dX9_stand_81 : decode cX9_stand 81 = .ok (.invokevirtual 226, 3) := by decide +kernel
theorem dX9_stand_84 : decode cX9_stand 84 = .ok (.ifCond .ne 6, 3) := by decide +kernel
theorem dX9_stand_87 : decode cX9_stand 87 = .ok (.goto 37, 3) := by decide +kernel
theorem dX9_stand_90 : decode cX9_stand 90 = .ok (.aload_n 0, 1) := by decide +kernel
theorem dX9_stand_91 : decode cX9_stand 91 = .ok (.iload_n 1, 1) := by decide +kernel
theorem dX9_stand_92 : decode cX9_stand 92 = .ok (.iload 8, 2) := by decide +kernel
theorem dX9_stand_94 : decode cX9_stand 94 = .ok (.iload_n 2, 1) := by decide +kernel
theorem dX9_stand_95 : decode cX9_stand 95 = .ok (.iload_n 3, 1) := by decide +kernel
theorem dX9_stand_96 : decode cX9_stand 96 = .ok (.iload 4, 2) := by decide +kernel
theorem dX9_stand_98 : decode cX9_stand 98 = .ok (.invokevirtual 157, 3) := by decide +kernel
theorem dX9_stand_101 : decode cX9_stand 101 = .ok (.istore 9, 2) := by decide +kernel
theorem dX9_stand_103 : decode cX9_stand 103 = .ok (.iload 6, 2) := by decide +kernel
theorem dX9_stand_105 : decode cX9_stand 105 = .ok (.iconst (-1), 1) := by decide +kernel
theorem dX9_stand_106 : decode cX9_stand 106 = .ok (.if_icmp .eq 10, 3) := by decide +kernel
theorem dX9_stand_109 : decode cX9_stand 109 = .ok (.iload 9, 2) := by decide +kernel
theorem dX9_stand_111 : decode cX9_stand 111 = .ok (.iload 7, 2) := by decide +kernel
theorem dX9_stand_113 : decode cX9_stand 113 = .ok (.if_icmp .ge 11, 3) := by decide +kernel
theorem dX9_stand_116 : decode cX9_stand 116 = .ok (.iload 8, 2) := by decide +kernel
theorem dX9_stand_118 : decode cX9_stand 118 = .ok (.istore 6, 2) := by decide +kernel
theorem dX9_stand_120 : decode cX9_stand 120 = .ok (.iload 9, 2) := by decide +kernel
theorem dX9_stand_122 : decode cX9_stand 122 = .ok (.istore 7, 2) := by decide +kernel
theorem dX9_stand_124 : decode cX9_stand 124 = .ok (.iinc 8 1, 3) := by decide +kernel
theorem dX9_stand_127 : decode cX9_stand 127 = .ok (.goto (-64), 3) := by decide +kernel
theorem dX9_stand_130 : decode cX9_stand 130 = .ok (.iload 5, 2) := by decide +kernel
theorem dX9_stand_132 : decode cX9_stand 132 = .ok (.ifCond .ne 8, 3) := by decide +kernel
theorem dX9_stand_135 : decode cX9_stand 135 = .ok (.iload 6, 2) := by decide +kernel
theorem dX9_stand_137 : decode cX9_stand 137 = .ok (.goto 5, 3) := by decide +kernel
theorem dX9_stand_140 : decode cX9_stand 140 = .ok (.iload 7, 2) := by decide +kernel
theorem dX9_stand_142 : decode cX9_stand 142 = .ok (.ireturn, 1) := by decide +kernel
theorem dX9_fall_0 : decode cX9_fall 0 = .ok (.aload_n 0, 1) := by decide +kernel
theorem dX9_fall_1 : decode cX9_fall 1 = .ok (.getfield 26, 3) := by decide +kernel
theorem dX9_fall_4 : decode cX9_fall 4 = .ok (.iload_n 1, 1) := by decide +kernel
theorem dX9_fall_5 : decode cX9_fall 5 = .ok (.invokevirtual 116, 3) := by decide +kernel
theorem dX9_fall_8 : decode cX9_fall 8 = .ok (.ifCond .ne 6, 3) := by decide +kernel
theorem dX9_fall_11 : decode cX9_fall 11 = .ok (.bipush (-2), 2) := by decide +kernel
theorem dX9_fall_13 : decode cX9_fall 13 = .ok (.ireturn, 1) := by decide +kernel
theorem dX9_fall_14 : decode cX9_fall 14 = .ok (.aload_n 0, 1) := by decide +kernel
theorem dX9_fall_15 : decode cX9_fall 15 = .ok (.getfield 26, 3) := by decide +kernel
theorem dX9_fall_18 : decode cX9_fall 18 = .ok (.iload_n 1, 1) := by decide +kernel
theorem dX9_fall_19 : decode cX9_fall 19 = .ok (.invokevirtual 229, 3) := by decide +kernel
theorem dX9_fall_22 : decode cX9_fall 22 = .ok (.aload_n 0, 1) := by decide +kernel
theorem dX9_fall_23 : decode cX9_fall 23 = .ok (.getfield 26, 3) := by decide +kernel
theorem dX9_fall_26 : decode cX9_fall 26 = .ok (.iload_n 1, 1) := by decide +kernel
theorem dX9_fall_27 : decode cX9_fall 27 = .ok (.invokevirtual 120, 3) := by decide +kernel
theorem dX9_fall_30 : decode cX9_fall 30 = .ok (.ifCond .eq 7, 3) := by decide +kernel
theorem dX9_fall_33 : decode cX9_fall 33 = .ok (.iconst 1, 1) := by decide +kernel
theorem dX9_fall_34 : decode cX9_fall 34 = .ok (.goto 4, 3) := by decide +kernel
theorem dX9_fall_37 : decode cX9_fall 37 = .ok (.iconst 0, 1) := by decide +kernel
theorem dX9_fall_38 : decode cX9_fall 38 = .ok (.ireturn, 1) := by decide +kernel
theorem dX9_changed_0 : decode cX9_changed 0 = .ok (.aload_n 0, 1) := by decide +kernel
theorem dX9_changed_1 : decode cX9_changed 1 = .ok (.getfield 26, 3) := by decide +kernel
theorem dX9_changed_4 : decode cX9_changed 4 = .ok (.iload_n 1, 1) := by decide +kernel
theorem dX9_changed_5 : decode cX9_changed 5 = .ok (.invokevirtual 116, 3) := by decide +kernel
theorem dX9_changed_8 : decode cX9_changed 8 = .ok (.ifCond .eq 14, 3) := by decide +kernel
theorem dX9_changed_11 : decode cX9_changed 11 = .ok (.aload_n 0, 1) := by decide +kernel
theorem dX9_changed_12 : decode cX9_changed 12 = .ok (.getfield 26, 3) := by decide +kernel
theorem dX9_changed_15 : decode cX9_changed 15 = .ok (.iload_n 2, 1) := by decide +kernel
theorem dX9_changed_16 : decode cX9_changed 16 = .ok (.invokevirtual 116, 3) := by decide +kernel
theorem dX9_changed_19 : decode cX9_changed 19 = .ok (.ifCond .ne 6, 3) := by decide +kernel
theorem dX9_changed_22 : decode cX9_changed 22 = .ok (.bipush (-2), 2) := by decide +kernel
theorem dX9_changed_24 : decode cX9_changed 24 = .ok (.ireturn, 1) := by decide +kernel
theorem dX9_changed_25 : decode cX9_changed 25 = .ok (.iload_n 3, 1) := by decide +kernel
theorem dX9_changed_26 : decode cX9_changed 26 = .ok (.invokestatic 175, 3) := by decide +kernel
theorem dX9_changed_29 : decode cX9_changed 29 = .ok (.ifCond .eq 8, 3) := by decide +kernel
theorem dX9_changed_32 : decode cX9_changed 32 = .ok (.iload_n 1, 1) := by decide +kernel
theorem dX9_changed_33 : decode cX9_changed 33 = .ok (.iload_n 2, 1) := by decide +kernel
theorem dX9_changed_34 : decode cX9_changed 34 = .ok (.if_icmp .ne 6, 3) := by decide +kernel
theorem dX9_changed_37 : decode cX9_changed 37 = .ok (.bipush (-3), 2) := by decide +kernel
theorem dX9_changed_39 : decode cX9_changed 39 = .ok (.ireturn, 1) := by decide +kernel
theorem dX9_changed_40 : decode cX9_changed 40 = .ok (.aload_n 0, 1) := by decide +kernel
theorem dX9_changed_41 : decode cX9_changed 41 = .ok (.getfield 26, 3) := by decide +kernel
theorem dX9_changed_44 : decode cX9_changed 44 = .ok (.iload_n 2, 1) := by decide +kernel
theorem dX9_changed_45 : decode cX9_changed 45 = .ok (.invokevirtual 120, 3) := by decide +kernel
theorem dX9_changed_48 : decode cX9_changed 48 = .ok (.ifCond .eq 6, 3) := by decide +kernel
theorem dX9_changed_51 : decode cX9_changed 51 = .ok (.bipush (-4), 2) := by decide +kernel
theorem dX9_changed_53 : decode cX9_changed 53 = .ok (.ireturn, 1) := by decide +kernel
theorem dX9_changed_54 : decode cX9_changed 54 = .ok (.aload_n 0, 1) := by decide +kernel
theorem dX9_changed_55 : decode cX9_changed 55 = .ok (.getfield 30, 3) := by decide +kernel
theorem dX9_changed_58 : decode cX9_changed 58 = .ok (.aload_n 0, 1) := by decide +kernel
theorem dX9_changed_59 : decode cX9_changed 59 = .ok (.getfield 26, 3) := by decide +kernel
theorem dX9_changed_62 : decode cX9_changed 62 = .ok (.invokevirtual 98, 3) := by decide +kernel
theorem dX9_changed_65 : decode cX9_changed 65 = .ok (.aload_n 0, 1) := by decide +kernel
theorem dX9_changed_66 : decode cX9_changed 66 = .ok (.getfield 30, 3) := by decide +kernel
theorem dX9_changed_69 : decode cX9_changed 69 = .ok (.iload_n 1, 1) := by decide +kernel
theorem dX9_changed_70 : decode cX9_changed 70 = .ok (.invokevirtual 229, 3) := by decide +kernel
theorem dX9_changed_73 : decode cX9_changed 73 = .ok (.aload_n 0, 1) := by decide +kernel
theorem dX9_changed_74 : decode cX9_changed 74 = .ok (.getfield 53, 3) := by decide +kernel
theorem dX9_changed_77 : decode cX9_changed 77 = .ok (.aload_n 0, 1) := by decide +kernel
theorem dX9_changed_78 : decode cX9_changed 78 = .ok (.getfield 26, 3) := by decide +kernel
theorem dX9_changed_81 : decode cX9_changed 81 = .ok (.iload_n 2, 1) := by decide +kernel
theorem dX9_changed_82 : decode cX9_changed 82 = .ok (.iload_n 3, 1) := by decide +kernel
theorem dX9_changed_83 : decode cX9_changed 83 = .ok (.iload 4, 2) := by decide +kernel
theorem dX9_changed_85 : decode cX9_changed 85 = .ok (.invokevirtual 178, 3) := by decide +kernel
theorem dX9_changed_88 : decode cX9_changed 88 = .ok (.aload_n 0, 1) := by decide +kernel
theorem dX9_changed_89 : decode cX9_changed 89 = .ok (.getfield 57, 3) := by decide +kernel
theorem dX9_changed_92 : decode cX9_changed 92 = .ok (.aload_n 0, 1) := by decide +kernel
theorem dX9_changed_93 : decode cX9_changed 93 = .ok (.getfield 30, 3) := by decide +kernel
theorem dX9_changed_96 : decode cX9_changed 96 = .ok (.iload_n 2, 1) := by decide +kernel
theorem dX9_changed_97 : decode cX9_changed 97 = .ok (.iload_n 3, 1) := by decide +kernel
theorem dX9_changed_98 : decode cX9_changed 98 = .ok (.iload 4, 2) := by decide +kernel
theorem dX9_changed_100 : decode cX9_changed 100 = .ok (.invokevirtual 178, 3) := by decide +kernel
theorem dX9_changed_103 : decode cX9_changed 103 = .ok (.iconst 0, 1) := by decide +kernel
theorem dX9_changed_104 : decode cX9_changed 104 = .ok (.istore 5, 2) := by decide +kernel
theorem dX9_changed_106 : decode cX9_changed 106 = .ok (.iconst 0, 1) := by decide +kernel
theorem dX9_changed_107 : decode cX9_changed 107 = .ok (.istore 6, 2) := by decide +kernel
theorem dX9_changed_109 : decode cX9_changed 109 = .ok (.iload 6, 2) := by decide +kernel
theorem dX9_changed_111 : decode cX9_changed 111 = .ok (.bipush 6, 2) := by decide +kernel
theorem dX9_changed_113 : decode cX9_changed 113 = .ok (.if_icmp .ge 60, 3) := by decide +kernel
theorem dX9_changed_116 : decode cX9_changed 116 = .ok (.aload_n 0, 1) := by decide +kernel
theorem dX9_changed_117 : decode cX9_changed 117 = .ok (.getfield 26, 3) := by decide +kernel
theorem dX9_changed_120 : decode cX9_changed 120 = .ok (.iload 6, 2) := by decide +kernel
theorem dX9_changed_122 : decode cX9_changed 122 = .ok (.invokevirtual 133, 3) := by decide +kernel
theorem dX9_changed_125 : decode cX9_changed 125 = .ok (.istore 7, 2) := by decide +kernel
theorem dX9_changed_127 : decode cX9_changed 127 = .ok (.iload 7, 2) := by decide +kernel
theorem dX9_changed_129 : decode cX9_changed 129 = .ok (.iconst (-1), 1) := by decide +kernel
theorem dX9_changed_130 : decode cX9_changed 130 = .ok (.if_icmp .eq 37, 3) := by decide +kernel
theorem dX9_changed_133 : decode cX9_changed 133 = .ok (.iload 7, 2) := by decide +kernel
theorem dX9_changed_135 : decode cX9_changed 135 = .ok (.iload_n 1, 1) := by decide +kernel
theorem dX9_changed_136 : decode cX9_changed 136 = .ok (.if_icmp .ne 6, 3) := by decide +kernel
theorem dX9_changed_139 : decode cX9_changed 139 = .ok (.goto 28, 3) := by decide +kernel
theorem dX9_changed_142 : decode cX9_changed 142 = .ok (.aload_n 0, 1) := by decide +kernel
theorem dX9_changed_143 : decode cX9_changed 143 = .ok (.getfield 53, 3) := by decide +kernel
theorem dX9_changed_146 : decode cX9_changed 146 = .ok (.iload 7, 2) := by decide +kernel
theorem dX9_changed_148 : decode cX9_changed 148 = .ok (.aload_n 0, 1) := by decide +kernel
theorem dX9_changed_149 : decode cX9_changed 149 = .ok (.getfield 57, 3) := by decide +kernel
theorem dX9_changed_152 : decode cX9_changed 152 = .ok (.invokevirtual 232, 3) := by decide +kernel
theorem dX9_changed_155 : decode cX9_changed 155 = .ok (.ifCond .ne 12, 3) := by decide +kernel
theorem dX9_changed_158 : decode cX9_changed 158 = .ok (.iload 5, 2) := by decide +kernel
theorem dX9_changed_160 : decode cX9_changed 160 = .ok (.iconst 1, 1) := by decide +kernel
theorem dX9_changed_161 : decode cX9_changed 161 = .ok (.iload 6, 2) := by decide +kernel
theorem dX9_changed_163 : decode cX9_changed 163 = .ok (.ishl, 1) := by decide +kernel
theorem dX9_changed_164 : decode cX9_changed 164 = .ok (.ior, 1) := by decide +kernel
theorem dX9_changed_165 : decode cX9_changed 165 = .ok (.istore 5, 2) := by decide +kernel
theorem dX9_changed_167 : decode cX9_changed 167 = .ok (.iinc 6 1, 3) := by decide +kernel
theorem dX9_changed_170 : decode cX9_changed 170 = .ok (.goto (-61), 3) := by decide +kernel
theorem dX9_changed_173 : decode cX9_changed 173 = .ok (.iload 5, 2) := by decide +kernel
theorem dX9_changed_175 : decode cX9_changed 175 = .ok (.ireturn, 1) := by decide +kernel
theorem dX9_note_0 : decode cX9_note 0 = .ok (.iload_n 1, 1) := by decide +kernel
theorem dX9_note_1 : decode cX9_note 1 = .ok (.invokestatic 130, 3) := by decide +kernel
theorem dX9_note_4 : decode cX9_note 4 = .ok (.ifCond .ne 6, 3) := by decide +kernel
theorem dX9_note_7 : decode cX9_note 7 = .ok (.bipush (-2), 2) := by decide +kernel
theorem dX9_note_9 : decode cX9_note 9 = .ok (.ireturn, 1) := by decide +kernel
theorem dX9_note_10 : decode cX9_note 10 = .ok (.iload_n 2, 1) := by decide +kernel
theorem dX9_note_11 : decode cX9_note 11 = .ok (.ifCond .lt 9, 3) := by decide +kernel
theorem dX9_note_14 : decode cX9_note 14 = .ok (.iload_n 2, 1) := by decide +kernel
theorem dX9_note_15 : decode cX9_note 15 = .ok (.bipush 100, 2) := by decide +kernel
theorem dX9_note_17 : decode cX9_note 17 = .ok (.if_icmp .lt 6, 3) := by decide +kernel
theorem dX9_note_20 : decode cX9_note 20 = .ok (.bipush (-3), 2) := by decide +kernel
theorem dX9_note_22 : decode cX9_note 22 = .ok (.ireturn, 1) := by decide +kernel
theorem dX9_note_23 : decode cX9_note 23 = .ok (.aload_n 0, 1) := by decide +kernel
theorem dX9_note_24 : decode cX9_note 24 = .ok (.getfield 36, 3) := by decide +kernel
theorem dX9_note_27 : decode cX9_note 27 = .ok (.getfield 236, 3) := by decide +kernel
theorem dX9_note_30 : decode cX9_note 30 = .ok (.bipush 12, 2) := by decide +kernel
theorem dX9_note_32 : decode cX9_note 32 = .ok (.if_icmp .lt 6, 3) := by decide +kernel
theorem dX9_note_35 : decode cX9_note 35 = .ok (.bipush (-5), 2) := by decide +kernel
theorem dX9_note_37 : decode cX9_note 37 = .ok (.ireturn, 1) := by decide +kernel
theorem dX9_note_38 : decode cX9_note 38 = .ok (.aload_n 0, 1) := by decide +kernel
theorem dX9_note_39 : decode cX9_note 39 = .ok (.getfield 36, 3) := by decide +kernel
theorem dX9_note_42 : decode cX9_note 42 = .ok (.iload_n 1, 1) := by decide +kernel
theorem dX9_note_43 : decode cX9_note 43 = .ok (.iload_n 2, 1) := by decide +kernel
theorem dX9_note_44 : decode cX9_note 44 = .ok (.invokevirtual 239, 3) := by decide +kernel
theorem dX9_note_47 : decode cX9_note 47 = .ok (.aload_n 0, 1) := by decide +kernel
theorem dX9_note_48 : decode cX9_note 48 = .ok (.getfield 36, 3) := by decide +kernel
theorem dX9_note_51 : decode cX9_note 51 = .ok (.getfield 236, 3) := by decide +kernel
theorem dX9_note_54 : decode cX9_note 54 = .ok (.ireturn, 1) := by decide +kernel
theorem dX9_forget_0 : decode cX9_forget 0 = .ok (.aload_n 0, 1) := by decide +kernel
theorem dX9_forget_1 : decode cX9_forget 1 = .ok (.getfield 36, 3) := by decide +kernel
theorem dX9_forget_4 : decode cX9_forget 4 = .ok (.getfield 236, 3) := by decide +kernel
theorem dX9_forget_7 : decode cX9_forget 7 = .ok (.istore_n 1, 1) := by decide +kernel
theorem dX9_forget_8 : decode cX9_forget 8 = .ok (.aload_n 0, 1) := by decide +kernel
theorem dX9_forget_9 : decode cX9_forget 9 = .ok (.getfield 36, 3) := by decide +kernel
theorem dX9_forget_12 : decode cX9_forget 12 = .ok (.iconst 0, 1) := by decide +kernel
theorem dX9_forget_13 : decode cX9_forget 13 = .ok (.putfield 236, 3) := by decide +kernel
theorem dX9_forget_16 : decode cX9_forget 16 = .ok (.iload_n 1, 1) := by decide +kernel
theorem dX9_forget_17 : decode cX9_forget 17 = .ok (.ireturn, 1) := by decide +kernel
theorem dX9_who_0 : decode cX9_who 0 = .ok (.iload_n 1, 1) := by decide +kernel
theorem dX9_who_1 : decode cX9_who 1 = .ok (.invokestatic 130, 3) := by decide +kernel
theorem dX9_who_4 : decode cX9_who 4 = .ok (.ifCond .ne 6, 3) := by decide +kernel
theorem dX9_who_7 : decode cX9_who 7 = .ok (.bipush (-2), 2) := by decide +kernel
theorem dX9_who_9 : decode cX9_who 9 = .ok (.ireturn, 1) := by decide +kernel
theorem dX9_who_10 : decode cX9_who 10 = .ok (.iload_n 2, 1) := by decide +kernel
theorem dX9_who_11 : decode cX9_who 11 = .ok (.invokestatic 175, 3) := by decide +kernel
theorem dX9_who_14 : decode cX9_who 14 = .ok (.ifCond .eq 14, 3) := by decide +kernel
theorem dX9_who_17 : decode cX9_who 17 = .ok (.iload 4, 2) := by decide +kernel
theorem dX9_who_19 : decode cX9_who 19 = .ok (.ifCond .lt 9, 3) := by decide +kernel
theorem dX9_who_22 : decode cX9_who 22 = .ok (.iload 4, 2) := by decide +kernel
theorem dX9_who_24 : decode cX9_who 24 = .ok (.iconst 2, 1) := by decide +kernel
theorem dX9_who_25 : decode cX9_who 25 = .ok (.if_icmp .le 6, 3) := by decide +kernel
theorem dX9_who_28 : decode cX9_who 28 = .ok (.bipush (-3), 2) := by decide +kernel
theorem dX9_who_30 : decode cX9_who 30 = .ok (.ireturn, 1) := by decide +kernel
theorem dX9_who_31 : decode cX9_who 31 = .ok (.aload_n 0, 1) := by decide +kernel
theorem dX9_who_32 : decode cX9_who 32 = .ok (.getfield 26, 3) := by decide +kernel
theorem dX9_who_35 : decode cX9_who 35 = .ok (.iload_n 1, 1) := by decide +kernel
theorem dX9_who_36 : decode cX9_who 36 = .ok (.invokevirtual 133, 3) := by decide +kernel
theorem dX9_who_39 : decode cX9_who 39 = .ok (.iconst (-1), 1) := by decide +kernel
theorem dX9_who_40 : decode cX9_who 40 = .ok (.if_icmp .ne 6, 3) := by decide +kernel
theorem dX9_who_43 : decode cX9_who 43 = .ok (.bipush (-4), 2) := by decide +kernel
theorem dX9_who_45 : decode cX9_who 45 = .ok (.ireturn, 1) := by decide +kernel
theorem dX9_who_46 : decode cX9_who 46 = .ok (.aload_n 0, 1) := by decide +kernel
theorem dX9_who_47 : decode cX9_who 47 = .ok (.iload_n 1, 1) := by decide +kernel
theorem dX9_who_48 : decode cX9_who 48 = .ok (.iload_n 2, 1) := by decide +kernel
theorem dX9_who_49 : decode cX9_who 49 = .ok (.iload_n 3, 1) := by decide +kernel
theorem dX9_who_50 : decode cX9_who 50 = .ok (.invokevirtual 243, 3) := by decide +kernel
theorem dX9_who_53 : decode cX9_who 53 = .ok (.istore 5, 2) := by decide +kernel
theorem dX9_who_55 : decode cX9_who 55 = .ok (.iload 4, 2) := by decide +kernel
theorem dX9_who_57 : decode cX9_who 57 = .ok (.iconst 2, 1) := by decide +kernel
theorem dX9_who_58 : decode cX9_who 58 = .ok (.if_icmp .ne 6, 3) := by decide +kernel
theorem dX9_who_61 : decode cX9_who 61 = .ok (.iload 5, 2) := by decide +kernel
theorem dX9_who_63 : decode cX9_who 63 = .ok (.ireturn, 1) := by decide +kernel
theorem dX9_who_64 : decode cX9_who 64 = .ok (.iconst 0, 1) := by decide +kernel
theorem dX9_who_65 : decode cX9_who 65 = .ok (.istore 6, 2) := by decide +kernel
theorem dX9_who_67 : decode cX9_who 67 = .ok (.iconst 0, 1) := by decide +kernel
theorem dX9_who_68 : decode cX9_who 68 = .ok (.istore 7, 2) := by decide +kernel
theorem dX9_who_70 : decode cX9_who 70 = .ok (.iload 7, 2) := by decide +kernel
theorem dX9_who_72 : decode cX9_who 72 = .ok (.bipush 6, 2) := by decide +kernel
theorem dX9_who_74 : decode cX9_who 74 = .ok (.if_icmp .ge 22, 3) := by decide +kernel
theorem dX9_who_77 : decode cX9_who 77 = .ok (.iload 6, 2) := by decide +kernel
theorem dX9_who_79 : decode cX9_who 79 = .ok (.aload_n 0, 1) := by decide +kernel
theorem dX9_who_80 : decode cX9_who 80 = .ok (.iload 7, 2) := by decide +kernel
theorem dX9_who_82 : decode cX9_who 82 = .ok (.iload_n 2, 1) := by decide +kernel
theorem dX9_who_83 : decode cX9_who 83 = .ok (.iload_n 3, 1) := by decide +kernel
theorem dX9_who_84 : decode cX9_who 84 = .ok (.invokevirtual 243, 3) := by decide +kernel
theorem dX9_who_87 : decode cX9_who 87 = .ok (.iadd, 1) := by decide +kernel
theorem dX9_who_88 : decode cX9_who 88 = .ok (.istore 6, 2) := by decide +kernel
theorem dX9_who_90 : decode cX9_who 90 = .ok (.iinc 7 1, 3) := by decide +kernel
theorem dX9_who_93 : decode cX9_who 93 = .ok (.goto (-23), 3) := by decide +kernel
theorem dX9_who_96 : decode cX9_who 96 = .ok (.iload 6, 2) := by decide +kernel
theorem dX9_who_98 : decode cX9_who 98 = .ok (.iconst 1, 1) := by decide +kernel
theorem dX9_who_99 : decode cX9_who 99 = .ok (.if_icmp .ge 6, 3) := by decide +kernel
theorem dX9_who_102 : decode cX9_who 102 = .ok (.bipush (-4), 2) := by decide +kernel
theorem dX9_who_104 : decode cX9_who 104 = .ok (.ireturn, 1) := by decide +kernel
theorem dX9_who_105 : decode cX9_who 105 = .ok (.iload 5, 2) := by decide +kernel
theorem dX9_who_107 : decode cX9_who 107 = .ok (.iload 6, 2) := by decide +kernel
theorem dX9_who_109 : decode cX9_who 109 = .ok (.invokestatic 247, 3) := by decide +kernel
theorem dX9_who_112 : decode cX9_who 112 = .ok (.istore 7, 2) := by decide +kernel
theorem dX9_who_114 : decode cX9_who 114 = .ok (.iload 7, 2) := by decide +kernel
theorem dX9_who_116 : decode cX9_who 116 = .ok (.iconst 1, 1) := by decide +kernel
theorem dX9_who_117 : decode cX9_who 117 = .ok (.if_icmp .ge 6, 3) := by decide +kernel
theorem dX9_who_120 : decode cX9_who 120 = .ok (.bipush (-4), 2) := by decide +kernel
theorem dX9_who_122 : decode cX9_who 122 = .ok (.ireturn, 1) := by decide +kernel
theorem dX9_who_123 : decode cX9_who 123 = .ok (.iload 4, 2) := by decide +kernel
theorem dX9_who_125 : decode cX9_who 125 = .ok (.ifCond .ne 11, 3) := by decide +kernel
theorem dX9_who_128 : decode cX9_who 128 = .ok (.iload 5, 2) := by decide +kernel
theorem dX9_who_130 : decode cX9_who 130 = .ok (.iload 7, 2) := by decide +kernel
theorem dX9_who_132 : decode cX9_who 132 = .ok (.idiv, 1) := by decide +kernel
theorem dX9_who_133 : decode cX9_who 133 = .ok (.goto 8, 3) := by decide +kernel
theorem dX9_who_136 : decode cX9_who 136 = .ok (.iload 6, 2) := by decide +kernel
theorem dX9_who_138 : decode cX9_who 138 = .ok (.iload 7, 2) := by decide +kernel
theorem dX9_who_140 : decode cX9_who 140 = .ok (.idiv, 1) := by decide +kernel
theorem dX9_who_141 : decode cX9_who 141 = .ok (.ireturn, 1) := by decide +kernel
theorem dX9_living_0 : decode cX9_living 0 = .ok (.iload_n 1, 1) := by decide +kernel
theorem dX9_living_1 : decode cX9_living 1 = .ok (.ifCond .lt 8, 3) := by decide +kernel
theorem dX9_living_4 : decode cX9_living 4 = .ok (.iload_n 1, 1) := by decide +kernel
theorem dX9_living_5 : decode cX9_living 5 = .ok (.iconst 1, 1) := by decide +kernel
theorem dX9_living_6 : decode cX9_living 6 = .ok (.if_icmp .le 6, 3) := by decide +kernel
theorem dX9_living_9 : decode cX9_living 9 = .ok (.bipush (-3), 2) := by decide +kernel
theorem dX9_living_11 : decode cX9_living 11 = .ok (.ireturn, 1) := by decide +kernel
theorem dX9_living_12 : decode cX9_living 12 = .ok (.aload_n 0, 1) := by decide +kernel
theorem dX9_living_13 : decode cX9_living 13 = .ok (.invokevirtual 250, 3) := by decide +kernel
theorem dX9_living_16 : decode cX9_living 16 = .ok (.iconst (-1), 1) := by decide +kernel
theorem dX9_living_17 : decode cX9_living 17 = .ok (.istore_n 2, 1) := by decide +kernel
theorem dX9_living_18 : decode cX9_living 18 = .ok (.iconst (-1), 1) := by decide +kernel
theorem dX9_living_19 : decode cX9_living 19 = .ok (.istore_n 3, 1) := by decide +kernel
theorem dX9_living_20 : decode cX9_living 20 = .ok (.iconst 0, 1) := by decide +kernel
theorem dX9_living_21 : decode cX9_living 21 = .ok (.istore 4, 2) := by decide +kernel
theorem dX9_living_23 : decode cX9_living 23 = .ok (.iload 4, 2) := by decide +kernel
theorem dX9_living_25 : decode cX9_living 25 = .ok (.aload_n 0, 1) := by decide +kernel
theorem dX9_living_26 : decode cX9_living 26 = .ok (.getfield 26, 3) := by decide +kernel
theorem dX9_living_29 : decode cX9_living 29 = .ok (.invokevirtual 222, 3) := by decide +kernel
theorem dX9_living_32 : decode cX9_living 32 = .ok (.if_icmp .ge 46, 3) := by decide +kernel
theorem dX9_living_35 : decode cX9_living 35 = .ok (.aload_n 0, 1) := by decide +kernel
theorem dX9_living_36 : decode cX9_living 36 = .ok (.getfield 26, 3) := by decide +kernel
theorem dX9_living_39 : decode cX9_living 39 = .ok (.iload 4, 2) := by decide +kernel
theorem dX9_living_41 : decode cX9_living 41 = .ok (.invokevirtual 226, 3) := by decide +kernel
theorem dX9_living_44 : decode cX9_living 44 = .ok (.ifCond .eq 28, 3) := by decide +kernel
theorem dX9_living_47 : decode cX9_living 47 = .ok (.aload_n 0, 1) := by decide +kernel
theorem dX9_living_48 : decode cX9_living 48 = .ok (.getfield 81, 3) := by decide +kernel
theorem dX9_living_51 : decode cX9_living 51 = .ok (.iload 4, 2) := by decide +kernel
theorem dX9_living_53 : decode cX9_living 53 = .ok (.iaload, 1) := by decide +kernel
theorem dX9_living_54 : decode cX9_living 54 = .ok (.iload_n 3, 1) := by decide +kernel
theorem dX9_living_55 : decode cX9_living 55 = .ok (.if_icmp .gt 6, 3) := by decide +kernel
theorem dX9_living_58 : decode cX9_living 58 = .ok (.goto 14, 3) := by decide +kernel
theorem dX9_living_61 : decode cX9_living 61 = .ok (.iload 4, 2) := by decide +kernel
theorem dX9_living_63 : decode cX9_living 63 = .ok (.istore_n 2, 1) := by decide +kernel
theorem dX9_living_64 : decode cX9_living 64 = .ok (.aload_n 0, 1) := by decide +kernel
theorem dX9_living_65 : decode cX9_living 65 = .ok (.getfield 81, 3) := by decide +kernel
theorem dX9_living_68 : decode cX9_living 68 = .ok (.iload 4, 2) := by decide +kernel
theorem dX9_living_70 : decode cX9_living 70 = .ok (.iaload, 1) := by decide +kernel
theorem dX9_living_71 : decode cX9_living 71 = .ok (.istore_n 3, 1) := by decide +kernel
theorem dX9_living_72 : decode cX9_living 72 = .ok (.iinc 4 1, 3) := by decide +kernel
theorem dX9_living_75 : decode cX9_living 75 = .ok (.goto (-52), 3) := by decide +kernel
theorem dX9_living_78 : decode cX9_living 78 = .ok (.iload_n 1, 1) := by decide +kernel
theorem dX9_living_79 : decode cX9_living 79 = .ok (.ifCond .ne 7, 3) := by decide +kernel
theorem dX9_living_82 : decode cX9_living 82 = .ok (.iload_n 2, 1) := by decide +kernel
theorem dX9_living_83 : decode cX9_living 83 = .ok (.goto 4, 3) := by decide +kernel
theorem dX9_living_86 : decode cX9_living 86 = .ok (.iload_n 3, 1) := by decide +kernel
theorem dX9_living_87 : decode cX9_living 87 = .ok (.ireturn, 1) := by decide +kernel
theorem dX9_cancel_0 : decode cX9_cancel 0 = .ok (.iload_n 1, 1) := by decide +kernel
theorem dX9_cancel_1 : decode cX9_cancel 1 = .ok (.invokestatic 130, 3) := by decide +kernel
theorem dX9_cancel_4 : decode cX9_cancel 4 = .ok (.ifCond .eq 10, 3) := by decide +kernel
theorem dX9_cancel_7 : decode cX9_cancel 7 = .ok (.iload_n 2, 1) := by decide +kernel
theorem dX9_cancel_8 : decode cX9_cancel 8 = .ok (.invokestatic 130, 3) := by decide +kernel
theorem dX9_cancel_11 : decode cX9_cancel 11 = .ok (.ifCond .ne 6, 3) := by decide +kernel
theorem dX9_cancel_14 : decode cX9_cancel 14 = .ok (.bipush (-2), 2) := by decide +kernel
theorem dX9_cancel_16 : decode cX9_cancel 16 = .ok (.ireturn, 1) := by decide +kernel
theorem dX9_cancel_17 : decode cX9_cancel 17 = .ok (.iload_n 1, 1) := by decide +kernel
theorem dX9_cancel_18 : decode cX9_cancel 18 = .ok (.iload_n 2, 1) := by decide +kernel
theorem dX9_cancel_19 : decode cX9_cancel 19 = .ok (.if_icmp .eq 22, 3) := by decide +kernel
theorem dX9_cancel_22 : decode cX9_cancel 22 = .ok (.iload 4, 2) := by decide +kernel
theorem dX9_cancel_24 : decode cX9_cancel 24 = .ok (.invokestatic 219, 3) := by decide +kernel
theorem dX9_cancel_27 : decode cX9_cancel 27 = .ok (.ifCond .eq 14, 3) := by decide +kernel
theorem dX9_cancel_30 : decode cX9_cancel 30 = .ok (.iload 5, 2) := by decide +kernel
theorem dX9_cancel_32 : decode cX9_cancel 32 = .ok (.ifCond .lt 9, 3) := by decide +kernel
theorem dX9_cancel_35 : decode cX9_cancel 35 = .ok (.iload 5, 2) := by decide +kernel
theorem dX9_cancel_37 : decode cX9_cancel 37 = .ok (.iconst 2, 1) := by decide +kernel
theorem dX9_cancel_38 : decode cX9_cancel 38 = .ok (.if_icmp .le 6, 3) := by decide +kernel
theorem dX9_cancel_41 : decode cX9_cancel 41 = .ok (.bipush (-3), 2) := by decide +kernel
theorem dX9_cancel_43 : decode cX9_cancel 43 = .ok (.ireturn, 1) := by decide +kernel
theorem dX9_cancel_44 : decode cX9_cancel 44 = .ok (.aload_n 0, 1) := by decide +kernel
theorem dX9_cancel_45 : decode cX9_cancel 45 = .ok (.getfield 26, 3) := by decide +kernel
theorem dX9_cancel_48 : decode cX9_cancel 48 = .ok (.iload_n 1, 1) := by decide +kernel
theorem dX9_cancel_49 : decode cX9_cancel 49 = .ok (.invokevirtual 133, 3) := by decide +kernel
theorem dX9_cancel_52 : decode cX9_cancel 52 = .ok (.iconst (-1), 1) := by decide +kernel
theorem dX9_cancel_53 : decode cX9_cancel 53 = .ok (.if_icmp .eq 15, 3) := by decide +kernel
theorem dX9_cancel_56 : decode cX9_cancel 56 = .ok (.aload_n 0, 1) := by decide +kernel
theorem dX9_cancel_57 : decode cX9_cancel 57 = .ok (.getfield 26, 3) := by decide +kernel
theorem dX9_cancel_60 : decode cX9_cancel 60 = .ok (.iload_n 2, 1) := by decide +kernel
theorem dX9_cancel_61 : decode cX9_cancel 61 = .ok (.invokevirtual 133, 3) := by decide +kernel
theorem dX9_cancel_64 : decode cX9_cancel 64 = .ok (.iconst (-1), 1) := by decide +kernel
theorem dX9_cancel_65 : decode cX9_cancel 65 = .ok (.if_icmp .ne 6, 3) := by decide +kernel
theorem dX9_cancel_68 : decode cX9_cancel 68 = .ok (.bipush (-4), 2) := by decide +kernel
theorem dX9_cancel_70 : decode cX9_cancel 70 = .ok (.ireturn, 1) := by decide +kernel
theorem dX9_cancel_71 : decode cX9_cancel 71 = .ok (.iconst 1, 1) := by decide +kernel
theorem dX9_cancel_72 : decode cX9_cancel 72 = .ok (.istore 6, 2) := by decide +kernel
theorem dX9_cancel_74 : decode cX9_cancel 74 = .ok (.iload 6, 2) := by decide +kernel
theorem dX9_cancel_76 : decode cX9_cancel 76 = .ok (.bipush 40, 2) := by decide +kernel
theorem dX9_cancel_78 : decode cX9_cancel 78 = .ok (.if_icmp .gt 27, 3) := by decide +kernel
theorem dX9_cancel_81 : decode cX9_cancel 81 = .ok (.aload_n 0, 1) := by decide +kernel
theorem dX9_cancel_82 : decode cX9_cancel 82 = .ok (.getfield 85, 3) := by decide +kernel
theorem dX9_cancel_85 : decode cX9_cancel 85 = .ok (.iload 6, 2) := by decide +kernel
theorem dX9_cancel_87 : decode cX9_cancel 87 = .ok (.aload_n 0, 1) := by decide +kernel
theorem dX9_cancel_88 : decode cX9_cancel 88 = .ok (.iload_n 1, 1) := by decide +kernel
theorem dX9_cancel_89 : decode cX9_cancel 89 = .ok (.iload_n 2, 1) := by decide +kernel
theorem dX9_cancel_90 : decode cX9_cancel 90 = .ok (.iload 6, 2) := by decide +kernel
theorem dX9_cancel_92 : decode cX9_cancel 92 = .ok (.iload_n 3, 1) := by decide +kernel
theorem dX9_cancel_93 : decode cX9_cancel 93 = .ok (.iload 4, 2) := by decide +kernel
theorem dX9_cancel_95 : decode cX9_cancel 95 = .ok (.invokevirtual 253, 3) := by decide +kernel
theorem dX9_cancel_98 : decode cX9_cancel 98 = .ok (.iastore, 1) := by decide +kernel
theorem dX9_cancel_99 : decode cX9_cancel 99 = .ok (.iinc 6 1, 3) := by decide +kernel
theorem dX9_cancel_102 : decode cX9_cancel 102 = .ok (.goto (-28), 3) := by decide +kernel
theorem dX9_cancel_105 : decode cX9_cancel 105 = .ok (.iconst 1, 1) := by decide +kernel
theorem dX9_cancel_106 : decode cX9_cancel 106 = .ok (.istore 6, 2) := by decide +kernel
theorem dX9_cancel_108 : decode cX9_cancel 108 = .ok (.iload 6, 2) := by decide +kernel
theorem dX9_cancel_110 : decode cX9_cancel 110 = .ok (.bipush 40, 2) := by decide +kernel
theorem dX9_cancel_112 : decode cX9_cancel 112 = .ok (.if_icmp .gt 72, 3) := by decide +kernel
theorem dX9_cancel_115 : decode cX9_cancel 115 = .ok (.aload_n 0, 1) := by decide +kernel
theorem dX9_cancel_116 : decode cX9_cancel 116 = .ok (.iload_n 2, 1) := by decide +kernel
theorem dX9_cancel_117 : decode cX9_cancel 117 = .ok (.iload_n 1, 1) := by decide +kernel
theorem dX9_cancel_118 : decode cX9_cancel 118 = .ok (.iload 6, 2) := by decide +kernel
theorem dX9_cancel_120 : decode cX9_cancel 120 = .ok (.iload_n 3, 1) := by decide +kernel
theorem dX9_cancel_121 : decode cX9_cancel 121 = .ok (.iload 4, 2) := by decide +kernel
theorem dX9_cancel_123 : decode cX9_cancel 123 = .ok (.invokevirtual 253, 3) := by decide +kernel
theorem dX9_cancel_126 : decode cX9_cancel 126 = .ok (.istore 7, 2) := by decide +kernel
theorem dX9_cancel_128 : decode cX9_cancel 128 = .ok (.iload 7, 2) := by decide +kernel
theorem dX9_cancel_130 : decode cX9_cancel 130 = .ok (.ifCond .ne 7, 3) := by decide +kernel
theorem dX9_cancel_133 : decode cX9_cancel 133 = .ok (.iconst (-1), 1) := by decide +kernel
theorem dX9_cancel_134 : decode cX9_cancel 134 = .ok (.goto 9, 3) := by decide +kernel
theorem dX9_cancel_137 : decode cX9_cancel 137 = .ok (.aload_n 0, 1) := by decide +kernel
theorem dX9_cancel_138 : decode cX9_cancel 138 = .ok (.iload 7, 2) := by decide +kernel
theorem dX9_cancel_140 : decode cX9_cancel 140 = .ok (.invokevirtual 256, 3) := by decide +kernel
theorem dX9_cancel_143 : decode cX9_cancel 143 = .ok (.istore 8, 2) := by decide +kernel
theorem dX9_cancel_145 : decode cX9_cancel 145 = .ok (.iload 8, 2) := by decide +kernel
theorem dX9_cancel_147 : decode cX9_cancel 147 = .ok (.iconst (-1), 1) := by decide +kernel
theorem dX9_cancel_148 : decode cX9_cancel 148 = .ok (.if_icmp .ne 6, 3) := by decide +kernel
theorem dX9_cancel_151 : decode cX9_cancel 151 = .ok (.goto 27, 3) := by decide +kernel
theorem dX9_cancel_154 : decode cX9_cancel 154 = .ok (.iload 5, 2) := by decide +kernel
theorem dX9_cancel_156 : decode cX9_cancel 156 = .ok (.ifCond .ne 8, 3) := by decide +kernel
theorem dX9_cancel_159 : decode cX9_cancel 159 = .ok (.iload 6, 2) := by decide +kernel
theorem dX9_cancel_161 : decode cX9_cancel 161 = .ok (.goto 16, 3) := by decide +kernel
theorem dX9_cancel_164 : decode cX9_cancel 164 = .ok (.iload 5, 2) := by decide +kernel
theorem dX9_cancel_166 : decode cX9_cancel 166 = .ok (.iconst 1, 1) := by decide +kernel
theorem dX9_cancel_167 : decode cX9_cancel 167 = .ok (.if_icmp .ne 8, 3) := by decide +kernel
theorem dX9_cancel_170 : decode cX9_cancel 170 = .ok (.iload 8, 2) := by decide +kernel
theorem dX9_cancel_172 : decode cX9_cancel 172 = .ok (.goto 5, 3) := by decide +kernel
theorem dX9_cancel_175 : decode cX9_cancel 175 = .ok (.iload 7, 2) := by decide +kernel
theorem dX9_cancel_177 : decode cX9_cancel 177 = .ok (.ireturn, 1) := by decide +kernel
theorem dX9_cancel_178 : decode cX9_cancel 178 = .ok (.iinc 6 1, 3) := by decide +kernel
theorem dX9_cancel_181 : decode cX9_cancel 181 = .ok (.goto (-73), 3) := by decide +kernel
theorem dX9_cancel_184 : decode cX9_cancel 184 = .ok (.iconst (-1), 1) := by decide +kernel
theorem dX9_cancel_185 : decode cX9_cancel 185 = .ok (.ireturn, 1) := by decide +kernel
theorem dX9_keep_0 : decode cX9_keep 0 = .ok (.aload_n 0, 1) := by decide +kernel
theorem dX9_keep_1 : decode cX9_keep 1 = .ok (.iload_n 1, 1) := by decide +kernel
theorem dX9_keep_2 : decode cX9_keep 2 = .ok (.invokevirtual 259, 3) := by decide +kernel
theorem dX9_keep_5 : decode cX9_keep 5 = .ok (.astore_n 2, 1) := by decide +kernel
theorem dX9_keep_6 : decode cX9_keep 6 = .ok (.aload_n 2, 1) := by decide +kernel
theorem dX9_keep_7 : decode cX9_keep 7 = .ok (.ifnonnull 6, 3) := by decide +kernel
theorem dX9_keep_10 : decode cX9_keep 10 = .ok (.bipush (-2), 2) := by decide +kernel
theorem dX9_keep_12 : decode cX9_keep 12 = .ok (.ireturn, 1) := by decide +kernel
theorem dX9_keep_13 : decode cX9_keep 13 = .ok (.aload_n 2, 1) := by decide +kernel
theorem dX9_keep_14 : decode cX9_keep 14 = .ok (.getfield 263, 3) := by decide +kernel
theorem dX9_keep_17 : decode cX9_keep 17 = .ok (.aload_n 0, 1) := by decide +kernel
theorem dX9_keep_18 : decode cX9_keep 18 = .ok (.getfield 26, 3) := by decide +kernel
theorem dX9_keep_21 : decode cX9_keep 21 = .ok (.invokevirtual 98, 3) := by decide +kernel
theorem dX9_keep_24 : decode cX9_keep 24 = .ok (.aload_n 2, 1) := by decide +kernel
theorem dX9_keep_25 : decode cX9_keep 25 = .ok (.getfield 266, 3) := by decide +kernel
theorem dX9_keep_28 : decode cX9_keep 28 = .ok (.aload_n 0, 1) := by decide +kernel
theorem dX9_keep_29 : decode cX9_keep 29 = .ok (.getfield 36, 3) := by decide +kernel
theorem dX9_keep_32 : decode cX9_keep 32 = .ok (.invokevirtual 267, 3) := by decide +kernel
theorem dX9_keep_35 : decode cX9_keep 35 = .ok (.aload_n 2, 1) := by decide +kernel
theorem dX9_keep_36 : decode cX9_keep 36 = .ok (.iconst 1, 1) := by decide +kernel
theorem dX9_keep_37 : decode cX9_keep 37 = .ok (.putfield 109, 3) := by decide +kernel
theorem dX9_keep_40 : decode cX9_keep 40 = .ok (.aload_n 0, 1) := by decide +kernel
theorem dX9_keep_41 : decode cX9_keep 41 = .ok (.getfield 36, 3) := by decide +kernel
theorem dX9_keep_44 : decode cX9_keep 44 = .ok (.getfield 154, 3) := by decide +kernel
theorem dX9_keep_47 : decode cX9_keep 47 = .ok (.ireturn, 1) := by decide +kernel
theorem dX9_back_0 : decode cX9_back 0 = .ok (.aload_n 0, 1) := by decide +kernel
theorem dX9_back_1 : decode cX9_back 1 = .ok (.iload_n 1, 1) := by decide +kernel
theorem dX9_back_2 : decode cX9_back 2 = .ok (.invokevirtual 259, 3) := by decide +kernel
theorem dX9_back_5 : decode cX9_back 5 = .ok (.astore_n 2, 1) := by decide +kernel
theorem dX9_back_6 : decode cX9_back 6 = .ok (.aload_n 2, 1) := by decide +kernel
theorem dX9_back_7 : decode cX9_back 7 = .ok (.ifnonnull 6, 3) := by decide +kernel
theorem dX9_back_10 : decode cX9_back 10 = .ok (.bipush (-2), 2) := by decide +kernel
theorem dX9_back_12 : decode cX9_back 12 = .ok (.ireturn, 1) := by decide +kernel
theorem dX9_back_13 : decode cX9_back 13 = .ok (.aload_n 2, 1) := by decide +kernel
theorem dX9_back_14 : decode cX9_back 14 = .ok (.getfield 109, 3) := by decide +kernel
theorem dX9_back_17 : decode cX9_back 17 = .ok (.ifCond .ne 6, 3) := by decide +kernel
theorem dX9_back_20 : decode cX9_back 20 = .ok (.bipush (-4), 2) := by decide +kernel
theorem dX9_back_22 : decode cX9_back 22 = .ok (.ireturn, 1) := by decide +kernel
theorem dX9_back_23 : decode cX9_back 23 = .ok (.aload_n 0, 1) := by decide +kernel
theorem dX9_back_24 : decode cX9_back 24 = .ok (.getfield 26, 3) := by decide +kernel
theorem dX9_back_27 : decode cX9_back 27 = .ok (.aload_n 2, 1) := by decide +kernel
theorem dX9_back_28 : decode cX9_back 28 = .ok (.getfield 263, 3) := by decide +kernel
theorem dX9_back_31 : decode cX9_back 31 = .ok (.invokevirtual 98, 3) := by decide +kernel
theorem dX9_back_34 : decode cX9_back 34 = .ok (.aload_n 0, 1) := by decide +kernel
theorem dX9_back_35 : decode cX9_back 35 = .ok (.getfield 36, 3) := by decide +kernel
theorem dX9_back_38 : decode cX9_back 38 = .ok (.aload_n 2, 1) := by decide +kernel
theorem dX9_back_39 : decode cX9_back 39 = .ok (.getfield 266, 3) := by decide +kernel
theorem dX9_back_42 : decode cX9_back 42 = .ok (.invokevirtual 267, 3) := by decide +kernel
theorem dX9_back_45 : decode cX9_back 45 = .ok (.aload_n 0, 1) := by decide +kernel
theorem dX9_back_46 : decode cX9_back 46 = .ok (.getfield 36, 3) := by decide +kernel
theorem dX9_back_49 : decode cX9_back 49 = .ok (.getfield 154, 3) := by decide +kernel
theorem dX9_back_52 : decode cX9_back 52 = .ok (.ireturn, 1) := by decide +kernel
theorem dX9_count_0 : decode cX9_count 0 = .ok (.iload_n 1, 1) := by decide +kernel
theorem dX9_count_1 : decode cX9_count 1 = .ok (.tableswitch 147 0 10 #[59, 67, 75, 83, 91, 99, 107, 115, 123, 131, 139], 59) := by decide +kernel
theorem dX9_count_60 : decode cX9_count 60 = .ok (.aload_n 0, 1) := by decide +kernel
theorem dX9_count_61 : decode cX9_count 61 = .ok (.getfield 26, 3) := by decide +kernel
theorem dX9_count_64 : decode cX9_count 64 = .ok (.getfield 270, 3) := by decide +kernel
theorem dX9_count_67 : decode cX9_count 67 = .ok (.ireturn, 1) := by decide +kernel
theorem dX9_count_68 : decode cX9_count 68 = .ok (.aload_n 0, 1) := by decide +kernel
theorem dX9_count_69 : decode cX9_count 69 = .ok (.getfield 26, 3) := by decide +kernel
theorem dX9_count_72 : decode cX9_count 72 = .ok (.getfield 273, 3) := by decide +kernel
theorem dX9_count_75 : decode cX9_count 75 = .ok (.ireturn, 1) := by decide +kernel
theorem dX9_count_76 : decode cX9_count 76 = .ok (.aload_n 0, 1) := by decide +kernel
theorem dX9_count_77 : decode cX9_count 77 = .ok (.getfield 26, 3) := by decide +kernel
theorem dX9_count_80 : decode cX9_count 80 = .ok (.invokevirtual 276, 3) := by decide +kernel
theorem dX9_count_83 : decode cX9_count 83 = .ok (.ireturn, 1) := by decide +kernel
theorem dX9_count_84 : decode cX9_count 84 = .ok (.aload_n 0, 1) := by decide +kernel
theorem dX9_count_85 : decode cX9_count 85 = .ok (.getfield 26, 3) := by decide +kernel
theorem dX9_count_88 : decode cX9_count 88 = .ok (.invokevirtual 279, 3) := by decide +kernel
theorem dX9_count_91 : decode cX9_count 91 = .ok (.ireturn, 1) := by decide +kernel
theorem dX9_count_92 : decode cX9_count 92 = .ok (.aload_n 0, 1) := by decide +kernel
theorem dX9_count_93 : decode cX9_count 93 = .ok (.getfield 26, 3) := by decide +kernel
theorem dX9_count_96 : decode cX9_count 96 = .ok (.getfield 143, 3) := by decide +kernel
theorem dX9_count_99 : decode cX9_count 99 = .ok (.ireturn, 1) := by decide +kernel
theorem dX9_count_100 : decode cX9_count 100 = .ok (.aload_n 0, 1) := by decide +kernel
theorem dX9_count_101 : decode cX9_count 101 = .ok (.getfield 36, 3) := by decide +kernel
theorem dX9_count_104 : decode cX9_count 104 = .ok (.getfield 154, 3) := by decide +kernel
theorem dX9_count_107 : decode cX9_count 107 = .ok (.ireturn, 1) := by decide +kernel
theorem dX9_count_108 : decode cX9_count 108 = .ok (.aload_n 0, 1) := by decide +kernel
theorem dX9_count_109 : decode cX9_count 109 = .ok (.getfield 36, 3) := by decide +kernel
theorem dX9_count_112 : decode cX9_count 112 = .ok (.getfield 236, 3) := by decide +kernel
theorem dX9_count_115 : decode cX9_count 115 = .ok (.ireturn, 1) := by decide +kernel
theorem dX9_count_116 : decode cX9_count 116 = .ok (.aload_n 0, 1) := by decide +kernel
theorem dX9_count_117 : decode cX9_count 117 = .ok (.getfield 26, 3) := by decide +kernel
theorem dX9_count_120 : decode cX9_count 120 = .ok (.getfield 282, 3) := by decide +kernel
theorem dX9_count_123 : decode cX9_count 123 = .ok (.ireturn, 1) := by decide +kernel
theorem dX9_count_124 : decode cX9_count 124 = .ok (.aload_n 0, 1) := by decide +kernel
theorem dX9_count_125 : decode cX9_count 125 = .ok (.getfield 12, 3) := by decide +kernel
theorem dX9_count_128 : decode cX9_count 128 = .ok (.getfield 88, 3) := by decide +kernel
theorem dX9_count_131 : decode cX9_count 131 = .ok (.ireturn, 1) := by decide +kernel
theorem dX9_count_132 : decode cX9_count 132 = .ok (.aload_n 0, 1) := by decide +kernel
theorem dX9_count_133 : decode cX9_count 133 = .ok (.getfield 26, 3) := by decide +kernel
theorem dX9_count_136 : decode cX9_count 136 = .ok (.getfield 285, 3) := by decide +kernel
theorem dX9_count_139 : decode cX9_count 139 = .ok (.ireturn, 1) := by decide +kernel
theorem dX9_count_140 : decode cX9_count 140 = .ok (.aload_n 0, 1) := by decide +kernel
theorem dX9_count_141 : decode cX9_count 141 = .ok (.getfield 26, 3) := by decide +kernel
theorem dX9_count_144 : decode cX9_count 144 = .ok (.getfield 288, 3) := by decide +kernel
theorem dX9_count_147 : decode cX9_count 147 = .ok (.ireturn, 1) := by decide +kernel
theorem dX9_count_148 : decode cX9_count 148 = .ok (.bipush (-3), 2) := by decide +kernel
theorem dX9_count_150 : decode cX9_count 150 = .ok (.ireturn, 1) := by decide +kernel
theorem dX9_isPerson_0 : decode cX9_isPerson 0 = .ok (.iload_n 0, 1) := by decide +kernel
theorem dX9_isPerson_1 : decode cX9_isPerson 1 = .ok (.ifCond .lt 13, 3) := by decide +kernel
theorem dX9_isPerson_4 : decode cX9_isPerson 4 = .ok (.iload_n 0, 1) := by decide +kernel
theorem dX9_isPerson_5 : decode cX9_isPerson 5 = .ok (.bipush 6, 2) := by decide +kernel
theorem dX9_isPerson_7 : decode cX9_isPerson 7 = .ok (.if_icmp .ge 7, 3) := by decide +kernel
theorem dX9_isPerson_10 : decode cX9_isPerson 10 = .ok (.iconst 1, 1) := by decide +kernel
theorem dX9_isPerson_11 : decode cX9_isPerson 11 = .ok (.goto 4, 3) := by decide +kernel
theorem dX9_isPerson_14 : decode cX9_isPerson 14 = .ok (.iconst 0, 1) := by decide +kernel
theorem dX9_isPerson_15 : decode cX9_isPerson 15 = .ok (.ireturn, 1) := by decide +kernel
theorem dX9_isLoud_0 : decode cX9_isLoud 0 = .ok (.iload_n 0, 1) := by decide +kernel
theorem dX9_isLoud_1 : decode cX9_isLoud 1 = .ok (.iconst 1, 1) := by decide +kernel
theorem dX9_isLoud_2 : decode cX9_isLoud 2 = .ok (.if_icmp .lt 13, 3) := by decide +kernel
theorem dX9_isLoud_5 : decode cX9_isLoud 5 = .ok (.iload_n 0, 1) := by decide +kernel
theorem dX9_isLoud_6 : decode cX9_isLoud 6 = .ok (.bipush 99, 2) := by decide +kernel
theorem dX9_isLoud_8 : decode cX9_isLoud 8 = .ok (.if_icmp .gt 7, 3) := by decide +kernel
theorem dX9_isLoud_11 : decode cX9_isLoud 11 = .ok (.iconst 1, 1) := by decide +kernel
theorem dX9_isLoud_12 : decode cX9_isLoud 12 = .ok (.goto 4, 3) := by decide +kernel
theorem dX9_isLoud_15 : decode cX9_isLoud 15 = .ok (.iconst 0, 1) := by decide +kernel
theorem dX9_isLoud_16 : decode cX9_isLoud 16 = .ok (.ireturn, 1) := by decide +kernel
theorem dX9_isHour_0 : decode cX9_isHour 0 = .ok (.iload_n 0, 1) := by decide +kernel
theorem dX9_isHour_1 : decode cX9_isHour 1 = .ok (.ifCond .lt 13, 3) := by decide +kernel
theorem dX9_isHour_4 : decode cX9_isHour 4 = .ok (.iload_n 0, 1) := by decide +kernel
theorem dX9_isHour_5 : decode cX9_isHour 5 = .ok (.bipush 24, 2) := by decide +kernel
theorem dX9_isHour_7 : decode cX9_isHour 7 = .ok (.if_icmp .ge 7, 3) := by decide +kernel
theorem dX9_isHour_10 : decode cX9_isHour 10 = .ok (.iconst 1, 1) := by decide +kernel
theorem dX9_isHour_11 : decode cX9_isHour 11 = .ok (.goto 4, 3) := by decide +kernel
theorem dX9_isHour_14 : decode cX9_isHour 14 = .ok (.iconst 0, 1) := by decide +kernel
theorem dX9_isHour_15 : decode cX9_isHour 15 = .ok (.ireturn, 1) := by decide +kernel
theorem dX9_refusalOfCry_0 : decode cX9_refusalOfCry 0 = .ok (.iload_n 1, 1) := by decide +kernel
theorem dX9_refusalOfCry_1 : decode cX9_refusalOfCry 1 = .ok (.invokestatic 130, 3) := by decide +kernel
theorem dX9_refusalOfCry_4 : decode cX9_refusalOfCry 4 = .ok (.ifCond .ne 6, 3) := by decide +kernel
theorem dX9_refusalOfCry_7 : decode cX9_refusalOfCry 7 = .ok (.bipush (-2), 2) := by decide +kernel
theorem dX9_refusalOfCry_9 : decode cX9_refusalOfCry 9 = .ok (.ireturn, 1) := by decide +kernel
theorem dX9_refusalOfCry_10 : decode cX9_refusalOfCry 10 = .ok (.iload_n 2, 1) := by decide +kernel
theorem dX9_refusalOfCry_11 : decode cX9_refusalOfCry 11 = .ok (.invokestatic 175, 3) := by decide +kernel
theorem dX9_refusalOfCry_14 : decode cX9_refusalOfCry 14 = .ok (.ifCond .eq 10, 3) := by decide +kernel
theorem dX9_refusalOfCry_17 : decode cX9_refusalOfCry 17 = .ok (.iload_n 3, 1) := by decide +kernel
theorem dX9_refusalOfCry_18 : decode cX9_refusalOfCry 18 = .ok (.invokestatic 219, 3) := by decide +kernel
theorem dX9_refusalOfCry_21 : decode cX9_refusalOfCry 21 = .ok (.ifCond .ne 6, 3) := by decide +kernel
theorem dX9_refusalOfCry_24 : decode cX9_refusalOfCry 24 = .ok (.bipush (-3), 2) := by decide +kernel
theorem dX9_refusalOfCry_26 : decode cX9_refusalOfCry 26 = .ok (.ireturn, 1) := by decide +kernel
theorem dX9_refusalOfCry_27 : decode cX9_refusalOfCry 27 = .ok (.aload_n 0, 1) := by decide +kernel
theorem dX9_refusalOfCry_28 : decode cX9_refusalOfCry 28 = .ok (.getfield 26, 3) := by decide +kernel
theorem dX9_refusalOfCry_31 : decode cX9_refusalOfCry 31 = .ok (.iload_n 1, 1) := by decide +kernel
theorem dX9_refusalOfCry_32 : decode cX9_refusalOfCry 32 = .ok (.invokevirtual 133, 3) := by decide +kernel
theorem dX9_refusalOfCry_35 : decode cX9_refusalOfCry 35 = .ok (.iconst (-1), 1) := by decide +kernel
theorem dX9_refusalOfCry_36 : decode cX9_refusalOfCry 36 = .ok (.if_icmp .ne 8, 3) := by decide +kernel
theorem dX9_refusalOfCry_39 : decode cX9_refusalOfCry 39 = .ok (.bipush (-4), 2) := by decide +kernel
theorem dX9_refusalOfCry_41 : decode cX9_refusalOfCry 41 = .ok (.goto 4, 3) := by decide +kernel
theorem dX9_refusalOfCry_44 : decode cX9_refusalOfCry 44 = .ok (.iconst 0, 1) := by decide +kernel
theorem dX9_refusalOfCry_45 : decode cX9_refusalOfCry 45 = .ok (.ireturn, 1) := by decide +kernel
theorem dX9_costFrom_0 : decode cX9_costFrom 0 = .ok (.aload_n 0, 1) := by decide +kernel
theorem dX9_costFrom_1 : decode cX9_costFrom 1 = .ok (.getfield 53, 3) := by decide +kernel
theorem dX9_costFrom_4 : decode cX9_costFrom 4 = .ok (.aload_n 0, 1) := by decide +kernel
theorem dX9_costFrom_5 : decode cX9_costFrom 5 = .ok (.getfield 26, 3) := by decide +kernel
theorem dX9_costFrom_8 : decode cX9_costFrom 8 = .ok (.iload_n 2, 1) := by decide +kernel
theorem dX9_costFrom_9 : decode cX9_costFrom 9 = .ok (.iload_n 3, 1) := by decide +kernel
theorem dX9_costFrom_10 : decode cX9_costFrom 10 = .ok (.iload 4, 2) := by decide +kernel
theorem dX9_costFrom_12 : decode cX9_costFrom 12 = .ok (.invokevirtual 178, 3) := by decide +kernel
theorem dX9_costFrom_15 : decode cX9_costFrom 15 = .ok (.aload_n 0, 1) := by decide +kernel
theorem dX9_costFrom_16 : decode cX9_costFrom 16 = .ok (.getfield 63, 3) := by decide +kernel
theorem dX9_costFrom_19 : decode cX9_costFrom 19 = .ok (.aload_n 0, 1) := by decide +kernel
theorem dX9_costFrom_20 : decode cX9_costFrom 20 = .ok (.getfield 26, 3) := by decide +kernel
theorem dX9_costFrom_23 : decode cX9_costFrom 23 = .ok (.aload_n 0, 1) := by decide +kernel
theorem dX9_costFrom_24 : decode cX9_costFrom 24 = .ok (.getfield 53, 3) := by decide +kernel
theorem dX9_costFrom_27 : decode cX9_costFrom 27 = .ok (.invokevirtual 291, 3) := by decide +kernel
theorem dX9_costFrom_30 : decode cX9_costFrom 30 = .ok (.iconst 0, 1) := by decide +kernel
theorem dX9_costFrom_31 : decode cX9_costFrom 31 = .ok (.istore 6, 2) := by decide +kernel
theorem dX9_costFrom_33 : decode cX9_costFrom 33 = .ok (.iconst 0, 1) := by decide +kernel
theorem dX9_costFrom_34 : decode cX9_costFrom 34 = .ok (.istore 7, 2) := by decide +kernel
theorem dX9_costFrom_36 : decode cX9_costFrom 36 = .ok (.iload 7, 2) := by decide +kernel
theorem dX9_costFrom_38 : decode cX9_costFrom 38 = .ok (.bipush 6, 2) := by decide +kernel
theorem dX9_costFrom_40 : decode cX9_costFrom 40 = .ok (.if_icmp .ge 36, 3) := by decide +kernel
theorem dX9_costFrom_43 : decode cX9_costFrom 43 = .ok (.iload 7, 2) := by decide +kernel
theorem dX9_costFrom_45 : decode cX9_costFrom 45 = .ok (.iload_n 1, 1) := by decide +kernel
theorem dX9_costFrom_46 : decode cX9_costFrom 46 = .ok (.if_icmp .eq 24, 3) := by decide +kernel
theorem dX9_costFrom_49 : decode cX9_costFrom 49 = .ok (.iload 6, 2) := by decide +kernel
theorem dX9_costFrom_51 : decode cX9_costFrom 51 = .ok (.aload_n 0, 1) := by decide +kernel
theorem dX9_costFrom_52 : decode cX9_costFrom 52 = .ok (.getfield 63, 3) := by decide +kernel
theorem dX9_costFrom_55 : decode cX9_costFrom 55 = .ok (.aload_n 0, 1) := by decide +kernel
theorem dX9_costFrom_56 : decode cX9_costFrom 56 = .ok (.getfield 26, 3) := by decide +kernel
theorem dX9_costFrom_59 : decode cX9_costFrom 59 = .ok (.iload 7, 2) := by decide +kernel
theorem dX9_costFrom_61 : decode cX9_costFrom 61 = .ok (.invokevirtual 133, 3) := by decide +kernel
theorem dX9_costFrom_64 : decode cX9_costFrom 64 = .ok (.invokevirtual 164, 3) := by decide +kernel
theorem dX9_costFrom_67 : decode cX9_costFrom 67 = .ok (.iadd, 1) := by decide +kernel
theorem dX9_costFrom_68 : decode cX9_costFrom 68 = .ok (.istore 6, 2) := by decide +kernel
theorem dX9_costFrom_70 : decode cX9_costFrom 70 = .ok (.iinc 7 1, 3) := by decide +kernel
theorem dX9_costFrom_73 : decode cX9_costFrom 73 = .ok (.goto (-37), 3) := by decide +kernel
theorem dX9_costFrom_76 : decode cX9_costFrom 76 = .ok (.iload 6, 2) := by decide +kernel
theorem dX9_costFrom_78 : decode cX9_costFrom 78 = .ok (.aload_n 0, 1) := by decide +kernel
theorem dX9_costFrom_79 : decode cX9_costFrom 79 = .ok (.getfield 26, 3) := by decide +kernel
theorem dX9_costFrom_82 : decode cX9_costFrom 82 = .ok (.iload 5, 2) := by decide +kernel
theorem dX9_costFrom_84 : decode cX9_costFrom 84 = .ok (.invokevirtual 161, 3) := by decide +kernel
theorem dX9_costFrom_87 : decode cX9_costFrom 87 = .ok (.imul, 1) := by decide +kernel
theorem dX9_costFrom_88 : decode cX9_costFrom 88 = .ok (.ireturn, 1) := by decide +kernel
theorem dX9_fineTo_0 : decode cX9_fineTo 0 = .ok (.aload_n 0, 1) := by decide +kernel
theorem dX9_fineTo_1 : decode cX9_fineTo 1 = .ok (.getfield 53, 3) := by decide +kernel
theorem dX9_fineTo_4 : decode cX9_fineTo 4 = .ok (.aload_n 0, 1) := by decide +kernel
theorem dX9_fineTo_5 : decode cX9_fineTo 5 = .ok (.getfield 26, 3) := by decide +kernel
theorem dX9_fineTo_8 : decode cX9_fineTo 8 = .ok (.aload_n 0, 1) := by decide +kernel
theorem dX9_fineTo_9 : decode cX9_fineTo 9 = .ok (.getfield 26, 3) := by decide +kernel
theorem dX9_fineTo_12 : decode cX9_fineTo 12 = .ok (.iload_n 2, 1) := by decide +kernel
theorem dX9_fineTo_13 : decode cX9_fineTo 13 = .ok (.invokevirtual 133, 3) := by decide +kernel
theorem dX9_fineTo_16 : decode cX9_fineTo 16 = .ok (.iload_n 3, 1) := by decide +kernel
theorem dX9_fineTo_17 : decode cX9_fineTo 17 = .ok (.iload 4, 2) := by decide +kernel
theorem dX9_fineTo_19 : decode cX9_fineTo 19 = .ok (.invokevirtual 178, 3) := by decide +kernel
theorem dX9_fineTo_22 : decode cX9_fineTo 22 = .ok (.aload_n 0, 1) := by decide +kernel
theorem dX9_fineTo_23 : decode cX9_fineTo 23 = .ok (.getfield 63, 3) := by decide +kernel
theorem dX9_fineTo_26 : decode cX9_fineTo 26 = .ok (.aload_n 0, 1) := by decide +kernel
theorem dX9_fineTo_27 : decode cX9_fineTo 27 = .ok (.getfield 26, 3) := by decide +kernel
theorem dX9_fineTo_30 : decode cX9_fineTo 30 = .ok (.aload_n 0, 1) := by decide +kernel
theorem dX9_fineTo_31 : decode cX9_fineTo 31 = .ok (.getfield 53, 3) := by decide +kernel
theorem dX9_fineTo_34 : decode cX9_fineTo 34 = .ok (.invokevirtual 291, 3) := by decide +kernel
theorem dX9_fineTo_37 : decode cX9_fineTo 37 = .ok (.aload_n 0, 1) := by decide +kernel
theorem dX9_fineTo_38 : decode cX9_fineTo 38 = .ok (.getfield 63, 3) := by decide +kernel
theorem dX9_fineTo_41 : decode cX9_fineTo 41 = .ok (.aload_n 0, 1) := by decide +kernel
theorem dX9_fineTo_42 : decode cX9_fineTo 42 = .ok (.getfield 26, 3) := by decide +kernel
theorem dX9_fineTo_45 : decode cX9_fineTo 45 = .ok (.iload_n 1, 1) := by decide +kernel
theorem dX9_fineTo_46 : decode cX9_fineTo 46 = .ok (.invokevirtual 133, 3) := by decide +kernel
theorem dX9_fineTo_49 : decode cX9_fineTo 49 = .ok (.invokevirtual 164, 3) := by decide +kernel
theorem dX9_fineTo_52 : decode cX9_fineTo 52 = .ok (.aload_n 0, 1) := by decide +kernel
theorem dX9_fineTo_53 : decode cX9_fineTo 53 = .ok (.getfield 26, 3) := by decide +kernel
theorem dX9_fineTo_56 : decode cX9_fineTo 56 = .ok (.iload 5, 2) := by decide +kernel
theorem dX9_fineTo_58 : decode cX9_fineTo 58 = .ok (.invokevirtual 161, 3) := by decide +kernel
theorem dX9_fineTo_61 : decode cX9_fineTo 61 = .ok (.imul, 1) := by decide +kernel
theorem dX9_fineTo_62 : decode cX9_fineTo 62 = .ok (.ireturn, 1) := by decide +kernel
theorem dX9_loudThatAnswers_0 : decode cX9_loudThatAnswers 0 = .ok (.iconst 1, 1) := by decide +kernel
theorem dX9_loudThatAnswers_1 : decode cX9_loudThatAnswers 1 = .ok (.istore_n 2, 1) := by decide +kernel
theorem dX9_loudThatAnswers_2 : decode cX9_loudThatAnswers 2 = .ok (.iload_n 2, 1) := by decide +kernel
theorem dX9_loudThatAnswers_3 : decode cX9_loudThatAnswers 3 = .ok (.bipush 40, 2) := by decide +kernel
theorem dX9_loudThatAnswers_5 : decode cX9_loudThatAnswers 5 = .ok (.if_icmp .gt 21, 3) := by decide +kernel
theorem dX9_loudThatAnswers_8 : decode cX9_loudThatAnswers 8 = .ok (.aload_n 0, 1) := by decide +kernel
theorem dX9_loudThatAnswers_9 : decode cX9_loudThatAnswers 9 = .ok (.getfield 85, 3) := by decide +kernel
theorem dX9_loudThatAnswers_12 : decode cX9_loudThatAnswers 12 = .ok (.iload_n 2, 1) := by decide +kernel
theorem dX9_loudThatAnswers_13 : decode cX9_loudThatAnswers 13 = .ok (.iaload, 1) := by decide +kernel
theorem dX9_loudThatAnswers_14 : decode cX9_loudThatAnswers 14 = .ok (.iload_n 1, 1) := by decide +kernel
theorem dX9_loudThatAnswers_15 : decode cX9_loudThatAnswers 15 = .ok (.if_icmp .ne 5, 3) := by decide +kernel
theorem dX9_loudThatAnswers_18 : decode cX9_loudThatAnswers 18 = .ok (.iload_n 2, 1) := by decide +kernel
theorem dX9_loudThatAnswers_19 : decode cX9_loudThatAnswers 19 = .ok (.ireturn, 1) := by decide +kernel
theorem dX9_loudThatAnswers_20 : decode cX9_loudThatAnswers 20 = .ok (.iinc 2 1, 3) := by decide +kernel
theorem dX9_loudThatAnswers_23 : decode cX9_loudThatAnswers 23 = .ok (.goto (-21), 3) := by decide +kernel
theorem dX9_loudThatAnswers_26 : decode cX9_loudThatAnswers 26 = .ok (.iconst (-1), 1) := by decide +kernel
theorem dX9_loudThatAnswers_27 : decode cX9_loudThatAnswers 27 = .ok (.ireturn, 1) := by decide +kernel
theorem dX9_ledPart_0 : decode cX9_ledPart 0 = .ok (.aload_n 0, 1) := by decide +kernel
theorem dX9_ledPart_1 : decode cX9_ledPart 1 = .ok (.getfield 53, 3) := by decide +kernel
theorem dX9_ledPart_4 : decode cX9_ledPart 4 = .ok (.iload_n 1, 1) := by decide +kernel
theorem dX9_ledPart_5 : decode cX9_ledPart 5 = .ok (.iload_n 2, 1) := by decide +kernel
theorem dX9_ledPart_6 : decode cX9_ledPart 6 = .ok (.invokevirtual 191, 3) := by decide +kernel
theorem dX9_ledPart_9 : decode cX9_ledPart 9 = .ok (.istore 5, 2) := by decide +kernel
theorem dX9_ledPart_11 : decode cX9_ledPart 11 = .ok (.iload 4, 2) := by decide +kernel
theorem dX9_ledPart_13 : decode cX9_ledPart 13 = .ok (.tableswitch 47 0 3 #[31, 33, 35, 41], 31) := by decide +kernel
theorem dX9_ledPart_44 : decode cX9_ledPart 44 = .ok (.iload_n 3, 1) := by decide +kernel
theorem dX9_ledPart_45 : decode cX9_ledPart 45 = .ok (.ireturn, 1) := by decide +kernel
theorem dX9_ledPart_46 : decode cX9_ledPart 46 = .ok (.iload_n 2, 1) := by decide +kernel
theorem dX9_ledPart_47 : decode cX9_ledPart 47 = .ok (.ireturn, 1) := by decide +kernel
theorem dX9_ledPart_48 : decode cX9_ledPart 48 = .ok (.iload 5, 2) := by decide +kernel
theorem dX9_ledPart_50 : decode cX9_ledPart 50 = .ok (.invokestatic 295, 3) := by decide +kernel
theorem dX9_ledPart_53 : decode cX9_ledPart 53 = .ok (.ireturn, 1) := by decide +kernel
theorem dX9_ledPart_54 : decode cX9_ledPart 54 = .ok (.iload 5, 2) := by decide +kernel
theorem dX9_ledPart_56 : decode cX9_ledPart 56 = .ok (.invokestatic 298, 3) := by decide +kernel
theorem dX9_ledPart_59 : decode cX9_ledPart 59 = .ok (.ireturn, 1) := by decide +kernel
theorem dX9_ledPart_60 : decode cX9_ledPart 60 = .ok (.iload_n 1, 1) := by decide +kernel
theorem dX9_ledPart_61 : decode cX9_ledPart 61 = .ok (.ireturn, 1) := by decide +kernel
theorem dX9_bitAt_0 : decode cX9_bitAt 0 = .ok (.iconst 0, 1) := by decide +kernel
theorem dX9_bitAt_1 : decode cX9_bitAt 1 = .ok (.istore_n 2, 1) := by decide +kernel
theorem dX9_bitAt_2 : decode cX9_bitAt 2 = .ok (.iconst 0, 1) := by decide +kernel
theorem dX9_bitAt_3 : decode cX9_bitAt 3 = .ok (.istore_n 3, 1) := by decide +kernel
theorem dX9_bitAt_4 : decode cX9_bitAt 4 = .ok (.iload_n 3, 1) := by decide +kernel
theorem dX9_bitAt_5 : decode cX9_bitAt 5 = .ok (.bipush 6, 2) := by decide +kernel
theorem dX9_bitAt_7 : decode cX9_bitAt 7 = .ok (.if_icmp .ge 30, 3) := by decide +kernel
theorem dX9_bitAt_10 : decode cX9_bitAt 10 = .ok (.iload_n 0, 1) := by decide +kernel
theorem dX9_bitAt_11 : decode cX9_bitAt 11 = .ok (.iload_n 3, 1) := by decide +kernel
theorem dX9_bitAt_12 : decode cX9_bitAt 12 = .ok (.ishr, 1) := by decide +kernel
theorem dX9_bitAt_13 : decode cX9_bitAt 13 = .ok (.iconst 1, 1) := by decide +kernel
theorem dX9_bitAt_14 : decode cX9_bitAt 14 = .ok (.iand, 1) := by decide +kernel
theorem dX9_bitAt_15 : decode cX9_bitAt 15 = .ok (.ifCond .ne 6, 3) := by decide +kernel
theorem dX9_bitAt_18 : decode cX9_bitAt 18 = .ok (.goto 13, 3) := by decide +kernel
theorem dX9_bitAt_21 : decode cX9_bitAt 21 = .ok (.iload_n 2, 1) := by decide +kernel
theorem dX9_bitAt_22 : decode cX9_bitAt 22 = .ok (.iload_n 1, 1) := by decide +kernel
theorem dX9_bitAt_23 : decode cX9_bitAt 23 = .ok (.if_icmp .ne 5, 3) := by decide +kernel
theorem dX9_bitAt_26 : decode cX9_bitAt 26 = .ok (.iload_n 3, 1) := by decide +kernel
theorem dX9_bitAt_27 : decode cX9_bitAt 27 = .ok (.ireturn, 1) := by decide +kernel
theorem dX9_bitAt_28 : decode cX9_bitAt 28 = .ok (.iinc 2 1, 3) := by decide +kernel
theorem dX9_bitAt_31 : decode cX9_bitAt 31 = .ok (.iinc 3 1, 3) := by decide +kernel
theorem dX9_bitAt_34 : decode cX9_bitAt 34 = .ok (.goto (-30), 3) := by decide +kernel
theorem dX9_bitAt_37 : decode cX9_bitAt 37 = .ok (.iconst (-1), 1) := by decide +kernel
theorem dX9_bitAt_38 : decode cX9_bitAt 38 = .ok (.ireturn, 1) := by decide +kernel
theorem dX9_minutesThatFit_0 : decode cX9_minutesThatFit 0 = .ok (.aload_n 0, 1) := by decide +kernel
theorem dX9_minutesThatFit_1 : decode cX9_minutesThatFit 1 = .ok (.getfield 26, 3) := by decide +kernel
theorem dX9_minutesThatFit_4 : decode cX9_minutesThatFit 4 = .ok (.iload_n 1, 1) := by decide +kernel
theorem dX9_minutesThatFit_5 : decode cX9_minutesThatFit 5 = .ok (.invokevirtual 133, 3) := by decide +kernel
theorem dX9_minutesThatFit_8 : decode cX9_minutesThatFit 8 = .ok (.istore 4, 2) := by decide +kernel
theorem dX9_minutesThatFit_10 : decode cX9_minutesThatFit 10 = .ok (.iload 4, 2) := by decide +kernel
theorem dX9_minutesThatFit_12 : decode cX9_minutesThatFit 12 = .ok (.iconst (-1), 1) := by decide +kernel
theorem dX9_minutesThatFit_13 : decode cX9_minutesThatFit 13 = .ok (.if_icmp .ne 5, 3) := by decide +kernel
theorem dX9_minutesThatFit_16 : decode cX9_minutesThatFit 16 = .ok (.iconst 0, 1) := by decide +kernel
theorem dX9_minutesThatFit_17 : decode cX9_minutesThatFit 17 = .ok (.ireturn, 1) := by decide +kernel
theorem dX9_minutesThatFit_18 : decode cX9_minutesThatFit 18 = .ok (.aload_n 0, 1) := by decide +kernel
theorem dX9_minutesThatFit_19 : decode cX9_minutesThatFit 19 = .ok (.getfield 53, 3) := by decide +kernel
theorem dX9_minutesThatFit_22 : decode cX9_minutesThatFit 22 = .ok (.aload_n 0, 1) := by decide +kernel
theorem dX9_minutesThatFit_23 : decode cX9_minutesThatFit 23 = .ok (.getfield 26, 3) := by decide +kernel
theorem dX9_minutesThatFit_26 : decode cX9_minutesThatFit 26 = .ok (.iload 4, 2) := by decide +kernel
theorem dX9_minutesThatFit_28 : decode cX9_minutesThatFit 28 = .ok (.iload_n 2, 1) := by decide +kernel
theorem dX9_minutesThatFit_29 : decode cX9_minutesThatFit 29 = .ok (.iload_n 3, 1) := by decide +kernel
theorem dX9_minutesThatFit_30 : decode cX9_minutesThatFit 30 = .ok (.invokevirtual 178, 3) := by decide +kernel
theorem dX9_minutesThatFit_33 : decode cX9_minutesThatFit 33 = .ok (.aload_n 0, 1) := by decide +kernel
theorem dX9_minutesThatFit_34 : decode cX9_minutesThatFit 34 = .ok (.getfield 70, 3) := by decide +kernel
theorem dX9_minutesThatFit_37 : decode cX9_minutesThatFit 37 = .ok (.aload_n 0, 1) := by decide +kernel
theorem dX9_minutesThatFit_38 : decode cX9_minutesThatFit 38 = .ok (.getfield 53, 3) := by decide +kernel
theorem dX9_minutesThatFit_41 : decode cX9_minutesThatFit 41 = .ok (.invokevirtual 301, 3) := by decide +kernel
theorem dX9_minutesThatFit_44 : decode cX9_minutesThatFit 44 = .ok (.aload_n 0, 1) := by decide +kernel
theorem dX9_minutesThatFit_45 : decode cX9_minutesThatFit 45 = .ok (.getfield 70, 3) := by decide +kernel
theorem dX9_minutesThatFit_48 : decode cX9_minutesThatFit 48 = .ok (.iload_n 1, 1) := by decide +kernel
theorem dX9_minutesThatFit_49 : decode cX9_minutesThatFit 49 = .ok (.aload_n 0, 1) := by decide +kernel
theorem dX9_minutesThatFit_50 : decode cX9_minutesThatFit 50 = .ok (.getfield 26, 3) := by decide +kernel
theorem dX9_minutesThatFit_53 : decode cX9_minutesThatFit 53 = .ok (.aload_n 0, 1) := by decide +kernel
theorem dX9_minutesThatFit_54 : decode cX9_minutesThatFit 54 = .ok (.getfield 36, 3) := by decide +kernel
theorem dX9_minutesThatFit_57 : decode cX9_minutesThatFit 57 = .ok (.invokevirtual 305, 3) := by decide +kernel
theorem dX9_minutesThatFit_60 : decode cX9_minutesThatFit 60 = .ok (.ireturn, 1) := by decide +kernel
theorem dX9_commonDivisor_0 : decode cX9_commonDivisor 0 = .ok (.iload_n 0, 1) := by decide +kernel
theorem dX9_commonDivisor_1 : decode cX9_commonDivisor 1 = .ok (.istore_n 2, 1) := by decide +kernel
theorem dX9_commonDivisor_2 : decode cX9_commonDivisor 2 = .ok (.iload_n 1, 1) := by decide +kernel
theorem dX9_commonDivisor_3 : decode cX9_commonDivisor 3 = .ok (.istore_n 3, 1) := by decide +kernel
theorem dX9_commonDivisor_4 : decode cX9_commonDivisor 4 = .ok (.iconst 0, 1) := by decide +kernel
theorem dX9_commonDivisor_5 : decode cX9_commonDivisor 5 = .ok (.istore 4, 2) := by decide +kernel
theorem dX9_commonDivisor_7 : decode cX9_commonDivisor 7 = .ok (.iload 4, 2) := by decide +kernel
theorem dX9_commonDivisor_9 : decode cX9_commonDivisor 9 = .ok (.bipush 64, 2) := by decide +kernel
theorem dX9_commonDivisor_11 : decode cX9_commonDivisor 11 = .ok (.if_icmp .ge 23, 3) := by decide +kernel
theorem dX9_commonDivisor_14 : decode cX9_commonDivisor 14 = .ok (.iload_n 3, 1) := by decide +kernel
theorem dX9_commonDivisor_15 : decode cX9_commonDivisor 15 = .ok (.ifCond .eq 19, 3) := by decide +kernel
theorem dX9_commonDivisor_18 : decode cX9_commonDivisor 18 = .ok (.iload_n 2, 1) := by decide +kernel
theorem dX9_commonDivisor_19 : decode cX9_commonDivisor 19 = .ok (.iload_n 3, 1) := by decide +kernel
theorem dX9_commonDivisor_20 : decode cX9_commonDivisor 20 = .ok (.irem, 1) := by decide +kernel
theorem dX9_commonDivisor_21 : decode cX9_commonDivisor 21 = .ok (.istore 5, 2) := by decide +kernel
theorem dX9_commonDivisor_23 : decode cX9_commonDivisor 23 = .ok (.iload_n 3, 1) := by decide +kernel
theorem dX9_commonDivisor_24 : decode cX9_commonDivisor 24 = .ok (.istore_n 2, 1) := by decide +kernel
theorem dX9_commonDivisor_25 : decode cX9_commonDivisor 25 = .ok (.iload 5, 2) := by decide +kernel
theorem dX9_commonDivisor_27 : decode cX9_commonDivisor 27 = .ok (.istore_n 3, 1) := by decide +kernel
theorem dX9_commonDivisor_28 : decode cX9_commonDivisor 28 = .ok (.iinc 4 1, 3) := by decide +kernel
theorem dX9_commonDivisor_31 : decode cX9_commonDivisor 31 = .ok (.goto (-24), 3) := by decide +kernel
theorem dX9_commonDivisor_34 : decode cX9_commonDivisor 34 = .ok (.iload_n 2, 1) := by decide +kernel
theorem dX9_commonDivisor_35 : decode cX9_commonDivisor 35 = .ok (.ireturn, 1) := by decide +kernel
theorem dX9_addUpAllCries_0 : decode cX9_addUpAllCries 0 = .ok (.aload_n 0, 1) := by decide +kernel
theorem dX9_addUpAllCries_1 : decode cX9_addUpAllCries 1 = .ok (.getfield 81, 3) := by decide +kernel
theorem dX9_addUpAllCries_4 : decode cX9_addUpAllCries 4 = .ok (.iconst 0, 1) := by decide +kernel
theorem dX9_addUpAllCries_5 : decode cX9_addUpAllCries 5 = .ok (.invokestatic 309, 3) := by decide +kernel
theorem dX9_addUpAllCries_8 : decode cX9_addUpAllCries 8 = .ok (.iconst 0, 1) := by decide +kernel
theorem dX9_addUpAllCries_9 : decode cX9_addUpAllCries 9 = .ok (.istore_n 1, 1) := by decide +kernel
theorem dX9_addUpAllCries_10 : decode cX9_addUpAllCries 10 = .ok (.iload_n 1, 1) := by decide +kernel
theorem dX9_addUpAllCries_11 : decode cX9_addUpAllCries 11 = .ok (.aload_n 0, 1) := by decide +kernel
theorem dX9_addUpAllCries_12 : decode cX9_addUpAllCries 12 = .ok (.getfield 36, 3) := by decide +kernel
theorem dX9_addUpAllCries_15 : decode cX9_addUpAllCries 15 = .ok (.getfield 154, 3) := by decide +kernel
theorem dX9_addUpAllCries_18 : decode cX9_addUpAllCries 18 = .ok (.if_icmp .ge 129, 3) := by decide +kernel
theorem dX9_addUpAllCries_21 : decode cX9_addUpAllCries 21 = .ok (.aload_n 0, 1) := by decide +kernel
theorem dX9_addUpAllCries_22 : decode cX9_addUpAllCries 22 = .ok (.getfield 26, 3) := by decide +kernel
theorem dX9_addUpAllCries_25 : decode cX9_addUpAllCries 25 = .ok (.aload_n 0, 1) := by decide +kernel
theorem dX9_addUpAllCries_26 : decode cX9_addUpAllCries 26 = .ok (.getfield 36, 3) := by decide +kernel
theorem dX9_addUpAllCries_29 : decode cX9_addUpAllCries 29 = .ok (.iload_n 1, 1) := by decide +kernel
theorem dX9_addUpAllCries_30 : decode cX9_addUpAllCries 30 = .ok (.invokevirtual 315, 3) := by decide +kernel
theorem dX9_addUpAllCries_33 : decode cX9_addUpAllCries 33 = .ok (.invokevirtual 133, 3) := by decide +kernel
theorem dX9_addUpAllCries_36 : decode cX9_addUpAllCries 36 = .ok (.istore_n 2, 1) := by decide +kernel
theorem dX9_addUpAllCries_37 : decode cX9_addUpAllCries 37 = .ok (.iload_n 2, 1) := by decide +kernel
theorem dX9_addUpAllCries_38 : decode cX9_addUpAllCries 38 = .ok (.iconst (-1), 1) := by decide +kernel
theorem dX9_addUpAllCries_39 : decode cX9_addUpAllCries 39 = .ok (.if_icmp .ne 6, 3) := by decide +kernel
theorem dX9_addUpAllCries_42 : decode cX9_addUpAllCries 42 = .ok (.goto 99, 3) := by decide +kernel
theorem dX9_addUpAllCries_45 : decode cX9_addUpAllCries 45 = .ok (.aload_n 0, 1) := by decide +kernel
theorem dX9_addUpAllCries_46 : decode cX9_addUpAllCries 46 = .ok (.getfield 53, 3) := by decide +kernel
theorem dX9_addUpAllCries_49 : decode cX9_addUpAllCries 49 = .ok (.aload_n 0, 1) := by decide +kernel
theorem dX9_addUpAllCries_50 : decode cX9_addUpAllCries 50 = .ok (.getfield 26, 3) := by decide +kernel
theorem dX9_addUpAllCries_53 : decode cX9_addUpAllCries 53 = .ok (.iload_n 2, 1) := by decide +kernel
theorem dX9_addUpAllCries_54 : decode cX9_addUpAllCries 54 = .ok (.aload_n 0, 1) := by decide +kernel
theorem dX9_addUpAllCries_55 : decode cX9_addUpAllCries 55 = .ok (.getfield 36, 3) := by decide +kernel
theorem dX9_addUpAllCries_58 : decode cX9_addUpAllCries 58 = .ok (.iload_n 1, 1) := by decide +kernel
theorem dX9_addUpAllCries_59 : decode cX9_addUpAllCries 59 = .ok (.invokevirtual 318, 3) := by decide +kernel
theorem dX9_addUpAllCries_62 : decode cX9_addUpAllCries 62 = .ok (.aload_n 0, 1) := by decide +kernel
theorem dX9_addUpAllCries_63 : decode cX9_addUpAllCries 63 = .ok (.getfield 36, 3) := by decide +kernel
theorem dX9_addUpAllCries_66 : decode cX9_addUpAllCries 66 = .ok (.iload_n 1, 1) := by decide +kernel
theorem dX9_addUpAllCries_67 : decode cX9_addUpAllCries 67 = .ok (.invokevirtual 319, 3) := by decide +kernel
theorem dX9_addUpAllCries_70 : decode cX9_addUpAllCries 70 = .ok (.invokevirtual 178, 3) := by decide +kernel
theorem dX9_addUpAllCries_73 : decode cX9_addUpAllCries 73 = .ok (.aload_n 0, 1) := by decide +kernel
theorem dX9_addUpAllCries_74 : decode cX9_addUpAllCries 74 = .ok (.getfield 63, 3) := by decide +kernel
theorem dX9_addUpAllCries_77 : decode cX9_addUpAllCries 77 = .ok (.aload_n 0, 1) := by decide +kernel
theorem dX9_addUpAllCries_78 : decode cX9_addUpAllCries 78 = .ok (.getfield 26, 3) := by decide +kernel
theorem dX9_addUpAllCries_81 : decode cX9_addUpAllCries 81 = .ok (.aload_n 0, 1) := by decide +kernel
theorem dX9_addUpAllCries_82 : decode cX9_addUpAllCries 82 = .ok (.getfield 53, 3) := by decide +kernel
theorem dX9_addUpAllCries_85 : decode cX9_addUpAllCries 85 = .ok (.invokevirtual 291, 3) := by decide +kernel
theorem dX9_addUpAllCries_88 : decode cX9_addUpAllCries 88 = .ok (.aload_n 0, 1) := by decide +kernel
theorem dX9_addUpAllCries_89 : decode cX9_addUpAllCries 89 = .ok (.getfield 26, 3) := by decide +kernel
theorem dX9_addUpAllCries_92 : decode cX9_addUpAllCries 92 = .ok (.aload_n 0, 1) := by decide +kernel
theorem dX9_addUpAllCries_93 : decode cX9_addUpAllCries 93 = .ok (.getfield 36, 3) := by decide +kernel
theorem dX9_addUpAllCries_96 : decode cX9_addUpAllCries 96 = .ok (.iload_n 1, 1) := by decide +kernel
theorem dX9_addUpAllCries_97 : decode cX9_addUpAllCries 97 = .ok (.invokevirtual 322, 3) := by decide +kernel
theorem dX9_addUpAllCries_100 : decode cX9_addUpAllCries 100 = .ok (.invokevirtual 161, 3) := by decide +kernel
theorem dX9_addUpAllCries_103 : decode cX9_addUpAllCries 103 = .ok (.istore_n 3, 1) := by decide +kernel
theorem dX9_addUpAllCries_104 : decode cX9_addUpAllCries 104 = .ok (.iconst 0, 1) := by decide +kernel
theorem dX9_addUpAllCries_105 : decode cX9_addUpAllCries 105 = .ok (.istore 4, 2) := by decide +kernel
theorem dX9_addUpAllCries_107 : decode cX9_addUpAllCries 107 = .ok (.iload 4, 2) := by decide +kernel
theorem dX9_addUpAllCries_109 : decode cX9_addUpAllCries 109 = .ok (.bipush 36, 2) := by decide +kernel
theorem dX9_addUpAllCries_111 : decode cX9_addUpAllCries 111 = .ok (.if_icmp .ge 30, 3) := by decide +kernel
theorem dX9_addUpAllCries_114 : decode cX9_addUpAllCries 114 = .ok (.aload_n 0, 1) := by decide +kernel
theorem dX9_addUpAllCries_115 : decode cX9_addUpAllCries 115 = .ok (.getfield 81, 3) := by decide +kernel
theorem dX9_addUpAllCries_118 : decode cX9_addUpAllCries 118 = .ok (.iload 4, 2) := by decide +kernel
theorem dX9_addUpAllCries_120 : decode cX9_addUpAllCries 120 = .ok (.dup2, 1) := by decide +kernel
theorem dX9_addUpAllCries_121 : decode cX9_addUpAllCries 121 = .ok (.iaload, 1) := by decide +kernel
theorem dX9_addUpAllCries_122 : decode cX9_addUpAllCries 122 = .ok (.aload_n 0, 1) := by decide +kernel
theorem dX9_addUpAllCries_123 : decode cX9_addUpAllCries 123 = .ok (.getfield 63, 3) := by decide +kernel
theorem dX9_addUpAllCries_126 : decode cX9_addUpAllCries 126 = .ok (.iload 4, 2) := by decide +kernel
theorem dX9_addUpAllCries_128 : decode cX9_addUpAllCries 128 = .ok (.invokevirtual 164, 3) := by decide +kernel
theorem dX9_addUpAllCries_131 : decode cX9_addUpAllCries 131 = .ok (.iload_n 3, 1) := by decide +kernel
theorem dX9_addUpAllCries_132 : decode cX9_addUpAllCries 132 = .ok (.imul, 1) := by decide +kernel
theorem dX9_addUpAllCries_133 : decode cX9_addUpAllCries 133 = .ok (.iadd, 1) := by decide +kernel
theorem dX9_addUpAllCries_134 : decode cX9_addUpAllCries 134 = .ok (.iastore, 1) := by decide +kernel
theorem dX9_addUpAllCries_135 : decode cX9_addUpAllCries 135 = .ok (.iinc 4 1, 3) := by decide +kernel
theorem dX9_addUpAllCries_138 : decode cX9_addUpAllCries 138 = .ok (.goto (-31), 3) := by decide +kernel
theorem dX9_addUpAllCries_141 : decode cX9_addUpAllCries 141 = .ok (.iinc 1 1, 3) := by decide +kernel
theorem dX9_addUpAllCries_144 : decode cX9_addUpAllCries 144 = .ok (.goto (-134), 3) := by decide +kernel
theorem dX9_addUpAllCries_147 : decode cX9_addUpAllCries 147 = .ok (.return_, 1) := by decide +kernel
theorem dX9_imageOf_0 : decode cX9_imageOf 0 = .ok (.iload_n 1, 1) := by decide +kernel
theorem dX9_imageOf_1 : decode cX9_imageOf 1 = .ok (.ifCond .ne 10, 3) := by decide +kernel
theorem dX9_imageOf_4 : decode cX9_imageOf 4 = .ok (.aload_n 0, 1) := by decide +kernel
theorem dX9_imageOf_5 : decode cX9_imageOf 5 = .ok (.getfield 43, 3) := by decide +kernel
theorem dX9_imageOf_8 : decode cX9_imageOf 8 = .ok (.goto 16, 3) := by decide +kernel
theorem dX9_imageOf_11 : decode cX9_imageOf 11 = .ok (.iload_n 1, 1) := by decide +kernel
theorem dX9_imageOf_12 : decode cX9_imageOf 12 = .ok (.iconst 1, 1) := by decide +kernel
theorem dX9_imageOf_13 : decode cX9_imageOf 13 = .ok (.if_icmp .ne 10, 3) := by decide +kernel
theorem dX9_imageOf_16 : decode cX9_imageOf 16 = .ok (.aload_n 0, 1) := by decide +kernel
theorem dX9_imageOf_17 : decode cX9_imageOf 17 = .ok (.getfield 47, 3) := by decide +kernel
theorem dX9_imageOf_20 : decode cX9_imageOf 20 = .ok (.goto 4, 3) := by decide +kernel
theorem dX9_imageOf_23 : decode cX9_imageOf 23 = .ok (.aconst_null, 1) := by decide +kernel
theorem dX9_imageOf_24 : decode cX9_imageOf 24 = .ok (.areturn, 1) := by decide +kernel
theorem dX10_init_0 : decode cX10_init 0 = .ok (.aload_n 0, 1) := by decide +kernel
theorem dX10_init_1 : decode cX10_init 1 = .ok (.invokespecial 1, 3) := by decide +kernel
theorem dX10_init_4 : decode cX10_init 4 = .ok (.aload_n 0, 1) := by decide +kernel
theorem dX10_init_5 : decode cX10_init 5 = .ok (.sipush 558, 3) := by decide +kernel
theorem dX10_init_8 : decode cX10_init 8 = .ok (.newarray .int, 2) := by decide +kernel
theorem dX10_init_10 : decode cX10_init 10 = .ok (.putfield 7, 3) := by decide +kernel
theorem dX10_init_13 : decode cX10_init 13 = .ok (.aload_n 0, 1) := by decide +kernel
theorem dX10_init_14 : decode cX10_init 14 = .ok (.iconst 2, 1) := by decide +kernel
theorem dX10_init_15 : decode cX10_init 15 = .ok (.newarray .boolean, 2) := by decide +kernel
theorem dX10_init_17 : decode cX10_init 17 = .ok (.putfield 13, 3) := by decide +kernel
theorem dX10_init_20 : decode cX10_init 20 = .ok (.aload_n 0, 1) := by decide +kernel
theorem dX10_init_21 : decode cX10_init 21 = .ok (.sipush 200, 3) := by decide +kernel
theorem dX10_init_24 : decode cX10_init 24 = .ok (.newarray .int, 2) := by decide +kernel
theorem dX10_init_26 : decode cX10_init 26 = .ok (.putfield 17, 3) := by decide +kernel
theorem dX10_init_29 : decode cX10_init 29 = .ok (.aload_n 0, 1) := by decide +kernel
theorem dX10_init_30 : decode cX10_init 30 = .ok (.bipush 40, 2) := by decide +kernel
theorem dX10_init_32 : decode cX10_init 32 = .ok (.newarray .int, 2) := by decide +kernel
theorem dX10_init_34 : decode cX10_init 34 = .ok (.putfield 20, 3) := by decide +kernel
theorem dX10_init_37 : decode cX10_init 37 = .ok (.aload_n 0, 1) := by decide +kernel
theorem dX10_init_38 : decode cX10_init 38 = .ok (.bipush 18, 2) := by decide +kernel
theorem dX10_init_40 : decode cX10_init 40 = .ok (.newarray .int, 2) := by decide +kernel
theorem dX10_init_42 : decode cX10_init 42 = .ok (.putfield 23, 3) := by decide +kernel
theorem dX10_init_45 : decode cX10_init 45 = .ok (.aload_n 0, 1) := by decide +kernel
theorem dX10_init_46 : decode cX10_init 46 = .ok (.iconst 1, 1) := by decide +kernel
theorem dX10_init_47 : decode cX10_init 47 = .ok (.putfield 26, 3) := by decide +kernel
theorem dX10_init_50 : decode cX10_init 50 = .ok (.aload_n 0, 1) := by decide +kernel
theorem dX10_init_51 : decode cX10_init 51 = .ok (.iconst 1, 1) := by decide +kernel
theorem dX10_init_52 : decode cX10_init 52 = .ok (.putfield 30, 3) := by decide +kernel
theorem dX10_init_55 : decode cX10_init 55 = .ok (.aload_n 0, 1) := by decide +kernel
theorem dX10_init_56 : decode cX10_init 56 = .ok (.bipush 36, 2) := by decide +kernel
theorem dX10_init_58 : decode cX10_init 58 = .ok (.newarray .boolean, 2) := by decide +kernel
theorem dX10_init_60 : decode cX10_init 60 = .ok (.putfield 33, 3) := by decide +kernel
theorem dX10_init_63 : decode cX10_init 63 = .ok (.aload_n 0, 1) := by decide +kernel
theorem dX10_init_64 : decode cX10_init 64 = .ok (.sipush 480, 3) := by decide +kernel
theorem dX10_init_67 : decode cX10_init 67 = .ok (.newarray .int, 2) := by decide +kernel
theorem dX10_init_69 : decode cX10_init 69 = .ok (.putfield 36, 3) := by decide +kernel
theorem dX10_init_72 : decode cX10_init 72 = .ok (.aload_n 0, 1) := by decide +kernel
theorem dX10_init_73 : decode cX10_init 73 = .ok (.sipush 480, 3) := by decide +kernel
theorem dX10_init_76 : decode cX10_init 76 = .ok (.newarray .int, 2) := by decide +kernel
theorem dX10_init_78 : decode cX10_init 78 = .ok (.putfield 39, 3) := by decide +kernel
theorem dX10_init_81 : decode cX10_init 81 = .ok (.aload_n 0, 1) := by decide +kernel
theorem dX10_init_82 : decode cX10_init 82 = .ok (.sipush 480, 3) := by decide +kernel
theorem dX10_init_85 : decode cX10_init 85 = .ok (.newarray .int, 2) := by decide +kernel
theorem dX10_init_87 : decode cX10_init 87 = .ok (.putfield 42, 3) := by decide +kernel
theorem dX10_init_90 : decode cX10_init 90 = .ok (.aload_n 0, 1) := by decide +kernel
theorem dX10_init_91 : decode cX10_init 91 = .ok (.sipush 480, 3) := by decide +kernel
theorem dX10_init_94 : decode cX10_init 94 = .ok (.newarray .int, 2) := by decide +kernel
theorem dX10_init_96 : decode cX10_init 96 = .ok (.putfield 45, 3) := by decide +kernel
theorem dX10_init_99 : decode cX10_init 99 = .ok (.aload_n 0, 1) := by decide +kernel
theorem dX10_init_100 : decode cX10_init 100 = .ok (.sipush 480, 3) := by decide +kernel
theorem dX10_init_103 : decode cX10_init 103 = .ok (.newarray .int, 2) := by decide +kernel
theorem dX10_init_105 : decode cX10_init 105 = .ok (.putfield 48, 3) := by decide +kernel
theorem dX10_init_108 : decode cX10_init 108 = .ok (.aload_n 0, 1) := by decide +kernel
theorem dX10_init_109 : decode cX10_init 109 = .ok (.bipush 64, 2) := by decide +kernel
theorem dX10_init_111 : decode cX10_init 111 = .ok (.newarray .int, 2) := by decide +kernel
theorem dX10_init_113 : decode cX10_init 113 = .ok (.putfield 51, 3) := by decide +kernel
theorem dX10_init_116 : decode cX10_init 116 = .ok (.aload_n 0, 1) := by decide +kernel
theorem dX10_init_117 : decode cX10_init 117 = .ok (.sipush 480, 3) := by decide +kernel
theorem dX10_init_120 : decode cX10_init 120 = .ok (.newarray .int, 2) := by decide +kernel
theorem dX10_init_122 : decode cX10_init 122 = .ok (.putfield 54, 3) := by decide +kernel
theorem dX10_init_125 : decode cX10_init 125 = .ok (.aload_n 0, 1) := by decide +kernel
theorem dX10_init_126 : decode cX10_init 126 = .ok (.bipush 36, 2) := by decide +kernel
theorem dX10_init_128 : decode cX10_init 128 = .ok (.newarray .int, 2) := by decide +kernel
theorem dX10_init_130 : decode cX10_init 130 = .ok (.putfield 57, 3) := by decide +kernel
theorem dX10_init_133 : decode cX10_init 133 = .ok (.aload_n 0, 1) := by decide +kernel
theorem dX10_init_134 : decode cX10_init 134 = .ok (.bipush 41, 2) := by decide +kernel
theorem dX10_init_136 : decode cX10_init 136 = .ok (.newarray .int, 2) := by decide +kernel
theorem dX10_init_138 : decode cX10_init 138 = .ok (.putfield 60, 3) := by decide +kernel
theorem dX10_init_141 : decode cX10_init 141 = .ok (.aload_n 0, 1) := by decide +kernel
theorem dX10_init_142 : decode cX10_init 142 = .ok (.getfield 7, 3) := by decide +kernel
theorem dX10_init_145 : decode cX10_init 145 = .ok (.iconst 0, 1) := by decide +kernel
theorem dX10_init_146 : decode cX10_init 146 = .ok (.iconst 4, 1) := by decide +kernel
theorem dX10_init_147 : decode cX10_init 147 = .ok (.iastore, 1) := by decide +kernel
theorem dX10_init_148 : decode cX10_init 148 = .ok (.aload_n 0, 1) := by decide +kernel
theorem dX10_init_149 : decode cX10_init 149 = .ok (.getfield 7, 3) := by decide +kernel
theorem dX10_init_152 : decode cX10_init 152 = .ok (.iconst 1, 1) := by decide +kernel
theorem dX10_init_153 : decode cX10_init 153 = .ok (.iconst 4, 1) := by decide +kernel
theorem dX10_init_154 : decode cX10_init 154 = .ok (.iastore, 1) := by decide +kernel
theorem dX10_init_155 : decode cX10_init 155 = .ok (.iconst 2, 1) := by decide +kernel
theorem dX10_init_156 : decode cX10_init 156 = .ok (.istore_n 1, 1) := by decide +kernel
theorem dX10_init_157 : decode cX10_init 157 = .ok (.iload_n 1, 1) := by decide +kernel
theorem dX10_init_158 : decode cX10_init 158 = .ok (.bipush 44, 2) := by decide +kernel
theorem dX10_init_160 : decode cX10_init 160 = .ok (.if_icmp .ge 16, 3) := by decide +kernel
theorem dX10_init_163 : decode cX10_init 163 = .ok (.aload_n 0, 1) := by decide +kernel
theorem dX10_init_164 : decode cX10_init 164 = .ok (.getfield 7, 3) := by decide +kernel
theorem dX10_init_167 : decode cX10_init 167 = .ok (.iload_n 1, 1) := by decide +kernel
theorem dX10_init_168 : decode cX10_init 168 = .ok (.iconst (-1), 1) := by decide +kernel
theorem dX10_init_169 : decode cX10_init 169 = .ok (.iastore, 1) := by decide +kernel
theorem dX10_init_170 : decode cX10_init 170 = .ok (.iinc 1 1, 3) := by decide +kernel
theorem dX10_init_173 : decode cX10_init 173 = .ok (.goto (-16), 3) := by decide +kernel
theorem dX10_init_176 : decode cX10_init 176 = .ok (.return_, 1) := by decide +kernel
theorem dX10_in_0 : decode cX10_in 0 = .ok (.lload_n 0, 1) := by decide +kernel
theorem dX10_in_1 : decode cX10_in 1 = .ok (.lload_n 2, 1) := by decide +kernel
theorem dX10_in_2 : decode cX10_in 2 = .ok (.lcmp, 1) := by decide +kernel
theorem dX10_in_3 : decode cX10_in 3 = .ok (.ifCond .lt 14, 3) := by decide +kernel
theorem dX10_in_6 : decode cX10_in 6 = .ok (.lload_n 0, 1) := by decide +kernel
theorem dX10_in_7 : decode cX10_in 7 = .ok (.lload 4, 2) := by decide +kernel
theorem dX10_in_9 : decode cX10_in 9 = .ok (.lcmp, 1) := by decide +kernel
theorem dX10_in_10 : decode cX10_in 10 = .ok (.ifCond .gt 7, 3) := by decide +kernel
theorem dX10_in_13 : decode cX10_in 13 = .ok (.iconst 1, 1) := by decide +kernel
theorem dX10_in_14 : decode cX10_in 14 = .ok (.goto 4, 3) := by decide +kernel
theorem dX10_in_17 : decode cX10_in 17 = .ok (.iconst 0, 1) := by decide +kernel
theorem dX10_in_18 : decode cX10_in 18 = .ok (.ireturn, 1) := by decide +kernel
theorem dX10_has_0 : decode cX10_has 0 = .ok (.iload_n 0, 1) := by decide +kernel
theorem dX10_has_1 : decode cX10_has 1 = .ok (.iload_n 1, 1) := by decide +kernel
theorem dX10_has_2 : decode cX10_has 2 = .ok (.ishr, 1) := by decide +kernel
theorem dX10_has_3 : decode cX10_has 3 = .ok (.iconst 1, 1) := by decide +kernel
theorem dX10_has_4 : decode cX10_has 4 = .ok (.iand, 1) := by decide +kernel
theorem dX10_has_5 : decode cX10_has 5 = .ok (.iconst 1, 1) := by decide +kernel
theorem dX10_has_6 : decode cX10_has 6 = .ok (.if_icmp .ne 7, 3) := by decide +kernel
theorem dX10_has_9 : decode cX10_has 9 = .ok (.iconst 1, 1) := by decide +kernel
theorem dX10_has_10 : decode cX10_has 10 = .ok (.goto 4, 3) := by decide +kernel
theorem dX10_has_13 : decode cX10_has 13 = .ok (.iconst 0, 1) := by decide +kernel
theorem dX10_has_14 : decode cX10_has 14 = .ok (.ireturn, 1) := by decide +kernel
theorem dX10_write_0 : decode cX10_write 0 = .ok (.iload_n 3, 1) := by decide +kernel
theorem dX10_write_1 : decode cX10_write 1 = .ok (.i2l, 1) := by decide +kernel
theorem dX10_write_2 : decode cX10_write 2 = .ok (.lconst 1, 1) := by decide +kernel
theorem dX10_write_3 : decode cX10_write 3 = .ok (.ldc2_w 63, 3) := by decide +kernel
theorem dX10_write_6 : decode cX10_write 6 = .ok (.invokestatic 65, 3) := by decide +kernel
theorem dX10_write_9 : decode cX10_write 9 = .ok (.ifCond .ne 6, 3) := by decide +kernel
theorem dX10_write_12 : decode cX10_write 12 = .ok (.bipush (-3), 2) := by decide +kernel
theorem dX10_write_14 : decode cX10_write 14 = .ok (.ireturn, 1) := by decide +kernel
theorem dX10_write_15 : decode cX10_write 15 = .ok (.aload_n 0, 1) := by decide +kernel
theorem dX10_write_16 : decode cX10_write 16 = .ok (.getfield 69, 3) := by decide +kernel
theorem dX10_write_19 : decode cX10_write 19 = .ok (.iload_n 3, 1) := by decide +kernel
theorem dX10_write_20 : decode cX10_write 20 = .ok (.iadd, 1) := by decide +kernel
theorem dX10_write_21 : decode cX10_write 21 = .ok (.sipush 200, 3) := by decide +kernel
theorem dX10_write_24 : decode cX10_write 24 = .ok (.if_icmp .le 6, 3) := by decide +kernel
theorem dX10_write_27 : decode cX10_write 27 = .ok (.bipush (-5), 2) := by decide +kernel
theorem dX10_write_29 : decode cX10_write 29 = .ok (.ireturn, 1) := by decide +kernel
theorem dX10_write_30 : decode cX10_write 30 = .ok (.iconst 0, 1) := by decide +kernel
theorem dX10_write_31 : decode cX10_write 31 = .ok (.istore 4, 2) := by decide +kernel
theorem dX10_write_33 : decode cX10_write 33 = .ok (.iload 4, 2) := by decide +kernel
theorem dX10_write_35 : decode cX10_write 35 = .ok (.iload_n 3, 1) := by decide +kernel
theorem dX10_write_36 : decode cX10_write 36 = .ok (.if_icmp .ge 40, 3) := by decide +kernel
theorem dX10_write_39 : decode cX10_write 39 = .ok (.aload_n 0, 1) := by decide +kernel
theorem dX10_write_40 : decode cX10_write 40 = .ok (.getfield 17, 3) := by decide +kernel
theorem dX10_write_43 : decode cX10_write 43 = .ok (.aload_n 0, 1) := by decide +kernel
theorem dX10_write_44 : decode cX10_write 44 = .ok (.getfield 69, 3) := by decide +kernel
theorem dX10_write_47 : decode cX10_write 47 = .ok (.lload_n 1, 1) := by decide +kernel
theorem dX10_write_48 : decode cX10_write 48 = .ok (.bipush 8, 2) := by decide +kernel
theorem dX10_write_50 : decode cX10_write 50 = .ok (.iload 4, 2) := by decide +kernel
theorem dX10_write_52 : decode cX10_write 52 = .ok (.imul, 1) := by decide +kernel
theorem dX10_write_53 : decode cX10_write 53 = .ok (.lshr, 1) := by decide +kernel
theorem dX10_write_54 : decode cX10_write 54 = .ok (.ldc2_w 72, 3) := by decide +kernel
theorem dX10_write_57 : decode cX10_write 57 = .ok (.land, 1) := by decide +kernel
theorem dX10_write_58 : decode cX10_write 58 = .ok (.l2i, 1) := by decide +kernel
theorem dX10_write_59 : decode cX10_write 59 = .ok (.iastore, 1) := by decide +kernel
theorem dX10_write_60 : decode cX10_write 60 = .ok (.aload_n 0, 1) := by decide +kernel
theorem dX10_write_61 : decode cX10_write 61 = .ok (.dup, 1) := by decide +kernel
theorem dX10_write_62 : decode cX10_write 62 = .ok (.getfield 69, 3) := by decide +kernel
theorem dX10_write_65 : decode cX10_write 65 = .ok (.iconst 1, 1) := by decide +kernel
theorem dX10_write_66 : decode cX10_write 66 = .ok (.iadd, 1) := by decide +kernel
theorem dX10_write_67 : decode cX10_write 67 = .ok (.putfield 69, 3) := by decide +kernel
theorem dX10_write_70 : decode cX10_write 70 = .ok (.iinc 4 1, 3) := by decide +kernel
theorem dX10_write_73 : decode cX10_write 73 = .ok (.goto (-40), 3) := by decide +kernel
theorem dX10_write_76 : decode cX10_write 76 = .ok (.aload_n 0, 1) := by decide +kernel
theorem dX10_write_77 : decode cX10_write 77 = .ok (.getfield 69, 3) := by decide +kernel
theorem dX10_write_80 : decode cX10_write 80 = .ok (.ireturn, 1) := by decide +kernel
theorem dX10_erase_0 : decode cX10_erase 0 = .ok (.aload_n 0, 1) := by decide +kernel
theorem dX10_erase_1 : decode cX10_erase 1 = .ok (.getfield 69, 3) := by decide +kernel
theorem dX10_erase_4 : decode cX10_erase 4 = .ok (.istore_n 1, 1) := by decide +kernel
theorem dX10_erase_5 : decode cX10_erase 5 = .ok (.aload_n 0, 1) := by decide +kernel
theorem dX10_erase_6 : decode cX10_erase 6 = .ok (.iconst 0, 1) := by decide +kernel
theorem dX10_erase_7 : decode cX10_erase 7 = .ok (.putfield 69, 3) := by decide +kernel
theorem dX10_erase_10 : decode cX10_erase 10 = .ok (.iload_n 1, 1) := by decide +kernel
theorem dX10_erase_11 : decode cX10_erase 11 = .ok (.ireturn, 1) := by decide +kernel
theorem dX10_sort_0 : decode cX10_sort 0 = .ok (.iload_n 0, 1) := by decide +kernel
theorem dX10_sort_1 : decode cX10_sort 1 = .ok (.bipush 97, 2) := by decide +kernel
theorem dX10_sort_3 : decode cX10_sort 3 = .ok (.if_icmp .lt 13, 3) := by decide +kernel
theorem dX10_sort_6 : decode cX10_sort 6 = .ok (.iload_n 0, 1) := by decide +kernel
theorem dX10_sort_7 : decode cX10_sort 7 = .ok (.bipush 122, 2) := by decide +kernel
theorem dX10_sort_9 : decode cX10_sort 9 = .ok (.if_icmp .gt 7, 3) := by decide +kernel
theorem dX10_sort_12 : decode cX10_sort 12 = .ok (.iconst 1, 1) := by decide +kernel
theorem dX10_sort_13 : decode cX10_sort 13 = .ok (.goto 20, 3) := by decide +kernel
theorem dX10_sort_16 : decode cX10_sort 16 = .ok (.iload_n 0, 1) := by decide +kernel
theorem dX10_sort_17 : decode cX10_sort 17 = .ok (.bipush 48, 2) := by decide +kernel
theorem dX10_sort_19 : decode cX10_sort 19 = .ok (.if_icmp .lt 13, 3) := by decide +kernel
theorem dX10_sort_22 : decode cX10_sort 22 = .ok (.iload_n 0, 1) := by decide +kernel
theorem dX10_sort_23 : decode cX10_sort 23 = .ok (.bipush 57, 2) := by decide +kernel
theorem dX10_sort_25 : decode cX10_sort 25 = .ok (.if_icmp .gt 7, 3) := by decide +kernel
theorem dX10_sort_28 : decode cX10_sort 28 = .ok (.iconst 2, 1) := by decide +kernel
theorem dX10_sort_29 : decode cX10_sort 29 = .ok (.goto 4, 3) := by decide +kernel
theorem dX10_sort_32 : decode cX10_sort 32 = .ok (.iconst 0, 1) := by decide +kernel
theorem dX10_sort_33 : decode cX10_sort 33 = .ok (.ireturn, 1) := by decide +kernel
theorem dX10_token_0 : decode cX10_token 0 = .ok (.aload_n 0, 1) := by decide +kernel
theorem dX10_token_1 : decode cX10_token 1 = .ok (.getfield 74, 3) := by decide +kernel
theorem dX10_token_4 : decode cX10_token 4 = .ok (.aload_n 0, 1) := by decide +kernel
theorem dX10_token_5 : decode cX10_token 5 = .ok (.getfield 69, 3) := by decide +kernel
theorem dX10_token_8 : decode cX10_token 8 = .ok (.if_icmp .ge 30, 3) := by decide +kernel
theorem dX10_token_11 : decode cX10_token 11 = .ok (.aload_n 0, 1) := by decide +kernel
theorem dX10_token_12 : decode cX10_token 12 = .ok (.getfield 17, 3) := by decide +kernel
theorem dX10_token_15 : decode cX10_token 15 = .ok (.aload_n 0, 1) := by decide +kernel
theorem dX10_token_16 : decode cX10_token 16 = .ok (.getfield 74, 3) := by decide +kernel
theorem dX10_token_19 : decode cX10_token 19 = .ok (.iaload, 1) := by decide +kernel
theorem dX10_token_20 : decode cX10_token 20 = .ok (.bipush 32, 2) := by decide +kernel
theorem dX10_token_22 : decode cX10_token 22 = .ok (.if_icmp .ne 16, 3) := by decide +kernel
theorem dX10_token_25 : decode cX10_token 25 = .ok (.aload_n 0, 1) := by decide +kernel
theorem dX10_token_26 : decode cX10_token 26 = .ok (.dup, 1) := by decide +kernel
theorem dX10_token_27 : decode cX10_token 27 = .ok (.getfield 74, 3) := by decide +kernel
theorem dX10_token_30 : decode cX10_token 30 = .ok (.iconst 1, 1) := by decide +kernel
theorem dX10_token_31 : decode cX10_token 31 = .ok (.iadd, 1) := by decide +kernel
theorem dX10_token_32 : decode cX10_token 32 = .ok (.putfield 74, 3) := by decide +kernel
theorem dX10_token_35 : decode cX10_token 35 = .ok (.goto (-35), 3) := by decide +kernel
theorem dX10_token_38 : decode cX10_token 38 = .ok (.aload_n 0, 1) := by decide +kernel
theorem dX10_token_39 : decode cX10_token 39 = .ok (.aload_n 0, 1) := by decide +kernel
theorem dX10_token_40 : decode cX10_token 40 = .ok (.getfield 74, 3) := by decide +kernel
theorem dX10_token_43 : decode cX10_token 43 = .ok (.putfield 77, 3) := by decide +kernel
theorem dX10_token_46 : decode cX10_token 46 = .ok (.aload_n 0, 1) := by decide +kernel
theorem dX10_token_47 : decode cX10_token 47 = .ok (.dup, 1) := by decide +kernel
theorem dX10_token_48 : decode cX10_token 48 = .ok (.getfield 74, 3) := by decide +kernel
theorem dX10_token_51 : decode cX10_token 51 = .ok (.aload_n 0, 1) := by decide +kernel
theorem dX10_token_52 : decode cX10_token 52 = .ok (.getfield 74, 3) := by decide +kernel
theorem dX10_token_55 : decode cX10_token 55 = .ok (.aload_n 0, 1) := by decide +kernel
theorem dX10_token_56 : decode cX10_token 56 = .ok (.getfield 69, 3) := by decide +kernel
theorem dX10_token_59 : decode cX10_token 59 = .ok (.if_icmp .ge 7, 3) := by decide +kernel
theorem dX10_token_62 : decode cX10_token 62 = .ok (.iconst 1, 1) := by decide +kernel
theorem dX10_token_63 : decode cX10_token 63 = .ok (.goto 4, 3) := by decide +kernel
theorem dX10_token_66 : decode cX10_token 66 = .ok (.iconst 0, 1) := by decide +kernel
theorem dX10_token_67 : decode cX10_token 67 = .ok (.iadd, 1) := by decide +kernel
theorem dX10_token_68 : decode cX10_token 68 = .ok (.putfield 74, 3) := by decide +kernel
theorem dX10_token_71 : decode cX10_token 71 = .ok (.aload_n 0, 1) := by decide +kernel
theorem dX10_token_72 : decode cX10_token 72 = .ok (.getfield 74, 3) := by decide +kernel
theorem dX10_token_75 : decode cX10_token 75 = .ok (.aload_n 0, 1) := by decide +kernel
theorem dX10_token_76 : decode cX10_token 76 = .ok (.getfield 69, 3) := by decide +kernel
theorem dX10_token_79 : decode cX10_token 79 = .ok (.if_icmp .ge 58, 3) := by decide +kernel
theorem dX10_token_82 : decode cX10_token 82 = .ok (.aload_n 0, 1) := by decide +kernel
theorem dX10_token_83 : decode cX10_token 83 = .ok (.getfield 17, 3) := by decide +kernel
theorem dX10_token_86 : decode cX10_token 86 = .ok (.aload_n 0, 1) := by decide +kernel
theorem dX10_token_87 : decode cX10_token 87 = .ok (.getfield 77, 3) := by decide +kernel
theorem dX10_token_90 : decode cX10_token 90 = .ok (.iaload, 1) := by decide +kernel
theorem dX10_token_91 : decode cX10_token 91 = .ok (.invokestatic 80, 3) := by decide +kernel
theorem dX10_token_94 : decode cX10_token 94 = .ok (.ifCond .le 43, 3) := by decide +kernel
theorem dX10_token_97 : decode cX10_token 97 = .ok (.aload_n 0, 1) := by decide +kernel
theorem dX10_token_98 : decode cX10_token 98 = .ok (.getfield 17, 3) := by decide +kernel
theorem dX10_token_101 : decode cX10_token 101 = .ok (.aload_n 0, 1) := by decide +kernel
theorem dX10_token_102 : decode cX10_token 102 = .ok (.getfield 74, 3) := by decide +kernel
theorem dX10_token_105 : decode cX10_token 105 = .ok (.iaload, 1) := by decide +kernel
theorem dX10_token_106 : decode cX10_token 106 = .ok (.invokestatic 80, 3) := by decide +kernel
theorem dX10_token_109 : decode cX10_token 109 = .ok (.aload_n 0, 1) := by decide +kernel
theorem dX10_token_110 : decode cX10_token 110 = .ok (.getfield 17, 3) := by decide +kernel
theorem dX10_token_113 : decode cX10_token 113 = .ok (.aload_n 0, 1) := by decide +kernel
theorem dX10_token_114 : decode cX10_token 114 = .ok (.getfield 77, 3) := by decide +kernel
theorem dX10_token_117 : decode cX10_token 117 = .ok (.iaload, 1) := by decide +kernel
theorem dX10_token_118 : decode cX10_token 118 = .ok (.invokestatic 80, 3) := by decide +kernel
theorem dX10_token_121 : decode cX10_token 121 = .ok (.if_icmp .ne 16, 3) := by decide +kernel
theorem dX10_token_124 : decode cX10_token 124 = .ok (.aload_n 0, 1) := by decide +kernel
theorem dX10_token_125 : decode cX10_token 125 = .ok (.dup, 1) := by decide +kernel
theorem dX10_token_126 : decode cX10_token 126 = .ok (.getfield 74, 3) := by decide +kernel
theorem dX10_token_129 : decode cX10_token 129 = .ok (.iconst 1, 1) := by decide +kernel
theorem dX10_token_130 : decode cX10_token 130 = .ok (.iadd, 1) := by decide +kernel
theorem dX10_token_131 : decode cX10_token 131 = .ok (.putfield 74, 3) := by decide +kernel
theorem dX10_token_134 : decode cX10_token 134 = .ok (.goto (-63), 3) := by decide +kernel
theorem dX10_token_137 : decode cX10_token 137 = .ok (.aload_n 0, 1) := by decide +kernel
theorem dX10_token_138 : decode cX10_token 138 = .ok (.aload_n 0, 1) := by decide +kernel
theorem dX10_token_139 : decode cX10_token 139 = .ok (.getfield 74, 3) := by decide +kernel
theorem dX10_token_142 : decode cX10_token 142 = .ok (.putfield 84, 3) := by decide +kernel
theorem dX10_token_145 : decode cX10_token 145 = .ok (.return_, 1) := by decide +kernel
theorem dX10_isWord_0 : decode cX10_isWord 0 = .ok (.aload_n 0, 1) := by decide +kernel
theorem dX10_isWord_1 : decode cX10_isWord 1 = .ok (.getfield 84, 3) := by decide +kernel
theorem dX10_isWord_4 : decode cX10_isWord 4 = .ok (.aload_n 0, 1) := by decide +kernel
theorem dX10_isWord_5 : decode cX10_isWord 5 = .ok (.getfield 77, 3) := by decide +kernel
theorem dX10_isWord_8 : decode cX10_isWord 8 = .ok (.isub, 1) := by decide +kernel
theorem dX10_isWord_9 : decode cX10_isWord 9 = .ok (.iload_n 2, 1) := by decide +kernel
theorem dX10_isWord_10 : decode cX10_isWord 10 = .ok (.if_icmp .ne 7, 3) := by decide +kernel
theorem dX10_isWord_13 : decode cX10_isWord 13 = .ok (.iconst 1, 1) := by decide +kernel
theorem dX10_isWord_14 : decode cX10_isWord 14 = .ok (.goto 4, 3) := by decide +kernel
theorem dX10_isWord_17 : decode cX10_isWord 17 = .ok (.iconst 0, 1) := by decide +kernel
theorem dX10_isWord_18 : decode cX10_isWord 18 = .ok (.istore_n 3, 1) := by decide +kernel
theorem dX10_isWord_19 : decode cX10_isWord 19 = .ok (.iconst 0, 1) := by decide +kernel
theorem dX10_isWord_20 : decode cX10_isWord 20 = .ok (.istore 4, 2) := by decide +kernel
theorem dX10_isWord_22 : decode cX10_isWord 22 = .ok (.iload_n 3, 1) := by decide +kernel
theorem dX10_isWord_23 : decode cX10_isWord 23 = .ok (.ifCond .eq 48, 3) := by decide +kernel
theorem dX10_isWord_26 : decode cX10_isWord 26 = .ok (.iload 4, 2) := by decide +kernel
theorem dX10_isWord_28 : decode cX10_isWord 28 = .ok (.iload_n 2, 1) := by decide +kernel
theorem dX10_isWord_29 : decode cX10_isWord 29 = .ok (.if_icmp .ge 42, 3) := by decide +kernel
theorem dX10_isWord_32 : decode cX10_isWord 32 = .ok (.aload_n 0, 1) := by decide +kernel
theorem dX10_isWord_33 : decode cX10_isWord 33 = .ok (.getfield 17, 3) := by decide +kernel
theorem dX10_isWord_36 : decode cX10_isWord 36 = .ok (.aload_n 0, 1) := by decide +kernel
theorem dX10_isWord_37 : decode cX10_isWord 37 = .ok (.getfield 77, 3) := by decide +kernel
theorem dX10_isWord_40 : decode cX10_isWord 40 = .ok (.iload 4, 2) := by decide +kernel
theorem dX10_isWord_42 : decode cX10_isWord 42 = .ok (.iadd, 1) := by decide +kernel
theorem dX10_isWord_43 : decode cX10_isWord 43 = .ok (.iaload, 1) := by decide +kernel
theorem dX10_isWord_44 : decode cX10_isWord 44 = .ok (.bipush 96, 2) := by decide +kernel
theorem dX10_isWord_46 : decode cX10_isWord 46 = .ok (.iload_n 1, 1) := by decide +kernel
theorem dX10_isWord_47 : decode cX10_isWord 47 = .ok (.iconst 5, 1) := by decide +kernel
theorem dX10_isWord_48 : decode cX10_isWord 48 = .ok (.iload 4, 2) := by decide +kernel
theorem dX10_isWord_50 : decode cX10_isWord 50 = .ok (.imul, 1) := by decide +kernel
theorem dX10_isWord_51 : decode cX10_isWord 51 = .ok (.ishr, 1) := by decide +kernel
theorem dX10_isWord_52 : decode cX10_isWord 52 = .ok (.bipush 31, 2) := by decide +kernel
theorem dX10_isWord_54 : decode cX10_isWord 54 = .ok (.iand, 1) := by decide +kernel
theorem dX10_isWord_55 : decode cX10_isWord 55 = .ok (.iadd, 1) := by decide +kernel
theorem dX10_isWord_56 : decode cX10_isWord 56 = .ok (.if_icmp .ne 7, 3) := by decide +kernel
theorem dX10_isWord_59 : decode cX10_isWord 59 = .ok (.iconst 1, 1) := by decide +kernel
theorem dX10_isWord_60 : decode cX10_isWord 60 = .ok (.goto 4, 3) := by decide +kernel
theorem dX10_isWord_63 : decode cX10_isWord 63 = .ok (.iconst 0, 1) := by decide +kernel
theorem dX10_isWord_64 : decode cX10_isWord 64 = .ok (.istore_n 3, 1) := by decide +kernel
theorem dX10_isWord_65 : decode cX10_isWord 65 = .ok (.iinc 4 1, 3) := by decide +kernel
theorem dX10_isWord_68 : decode cX10_isWord 68 = .ok (.goto (-46), 3) := by decide +kernel
theorem dX10_isWord_71 : decode cX10_isWord 71 = .ok (.iload_n 3, 1) := by decide +kernel
theorem dX10_isWord_72 : decode cX10_isWord 72 = .ok (.ireturn, 1) := by decide +kernel
theorem dX10_wordOf_0 : decode cX10_wordOf 0 = .ok (.aload_n 0, 1) := by decide +kernel
theorem dX10_wordOf_1 : decode cX10_wordOf 1 = .ok (.ldc 87, 2) := by decide +kernel
theorem dX10_wordOf_3 : decode cX10_wordOf 3 = .ok (.iconst 4, 1) := by decide +kernel
theorem dX10_wordOf_4 : decode cX10_wordOf 4 = .ok (.invokevirtual 88, 3) := by decide +kernel
theorem dX10_wordOf_7 : decode cX10_wordOf 7 = .ok (.ifCond .eq 7, 3) := by decide +kernel
theorem dX10_wordOf_10 : decode cX10_wordOf 10 = .ok (.iconst 0, 1) := by decide +kernel
theorem dX10_wordOf_11 : decode cX10_wordOf 11 = .ok (.goto 121, 3) := by decide +kernel
theorem dX10_wordOf_14 : decode cX10_wordOf 14 = .ok (.aload_n 0, 1) := by decide +kernel
theorem dX10_wordOf_15 : decode cX10_wordOf 15 = .ok (.ldc 92, 2) := by decide +kernel
theorem dX10_wordOf_17 : decode cX10_wordOf 17 = .ok (.iconst 4, 1) := by decide +kernel
theorem dX10_wordOf_18 : decode cX10_wordOf 18 = .ok (.invokevirtual 88, 3) := by decide +kernel
theorem dX10_wordOf_21 : decode cX10_wordOf 21 = .ok (.ifCond .eq 7, 3) := by decide +kernel
theorem dX10_wordOf_24 : decode cX10_wordOf 24 = .ok (.iconst 1, 1) := by decide +kernel
theorem dX10_wordOf_25 : decode cX10_wordOf 25 = .ok (.goto 107, 3) := by decide +kernel
theorem dX10_wordOf_28 : decode cX10_wordOf 28 = .ok (.aload_n 0, 1) := by decide +kernel
theorem dX10_wordOf_29 : decode cX10_wordOf 29 = .ok (.ldc 93, 2) := by decide +kernel
theorem dX10_wordOf_31 : decode cX10_wordOf 31 = .ok (.iconst 5, 1) := by decide +kernel
theorem dX10_wordOf_32 : decode cX10_wordOf 32 = .ok (.invokevirtual 88, 3) := by decide +kernel
theorem dX10_wordOf_35 : decode cX10_wordOf 35 = .ok (.ifCond .eq 7, 3) := by decide +kernel
theorem dX10_wordOf_38 : decode cX10_wordOf 38 = .ok (.iconst 2, 1) := by decide +kernel
theorem dX10_wordOf_39 : decode cX10_wordOf 39 = .ok (.goto 93, 3) := by decide +kernel
theorem dX10_wordOf_42 : decode cX10_wordOf 42 = .ok (.aload_n 0, 1) := by decide +kernel
theorem dX10_wordOf_43 : decode cX10_wordOf 43 = .ok (.sipush 641, 3) := by decide +kernel
theorem dX10_wordOf_46 : decode cX10_wordOf 46 = .ok (.iconst 2, 1) := by decide +kernel
theorem dX10_wordOf_47 : decode cX10_wordOf 47 = .ok (.invokevirtual 88, 3) := by decide +kernel
theorem dX10_wordOf_50 : decode cX10_wordOf 50 = .ok (.ifCond .eq 7, 3) := by decide +kernel
theorem dX10_wordOf_53 : decode cX10_wordOf 53 = .ok (.iconst 3, 1) := by decide +kernel
theorem dX10_wordOf_54 : decode cX10_wordOf 54 = .ok (.goto 78, 3) := by decide +kernel
theorem dX10_wordOf_57 : decode cX10_wordOf 57 = .ok (.aload_n 0, 1) := by decide +kernel
theorem dX10_wordOf_58 : decode cX10_wordOf 58 = .ok (.ldc 94, 2) := by decide +kernel
theorem dX10_wordOf_60 : decode cX10_wordOf 60 = .ok (.iconst 4, 1) := by decide +kernel
theorem dX10_wordOf_61 : decode cX10_wordOf 61 = .ok (.invokevirtual 88, 3) := by decide +kernel
theorem dX10_wordOf_64 : decode cX10_wordOf 64 = .ok (.ifCond .eq 7, 3) := by decide +kernel
theorem dX10_wordOf_67 : decode cX10_wordOf 67 = .ok (.iconst 4, 1) := by decide +kernel
theorem dX10_wordOf_68 : decode cX10_wordOf 68 = .ok (.goto 64, 3) := by decide +kernel
theorem dX10_wordOf_71 : decode cX10_wordOf 71 = .ok (.aload_n 0, 1) := by decide +kernel
theorem dX10_wordOf_72 : decode cX10_wordOf 72 = .ok (.sipush 23596, 3) := by decide +kernel
theorem dX10_wordOf_75 : decode cX10_wordOf 75 = .ok (.iconst 3, 1) := by decide +kernel
theorem dX10_wordOf_76 : decode cX10_wordOf 76 = .ok (.invokevirtual 88, 3) := by decide +kernel
theorem dX10_wordOf_79 : decode cX10_wordOf 79 = .ok (.ifCond .eq 7, 3) := by decide +kernel
theorem dX10_wordOf_82 : decode cX10_wordOf 82 = .ok (.iconst 5, 1) := by decide +kernel
theorem dX10_wordOf_83 : decode cX10_wordOf 83 = .ok (.goto 49, 3) := by decide +kernel
theorem dX10_wordOf_86 : decode cX10_wordOf 86 = .ok (.aload_n 0, 1) := by decide +kernel
theorem dX10_wordOf_87 : decode cX10_wordOf 87 = .ok (.ldc 95, 2) := by decide +kernel
theorem dX10_wordOf_89 : decode cX10_wordOf 89 = .ok (.iconst 4, 1) := by decide +kernel
theorem dX10_wordOf_90 : decode cX10_wordOf 90 = .ok (.invokevirtual 88, 3) := by decide +kernel
theorem dX10_wordOf_93 : decode cX10_wordOf 93 = .ok (.ifCond .eq 8, 3) := by decide +kernel
theorem dX10_wordOf_96 : decode cX10_wordOf 96 = .ok (.bipush 6, 2) := by decide +kernel
theorem dX10_wordOf_98 : decode cX10_wordOf 98 = .ok (.goto 34, 3) := by decide +kernel
theorem dX10_wordOf_101 : decode cX10_wordOf 101 = .ok (.aload_n 0, 1) := by decide +kernel
theorem dX10_wordOf_102 : decode cX10_wordOf 102 = .ok (.ldc 96, 2) := by decide +kernel
theorem dX10_wordOf_104 : decode cX10_wordOf 104 = .ok (.iconst 5, 1) := by decide +kernel
theorem dX10_wordOf_105 : decode cX10_wordOf 105 = .ok (.invokevirtual 88, 3) := by decide +kernel
theorem dX10_wordOf_108 : decode cX10_wordOf 108 = .ok (.ifCond .eq 8, 3) := by decide +kernel
theorem dX10_wordOf_111 : decode cX10_wordOf 111 = .ok (.bipush 7, 2) := by decide +kernel
theorem dX10_wordOf_113 : decode cX10_wordOf 113 = .ok (.goto 19, 3) := by decide +kernel
theorem dX10_wordOf_116 : decode cX10_wordOf 116 = .ok (.aload_n 0, 1) := by decide +kernel
theorem dX10_wordOf_117 : decode cX10_wordOf 117 = .ok (.ldc 97, 2) := by decide +kernel
theorem dX10_wordOf_119 : decode cX10_wordOf 119 = .ok (.iconst 4, 1) := by decide +kernel
theorem dX10_wordOf_120 : decode cX10_wordOf 120 = .ok (.invokevirtual 88, 3) := by decide +kernel
theorem dX10_wordOf_123 : decode cX10_wordOf 123 = .ok (.ifCond .eq 8, 3) := by decide +kernel
theorem dX10_wordOf_126 : decode cX10_wordOf 126 = .ok (.bipush 8, 2) := by decide +kernel
theorem dX10_wordOf_128 : decode cX10_wordOf 128 = .ok (.goto 4, 3) := by decide +kernel
theorem dX10_wordOf_131 : decode cX10_wordOf 131 = .ok (.iconst (-1), 1) := by decide +kernel
theorem dX10_wordOf_132 : decode cX10_wordOf 132 = .ok (.ireturn, 1) := by decide +kernel
theorem dX10_reads_0 : decode cX10_reads 0 = .ok (.aload_n 0, 1) := by decide +kernel
theorem dX10_reads_1 : decode cX10_reads 1 = .ok (.getfield 77, 3) := by decide +kernel
theorem dX10_reads_4 : decode cX10_reads 4 = .ok (.aload_n 0, 1) := by decide +kernel
theorem dX10_reads_5 : decode cX10_reads 5 = .ok (.getfield 69, 3) := by decide +kernel
theorem dX10_reads_8 : decode cX10_reads 8 = .ok (.if_icmp .eq 32, 3) := by decide +kernel
theorem dX10_reads_11 : decode cX10_reads 11 = .ok (.aload_n 0, 1) := by decide +kernel
theorem dX10_reads_12 : decode cX10_reads 12 = .ok (.getfield 17, 3) := by decide +kernel
theorem dX10_reads_15 : decode cX10_reads 15 = .ok (.aload_n 0, 1) := by decide +kernel
theorem dX10_reads_16 : decode cX10_reads 16 = .ok (.getfield 77, 3) := by decide +kernel
theorem dX10_reads_19 : decode cX10_reads 19 = .ok (.iaload, 1) := by decide +kernel
theorem dX10_reads_20 : decode cX10_reads 20 = .ok (.invokestatic 80, 3) := by decide +kernel
theorem dX10_reads_23 : decode cX10_reads 23 = .ok (.iconst 2, 1) := by decide +kernel
theorem dX10_reads_24 : decode cX10_reads 24 = .ok (.if_icmp .ne 16, 3) := by decide +kernel
theorem dX10_reads_27 : decode cX10_reads 27 = .ok (.aload_n 0, 1) := by decide +kernel
theorem dX10_reads_28 : decode cX10_reads 28 = .ok (.getfield 84, 3) := by decide +kernel
theorem dX10_reads_31 : decode cX10_reads 31 = .ok (.aload_n 0, 1) := by decide +kernel
theorem dX10_reads_32 : decode cX10_reads 32 = .ok (.getfield 77, 3) := by decide +kernel
theorem dX10_reads_35 : decode cX10_reads 35 = .ok (.isub, 1) := by decide +kernel
theorem dX10_reads_36 : decode cX10_reads 36 = .ok (.iconst 2, 1) := by decide +kernel
theorem dX10_reads_37 : decode cX10_reads 37 = .ok (.if_icmp .le 5, 3) := by decide +kernel
theorem dX10_reads_40 : decode cX10_reads 40 = .ok (.iconst 0, 1) := by decide +kernel
theorem dX10_reads_41 : decode cX10_reads 41 = .ok (.ireturn, 1) := by decide +kernel
theorem dX10_reads_42 : decode cX10_reads 42 = .ok (.iconst 0, 1) := by decide +kernel
theorem dX10_reads_43 : decode cX10_reads 43 = .ok (.istore 4, 2) := by decide +kernel
theorem dX10_reads_45 : decode cX10_reads 45 = .ok (.aload_n 0, 1) := by decide +kernel
theorem dX10_reads_46 : decode cX10_reads 46 = .ok (.getfield 77, 3) := by decide +kernel
theorem dX10_reads_49 : decode cX10_reads 49 = .ok (.istore 5, 2) := by decide +kernel
theorem dX10_reads_51 : decode cX10_reads 51 = .ok (.iload 5, 2) := by decide +kernel
theorem dX10_reads_53 : decode cX10_reads 53 = .ok (.aload_n 0, 1) := by decide +kernel
theorem dX10_reads_54 : decode cX10_reads 54 = .ok (.getfield 84, 3) := by decide +kernel
theorem dX10_reads_57 : decode cX10_reads 57 = .ok (.if_icmp .ge 27, 3) := by decide +kernel
theorem dX10_reads_60 : decode cX10_reads 60 = .ok (.bipush 10, 2) := by decide +kernel
theorem dX10_reads_62 : decode cX10_reads 62 = .ok (.iload 4, 2) := by decide +kernel
theorem dX10_reads_64 : decode cX10_reads 64 = .ok (.imul, 1) := by decide +kernel
theorem dX10_reads_65 : decode cX10_reads 65 = .ok (.aload_n 0, 1) := by decide +kernel
theorem dX10_reads_66 : decode cX10_reads 66 = .ok (.getfield 17, 3) := by decide +kernel
theorem dX10_reads_69 : decode cX10_reads 69 = .ok (.iload 5, 2) := by decide +kernel
theorem dX10_reads_71 : decode cX10_reads 71 = .ok (.iaload, 1) := by decide +kernel
theorem dX10_reads_72 : decode cX10_reads 72 = .ok (.iadd, 1) := by decide +kernel
theorem dX10_reads_73 : decode cX10_reads 73 = .ok (.bipush 48, 2) := by decide +kernel
theorem dX10_reads_75 : decode cX10_reads 75 = .ok (.isub, 1) := by decide +kernel
theorem dX10_reads_76 : decode cX10_reads 76 = .ok (.istore 4, 2) := by decide +kernel
theorem dX10_reads_78 : decode cX10_reads 78 = .ok (.iinc 5 1, 3) := by decide +kernel
theorem dX10_reads_81 : decode cX10_reads 81 = .ok (.goto (-30), 3) := by decide +kernel
theorem dX10_reads_84 : decode cX10_reads 84 = .ok (.iload 4, 2) := by decide +kernel
theorem dX10_reads_86 : decode cX10_reads 86 = .ok (.i2l, 1) := by decide +kernel
theorem dX10_reads_87 : decode cX10_reads 87 = .ok (.iload_n 2, 1) := by decide +kernel
theorem dX10_reads_88 : decode cX10_reads 88 = .ok (.i2l, 1) := by decide +kernel
theorem dX10_reads_89 : decode cX10_reads 89 = .ok (.iload_n 3, 1) := by decide +kernel
theorem dX10_reads_90 : decode cX10_reads 90 = .ok (.i2l, 1) := by decide +kernel
theorem dX10_reads_91 : decode cX10_reads 91 = .ok (.invokestatic 65, 3) := by decide +kernel
theorem dX10_reads_94 : decode cX10_reads 94 = .ok (.ifCond .ne 5, 3) := by decide +kernel
theorem dX10_reads_97 : decode cX10_reads 97 = .ok (.iconst 0, 1) := by decide +kernel
theorem dX10_reads_98 : decode cX10_reads 98 = .ok (.ireturn, 1) := by decide +kernel
theorem dX10_reads_99 : decode cX10_reads 99 = .ok (.aload_n 0, 1) := by decide +kernel
theorem dX10_reads_100 : decode cX10_reads 100 = .ok (.getfield 20, 3) := by decide +kernel
theorem dX10_reads_103 : decode cX10_reads 103 = .ok (.iconst 4, 1) := by decide +kernel
theorem dX10_reads_104 : decode cX10_reads 104 = .ok (.aload_n 0, 1) := by decide +kernel
theorem dX10_reads_105 : decode cX10_reads 105 = .ok (.getfield 98, 3) := by decide +kernel
theorem dX10_reads_108 : decode cX10_reads 108 = .ok (.imul, 1) := by decide +kernel
theorem dX10_reads_109 : decode cX10_reads 109 = .ok (.iconst 1, 1) := by decide +kernel
theorem dX10_reads_110 : decode cX10_reads 110 = .ok (.iadd, 1) := by decide +kernel
theorem dX10_reads_111 : decode cX10_reads 111 = .ok (.iload_n 1, 1) := by decide +kernel
theorem dX10_reads_112 : decode cX10_reads 112 = .ok (.iadd, 1) := by decide +kernel
theorem dX10_reads_113 : decode cX10_reads 113 = .ok (.iload 4, 2) := by decide +kernel
