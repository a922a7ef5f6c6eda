theorem dX0_init_0 : decode cX0_init 0 = .ok (.aload_n 0, 1) := by decide +kernel
theorem dX0_init_1 : decode cX0_init 1 = .ok (.invokespecial 3, 3) := by decide +kernel
theorem dX0_init_4 : decode cX0_init 4 = .ok (.aload_n 0, 1) := by decide +kernel
theorem dX0_init_5 : decode cX0_init 5 = .ok (.bipush 36, 2) := by decide +kernel
theorem dX0_init_7 : decode cX0_init 7 = .ok (.newarray .int, 2) := by decide +kernel
theorem dX0_init_9 : decode cX0_init 9 = .ok (.putfield 9, 3) := by decide +kernel
theorem dX0_init_12 : decode cX0_init 12 = .ok (.return_, 1) := by decide +kernel
theorem dX0_drawUp_0 : decode cX0_drawUp 0 = .ok (.aload_n 0, 1) := by decide +kernel
theorem dX0_drawUp_1 : decode cX0_drawUp 1 = .ok (.getfield 9, 3) := by decide +kernel
theorem dX0_drawUp_4 : decode cX0_drawUp 4 = .ok (.iconst 0, 1) := by decide +kernel
theorem dX0_drawUp_5 : decode cX0_drawUp 5 = .ok (.invokestatic 15, 3) := by decide +kernel
theorem dX0_drawUp_8 : decode cX0_drawUp 8 = .ok (.iconst 0, 1) := by decide +kernel
theorem dX0_drawUp_9 : decode cX0_drawUp 9 = .ok (.istore_n 3, 1) := by decide +kernel
theorem dX0_drawUp_10 : decode cX0_drawUp 10 = .ok (.iload_n 3, 1) := by decide +kernel
theorem dX0_drawUp_11 : decode cX0_drawUp 11 = .ok (.bipush 8, 2) := by decide +kernel
theorem dX0_drawUp_13 : decode cX0_drawUp 13 = .ok (.if_icmp .ge 89, 3) := by decide +kernel
theorem dX0_drawUp_16 : decode cX0_drawUp 16 = .ok (.iconst 1, 1) := by decide +kernel
theorem dX0_drawUp_17 : decode cX0_drawUp 17 = .ok (.istore 4, 2) := by decide +kernel
theorem dX0_drawUp_19 : decode cX0_drawUp 19 = .ok (.iload 4, 2) := by decide +kernel
theorem dX0_drawUp_21 : decode cX0_drawUp 21 = .ok (.aload_n 2, 1) := by decide +kernel
theorem dX0_drawUp_22 : decode cX0_drawUp 22 = .ok (.iload_n 3, 1) := by decide +kernel
theorem dX0_drawUp_23 : decode cX0_drawUp 23 = .ok (.invokevirtual 21, 3) := by decide +kernel
theorem dX0_drawUp_26 : decode cX0_drawUp 26 = .ok (.if_icmp .gt 70, 3) := by decide +kernel
theorem dX0_drawUp_29 : decode cX0_drawUp 29 = .ok (.aload_n 2, 1) := by decide +kernel
theorem dX0_drawUp_30 : decode cX0_drawUp 30 = .ok (.iload_n 3, 1) := by decide +kernel
theorem dX0_drawUp_31 : decode cX0_drawUp 31 = .ok (.iload 4, 2) := by decide +kernel
theorem dX0_drawUp_33 : decode cX0_drawUp 33 = .ok (.invokevirtual 27, 3) := by decide +kernel
theorem dX0_drawUp_36 : decode cX0_drawUp 36 = .ok (.istore 5, 2) := by decide +kernel
theorem dX0_drawUp_38 : decode cX0_drawUp 38 = .ok (.iload 5, 2) := by decide +kernel
theorem dX0_drawUp_40 : decode cX0_drawUp 40 = .ok (.invokestatic 31, 3) := by decide +kernel
theorem dX0_drawUp_43 : decode cX0_drawUp 43 = .ok (.istore 6, 2) := by decide +kernel
theorem dX0_drawUp_45 : decode cX0_drawUp 45 = .ok (.iload 6, 2) := by decide +kernel
theorem dX0_drawUp_47 : decode cX0_drawUp 47 = .ok (.ifCond .lt 43, 3) := by decide +kernel
theorem dX0_drawUp_50 : decode cX0_drawUp 50 = .ok (.iload 6, 2) := by decide +kernel
theorem dX0_drawUp_52 : decode cX0_drawUp 52 = .ok (.bipush 36, 2) := by decide +kernel
theorem dX0_drawUp_54 : decode cX0_drawUp 54 = .ok (.if_icmp .ge 36, 3) := by decide +kernel
theorem dX0_drawUp_57 : decode cX0_drawUp 57 = .ok (.iload 5, 2) := by decide +kernel
theorem dX0_drawUp_59 : decode cX0_drawUp 59 = .ok (.invokestatic 34, 3) := by decide +kernel
theorem dX0_drawUp_62 : decode cX0_drawUp 62 = .ok (.iconst 1, 1) := by decide +kernel
theorem dX0_drawUp_63 : decode cX0_drawUp 63 = .ok (.if_icmp .ge 6, 3) := by decide +kernel
theorem dX0_drawUp_66 : decode cX0_drawUp 66 = .ok (.goto 24, 3) := by decide +kernel
theorem dX0_drawUp_69 : decode cX0_drawUp 69 = .ok (.aload_n 0, 1) := by decide +kernel
theorem dX0_drawUp_70 : decode cX0_drawUp 70 = .ok (.getfield 9, 3) := by decide +kernel
theorem dX0_drawUp_73 : decode cX0_drawUp 73 = .ok (.iload 6, 2) := by decide +kernel
theorem dX0_drawUp_75 : decode cX0_drawUp 75 = .ok (.dup2, 1) := by decide +kernel
theorem dX0_drawUp_76 : decode cX0_drawUp 76 = .ok (.iaload, 1) := by decide +kernel
theorem dX0_drawUp_77 : decode cX0_drawUp 77 = .ok (.aload_n 1, 1) := by decide +kernel
theorem dX0_drawUp_78 : decode cX0_drawUp 78 = .ok (.iload 5, 2) := by decide +kernel
theorem dX0_drawUp_80 : decode cX0_drawUp 80 = .ok (.invokestatic 37, 3) := by decide +kernel
theorem dX0_drawUp_83 : decode cX0_drawUp 83 = .ok (.iload 4, 2) := by decide +kernel
theorem dX0_drawUp_85 : decode cX0_drawUp 85 = .ok (.invokevirtual 40, 3) := by decide +kernel
theorem dX0_drawUp_88 : decode cX0_drawUp 88 = .ok (.iadd, 1) := by decide +kernel
theorem dX0_drawUp_89 : decode cX0_drawUp 89 = .ok (.iastore, 1) := by decide +kernel
theorem dX0_drawUp_90 : decode cX0_drawUp 90 = .ok (.iinc 4 1, 3) := by decide +kernel
theorem dX0_drawUp_93 : decode cX0_drawUp 93 = .ok (.goto (-74), 3) := by decide +kernel
theorem dX0_drawUp_96 : decode cX0_drawUp 96 = .ok (.iinc 3 1, 3) := by decide +kernel
theorem dX0_drawUp_99 : decode cX0_drawUp 99 = .ok (.goto (-89), 3) := by decide +kernel
theorem dX0_drawUp_102 : decode cX0_drawUp 102 = .ok (.return_, 1) := by decide +kernel
theorem dX0_dueAt_0 : decode cX0_dueAt 0 = .ok (.iload_n 1, 1) := by decide +kernel
theorem dX0_dueAt_1 : decode cX0_dueAt 1 = .ok (.ifCond .lt 9, 3) := by decide +kernel
theorem dX0_dueAt_4 : decode cX0_dueAt 4 = .ok (.iload_n 1, 1) := by decide +kernel
theorem dX0_dueAt_5 : decode cX0_dueAt 5 = .ok (.bipush 36, 2) := by decide +kernel
theorem dX0_dueAt_7 : decode cX0_dueAt 7 = .ok (.if_icmp .lt 7, 3) := by decide +kernel
theorem dX0_dueAt_10 : decode cX0_dueAt 10 = .ok (.iconst 0, 1) := by decide +kernel
theorem dX0_dueAt_11 : decode cX0_dueAt 11 = .ok (.goto 9, 3) := by decide +kernel
theorem dX0_dueAt_14 : decode cX0_dueAt 14 = .ok (.aload_n 0, 1) := by decide +kernel
theorem dX0_dueAt_15 : decode cX0_dueAt 15 = .ok (.getfield 9, 3) := by decide +kernel
theorem dX0_dueAt_18 : decode cX0_dueAt 18 = .ok (.iload_n 1, 1) := by decide +kernel
theorem dX0_dueAt_19 : decode cX0_dueAt 19 = .ok (.iaload, 1) := by decide +kernel
theorem dX0_dueAt_20 : decode cX0_dueAt 20 = .ok (.ireturn, 1) := by decide +kernel
theorem dX1_init_0 : decode cX1_init 0 = .ok (.aload_n 0, 1) := by decide +kernel
theorem dX1_init_1 : decode cX1_init 1 = .ok (.invokespecial 3, 3) := by decide +kernel
theorem dX1_init_4 : decode cX1_init 4 = .ok (.aload_n 0, 1) := by decide +kernel
theorem dX1_init_5 : decode cX1_init 5 = .ok (.bipush 36, 2) := by decide +kernel
theorem dX1_init_7 : decode cX1_init 7 = .ok (.newarray .int, 2) := by decide +kernel
theorem dX1_init_9 : decode cX1_init 9 = .ok (.putfield 9, 3) := by decide +kernel
theorem dX1_init_12 : decode cX1_init 12 = .ok (.aload_n 0, 1) := by decide +kernel
theorem dX1_init_13 : decode cX1_init 13 = .ok (.bipush 20, 2) := by decide +kernel
theorem dX1_init_15 : decode cX1_init 15 = .ok (.newarray .int, 2) := by decide +kernel
theorem dX1_init_17 : decode cX1_init 17 = .ok (.putfield 15, 3) := by decide +kernel
theorem dX1_init_20 : decode cX1_init 20 = .ok (.aload_n 0, 1) := by decide +kernel
theorem dX1_init_21 : decode cX1_init 21 = .ok (.bipush 20, 2) := by decide +kernel
theorem dX1_init_23 : decode cX1_init 23 = .ok (.newarray .int, 2) := by decide +kernel
theorem dX1_init_25 : decode cX1_init 25 = .ok (.putfield 18, 3) := by decide +kernel
theorem dX1_init_28 : decode cX1_init 28 = .ok (.aload_n 0, 1) := by decide +kernel
theorem dX1_init_29 : decode cX1_init 29 = .ok (.bipush 20, 2) := by decide +kernel
theorem dX1_init_31 : decode cX1_init 31 = .ok (.newarray .boolean, 2) := by decide +kernel
theorem dX1_init_33 : decode cX1_init 33 = .ok (.putfield 21, 3) := by decide +kernel
theorem dX1_init_36 : decode cX1_init 36 = .ok (.aload_n 0, 1) := by decide +kernel
theorem dX1_init_37 : decode cX1_init 37 = .ok (.bipush 20, 2) := by decide +kernel
theorem dX1_init_39 : decode cX1_init 39 = .ok (.newarray .int, 2) := by decide +kernel
theorem dX1_init_41 : decode cX1_init 41 = .ok (.putfield 25, 3) := by decide +kernel
theorem dX1_init_44 : decode cX1_init 44 = .ok (.aload_n 0, 1) := by decide +kernel
theorem dX1_init_45 : decode cX1_init 45 = .ok (.bipush 12, 2) := by decide +kernel
theorem dX1_init_47 : decode cX1_init 47 = .ok (.newarray .int, 2) := by decide +kernel
theorem dX1_init_49 : decode cX1_init 49 = .ok (.putfield 28, 3) := by decide +kernel
theorem dX1_init_52 : decode cX1_init 52 = .ok (.aload_n 0, 1) := by decide +kernel
theorem dX1_init_53 : decode cX1_init 53 = .ok (.bipush 12, 2) := by decide +kernel
theorem dX1_init_55 : decode cX1_init 55 = .ok (.newarray .int, 2) := by decide +kernel
theorem dX1_init_57 : decode cX1_init 57 = .ok (.putfield 31, 3) := by decide +kernel
theorem dX1_init_60 : decode cX1_init 60 = .ok (.aload_n 0, 1) := by decide +kernel
theorem dX1_init_61 : decode cX1_init 61 = .ok (.iconst 0, 1) := by decide +kernel
theorem dX1_init_62 : decode cX1_init 62 = .ok (.putfield 34, 3) := by decide +kernel
theorem dX1_init_65 : decode cX1_init 65 = .ok (.aload_n 0, 1) := by decide +kernel
theorem dX1_init_66 : decode cX1_init 66 = .ok (.iconst 0, 1) := by decide +kernel
theorem dX1_init_67 : decode cX1_init 67 = .ok (.putfield 38, 3) := by decide +kernel
theorem dX1_init_70 : decode cX1_init 70 = .ok (.return_, 1) := by decide +kernel
theorem dX1_clear_0 : decode cX1_clear 0 = .ok (.aload_n 0, 1) := by decide +kernel
theorem dX1_clear_1 : decode cX1_clear 1 = .ok (.getfield 9, 3) := by decide +kernel
theorem dX1_clear_4 : decode cX1_clear 4 = .ok (.iconst 0, 1) := by decide +kernel
theorem dX1_clear_5 : decode cX1_clear 5 = .ok (.invokestatic 41, 3) := by decide +kernel
theorem dX1_clear_8 : decode cX1_clear 8 = .ok (.aload_n 0, 1) := by decide +kernel
theorem dX1_clear_9 : decode cX1_clear 9 = .ok (.iconst 0, 1) := by decide +kernel
theorem dX1_clear_10 : decode cX1_clear 10 = .ok (.putfield 34, 3) := by decide +kernel
theorem dX1_clear_13 : decode cX1_clear 13 = .ok (.aload_n 0, 1) := by decide +kernel
theorem dX1_clear_14 : decode cX1_clear 14 = .ok (.iconst 0, 1) := by decide +kernel
theorem dX1_clear_15 : decode cX1_clear 15 = .ok (.putfield 38, 3) := by decide +kernel
theorem dX1_clear_18 : decode cX1_clear 18 = .ok (.return_, 1) := by decide +kernel
theorem dX1_copyFrom_0 : decode cX1_copyFrom 0 = .ok (.iconst 0, 1) := by decide +kernel
theorem dX1_copyFrom_1 : decode cX1_copyFrom 1 = .ok (.istore_n 2, 1) := by decide +kernel
theorem dX1_copyFrom_2 : decode cX1_copyFrom 2 = .ok (.iload_n 2, 1) := by decide +kernel
theorem dX1_copyFrom_3 : decode cX1_copyFrom 3 = .ok (.bipush 36, 2) := by decide +kernel
theorem dX1_copyFrom_5 : decode cX1_copyFrom 5 = .ok (.if_icmp .ge 21, 3) := by decide +kernel
theorem dX1_copyFrom_8 : decode cX1_copyFrom 8 = .ok (.aload_n 0, 1) := by decide +kernel
theorem dX1_copyFrom_9 : decode cX1_copyFrom 9 = .ok (.getfield 9, 3) := by decide +kernel
theorem dX1_copyFrom_12 : decode cX1_copyFrom 12 = .ok (.iload_n 2, 1) := by decide +kernel
theorem dX1_copyFrom_13 : decode cX1_copyFrom 13 = .ok (.aload_n 1, 1) := by decide +kernel
theorem dX1_copyFrom_14 : decode cX1_copyFrom 14 = .ok (.getfield 9, 3) := by decide +kernel
theorem dX1_copyFrom_17 : decode cX1_copyFrom 17 = .ok (.iload_n 2, 1) := by decide +kernel
theorem dX1_copyFrom_18 : decode cX1_copyFrom 18 = .ok (.iaload, 1) := by decide +kernel
theorem dX1_copyFrom_19 : decode cX1_copyFrom 19 = .ok (.iastore, 1) := by decide +kernel
theorem dX1_copyFrom_20 : decode cX1_copyFrom 20 = .ok (.iinc 2 1, 3) := by decide +kernel
theorem dX1_copyFrom_23 : decode cX1_copyFrom 23 = .ok (.goto (-21), 3) := by decide +kernel
theorem dX1_copyFrom_26 : decode cX1_copyFrom 26 = .ok (.iconst 0, 1) := by decide +kernel
theorem dX1_copyFrom_27 : decode cX1_copyFrom 27 = .ok (.istore_n 2, 1) := by decide +kernel
theorem dX1_copyFrom_28 : decode cX1_copyFrom 28 = .ok (.iload_n 2, 1) := by decide +kernel
theorem dX1_copyFrom_29 : decode cX1_copyFrom 29 = .ok (.bipush 20, 2) := by decide +kernel
theorem dX1_copyFrom_31 : decode cX1_copyFrom 31 = .ok (.if_icmp .ge 57, 3) := by decide +kernel
theorem dX1_copyFrom_34 : decode cX1_copyFrom 34 = .ok (.aload_n 0, 1) := by decide +kernel
theorem dX1_copyFrom_35 : decode cX1_copyFrom 35 = .ok (.getfield 15, 3) := by decide +kernel
theorem dX1_copyFrom_38 : decode cX1_copyFrom 38 = .ok (.iload_n 2, 1) := by decide +kernel
theorem dX1_copyFrom_39 : decode cX1_copyFrom 39 = .ok (.aload_n 1, 1) := by decide +kernel
theorem dX1_copyFrom_40 : decode cX1_copyFrom 40 = .ok (.getfield 15, 3) := by decide +kernel
theorem dX1_copyFrom_43 : decode cX1_copyFrom 43 = .ok (.iload_n 2, 1) := by decide +kernel
theorem dX1_copyFrom_44 : decode cX1_copyFrom 44 = .ok (.iaload, 1) := by decide +kernel
theorem dX1_copyFrom_45 : decode cX1_copyFrom 45 = .ok (.iastore, 1) := by decide +kernel
theorem dX1_copyFrom_46 : decode cX1_copyFrom 46 = .ok (.aload_n 0, 1) := by decide +kernel
theorem dX1_copyFrom_47 : decode cX1_copyFrom 47 = .ok (.getfield 18, 3) := by decide +kernel
theorem dX1_copyFrom_50 : decode cX1_copyFrom 50 = .ok (.iload_n 2, 1) := by decide +kernel
theorem dX1_copyFrom_51 : decode cX1_copyFrom 51 = .ok (.aload_n 1, 1) := by decide +kernel
theorem dX1_copyFrom_52 : decode cX1_copyFrom 52 = .ok (.getfield 18, 3) := by decide +kernel
theorem dX1_copyFrom_55 : decode cX1_copyFrom 55 = .ok (.iload_n 2, 1) := by decide +kernel
theorem dX1_copyFrom_56 : decode cX1_copyFrom 56 = .ok (.iaload, 1) := by decide +kernel
theorem dX1_copyFrom_57 : decode cX1_copyFrom 57 = .ok (.iastore, 1) := by decide +kernel
theorem dX1_copyFrom_58 : decode cX1_copyFrom 58 = .ok (.aload_n 0, 1) := by decide +kernel
theorem dX1_copyFrom_59 : decode cX1_copyFrom 59 = .ok (.getfield 21, 3) := by decide +kernel
theorem dX1_copyFrom_62 : decode cX1_copyFrom 62 = .ok (.iload_n 2, 1) := by decide +kernel
theorem dX1_copyFrom_63 : decode cX1_copyFrom 63 = .ok (.aload_n 1, 1) := by decide +kernel
theorem dX1_copyFrom_64 : decode cX1_copyFrom 64 = .ok (.getfield 21, 3) := by decide +kernel
theorem dX1_copyFrom_67 : decode cX1_copyFrom 67 = .ok (.iload_n 2, 1) := by decide +kernel
theorem dX1_copyFrom_68 : decode cX1_copyFrom 68 = .ok (.baload, 1) := by decide +kernel
theorem dX1_copyFrom_69 : decode cX1_copyFrom 69 = .ok (.bastore, 1) := by decide +kernel
theorem dX1_copyFrom_70 : decode cX1_copyFrom 70 = .ok (.aload_n 0, 1) := by decide +kernel
theorem dX1_copyFrom_71 : decode cX1_copyFrom 71 = .ok (.getfield 25, 3) := by decide +kernel
theorem dX1_copyFrom_74 : decode cX1_copyFrom 74 = .ok (.iload_n 2, 1) := by decide +kernel
theorem dX1_copyFrom_75 : decode cX1_copyFrom 75 = .ok (.aload_n 1, 1) := by decide +kernel
theorem dX1_copyFrom_76 : decode cX1_copyFrom 76 = .ok (.getfield 25, 3) := by decide +kernel
theorem dX1_copyFrom_79 : decode cX1_copyFrom 79 = .ok (.iload_n 2, 1) := by decide +kernel
theorem dX1_copyFrom_80 : decode cX1_copyFrom 80 = .ok (.iaload, 1) := by decide +kernel
theorem dX1_copyFrom_81 : decode cX1_copyFrom 81 = .ok (.iastore, 1) := by decide +kernel
theorem dX1_copyFrom_82 : decode cX1_copyFrom 82 = .ok (.iinc 2 1, 3) := by decide +kernel
theorem dX1_copyFrom_85 : decode cX1_copyFrom 85 = .ok (.goto (-57), 3) := by decide +kernel
theorem dX1_copyFrom_88 : decode cX1_copyFrom 88 = .ok (.iconst 0, 1) := by decide +kernel
theorem dX1_copyFrom_89 : decode cX1_copyFrom 89 = .ok (.istore_n 2, 1) := by decide +kernel
theorem dX1_copyFrom_90 : decode cX1_copyFrom 90 = .ok (.iload_n 2, 1) := by decide +kernel
theorem dX1_copyFrom_91 : decode cX1_copyFrom 91 = .ok (.bipush 12, 2) := by decide +kernel
theorem dX1_copyFrom_93 : decode cX1_copyFrom 93 = .ok (.if_icmp .ge 33, 3) := by decide +kernel
theorem dX1_copyFrom_96 : decode cX1_copyFrom 96 = .ok (.aload_n 0, 1) := by decide +kernel
theorem dX1_copyFrom_97 : decode cX1_copyFrom 97 = .ok (.getfield 28, 3) := by decide +kernel
theorem dX1_copyFrom_100 : decode cX1_copyFrom 100 = .ok (.iload_n 2, 1) := by decide +kernel
theorem dX1_copyFrom_101 : decode cX1_copyFrom 101 = .ok (.aload_n 1, 1) := by decide +kernel
theorem dX1_copyFrom_102 : decode cX1_copyFrom 102 = .ok (.getfield 28, 3) := by decide +kernel
theorem dX1_copyFrom_105 : decode cX1_copyFrom 105 = .ok (.iload_n 2, 1) := by decide +kernel
theorem dX1_copyFrom_106 : decode cX1_copyFrom 106 = .ok (.iaload, 1) := by decide +kernel
theorem dX1_copyFrom_107 : decode cX1_copyFrom 107 = .ok (.iastore, 1) := by decide +kernel
theorem dX1_copyFrom_108 : decode cX1_copyFrom 108 = .ok (.aload_n 0, 1) := by decide +kernel
theorem dX1_copyFrom_109 : decode cX1_copyFrom 109 = .ok (.getfield 31, 3) := by decide +kernel
theorem dX1_copyFrom_112 : decode cX1_copyFrom 112 = .ok (.iload_n 2, 1) := by decide +kernel
theorem dX1_copyFrom_113 : decode cX1_copyFrom 113 = .ok (.aload_n 1, 1) := by decide +kernel
theorem dX1_copyFrom_114 : decode cX1_copyFrom 114 = .ok (.getfield 31, 3) := by decide +kernel
theorem dX1_copyFrom_117 : decode cX1_copyFrom 117 = .ok (.iload_n 2, 1) := by decide +kernel
theorem dX1_copyFrom_118 : decode cX1_copyFrom 118 = .ok (.iaload, 1) := by decide +kernel
theorem dX1_copyFrom_119 : decode cX1_copyFrom 119 = .ok (.iastore, 1) := by decide +kernel
theorem dX1_copyFrom_120 : decode cX1_copyFrom 120 = .ok (.iinc 2 1, 3) := by decide +kernel
theorem dX1_copyFrom_123 : decode cX1_copyFrom 123 = .ok (.goto (-33), 3) := by decide +kernel
theorem dX1_copyFrom_126 : decode cX1_copyFrom 126 = .ok (.aload_n 0, 1) := by decide +kernel
theorem dX1_copyFrom_127 : decode cX1_copyFrom 127 = .ok (.aload_n 1, 1) := by decide +kernel
theorem dX1_copyFrom_128 : decode cX1_copyFrom 128 = .ok (.getfield 34, 3) := by decide +kernel
theorem dX1_copyFrom_131 : decode cX1_copyFrom 131 = .ok (.putfield 34, 3) := by decide +kernel
theorem dX1_copyFrom_134 : decode cX1_copyFrom 134 = .ok (.aload_n 0, 1) := by decide +kernel
theorem dX1_copyFrom_135 : decode cX1_copyFrom 135 = .ok (.aload_n 1, 1) := by decide +kernel
theorem dX1_copyFrom_136 : decode cX1_copyFrom 136 = .ok (.getfield 38, 3) := by decide +kernel
theorem dX1_copyFrom_139 : decode cX1_copyFrom 139 = .ok (.putfield 38, 3) := by decide +kernel
theorem dX1_copyFrom_142 : decode cX1_copyFrom 142 = .ok (.return_, 1) := by decide +kernel
theorem dX1_debt_0 : decode cX1_debt 0 = .ok (.iload_n 1, 1) := by decide +kernel
theorem dX1_debt_1 : decode cX1_debt 1 = .ok (.invokestatic 47, 3) := by decide +kernel
theorem dX1_debt_4 : decode cX1_debt 4 = .ok (.ifCond .eq 24, 3) := by decide +kernel
theorem dX1_debt_7 : decode cX1_debt 7 = .ok (.iload_n 2, 1) := by decide +kernel
theorem dX1_debt_8 : decode cX1_debt 8 = .ok (.invokestatic 47, 3) := by decide +kernel
theorem dX1_debt_11 : decode cX1_debt 11 = .ok (.ifCond .eq 17, 3) := by decide +kernel
theorem dX1_debt_14 : decode cX1_debt 14 = .ok (.aload_n 0, 1) := by decide +kernel
theorem dX1_debt_15 : decode cX1_debt 15 = .ok (.getfield 9, 3) := by decide +kernel
theorem dX1_debt_18 : decode cX1_debt 18 = .ok (.iload_n 1, 1) := by decide +kernel
theorem dX1_debt_19 : decode cX1_debt 19 = .ok (.bipush 6, 2) := by decide +kernel
theorem dX1_debt_21 : decode cX1_debt 21 = .ok (.imul, 1) := by decide +kernel
theorem dX1_debt_22 : decode cX1_debt 22 = .ok (.iload_n 2, 1) := by decide +kernel
theorem dX1_debt_23 : decode cX1_debt 23 = .ok (.iadd, 1) := by decide +kernel
theorem dX1_debt_24 : decode cX1_debt 24 = .ok (.iaload, 1) := by decide +kernel
theorem dX1_debt_25 : decode cX1_debt 25 = .ok (.goto 4, 3) := by decide +kernel
theorem dX1_debt_28 : decode cX1_debt 28 = .ok (.iconst 0, 1) := by decide +kernel
theorem dX1_debt_29 : decode cX1_debt 29 = .ok (.ireturn, 1) := by decide +kernel
theorem dX1_owe_0 : decode cX1_owe 0 = .ok (.iload_n 1, 1) := by decide +kernel
theorem dX1_owe_1 : decode cX1_owe 1 = .ok (.invokestatic 47, 3) := by decide +kernel
theorem dX1_owe_4 : decode cX1_owe 4 = .ok (.ifCond .eq 10, 3) := by decide +kernel
theorem dX1_owe_7 : decode cX1_owe 7 = .ok (.iload_n 2, 1) := by decide +kernel
theorem dX1_owe_8 : decode cX1_owe 8 = .ok (.invokestatic 47, 3) := by decide +kernel
theorem dX1_owe_11 : decode cX1_owe 11 = .ok (.ifCond .ne 4, 3) := by decide +kernel
theorem dX1_owe_14 : decode cX1_owe 14 = .ok (.return_, 1) := by decide +kernel
theorem dX1_owe_15 : decode cX1_owe 15 = .ok (.aload_n 0, 1) := by decide +kernel
theorem dX1_owe_16 : decode cX1_owe 16 = .ok (.getfield 9, 3) := by decide +kernel
theorem dX1_owe_19 : decode cX1_owe 19 = .ok (.iload_n 1, 1) := by decide +kernel
theorem dX1_owe_20 : decode cX1_owe 20 = .ok (.bipush 6, 2) := by decide +kernel
theorem dX1_owe_22 : decode cX1_owe 22 = .ok (.imul, 1) := by decide +kernel
theorem dX1_owe_23 : decode cX1_owe 23 = .ok (.iload_n 2, 1) := by decide +kernel
theorem dX1_owe_24 : decode cX1_owe 24 = .ok (.iadd, 1) := by decide +kernel
theorem dX1_owe_25 : decode cX1_owe 25 = .ok (.dup2, 1) := by decide +kernel
theorem dX1_owe_26 : decode cX1_owe 26 = .ok (.iaload, 1) := by decide +kernel
theorem dX1_owe_27 : decode cX1_owe 27 = .ok (.iload_n 3, 1) := by decide +kernel
theorem dX1_owe_28 : decode cX1_owe 28 = .ok (.iadd, 1) := by decide +kernel
theorem dX1_owe_29 : decode cX1_owe 29 = .ok (.iastore, 1) := by decide +kernel
theorem dX1_owe_30 : decode cX1_owe 30 = .ok (.aload_n 0, 1) := by decide +kernel
theorem dX1_owe_31 : decode cX1_owe 31 = .ok (.getfield 9, 3) := by decide +kernel
theorem dX1_owe_34 : decode cX1_owe 34 = .ok (.iload_n 2, 1) := by decide +kernel
theorem dX1_owe_35 : decode cX1_owe 35 = .ok (.bipush 6, 2) := by decide +kernel
theorem dX1_owe_37 : decode cX1_owe 37 = .ok (.imul, 1) := by decide +kernel
theorem dX1_owe_38 : decode cX1_owe 38 = .ok (.iload_n 1, 1) := by decide +kernel
theorem dX1_owe_39 : decode cX1_owe 39 = .ok (.iadd, 1) := by decide +kernel
theorem dX1_owe_40 : decode cX1_owe 40 = .ok (.dup2, 1) := by decide +kernel
theorem dX1_owe_41 : decode cX1_owe 41 = .ok (.iaload, 1) := by decide +kernel
theorem dX1_owe_42 : decode cX1_owe 42 = .ok (.iload_n 3, 1) := by decide +kernel
theorem dX1_owe_43 : decode cX1_owe 43 = .ok (.isub, 1) := by decide +kernel
theorem dX1_owe_44 : decode cX1_owe 44 = .ok (.iastore, 1) := by decide +kernel
theorem dX1_owe_45 : decode cX1_owe 45 = .ok (.return_, 1) := by decide +kernel
theorem dX1_netOf_0 : decode cX1_netOf 0 = .ok (.iconst 0, 1) := by decide +kernel
theorem dX1_netOf_1 : decode cX1_netOf 1 = .ok (.istore_n 2, 1) := by decide +kernel
theorem dX1_netOf_2 : decode cX1_netOf 2 = .ok (.iconst 0, 1) := by decide +kernel
theorem dX1_netOf_3 : decode cX1_netOf 3 = .ok (.istore_n 3, 1) := by decide +kernel
theorem dX1_netOf_4 : decode cX1_netOf 4 = .ok (.iload_n 3, 1) := by decide +kernel
theorem dX1_netOf_5 : decode cX1_netOf 5 = .ok (.bipush 6, 2) := by decide +kernel
theorem dX1_netOf_7 : decode cX1_netOf 7 = .ok (.if_icmp .ge 18, 3) := by decide +kernel
theorem dX1_netOf_10 : decode cX1_netOf 10 = .ok (.iload_n 2, 1) := by decide +kernel
theorem dX1_netOf_11 : decode cX1_netOf 11 = .ok (.aload_n 0, 1) := by decide +kernel
theorem dX1_netOf_12 : decode cX1_netOf 12 = .ok (.iload_n 3, 1) := by decide +kernel
theorem dX1_netOf_13 : decode cX1_netOf 13 = .ok (.iload_n 1, 1) := by decide +kernel
theorem dX1_netOf_14 : decode cX1_netOf 14 = .ok (.invokevirtual 51, 3) := by decide +kernel
theorem dX1_netOf_17 : decode cX1_netOf 17 = .ok (.iadd, 1) := by decide +kernel
theorem dX1_netOf_18 : decode cX1_netOf 18 = .ok (.istore_n 2, 1) := by decide +kernel
theorem dX1_netOf_19 : decode cX1_netOf 19 = .ok (.iinc 3 1, 3) := by decide +kernel
theorem dX1_netOf_22 : decode cX1_netOf 22 = .ok (.goto (-18), 3) := by decide +kernel
theorem dX1_netOf_25 : decode cX1_netOf 25 = .ok (.iload_n 2, 1) := by decide +kernel
theorem dX1_netOf_26 : decode cX1_netOf 26 = .ok (.ireturn, 1) := by decide +kernel
theorem dX1_addCry_0 : decode cX1_addCry 0 = .ok (.aload_n 0, 1) := by decide +kernel
theorem dX1_addCry_1 : decode cX1_addCry 1 = .ok (.getfield 34, 3) := by decide +kernel
theorem dX1_addCry_4 : decode cX1_addCry 4 = .ok (.ifCond .lt 12, 3) := by decide +kernel
theorem dX1_addCry_7 : decode cX1_addCry 7 = .ok (.aload_n 0, 1) := by decide +kernel
theorem dX1_addCry_8 : decode cX1_addCry 8 = .ok (.getfield 34, 3) := by decide +kernel
theorem dX1_addCry_11 : decode cX1_addCry 11 = .ok (.bipush 20, 2) := by decide +kernel
theorem dX1_addCry_13 : decode cX1_addCry 13 = .ok (.if_icmp .lt 4, 3) := by decide +kernel
theorem dX1_addCry_16 : decode cX1_addCry 16 = .ok (.return_, 1) := by decide +kernel
theorem dX1_addCry_17 : decode cX1_addCry 17 = .ok (.aload_n 0, 1) := by decide +kernel
theorem dX1_addCry_18 : decode cX1_addCry 18 = .ok (.getfield 15, 3) := by decide +kernel
theorem dX1_addCry_21 : decode cX1_addCry 21 = .ok (.aload_n 0, 1) := by decide +kernel
theorem dX1_addCry_22 : decode cX1_addCry 22 = .ok (.getfield 34, 3) := by decide +kernel
theorem dX1_addCry_25 : decode cX1_addCry 25 = .ok (.iload_n 1, 1) := by decide +kernel
theorem dX1_addCry_26 : decode cX1_addCry 26 = .ok (.iastore, 1) := by decide +kernel
theorem dX1_addCry_27 : decode cX1_addCry 27 = .ok (.aload_n 0, 1) := by decide +kernel
theorem dX1_addCry_28 : decode cX1_addCry 28 = .ok (.getfield 18, 3) := by decide +kernel
theorem dX1_addCry_31 : decode cX1_addCry 31 = .ok (.aload_n 0, 1) := by decide +kernel
theorem dX1_addCry_32 : decode cX1_addCry 32 = .ok (.getfield 34, 3) := by decide +kernel
theorem dX1_addCry_35 : decode cX1_addCry 35 = .ok (.iload_n 2, 1) := by decide +kernel
theorem dX1_addCry_36 : decode cX1_addCry 36 = .ok (.iastore, 1) := by decide +kernel
theorem dX1_addCry_37 : decode cX1_addCry 37 = .ok (.aload_n 0, 1) := by decide +kernel
theorem dX1_addCry_38 : decode cX1_addCry 38 = .ok (.getfield 21, 3) := by decide +kernel
theorem dX1_addCry_41 : decode cX1_addCry 41 = .ok (.aload_n 0, 1) := by decide +kernel
theorem dX1_addCry_42 : decode cX1_addCry 42 = .ok (.getfield 34, 3) := by decide +kernel
theorem dX1_addCry_45 : decode cX1_addCry 45 = .ok (.iload_n 3, 1) := by decide +kernel
theorem dX1_addCry_46 : decode cX1_addCry 46 = .ok (.bastore, 1) := by decide +kernel
theorem dX1_addCry_47 : decode cX1_addCry 47 = .ok (.aload_n 0, 1) := by decide +kernel
theorem dX1_addCry_48 : decode cX1_addCry 48 = .ok (.getfield 25, 3) := by decide +kernel
theorem dX1_addCry_51 : decode cX1_addCry 51 = .ok (.aload_n 0, 1) := by decide +kernel
theorem dX1_addCry_52 : decode cX1_addCry 52 = .ok (.getfield 34, 3) := by decide +kernel
theorem dX1_addCry_55 : decode cX1_addCry 55 = .ok (.iload 4, 2) := by decide +kernel
theorem dX1_addCry_57 : decode cX1_addCry 57 = .ok (.iastore, 1) := by decide +kernel
theorem dX1_addCry_58 : decode cX1_addCry 58 = .ok (.aload_n 0, 1) := by decide +kernel
theorem dX1_addCry_59 : decode cX1_addCry 59 = .ok (.dup, 1) := by decide +kernel
theorem dX1_addCry_60 : decode cX1_addCry 60 = .ok (.getfield 34, 3) := by decide +kernel
theorem dX1_addCry_63 : decode cX1_addCry 63 = .ok (.iconst 1, 1) := by decide +kernel
theorem dX1_addCry_64 : decode cX1_addCry 64 = .ok (.iadd, 1) := by decide +kernel
theorem dX1_addCry_65 : decode cX1_addCry 65 = .ok (.putfield 34, 3) := by decide +kernel
theorem dX1_addCry_68 : decode cX1_addCry 68 = .ok (.return_, 1) := by decide +kernel
theorem dX1_isCry_0 : decode cX1_isCry 0 = .ok (.iload_n 0, 1) := by decide +kernel
theorem dX1_isCry_1 : decode cX1_isCry 1 = .ok (.ifCond .lt 13, 3) := by decide +kernel
theorem dX1_isCry_4 : decode cX1_isCry 4 = .ok (.iload_n 0, 1) := by decide +kernel
theorem dX1_isCry_5 : decode cX1_isCry 5 = .ok (.bipush 20, 2) := by decide +kernel
theorem dX1_isCry_7 : decode cX1_isCry 7 = .ok (.if_icmp .ge 7, 3) := by decide +kernel
theorem dX1_isCry_10 : decode cX1_isCry 10 = .ok (.iconst 1, 1) := by decide +kernel
theorem dX1_isCry_11 : decode cX1_isCry 11 = .ok (.goto 4, 3) := by decide +kernel
theorem dX1_isCry_14 : decode cX1_isCry 14 = .ok (.iconst 0, 1) := by decide +kernel
theorem dX1_isCry_15 : decode cX1_isCry 15 = .ok (.ireturn, 1) := by decide +kernel
theorem dX1_crierOf_0 : decode cX1_crierOf 0 = .ok (.iload_n 1, 1) := by decide +kernel
theorem dX1_crierOf_1 : decode cX1_crierOf 1 = .ok (.invokestatic 55, 3) := by decide +kernel
theorem dX1_crierOf_4 : decode cX1_crierOf 4 = .ok (.ifCond .eq 12, 3) := by decide +kernel
theorem dX1_crierOf_7 : decode cX1_crierOf 7 = .ok (.aload_n 0, 1) := by decide +kernel
theorem dX1_crierOf_8 : decode cX1_crierOf 8 = .ok (.getfield 15, 3) := by decide +kernel
theorem dX1_crierOf_11 : decode cX1_crierOf 11 = .ok (.iload_n 1, 1) := by decide +kernel
theorem dX1_crierOf_12 : decode cX1_crierOf 12 = .ok (.iaload, 1) := by decide +kernel
theorem dX1_crierOf_13 : decode cX1_crierOf 13 = .ok (.goto 4, 3) := by decide +kernel
theorem dX1_crierOf_16 : decode cX1_crierOf 16 = .ok (.iconst (-1), 1) := by decide +kernel
theorem dX1_crierOf_17 : decode cX1_crierOf 17 = .ok (.ireturn, 1) := by decide +kernel
theorem dX1_loudOf_0 : decode cX1_loudOf 0 = .ok (.iload_n 1, 1) := by decide +kernel
theorem dX1_loudOf_1 : decode cX1_loudOf 1 = .ok (.invokestatic 55, 3) := by decide +kernel
theorem dX1_loudOf_4 : decode cX1_loudOf 4 = .ok (.ifCond .eq 12, 3) := by decide +kernel
theorem dX1_loudOf_7 : decode cX1_loudOf 7 = .ok (.aload_n 0, 1) := by decide +kernel
theorem dX1_loudOf_8 : decode cX1_loudOf 8 = .ok (.getfield 18, 3) := by decide +kernel
theorem dX1_loudOf_11 : decode cX1_loudOf 11 = .ok (.iload_n 1, 1) := by decide +kernel
theorem dX1_loudOf_12 : decode cX1_loudOf 12 = .ok (.iaload, 1) := by decide +kernel
theorem dX1_loudOf_13 : decode cX1_loudOf 13 = .ok (.goto 4, 3) := by decide +kernel
theorem dX1_loudOf_16 : decode cX1_loudOf 16 = .ok (.iconst 0, 1) := by decide +kernel
theorem dX1_loudOf_17 : decode cX1_loudOf 17 = .ok (.ireturn, 1) := by decide +kernel
theorem dX1_isHigh_0 : decode cX1_isHigh 0 = .ok (.iload_n 1, 1) := by decide +kernel
theorem dX1_isHigh_1 : decode cX1_isHigh 1 = .ok (.invokestatic 55, 3) := by decide +kernel
theorem dX1_isHigh_4 : decode cX1_isHigh 4 = .ok (.ifCond .eq 16, 3) := by decide +kernel
theorem dX1_isHigh_7 : decode cX1_isHigh 7 = .ok (.aload_n 0, 1) := by decide +kernel
theorem dX1_isHigh_8 : decode cX1_isHigh 8 = .ok (.getfield 21, 3) := by decide +kernel
theorem dX1_isHigh_11 : decode cX1_isHigh 11 = .ok (.iload_n 1, 1) := by decide +kernel
theorem dX1_isHigh_12 : decode cX1_isHigh 12 = .ok (.baload, 1) := by decide +kernel
theorem dX1_isHigh_13 : decode cX1_isHigh 13 = .ok (.ifCond .eq 7, 3) := by decide +kernel
theorem dX1_isHigh_16 : decode cX1_isHigh 16 = .ok (.iconst 1, 1) := by decide +kernel
theorem dX1_isHigh_17 : decode cX1_isHigh 17 = .ok (.goto 4, 3) := by decide +kernel
theorem dX1_isHigh_20 : decode cX1_isHigh 20 = .ok (.iconst 0, 1) := by decide +kernel
theorem dX1_isHigh_21 : decode cX1_isHigh 21 = .ok (.ireturn, 1) := by decide +kernel
theorem dX1_hourOf_0 : decode cX1_hourOf 0 = .ok (.iload_n 1, 1) := by decide +kernel
theorem dX1_hourOf_1 : decode cX1_hourOf 1 = .ok (.invokestatic 55, 3) := by decide +kernel
theorem dX1_hourOf_4 : decode cX1_hourOf 4 = .ok (.ifCond .eq 12, 3) := by decide +kernel
theorem dX1_hourOf_7 : decode cX1_hourOf 7 = .ok (.aload_n 0, 1) := by decide +kernel
theorem dX1_hourOf_8 : decode cX1_hourOf 8 = .ok (.getfield 25, 3) := by decide +kernel
theorem dX1_hourOf_11 : decode cX1_hourOf 11 = .ok (.iload_n 1, 1) := by decide +kernel
theorem dX1_hourOf_12 : decode cX1_hourOf 12 = .ok (.iaload, 1) := by decide +kernel
theorem dX1_hourOf_13 : decode cX1_hourOf 13 = .ok (.goto 4, 3) := by decide +kernel
theorem dX1_hourOf_16 : decode cX1_hourOf 16 = .ok (.iconst 0, 1) := by decide +kernel
theorem dX1_hourOf_17 : decode cX1_hourOf 17 = .ok (.ireturn, 1) := by decide +kernel
theorem dX1_criesOf_0 : decode cX1_criesOf 0 = .ok (.iconst 0, 1) := by decide +kernel
theorem dX1_criesOf_1 : decode cX1_criesOf 1 = .ok (.istore_n 2, 1) := by decide +kernel
theorem dX1_criesOf_2 : decode cX1_criesOf 2 = .ok (.iconst 0, 1) := by decide +kernel
theorem dX1_criesOf_3 : decode cX1_criesOf 3 = .ok (.istore_n 3, 1) := by decide +kernel
theorem dX1_criesOf_4 : decode cX1_criesOf 4 = .ok (.iload_n 3, 1) := by decide +kernel
theorem dX1_criesOf_5 : decode cX1_criesOf 5 = .ok (.aload_n 0, 1) := by decide +kernel
theorem dX1_criesOf_6 : decode cX1_criesOf 6 = .ok (.getfield 34, 3) := by decide +kernel
theorem dX1_criesOf_9 : decode cX1_criesOf 9 = .ok (.if_icmp .ge 21, 3) := by decide +kernel
theorem dX1_criesOf_12 : decode cX1_criesOf 12 = .ok (.aload_n 0, 1) := by decide +kernel
theorem dX1_criesOf_13 : decode cX1_criesOf 13 = .ok (.iload_n 3, 1) := by decide +kernel
theorem dX1_criesOf_14 : decode cX1_criesOf 14 = .ok (.invokevirtual 58, 3) := by decide +kernel
theorem dX1_criesOf_17 : decode cX1_criesOf 17 = .ok (.iload_n 1, 1) := by decide +kernel
theorem dX1_criesOf_18 : decode cX1_criesOf 18 = .ok (.if_icmp .ne 6, 3) := by decide +kernel
theorem dX1_criesOf_21 : decode cX1_criesOf 21 = .ok (.iinc 2 1, 3) := by decide +kernel
theorem dX1_criesOf_24 : decode cX1_criesOf 24 = .ok (.iinc 3 1, 3) := by decide +kernel
theorem dX1_criesOf_27 : decode cX1_criesOf 27 = .ok (.goto (-23), 3) := by decide +kernel
theorem dX1_criesOf_30 : decode cX1_criesOf 30 = .ok (.iload_n 2, 1) := by decide +kernel
theorem dX1_criesOf_31 : decode cX1_criesOf 31 = .ok (.ireturn, 1) := by decide +kernel
theorem dX1_addNote_0 : decode cX1_addNote 0 = .ok (.aload_n 0, 1) := by decide +kernel
theorem dX1_addNote_1 : decode cX1_addNote 1 = .ok (.getfield 38, 3) := by decide +kernel
theorem dX1_addNote_4 : decode cX1_addNote 4 = .ok (.ifCond .lt 12, 3) := by decide +kernel
theorem dX1_addNote_7 : decode cX1_addNote 7 = .ok (.aload_n 0, 1) := by decide +kernel
theorem dX1_addNote_8 : decode cX1_addNote 8 = .ok (.getfield 38, 3) := by decide +kernel
theorem dX1_addNote_11 : decode cX1_addNote 11 = .ok (.bipush 12, 2) := by decide +kernel
theorem dX1_addNote_13 : decode cX1_addNote 13 = .ok (.if_icmp .lt 4, 3) := by decide +kernel
theorem dX1_addNote_16 : decode cX1_addNote 16 = .ok (.return_, 1) := by decide +kernel
theorem dX1_addNote_17 : decode cX1_addNote 17 = .ok (.aload_n 0, 1) := by decide +kernel
theorem dX1_addNote_18 : decode cX1_addNote 18 = .ok (.getfield 28, 3) := by decide +kernel
theorem dX1_addNote_21 : decode cX1_addNote 21 = .ok (.aload_n 0, 1) := by decide +kernel
theorem dX1_addNote_22 : decode cX1_addNote 22 = .ok (.getfield 38, 3) := by decide +kernel
theorem dX1_addNote_25 : decode cX1_addNote 25 = .ok (.iload_n 1, 1) := by decide +kernel
theorem dX1_addNote_26 : decode cX1_addNote 26 = .ok (.iastore, 1) := by decide +kernel
theorem dX1_addNote_27 : decode cX1_addNote 27 = .ok (.aload_n 0, 1) := by decide +kernel
theorem dX1_addNote_28 : decode cX1_addNote 28 = .ok (.getfield 31, 3) := by decide +kernel
theorem dX1_addNote_31 : decode cX1_addNote 31 = .ok (.aload_n 0, 1) := by decide +kernel
theorem dX1_addNote_32 : decode cX1_addNote 32 = .ok (.getfield 38, 3) := by decide +kernel
theorem dX1_addNote_35 : decode cX1_addNote 35 = .ok (.iload_n 2, 1) := by decide +kernel
theorem dX1_addNote_36 : decode cX1_addNote 36 = .ok (.iastore, 1) := by decide +kernel
theorem dX1_addNote_37 : decode cX1_addNote 37 = .ok (.aload_n 0, 1) := by decide +kernel
theorem dX1_addNote_38 : decode cX1_addNote 38 = .ok (.dup, 1) := by decide +kernel
theorem dX1_addNote_39 : decode cX1_addNote 39 = .ok (.getfield 38, 3) := by decide +kernel
theorem dX1_addNote_42 : decode cX1_addNote 42 = .ok (.iconst 1, 1) := by decide +kernel
theorem dX1_addNote_43 : decode cX1_addNote 43 = .ok (.iadd, 1) := by decide +kernel
theorem dX1_addNote_44 : decode cX1_addNote 44 = .ok (.putfield 38, 3) := by decide +kernel
theorem dX1_addNote_47 : decode cX1_addNote 47 = .ok (.return_, 1) := by decide +kernel
theorem dX1_isNote_0 : decode cX1_isNote 0 = .ok (.iload_n 0, 1) := by decide +kernel
theorem dX1_isNote_1 : decode cX1_isNote 1 = .ok (.ifCond .lt 13, 3) := by decide +kernel
theorem dX1_isNote_4 : decode cX1_isNote 4 = .ok (.iload_n 0, 1) := by decide +kernel
theorem dX1_isNote_5 : decode cX1_isNote 5 = .ok (.bipush 12, 2) := by decide +kernel
theorem dX1_isNote_7 : decode cX1_isNote 7 = .ok (.if_icmp .ge 7, 3) := by decide +kernel
theorem dX1_isNote_10 : decode cX1_isNote 10 = .ok (.iconst 1, 1) := by decide +kernel
theorem dX1_isNote_11 : decode cX1_isNote 11 = .ok (.goto 4, 3) := by decide +kernel
theorem dX1_isNote_14 : decode cX1_isNote 14 = .ok (.iconst 0, 1) := by decide +kernel
theorem dX1_isNote_15 : decode cX1_isNote 15 = .ok (.ireturn, 1) := by decide +kernel
theorem dX1_hearerOf_0 : decode cX1_hearerOf 0 = .ok (.iload_n 1, 1) := by decide +kernel
theorem dX1_hearerOf_1 : decode cX1_hearerOf 1 = .ok (.invokestatic 62, 3) := by decide +kernel
theorem dX1_hearerOf_4 : decode cX1_hearerOf 4 = .ok (.ifCond .eq 12, 3) := by decide +kernel
theorem dX1_hearerOf_7 : decode cX1_hearerOf 7 = .ok (.aload_n 0, 1) := by decide +kernel
theorem dX1_hearerOf_8 : decode cX1_hearerOf 8 = .ok (.getfield 28, 3) := by decide +kernel
theorem dX1_hearerOf_11 : decode cX1_hearerOf 11 = .ok (.iload_n 1, 1) := by decide +kernel
theorem dX1_hearerOf_12 : decode cX1_hearerOf 12 = .ok (.iaload, 1) := by decide +kernel
theorem dX1_hearerOf_13 : decode cX1_hearerOf 13 = .ok (.goto 4, 3) := by decide +kernel
theorem dX1_hearerOf_16 : decode cX1_hearerOf 16 = .ok (.iconst (-1), 1) := by decide +kernel
theorem dX1_hearerOf_17 : decode cX1_hearerOf 17 = .ok (.ireturn, 1) := by decide +kernel
theorem dX1_minuteOf_0 : decode cX1_minuteOf 0 = .ok (.iload_n 1, 1) := by decide +kernel
theorem dX1_minuteOf_1 : decode cX1_minuteOf 1 = .ok (.invokestatic 62, 3) := by decide +kernel
theorem dX1_minuteOf_4 : decode cX1_minuteOf 4 = .ok (.ifCond .eq 12, 3) := by decide +kernel
theorem dX1_minuteOf_7 : decode cX1_minuteOf 7 = .ok (.aload_n 0, 1) := by decide +kernel
theorem dX1_minuteOf_8 : decode cX1_minuteOf 8 = .ok (.getfield 31, 3) := by decide +kernel
theorem dX1_minuteOf_11 : decode cX1_minuteOf 11 = .ok (.iload_n 1, 1) := by decide +kernel
theorem dX1_minuteOf_12 : decode cX1_minuteOf 12 = .ok (.iaload, 1) := by decide +kernel
theorem dX1_minuteOf_13 : decode cX1_minuteOf 13 = .ok (.goto 4, 3) := by decide +kernel
theorem dX1_minuteOf_16 : decode cX1_minuteOf 16 = .ok (.iconst 0, 1) := by decide +kernel
theorem dX1_minuteOf_17 : decode cX1_minuteOf 17 = .ok (.ireturn, 1) := by decide +kernel
theorem dX2_init_0 : decode cX2_init 0 = .ok (.aload_n 0, 1) := by decide +kernel
theorem dX2_init_1 : decode cX2_init 1 = .ok (.invokespecial 3, 3) := by decide +kernel
theorem dX2_init_4 : decode cX2_init 4 = .ok (.aload_n 0, 1) := by decide +kernel
theorem dX2_init_5 : decode cX2_init 5 = .ok (.iconst 4, 1) := by decide +kernel
theorem dX2_init_6 : decode cX2_init 6 = .ok (.putfield 9, 3) := by decide +kernel
theorem dX2_init_9 : decode cX2_init 9 = .ok (.aload_n 0, 1) := by decide +kernel
theorem dX2_init_10 : decode cX2_init 10 = .ok (.iconst 4, 1) := by decide +kernel
theorem dX2_init_11 : decode cX2_init 11 = .ok (.putfield 15, 3) := by decide +kernel
theorem dX2_init_14 : decode cX2_init 14 = .ok (.aload_n 0, 1) := by decide +kernel
theorem dX2_init_15 : decode cX2_init 15 = .ok (.iconst 1, 1) := by decide +kernel
theorem dX2_init_16 : decode cX2_init 16 = .ok (.putfield 18, 3) := by decide +kernel
theorem dX2_init_19 : decode cX2_init 19 = .ok (.aload_n 0, 1) := by decide +kernel
theorem dX2_init_20 : decode cX2_init 20 = .ok (.iconst 0, 1) := by decide +kernel
theorem dX2_init_21 : decode cX2_init 21 = .ok (.putfield 21, 3) := by decide +kernel
theorem dX2_init_24 : decode cX2_init 24 = .ok (.aload_n 0, 1) := by decide +kernel
theorem dX2_init_25 : decode cX2_init 25 = .ok (.iconst 0, 1) := by decide +kernel
theorem dX2_init_26 : decode cX2_init 26 = .ok (.putfield 24, 3) := by decide +kernel
theorem dX2_init_29 : decode cX2_init 29 = .ok (.aload_n 0, 1) := by decide +kernel
theorem dX2_init_30 : decode cX2_init 30 = .ok (.iconst 1, 1) := by decide +kernel
theorem dX2_init_31 : decode cX2_init 31 = .ok (.putfield 27, 3) := by decide +kernel
theorem dX2_init_34 : decode cX2_init 34 = .ok (.aload_n 0, 1) := by decide +kernel
theorem dX2_init_35 : decode cX2_init 35 = .ok (.bipush 36, 2) := by decide +kernel
theorem dX2_init_37 : decode cX2_init 37 = .ok (.newarray .int, 2) := by decide +kernel
theorem dX2_init_39 : decode cX2_init 39 = .ok (.putfield 30, 3) := by decide +kernel
theorem dX2_init_42 : decode cX2_init 42 = .ok (.aload_n 0, 1) := by decide +kernel
theorem dX2_init_43 : decode cX2_init 43 = .ok (.bipush 6, 2) := by decide +kernel
theorem dX2_init_45 : decode cX2_init 45 = .ok (.newarray .int, 2) := by decide +kernel
theorem dX2_init_47 : decode cX2_init 47 = .ok (.putfield 34, 3) := by decide +kernel
theorem dX2_init_50 : decode cX2_init 50 = .ok (.aload_n 0, 1) := by decide +kernel
theorem dX2_init_51 : decode cX2_init 51 = .ok (.bipush 18, 2) := by decide +kernel
theorem dX2_init_53 : decode cX2_init 53 = .ok (.newarray .int, 2) := by decide +kernel
theorem dX2_init_55 : decode cX2_init 55 = .ok (.putfield 37, 3) := by decide +kernel
theorem dX2_init_58 : decode cX2_init 58 = .ok (.aload_n 0, 1) := by decide +kernel
theorem dX2_init_59 : decode cX2_init 59 = .ok (.getfield 30, 3) := by decide +kernel
theorem dX2_init_62 : decode cX2_init 62 = .ok (.iconst (-1), 1) := by decide +kernel
theorem dX2_init_63 : decode cX2_init 63 = .ok (.invokestatic 40, 3) := by decide +kernel
theorem dX2_init_66 : decode cX2_init 66 = .ok (.aload_n 0, 1) := by decide +kernel
theorem dX2_init_67 : decode cX2_init 67 = .ok (.getfield 34, 3) := by decide +kernel
theorem dX2_init_70 : decode cX2_init 70 = .ok (.iconst (-1), 1) := by decide +kernel
theorem dX2_init_71 : decode cX2_init 71 = .ok (.invokestatic 40, 3) := by decide +kernel
theorem dX2_init_74 : decode cX2_init 74 = .ok (.return_, 1) := by decide +kernel
theorem dX2_copyFrom_0 : decode cX2_copyFrom 0 = .ok (.aload_n 0, 1) := by decide +kernel
theorem dX2_copyFrom_1 : decode cX2_copyFrom 1 = .ok (.aload_n 1, 1) := by decide +kernel
theorem dX2_copyFrom_2 : decode cX2_copyFrom 2 = .ok (.getfield 9, 3) := by decide +kernel
theorem dX2_copyFrom_5 : decode cX2_copyFrom 5 = .ok (.putfield 9, 3) := by decide +kernel
theorem dX2_copyFrom_8 : decode cX2_copyFrom 8 = .ok (.aload_n 0, 1) := by decide +kernel
theorem dX2_copyFrom_9 : decode cX2_copyFrom 9 = .ok (.aload_n 1, 1) := by decide +kernel
theorem dX2_copyFrom_10 : decode cX2_copyFrom 10 = .ok (.getfield 15, 3) := by decide +kernel
theorem dX2_copyFrom_13 : decode cX2_copyFrom 13 = .ok (.putfield 15, 3) := by decide +kernel
theorem dX2_copyFrom_16 : decode cX2_copyFrom 16 = .ok (.aload_n 0, 1) := by decide +kernel
theorem dX2_copyFrom_17 : decode cX2_copyFrom 17 = .ok (.aload_n 1, 1) := by decide +kernel
theorem dX2_copyFrom_18 : decode cX2_copyFrom 18 = .ok (.getfield 18, 3) := by decide +kernel
theorem dX2_copyFrom_21 : decode cX2_copyFrom 21 = .ok (.putfield 18, 3) := by decide +kernel
theorem dX2_copyFrom_24 : decode cX2_copyFrom 24 = .ok (.aload_n 0, 1) := by decide +kernel
theorem dX2_copyFrom_25 : decode cX2_copyFrom 25 = .ok (.aload_n 1, 1) := by decide +kernel
theorem dX2_copyFrom_26 : decode cX2_copyFrom 26 = .ok (.getfield 21, 3) := by decide +kernel
theorem dX2_copyFrom_29 : decode cX2_copyFrom 29 = .ok (.putfield 21, 3) := by decide +kernel
theorem dX2_copyFrom_32 : decode cX2_copyFrom 32 = .ok (.aload_n 0, 1) := by decide +kernel
theorem dX2_copyFrom_33 : decode cX2_copyFrom 33 = .ok (.aload_n 1, 1) := by decide +kernel
theorem dX2_copyFrom_34 : decode cX2_copyFrom 34 = .ok (.getfield 24, 3) := by decide +kernel
theorem dX2_copyFrom_37 : decode cX2_copyFrom 37 = .ok (.putfield 24, 3) := by decide +kernel
theorem dX2_copyFrom_40 : decode cX2_copyFrom 40 = .ok (.aload_n 0, 1) := by decide +kernel
theorem dX2_copyFrom_41 : decode cX2_copyFrom 41 = .ok (.aload_n 1, 1) := by decide +kernel
theorem dX2_copyFrom_42 : decode cX2_copyFrom 42 = .ok (.getfield 27, 3) := by decide +kernel
theorem dX2_copyFrom_45 : decode cX2_copyFrom 45 = .ok (.putfield 27, 3) := by decide +kernel
theorem dX2_copyFrom_48 : decode cX2_copyFrom 48 = .ok (.iconst 0, 1) := by decide +kernel
theorem dX2_copyFrom_49 : decode cX2_copyFrom 49 = .ok (.istore_n 2, 1) := by decide +kernel
theorem dX2_copyFrom_50 : decode cX2_copyFrom 50 = .ok (.iload_n 2, 1) := by decide +kernel
theorem dX2_copyFrom_51 : decode cX2_copyFrom 51 = .ok (.bipush 36, 2) := by decide +kernel
theorem dX2_copyFrom_53 : decode cX2_copyFrom 53 = .ok (.if_icmp .ge 21, 3) := by decide +kernel
theorem dX2_copyFrom_56 : decode cX2_copyFrom 56 = .ok (.aload_n 0, 1) := by decide +kernel
theorem dX2_copyFrom_57 : decode cX2_copyFrom 57 = .ok (.getfield 30, 3) := by decide +kernel
theorem dX2_copyFrom_60 : decode cX2_copyFrom 60 = .ok (.iload_n 2, 1) := by decide +kernel
theorem dX2_copyFrom_61 : decode cX2_copyFrom 61 = .ok (.aload_n 1, 1) := by decide +kernel
theorem dX2_copyFrom_62 : decode cX2_copyFrom 62 = .ok (.getfield 30, 3) := by decide +kernel
theorem dX2_copyFrom_65 : decode cX2_copyFrom 65 = .ok (.iload_n 2, 1) := by decide +kernel
theorem dX2_copyFrom_66 : decode cX2_copyFrom 66 = .ok (.iaload, 1) := by decide +kernel
theorem dX2_copyFrom_67 : decode cX2_copyFrom 67 = .ok (.iastore, 1) := by decide +kernel
theorem dX2_copyFrom_68 : decode cX2_copyFrom 68 = .ok (.iinc 2 1, 3) := by decide +kernel
theorem dX2_copyFrom_71 : decode cX2_copyFrom 71 = .ok (.goto (-21), 3) := by decide +kernel
theorem dX2_copyFrom_74 : decode cX2_copyFrom 74 = .ok (.iconst 0, 1) := by decide +kernel
theorem dX2_copyFrom_75 : decode cX2_copyFrom 75 = .ok (.istore_n 2, 1) := by decide +kernel
theorem dX2_copyFrom_76 : decode cX2_copyFrom 76 = .ok (.iload_n 2, 1) := by decide +kernel
theorem dX2_copyFrom_77 : decode cX2_copyFrom 77 = .ok (.bipush 6, 2) := by decide +kernel
theorem dX2_copyFrom_79 : decode cX2_copyFrom 79 = .ok (.if_icmp .ge 21, 3) := by decide +kernel
theorem dX2_copyFrom_82 : decode cX2_copyFrom 82 = .ok (.aload_n 0, 1) := by decide +kernel
theorem dX2_copyFrom_83 : decode cX2_copyFrom 83 = .ok (.getfield 34, 3) := by decide +kernel
theorem dX2_copyFrom_86 : decode cX2_copyFrom 86 = .ok (.iload_n 2, 1) := by decide +kernel
theorem dX2_copyFrom_87 : decode cX2_copyFrom 87 = .ok (.aload_n 1, 1) := by decide +kernel
theorem dX2_copyFrom_88 : decode cX2_copyFrom 88 = .ok (.getfield 34, 3) := by decide +kernel
theorem dX2_copyFrom_91 : decode cX2_copyFrom 91 = .ok (.iload_n 2, 1) := by decide +kernel
theorem dX2_copyFrom_92 : decode cX2_copyFrom 92 = .ok (.iaload, 1) := by decide +kernel
theorem dX2_copyFrom_93 : decode cX2_copyFrom 93 = .ok (.iastore, 1) := by decide +kernel
theorem dX2_copyFrom_94 : decode cX2_copyFrom 94 = .ok (.iinc 2 1, 3) := by decide +kernel
theorem dX2_copyFrom_97 : decode cX2_copyFrom 97 = .ok (.goto (-21), 3) := by decide +kernel
theorem dX2_copyFrom_100 : decode cX2_copyFrom 100 = .ok (.iconst 0, 1) := by decide +kernel
theorem dX2_copyFrom_101 : decode cX2_copyFrom 101 = .ok (.istore_n 2, 1) := by decide +kernel
theorem dX2_copyFrom_102 : decode cX2_copyFrom 102 = .ok (.iload_n 2, 1) := by decide +kernel
theorem dX2_copyFrom_103 : decode cX2_copyFrom 103 = .ok (.bipush 18, 2) := by decide +kernel
theorem dX2_copyFrom_105 : decode cX2_copyFrom 105 = .ok (.if_icmp .ge 21, 3) := by decide +kernel
theorem dX2_copyFrom_108 : decode cX2_copyFrom 108 = .ok (.aload_n 0, 1) := by decide +kernel
theorem dX2_copyFrom_109 : decode cX2_copyFrom 109 = .ok (.getfield 37, 3) := by decide +kernel
theorem dX2_copyFrom_112 : decode cX2_copyFrom 112 = .ok (.iload_n 2, 1) := by decide +kernel
theorem dX2_copyFrom_113 : decode cX2_copyFrom 113 = .ok (.aload_n 1, 1) := by decide +kernel
theorem dX2_copyFrom_114 : decode cX2_copyFrom 114 = .ok (.getfield 37, 3) := by decide +kernel
theorem dX2_copyFrom_117 : decode cX2_copyFrom 117 = .ok (.iload_n 2, 1) := by decide +kernel
theorem dX2_copyFrom_118 : decode cX2_copyFrom 118 = .ok (.iaload, 1) := by decide +kernel
theorem dX2_copyFrom_119 : decode cX2_copyFrom 119 = .ok (.iastore, 1) := by decide +kernel
theorem dX2_copyFrom_120 : decode cX2_copyFrom 120 = .ok (.iinc 2 1, 3) := by decide +kernel
theorem dX2_copyFrom_123 : decode cX2_copyFrom 123 = .ok (.goto (-21), 3) := by decide +kernel
theorem dX2_copyFrom_126 : decode cX2_copyFrom 126 = .ok (.return_, 1) := by decide +kernel
theorem dX2_cells_0 : decode cX2_cells 0 = .ok (.aload_n 0, 1) := by decide +kernel
theorem dX2_cells_1 : decode cX2_cells 1 = .ok (.getfield 9, 3) := by decide +kernel
theorem dX2_cells_4 : decode cX2_cells 4 = .ok (.aload_n 0, 1) := by decide +kernel
theorem dX2_cells_5 : decode cX2_cells 5 = .ok (.getfield 15, 3) := by decide +kernel
theorem dX2_cells_8 : decode cX2_cells 8 = .ok (.imul, 1) := by decide +kernel
theorem dX2_cells_9 : decode cX2_cells 9 = .ok (.ireturn, 1) := by decide +kernel
theorem dX2_has_0 : decode cX2_has 0 = .ok (.iload_n 1, 1) := by decide +kernel
theorem dX2_has_1 : decode cX2_has 1 = .ok (.ifCond .lt 26, 3) := by decide +kernel
theorem dX2_has_4 : decode cX2_has 4 = .ok (.iload_n 1, 1) := by decide +kernel
theorem dX2_has_5 : decode cX2_has 5 = .ok (.aload_n 0, 1) := by decide +kernel
theorem dX2_has_6 : decode cX2_has 6 = .ok (.getfield 9, 3) := by decide +kernel
theorem dX2_has_9 : decode cX2_has 9 = .ok (.aload_n 0, 1) := by decide +kernel
theorem dX2_has_10 : decode cX2_has 10 = .ok (.getfield 15, 3) := by decide +kernel
theorem dX2_has_13 : decode cX2_has 13 = .ok (.imul, 1) := by decide +kernel
theorem dX2_has_14 : decode cX2_has 14 = .ok (.if_icmp .ge 13, 3) := by decide +kernel
theorem dX2_has_17 : decode cX2_has 17 = .ok (.iload_n 1, 1) := by decide +kernel
theorem dX2_has_18 : decode cX2_has 18 = .ok (.bipush 36, 2) := by decide +kernel
theorem dX2_has_20 : decode cX2_has 20 = .ok (.if_icmp .ge 7, 3) := by decide +kernel
theorem dX2_has_23 : decode cX2_has 23 = .ok (.iconst 1, 1) := by decide +kernel
theorem dX2_has_24 : decode cX2_has 24 = .ok (.goto 4, 3) := by decide +kernel
theorem dX2_has_27 : decode cX2_has 27 = .ok (.iconst 0, 1) := by decide +kernel
theorem dX2_has_28 : decode cX2_has 28 = .ok (.ireturn, 1) := by decide +kernel
theorem dX2_cellAt_0 : decode cX2_cellAt 0 = .ok (.iload_n 1, 1) := by decide +kernel
theorem dX2_cellAt_1 : decode cX2_cellAt 1 = .ok (.ifCond .lt 23, 3) := by decide +kernel
theorem dX2_cellAt_4 : decode cX2_cellAt 4 = .ok (.iload_n 1, 1) := by decide +kernel
theorem dX2_cellAt_5 : decode cX2_cellAt 5 = .ok (.aload_n 0, 1) := by decide +kernel
theorem dX2_cellAt_6 : decode cX2_cellAt 6 = .ok (.getfield 9, 3) := by decide +kernel
theorem dX2_cellAt_9 : decode cX2_cellAt 9 = .ok (.if_icmp .ge 15, 3) := by decide +kernel
theorem dX2_cellAt_12 : decode cX2_cellAt 12 = .ok (.iload_n 2, 1) := by decide +kernel
theorem dX2_cellAt_13 : decode cX2_cellAt 13 = .ok (.ifCond .lt 11, 3) := by decide +kernel
theorem dX2_cellAt_16 : decode cX2_cellAt 16 = .ok (.iload_n 2, 1) := by decide +kernel
theorem dX2_cellAt_17 : decode cX2_cellAt 17 = .ok (.aload_n 0, 1) := by decide +kernel
theorem dX2_cellAt_18 : decode cX2_cellAt 18 = .ok (.getfield 15, 3) := by decide +kernel
theorem dX2_cellAt_21 : decode cX2_cellAt 21 = .ok (.if_icmp .lt 5, 3) := by decide +kernel
theorem dX2_cellAt_24 : decode cX2_cellAt 24 = .ok (.iconst (-1), 1) := by decide +kernel
theorem dX2_cellAt_25 : decode cX2_cellAt 25 = .ok (.ireturn, 1) := by decide +kernel
theorem dX2_cellAt_26 : decode cX2_cellAt 26 = .ok (.aload_n 0, 1) := by decide +kernel
theorem dX2_cellAt_27 : decode cX2_cellAt 27 = .ok (.getfield 9, 3) := by decide +kernel
theorem dX2_cellAt_30 : decode cX2_cellAt 30 = .ok (.iload_n 2, 1) := by decide +kernel
theorem dX2_cellAt_31 : decode cX2_cellAt 31 = .ok (.imul, 1) := by decide +kernel
theorem dX2_cellAt_32 : decode cX2_cellAt 32 = .ok (.iload_n 1, 1) := by decide +kernel
theorem dX2_cellAt_33 : decode cX2_cellAt 33 = .ok (.iadd, 1) := by decide +kernel
theorem dX2_cellAt_34 : decode cX2_cellAt 34 = .ok (.ireturn, 1) := by decide +kernel
theorem dX2_columnOf_0 : decode cX2_columnOf 0 = .ok (.aload_n 0, 1) := by decide +kernel
theorem dX2_columnOf_1 : decode cX2_columnOf 1 = .ok (.getfield 9, 3) := by decide +kernel
theorem dX2_columnOf_4 : decode cX2_columnOf 4 = .ok (.iconst 1, 1) := by decide +kernel
theorem dX2_columnOf_5 : decode cX2_columnOf 5 = .ok (.if_icmp .ge 7, 3) := by decide +kernel
theorem dX2_columnOf_8 : decode cX2_columnOf 8 = .ok (.iconst 0, 1) := by decide +kernel
theorem dX2_columnOf_9 : decode cX2_columnOf 9 = .ok (.goto 9, 3) := by decide +kernel
theorem dX2_columnOf_12 : decode cX2_columnOf 12 = .ok (.iload_n 1, 1) := by decide +kernel
theorem dX2_columnOf_13 : decode cX2_columnOf 13 = .ok (.aload_n 0, 1) := by decide +kernel
theorem dX2_columnOf_14 : decode cX2_columnOf 14 = .ok (.getfield 9, 3) := by decide +kernel
theorem dX2_columnOf_17 : decode cX2_columnOf 17 = .ok (.irem, 1) := by decide +kernel
theorem dX2_columnOf_18 : decode cX2_columnOf 18 = .ok (.ireturn, 1) := by decide +kernel
theorem dX2_rowOf_0 : decode cX2_rowOf 0 = .ok (.aload_n 0, 1) := by decide +kernel
theorem dX2_rowOf_1 : decode cX2_rowOf 1 = .ok (.getfield 9, 3) := by decide +kernel
theorem dX2_rowOf_4 : decode cX2_rowOf 4 = .ok (.iconst 1, 1) := by decide +kernel
theorem dX2_rowOf_5 : decode cX2_rowOf 5 = .ok (.if_icmp .ge 7, 3) := by decide +kernel
theorem dX2_rowOf_8 : decode cX2_rowOf 8 = .ok (.iconst 0, 1) := by decide +kernel
theorem dX2_rowOf_9 : decode cX2_rowOf 9 = .ok (.goto 9, 3) := by decide +kernel
theorem dX2_rowOf_12 : decode cX2_rowOf 12 = .ok (.iload_n 1, 1) := by decide +kernel
theorem dX2_rowOf_13 : decode cX2_rowOf 13 = .ok (.aload_n 0, 1) := by decide +kernel
theorem dX2_rowOf_14 : decode cX2_rowOf 14 = .ok (.getfield 9, 3) := by decide +kernel
theorem dX2_rowOf_17 : decode cX2_rowOf 17 = .ok (.idiv, 1) := by decide +kernel
theorem dX2_rowOf_18 : decode cX2_rowOf 18 = .ok (.ireturn, 1) := by decide +kernel
theorem dX2_isRock_0 : decode cX2_isRock 0 = .ok (.aload_n 0, 1) := by decide +kernel
theorem dX2_isRock_1 : decode cX2_isRock 1 = .ok (.iload_n 1, 1) := by decide +kernel
theorem dX2_isRock_2 : decode cX2_isRock 2 = .ok (.invokevirtual 46, 3) := by decide +kernel
theorem dX2_isRock_5 : decode cX2_isRock 5 = .ok (.ifCond .eq 17, 3) := by decide +kernel
theorem dX2_isRock_8 : decode cX2_isRock 8 = .ok (.aload_n 0, 1) := by decide +kernel
theorem dX2_isRock_9 : decode cX2_isRock 9 = .ok (.getfield 30, 3) := by decide +kernel
theorem dX2_isRock_12 : decode cX2_isRock 12 = .ok (.iload_n 1, 1) := by decide +kernel
theorem dX2_isRock_13 : decode cX2_isRock 13 = .ok (.iaload, 1) := by decide +kernel
theorem dX2_isRock_14 : decode cX2_isRock 14 = .ok (.iconst (-1), 1) := by decide +kernel
theorem dX2_isRock_15 : decode cX2_isRock 15 = .ok (.if_icmp .eq 7, 3) := by decide +kernel
theorem dX2_isRock_18 : decode cX2_isRock 18 = .ok (.iconst 1, 1) := by decide +kernel
theorem dX2_isRock_19 : decode cX2_isRock 19 = .ok (.goto 4, 3) := by decide +kernel
theorem dX2_isRock_22 : decode cX2_isRock 22 = .ok (.iconst 0, 1) := by decide +kernel
theorem dX2_isRock_23 : decode cX2_isRock 23 = .ok (.ireturn, 1) := by decide +kernel
theorem dX2_isFloor_0 : decode cX2_isFloor 0 = .ok (.aload_n 0, 1) := by decide +kernel
theorem dX2_isFloor_1 : decode cX2_isFloor 1 = .ok (.iload_n 1, 1) := by decide +kernel
theorem dX2_isFloor_2 : decode cX2_isFloor 2 = .ok (.invokevirtual 46, 3) := by decide +kernel
theorem dX2_isFloor_5 : decode cX2_isFloor 5 = .ok (.ifCond .eq 17, 3) := by decide +kernel
theorem dX2_isFloor_8 : decode cX2_isFloor 8 = .ok (.aload_n 0, 1) := by decide +kernel
theorem dX2_isFloor_9 : decode cX2_isFloor 9 = .ok (.getfield 30, 3) := by decide +kernel
theorem dX2_isFloor_12 : decode cX2_isFloor 12 = .ok (.iload_n 1, 1) := by decide +kernel
theorem dX2_isFloor_13 : decode cX2_isFloor 13 = .ok (.iaload, 1) := by decide +kernel
theorem dX2_isFloor_14 : decode cX2_isFloor 14 = .ok (.iconst (-1), 1) := by decide +kernel
theorem dX2_isFloor_15 : decode cX2_isFloor 15 = .ok (.if_icmp .ne 7, 3) := by decide +kernel
theorem dX2_isFloor_18 : decode cX2_isFloor 18 = .ok (.iconst 1, 1) := by decide +kernel
theorem dX2_isFloor_19 : decode cX2_isFloor 19 = .ok (.goto 4, 3) := by decide +kernel
theorem dX2_isFloor_22 : decode cX2_isFloor 22 = .ok (.iconst 0, 1) := by decide +kernel
theorem dX2_isFloor_23 : decode cX2_isFloor 23 = .ok (.ireturn, 1) := by decide +kernel
theorem dX2_softOf_0 : decode cX2_softOf 0 = .ok (.aload_n 0, 1) := by decide +kernel
theorem dX2_softOf_1 : decode cX2_softOf 1 = .ok (.iload_n 1, 1) := by decide +kernel
theorem dX2_softOf_2 : decode cX2_softOf 2 = .ok (.invokevirtual 46, 3) := by decide +kernel
theorem dX2_softOf_5 : decode cX2_softOf 5 = .ok (.ifCond .eq 16, 3) := by decide +kernel
theorem dX2_softOf_8 : decode cX2_softOf 8 = .ok (.iconst 0, 1) := by decide +kernel
theorem dX2_softOf_9 : decode cX2_softOf 9 = .ok (.aload_n 0, 1) := by decide +kernel
theorem dX2_softOf_10 : decode cX2_softOf 10 = .ok (.getfield 30, 3) := by decide +kernel
theorem dX2_softOf_13 : decode cX2_softOf 13 = .ok (.iload_n 1, 1) := by decide +kernel
theorem dX2_softOf_14 : decode cX2_softOf 14 = .ok (.iaload, 1) := by decide +kernel
theorem dX2_softOf_15 : decode cX2_softOf 15 = .ok (.invokestatic 50, 3) := by decide +kernel
theorem dX2_softOf_18 : decode cX2_softOf 18 = .ok (.goto 4, 3) := by decide +kernel
theorem dX2_softOf_21 : decode cX2_softOf 21 = .ok (.iconst 0, 1) := by decide +kernel
theorem dX2_softOf_22 : decode cX2_softOf 22 = .ok (.ireturn, 1) := by decide +kernel
theorem dX2_rocks_0 : decode cX2_rocks 0 = .ok (.iconst 0, 1) := by decide +kernel
theorem dX2_rocks_1 : decode cX2_rocks 1 = .ok (.istore_n 1, 1) := by decide +kernel
theorem dX2_rocks_2 : decode cX2_rocks 2 = .ok (.iconst 0, 1) := by decide +kernel
theorem dX2_rocks_3 : decode cX2_rocks 3 = .ok (.istore_n 2, 1) := by decide +kernel
theorem dX2_rocks_4 : decode cX2_rocks 4 = .ok (.iload_n 2, 1) := by decide +kernel
theorem dX2_rocks_5 : decode cX2_rocks 5 = .ok (.aload_n 0, 1) := by decide +kernel
theorem dX2_rocks_6 : decode cX2_rocks 6 = .ok (.invokevirtual 56, 3) := by decide +kernel
theorem dX2_rocks_9 : decode cX2_rocks 9 = .ok (.if_icmp .ge 20, 3) := by decide +kernel
theorem dX2_rocks_12 : decode cX2_rocks 12 = .ok (.aload_n 0, 1) := by decide +kernel
theorem dX2_rocks_13 : decode cX2_rocks 13 = .ok (.iload_n 2, 1) := by decide +kernel
theorem dX2_rocks_14 : decode cX2_rocks 14 = .ok (.invokevirtual 60, 3) := by decide +kernel
theorem dX2_rocks_17 : decode cX2_rocks 17 = .ok (.ifCond .eq 6, 3) := by decide +kernel
theorem dX2_rocks_20 : decode cX2_rocks 20 = .ok (.iinc 1 1, 3) := by decide +kernel
theorem dX2_rocks_23 : decode cX2_rocks 23 = .ok (.iinc 2 1, 3) := by decide +kernel
theorem dX2_rocks_26 : decode cX2_rocks 26 = .ok (.goto (-22), 3) := by decide +kernel
theorem dX2_rocks_29 : decode cX2_rocks 29 = .ok (.iload_n 1, 1) := by decide +kernel
theorem dX2_rocks_30 : decode cX2_rocks 30 = .ok (.ireturn, 1) := by decide +kernel
theorem dX2_lay_0 : decode cX2_lay 0 = .ok (.aload_n 0, 1) := by decide +kernel
theorem dX2_lay_1 : decode cX2_lay 1 = .ok (.iload_n 1, 1) := by decide +kernel
theorem dX2_lay_2 : decode cX2_lay 2 = .ok (.putfield 9, 3) := by decide +kernel
theorem dX2_lay_5 : decode cX2_lay 5 = .ok (.aload_n 0, 1) := by decide +kernel
theorem dX2_lay_6 : decode cX2_lay 6 = .ok (.iload_n 2, 1) := by decide +kernel
theorem dX2_lay_7 : decode cX2_lay 7 = .ok (.putfield 15, 3) := by decide +kernel
theorem dX2_lay_10 : decode cX2_lay 10 = .ok (.aload_n 0, 1) := by decide +kernel
theorem dX2_lay_11 : decode cX2_lay 11 = .ok (.getfield 30, 3) := by decide +kernel
theorem dX2_lay_14 : decode cX2_lay 14 = .ok (.iconst (-1), 1) := by decide +kernel
theorem dX2_lay_15 : decode cX2_lay 15 = .ok (.invokestatic 40, 3) := by decide +kernel
theorem dX2_lay_18 : decode cX2_lay 18 = .ok (.aload_n 0, 1) := by decide +kernel
theorem dX2_lay_19 : decode cX2_lay 19 = .ok (.getfield 34, 3) := by decide +kernel
theorem dX2_lay_22 : decode cX2_lay 22 = .ok (.iconst (-1), 1) := by decide +kernel
theorem dX2_lay_23 : decode cX2_lay 23 = .ok (.invokestatic 40, 3) := by decide +kernel
theorem dX2_lay_26 : decode cX2_lay 26 = .ok (.return_, 1) := by decide +kernel
theorem dX2_putRock_0 : decode cX2_putRock 0 = .ok (.aload_n 0, 1) := by decide +kernel
theorem dX2_putRock_1 : decode cX2_putRock 1 = .ok (.iload_n 1, 1) := by decide +kernel
theorem dX2_putRock_2 : decode cX2_putRock 2 = .ok (.invokevirtual 46, 3) := by decide +kernel
theorem dX2_putRock_5 : decode cX2_putRock 5 = .ok (.ifCond .ne 4, 3) := by decide +kernel
theorem dX2_putRock_8 : decode cX2_putRock 8 = .ok (.return_, 1) := by decide +kernel
theorem dX2_putRock_9 : decode cX2_putRock 9 = .ok (.aload_n 0, 1) := by decide +kernel
theorem dX2_putRock_10 : decode cX2_putRock 10 = .ok (.getfield 30, 3) := by decide +kernel
theorem dX2_putRock_13 : decode cX2_putRock 13 = .ok (.iload_n 1, 1) := by decide +kernel
theorem dX2_putRock_14 : decode cX2_putRock 14 = .ok (.iload_n 2, 1) := by decide +kernel
theorem dX2_putRock_15 : decode cX2_putRock 15 = .ok (.iastore, 1) := by decide +kernel
theorem dX2_putRock_16 : decode cX2_putRock 16 = .ok (.iconst 0, 1) := by decide +kernel
theorem dX2_putRock_17 : decode cX2_putRock 17 = .ok (.istore_n 3, 1) := by decide +kernel
theorem dX2_putRock_18 : decode cX2_putRock 18 = .ok (.iload_n 3, 1) := by decide +kernel
theorem dX2_putRock_19 : decode cX2_putRock 19 = .ok (.bipush 6, 2) := by decide +kernel
theorem dX2_putRock_21 : decode cX2_putRock 21 = .ok (.if_icmp .ge 26, 3) := by decide +kernel
theorem dX2_putRock_24 : decode cX2_putRock 24 = .ok (.aload_n 0, 1) := by decide +kernel
theorem dX2_putRock_25 : decode cX2_putRock 25 = .ok (.getfield 34, 3) := by decide +kernel
theorem dX2_putRock_28 : decode cX2_putRock 28 = .ok (.iload_n 3, 1) := by decide +kernel
theorem dX2_putRock_29 : decode cX2_putRock 29 = .ok (.iaload, 1) := by decide +kernel
theorem dX2_putRock_30 : decode cX2_putRock 30 = .ok (.iload_n 1, 1) := by decide +kernel
theorem dX2_putRock_31 : decode cX2_putRock 31 = .ok (.if_icmp .ne 10, 3) := by decide +kernel
theorem dX2_putRock_34 : decode cX2_putRock 34 = .ok (.aload_n 0, 1) := by decide +kernel
theorem dX2_putRock_35 : decode cX2_putRock 35 = .ok (.getfield 34, 3) := by decide +kernel
theorem dX2_putRock_38 : decode cX2_putRock 38 = .ok (.iload_n 3, 1) := by decide +kernel
theorem dX2_putRock_39 : decode cX2_putRock 39 = .ok (.iconst (-1), 1) := by decide +kernel
theorem dX2_putRock_40 : decode cX2_putRock 40 = .ok (.iastore, 1) := by decide +kernel
theorem dX2_putRock_41 : decode cX2_putRock 41 = .ok (.iinc 3 1, 3) := by decide +kernel
theorem dX2_putRock_44 : decode cX2_putRock 44 = .ok (.goto (-26), 3) := by decide +kernel
theorem dX2_putRock_47 : decode cX2_putRock 47 = .ok (.return_, 1) := by decide +kernel
theorem dX2_putFloor_0 : decode cX2_putFloor 0 = .ok (.aload_n 0, 1) := by decide +kernel
theorem dX2_putFloor_1 : decode cX2_putFloor 1 = .ok (.iload_n 1, 1) := by decide +kernel
theorem dX2_putFloor_2 : decode cX2_putFloor 2 = .ok (.invokevirtual 46, 3) := by decide +kernel
theorem dX2_putFloor_5 : decode cX2_putFloor 5 = .ok (.ifCond .eq 10, 3) := by decide +kernel
theorem dX2_putFloor_8 : decode cX2_putFloor 8 = .ok (.aload_n 0, 1) := by decide +kernel
theorem dX2_putFloor_9 : decode cX2_putFloor 9 = .ok (.getfield 30, 3) := by decide +kernel
theorem dX2_putFloor_12 : decode cX2_putFloor 12 = .ok (.iload_n 1, 1) := by decide +kernel
theorem dX2_putFloor_13 : decode cX2_putFloor 13 = .ok (.iconst (-1), 1) := by decide +kernel
theorem dX2_putFloor_14 : decode cX2_putFloor 14 = .ok (.iastore, 1) := by decide +kernel
theorem dX2_putFloor_15 : decode cX2_putFloor 15 = .ok (.return_, 1) := by decide +kernel
theorem dX2_flip_0 : decode cX2_flip 0 = .ok (.aload_n 0, 1) := by decide +kernel
theorem dX2_flip_1 : decode cX2_flip 1 = .ok (.iload_n 1, 1) := by decide +kernel
theorem dX2_flip_2 : decode cX2_flip 2 = .ok (.invokevirtual 60, 3) := by decide +kernel
theorem dX2_flip_5 : decode cX2_flip 5 = .ok (.ifCond .eq 11, 3) := by decide +kernel
theorem dX2_flip_8 : decode cX2_flip 8 = .ok (.aload_n 0, 1) := by decide +kernel
theorem dX2_flip_9 : decode cX2_flip 9 = .ok (.iload_n 1, 1) := by decide +kernel
theorem dX2_flip_10 : decode cX2_flip 10 = .ok (.invokevirtual 63, 3) := by decide +kernel
theorem dX2_flip_13 : decode cX2_flip 13 = .ok (.goto 9, 3) := by decide +kernel
theorem dX2_flip_16 : decode cX2_flip 16 = .ok (.aload_n 0, 1) := by decide +kernel
theorem dX2_flip_17 : decode cX2_flip 17 = .ok (.iload_n 1, 1) := by decide +kernel
theorem dX2_flip_18 : decode cX2_flip 18 = .ok (.iconst 0, 1) := by decide +kernel
theorem dX2_flip_19 : decode cX2_flip 19 = .ok (.invokevirtual 67, 3) := by decide +kernel
theorem dX2_flip_22 : decode cX2_flip 22 = .ok (.return_, 1) := by decide +kernel
theorem dX2_place_0 : decode cX2_place 0 = .ok (.iload_n 1, 1) := by decide +kernel
theorem dX2_place_1 : decode cX2_place 1 = .ok (.invokestatic 71, 3) := by decide +kernel
theorem dX2_place_4 : decode cX2_place 4 = .ok (.ifCond .eq 10, 3) := by decide +kernel
theorem dX2_place_7 : decode cX2_place 7 = .ok (.aload_n 0, 1) := by decide +kernel
theorem dX2_place_8 : decode cX2_place 8 = .ok (.getfield 34, 3) := by decide +kernel
theorem dX2_place_11 : decode cX2_place 11 = .ok (.iload_n 1, 1) := by decide +kernel
theorem dX2_place_12 : decode cX2_place 12 = .ok (.iload_n 2, 1) := by decide +kernel
theorem dX2_place_13 : decode cX2_place 13 = .ok (.iastore, 1) := by decide +kernel
theorem dX2_place_14 : decode cX2_place 14 = .ok (.return_, 1) := by decide +kernel
theorem dX2_windowOf_0 : decode cX2_windowOf 0 = .ok (.iload_n 1, 1) := by decide +kernel
theorem dX2_windowOf_1 : decode cX2_windowOf 1 = .ok (.invokestatic 71, 3) := by decide +kernel
theorem dX2_windowOf_4 : decode cX2_windowOf 4 = .ok (.ifCond .eq 12, 3) := by decide +kernel
theorem dX2_windowOf_7 : decode cX2_windowOf 7 = .ok (.aload_n 0, 1) := by decide +kernel
theorem dX2_windowOf_8 : decode cX2_windowOf 8 = .ok (.getfield 34, 3) := by decide +kernel
theorem dX2_windowOf_11 : decode cX2_windowOf 11 = .ok (.iload_n 1, 1) := by decide +kernel
theorem dX2_windowOf_12 : decode cX2_windowOf 12 = .ok (.iaload, 1) := by decide +kernel
theorem dX2_windowOf_13 : decode cX2_windowOf 13 = .ok (.goto 4, 3) := by decide +kernel
theorem dX2_windowOf_16 : decode cX2_windowOf 16 = .ok (.iconst (-1), 1) := by decide +kernel
theorem dX2_windowOf_17 : decode cX2_windowOf 17 = .ok (.ireturn, 1) := by decide +kernel
theorem dX2_personsAt_0 : decode cX2_personsAt 0 = .ok (.aload_n 0, 1) := by decide +kernel
theorem dX2_personsAt_1 : decode cX2_personsAt 1 = .ok (.iload_n 1, 1) := by decide +kernel
theorem dX2_personsAt_2 : decode cX2_personsAt 2 = .ok (.invokevirtual 46, 3) := by decide +kernel
theorem dX2_personsAt_5 : decode cX2_personsAt 5 = .ok (.ifCond .ne 5, 3) := by decide +kernel
theorem dX2_personsAt_8 : decode cX2_personsAt 8 = .ok (.iconst 0, 1) := by decide +kernel
theorem dX2_personsAt_9 : decode cX2_personsAt 9 = .ok (.ireturn, 1) := by decide +kernel
theorem dX2_personsAt_10 : decode cX2_personsAt 10 = .ok (.iconst 0, 1) := by decide +kernel
theorem dX2_personsAt_11 : decode cX2_personsAt 11 = .ok (.istore_n 2, 1) := by decide +kernel
theorem dX2_personsAt_12 : decode cX2_personsAt 12 = .ok (.iconst 0, 1) := by decide +kernel
theorem dX2_personsAt_13 : decode cX2_personsAt 13 = .ok (.istore_n 3, 1) := by decide +kernel
theorem dX2_personsAt_14 : decode cX2_personsAt 14 = .ok (.iload_n 3, 1) := by decide +kernel
theorem dX2_personsAt_15 : decode cX2_personsAt 15 = .ok (.bipush 6, 2) := by decide +kernel
theorem dX2_personsAt_17 : decode cX2_personsAt 17 = .ok (.if_icmp .ge 25, 3) := by decide +kernel
theorem dX2_personsAt_20 : decode cX2_personsAt 20 = .ok (.aload_n 0, 1) := by decide +kernel
theorem dX2_personsAt_21 : decode cX2_personsAt 21 = .ok (.getfield 34, 3) := by decide +kernel
theorem dX2_personsAt_24 : decode cX2_personsAt 24 = .ok (.iload_n 3, 1) := by decide +kernel
theorem dX2_personsAt_25 : decode cX2_personsAt 25 = .ok (.iaload, 1) := by decide +kernel
theorem dX2_personsAt_26 : decode cX2_personsAt 26 = .ok (.iload_n 1, 1) := by decide +kernel
theorem dX2_personsAt_27 : decode cX2_personsAt 27 = .ok (.if_icmp .ne 9, 3) := by decide +kernel
theorem dX2_personsAt_30 : decode cX2_personsAt 30 = .ok (.iload_n 2, 1) := by decide +kernel
theorem dX2_personsAt_31 : decode cX2_personsAt 31 = .ok (.iconst 1, 1) := by decide +kernel
theorem dX2_personsAt_32 : decode cX2_personsAt 32 = .ok (.iload_n 3, 1) := by decide +kernel
theorem dX2_personsAt_33 : decode cX2_personsAt 33 = .ok (.ishl, 1) := by decide +kernel
theorem dX2_personsAt_34 : decode cX2_personsAt 34 = .ok (.ior, 1) := by decide +kernel
theorem dX2_personsAt_35 : decode cX2_personsAt 35 = .ok (.istore_n 2, 1) := by decide +kernel
theorem dX2_personsAt_36 : decode cX2_personsAt 36 = .ok (.iinc 3 1, 3) := by decide +kernel
theorem dX2_personsAt_39 : decode cX2_personsAt 39 = .ok (.goto (-25), 3) := by decide +kernel
theorem dX2_personsAt_42 : decode cX2_personsAt 42 = .ok (.iload_n 2, 1) := by decide +kernel
theorem dX2_personsAt_43 : decode cX2_personsAt 43 = .ok (.ireturn, 1) := by decide +kernel
theorem dX2_personsSomewhere_0 : decode cX2_personsSomewhere 0 = .ok (.iconst 0, 1) := by decide +kernel
theorem dX2_personsSomewhere_1 : decode cX2_personsSomewhere 1 = .ok (.istore_n 1, 1) := by decide +kernel
theorem dX2_personsSomewhere_2 : decode cX2_personsSomewhere 2 = .ok (.iconst 0, 1) := by decide +kernel
theorem dX2_personsSomewhere_3 : decode cX2_personsSomewhere 3 = .ok (.istore_n 2, 1) := by decide +kernel
theorem dX2_personsSomewhere_4 : decode cX2_personsSomewhere 4 = .ok (.iload_n 2, 1) := by decide +kernel
theorem dX2_personsSomewhere_5 : decode cX2_personsSomewhere 5 = .ok (.bipush 6, 2) := by decide +kernel
theorem dX2_personsSomewhere_7 : decode cX2_personsSomewhere 7 = .ok (.if_icmp .ge 25, 3) := by decide +kernel
theorem dX2_personsSomewhere_10 : decode cX2_personsSomewhere 10 = .ok (.aload_n 0, 1) := by decide +kernel
theorem dX2_personsSomewhere_11 : decode cX2_personsSomewhere 11 = .ok (.getfield 34, 3) := by decide +kernel
theorem dX2_personsSomewhere_14 : decode cX2_personsSomewhere 14 = .ok (.iload_n 2, 1) := by decide +kernel
theorem dX2_personsSomewhere_15 : decode cX2_personsSomewhere 15 = .ok (.iaload, 1) := by decide +kernel
theorem dX2_personsSomewhere_16 : decode cX2_personsSomewhere 16 = .ok (.iconst (-1), 1) := by decide +kernel
theorem dX2_personsSomewhere_17 : decode cX2_personsSomewhere 17 = .ok (.if_icmp .eq 9, 3) := by decide +kernel
theorem dX2_personsSomewhere_20 : decode cX2_personsSomewhere 20 = .ok (.iload_n 1, 1) := by decide +kernel
theorem dX2_personsSomewhere_21 : decode cX2_personsSomewhere 21 = .ok (.iconst 1, 1) := by decide +kernel
theorem dX2_personsSomewhere_22 : decode cX2_personsSomewhere 22 = .ok (.iload_n 2, 1) := by decide +kernel
theorem dX2_personsSomewhere_23 : decode cX2_personsSomewhere 23 = .ok (.ishl, 1) := by decide +kernel
theorem dX2_personsSomewhere_24 : decode cX2_personsSomewhere 24 = .ok (.ior, 1) := by decide +kernel
theorem dX2_personsSomewhere_25 : decode cX2_personsSomewhere 25 = .ok (.istore_n 1, 1) := by decide +kernel
theorem dX2_personsSomewhere_26 : decode cX2_personsSomewhere 26 = .ok (.iinc 2 1, 3) := by decide +kernel
theorem dX2_personsSomewhere_29 : decode cX2_personsSomewhere 29 = .ok (.goto (-25), 3) := by decide +kernel
theorem dX2_personsSomewhere_32 : decode cX2_personsSomewhere 32 = .ok (.iload_n 1, 1) := by decide +kernel
theorem dX2_personsSomewhere_33 : decode cX2_personsSomewhere 33 = .ok (.ireturn, 1) := by decide +kernel
theorem dX2_addLaw_0 : decode cX2_addLaw 0 = .ok (.aload_n 0, 1) := by decide +kernel
theorem dX2_addLaw_1 : decode cX2_addLaw 1 = .ok (.getfield 21, 3) := by decide +kernel
theorem dX2_addLaw_4 : decode cX2_addLaw 4 = .ok (.ifCond .lt 12, 3) := by decide +kernel
theorem dX2_addLaw_7 : decode cX2_addLaw 7 = .ok (.aload_n 0, 1) := by decide +kernel
theorem dX2_addLaw_8 : decode cX2_addLaw 8 = .ok (.getfield 21, 3) := by decide +kernel
theorem dX2_addLaw_11 : decode cX2_addLaw 11 = .ok (.bipush 6, 2) := by decide +kernel
theorem dX2_addLaw_13 : decode cX2_addLaw 13 = .ok (.if_icmp .lt 4, 3) := by decide +kernel
theorem dX2_addLaw_16 : decode cX2_addLaw 16 = .ok (.return_, 1) := by decide +kernel
theorem dX2_addLaw_17 : decode cX2_addLaw 17 = .ok (.aload_n 0, 1) := by decide +kernel
theorem dX2_addLaw_18 : decode cX2_addLaw 18 = .ok (.getfield 37, 3) := by decide +kernel
theorem dX2_addLaw_21 : decode cX2_addLaw 21 = .ok (.aload_n 0, 1) := by decide +kernel
theorem dX2_addLaw_22 : decode cX2_addLaw 22 = .ok (.getfield 21, 3) := by decide +kernel
theorem dX2_addLaw_25 : decode cX2_addLaw 25 = .ok (.iconst 3, 1) := by decide +kernel
theorem dX2_addLaw_26 : decode cX2_addLaw 26 = .ok (.imul, 1) := by decide +kernel
theorem dX2_addLaw_27 : decode cX2_addLaw 27 = .ok (.iload_n 1, 1) := by decide +kernel
theorem dX2_addLaw_28 : decode cX2_addLaw 28 = .ok (.iastore, 1) := by decide +kernel
theorem dX2_addLaw_29 : decode cX2_addLaw 29 = .ok (.aload_n 0, 1) := by decide +kernel
theorem dX2_addLaw_30 : decode cX2_addLaw 30 = .ok (.getfield 37, 3) := by decide +kernel
theorem dX2_addLaw_33 : decode cX2_addLaw 33 = .ok (.aload_n 0, 1) := by decide +kernel
theorem dX2_addLaw_34 : decode cX2_addLaw 34 = .ok (.getfield 21, 3) := by decide +kernel
theorem dX2_addLaw_37 : decode cX2_addLaw 37 = .ok (.iconst 3, 1) := by decide +kernel
theorem dX2_addLaw_38 : decode cX2_addLaw 38 = .ok (.imul, 1) := by decide +kernel
theorem dX2_addLaw_39 : decode cX2_addLaw 39 = .ok (.iconst 1, 1) := by decide +kernel
theorem dX2_addLaw_40 : decode cX2_addLaw 40 = .ok (.iadd, 1) := by decide +kernel
theorem dX2_addLaw_41 : decode cX2_addLaw 41 = .ok (.iload_n 2, 1) := by decide +kernel
theorem dX2_addLaw_42 : decode cX2_addLaw 42 = .ok (.iastore, 1) := by decide +kernel
theorem dX2_addLaw_43 : decode cX2_addLaw 43 = .ok (.aload_n 0, 1) := by decide +kernel
theorem dX2_addLaw_44 : decode cX2_addLaw 44 = .ok (.getfield 37, 3) := by decide +kernel
theorem dX2_addLaw_47 : decode cX2_addLaw 47 = .ok (.aload_n 0, 1) := by decide +kernel
theorem dX2_addLaw_48 : decode cX2_addLaw 48 = .ok (.getfield 21, 3) := by decide +kernel
theorem dX2_addLaw_51 : decode cX2_addLaw 51 = .ok (.iconst 3, 1) := by decide +kernel
theorem dX2_addLaw_52 : decode cX2_addLaw 52 = .ok (.imul, 1) := by decide +kernel
theorem dX2_addLaw_53 : decode cX2_addLaw 53 = .ok (.iconst 2, 1) := by decide +kernel
theorem dX2_addLaw_54 : decode cX2_addLaw 54 = .ok (.iadd, 1) := by decide +kernel
theorem dX2_addLaw_55 : decode cX2_addLaw 55 = .ok (.iload_n 3, 1) := by decide +kernel
theorem dX2_addLaw_56 : decode cX2_addLaw 56 = .ok (.iastore, 1) := by decide +kernel
theorem dX2_addLaw_57 : decode cX2_addLaw 57 = .ok (.aload_n 0, 1) := by decide +kernel
theorem dX2_addLaw_58 : decode cX2_addLaw 58 = .ok (.dup, 1) := by decide +kernel
theorem dX2_addLaw_59 : decode cX2_addLaw 59 = .ok (.getfield 21, 3) := by decide +kernel
theorem dX2_addLaw_62 : decode cX2_addLaw 62 = .ok (.iconst 1, 1) := by decide +kernel
theorem dX2_addLaw_63 : decode cX2_addLaw 63 = .ok (.iadd, 1) := by decide +kernel
theorem dX2_addLaw_64 : decode cX2_addLaw 64 = .ok (.putfield 21, 3) := by decide +kernel
theorem dX2_addLaw_67 : decode cX2_addLaw 67 = .ok (.return_, 1) := by decide +kernel
theorem dX2_lawPart_0 : decode cX2_lawPart 0 = .ok (.iload_n 1, 1) := by decide +kernel
theorem dX2_lawPart_1 : decode cX2_lawPart 1 = .ok (.ifCond .lt 26, 3) := by decide +kernel
theorem dX2_lawPart_4 : decode cX2_lawPart 4 = .ok (.iload_n 1, 1) := by decide +kernel
theorem dX2_lawPart_5 : decode cX2_lawPart 5 = .ok (.aload_n 0, 1) := by decide +kernel
theorem dX2_lawPart_6 : decode cX2_lawPart 6 = .ok (.getfield 21, 3) := by decide +kernel
theorem dX2_lawPart_9 : decode cX2_lawPart 9 = .ok (.if_icmp .ge 18, 3) := by decide +kernel
theorem dX2_lawPart_12 : decode cX2_lawPart 12 = .ok (.iload_n 1, 1) := by decide +kernel
theorem dX2_lawPart_13 : decode cX2_lawPart 13 = .ok (.bipush 6, 2) := by decide +kernel
theorem dX2_lawPart_15 : decode cX2_lawPart 15 = .ok (.if_icmp .ge 12, 3) := by decide +kernel
theorem dX2_lawPart_18 : decode cX2_lawPart 18 = .ok (.iload_n 2, 1) := by decide +kernel
theorem dX2_lawPart_19 : decode cX2_lawPart 19 = .ok (.ifCond .lt 8, 3) := by decide +kernel
theorem dX2_lawPart_22 : decode cX2_lawPart 22 = .ok (.iload_n 2, 1) := by decide +kernel
theorem dX2_lawPart_23 : decode cX2_lawPart 23 = .ok (.iconst 3, 1) := by decide +kernel
theorem dX2_lawPart_24 : decode cX2_lawPart 24 = .ok (.if_icmp .lt 5, 3) := by decide +kernel
theorem dX2_lawPart_27 : decode cX2_lawPart 27 = .ok (.iconst (-1), 1) := by decide +kernel
theorem dX2_lawPart_28 : decode cX2_lawPart 28 = .ok (.ireturn, 1) := by decide +kernel
theorem dX2_lawPart_29 : decode cX2_lawPart 29 = .ok (.aload_n 0, 1) := by decide +kernel
theorem dX2_lawPart_30 : decode cX2_lawPart 30 = .ok (.getfield 37, 3) := by decide +kernel
theorem dX2_lawPart_33 : decode cX2_lawPart 33 = .ok (.iload_n 1, 1) := by decide +kernel
theorem dX2_lawPart_34 : decode cX2_lawPart 34 = .ok (.iconst 3, 1) := by decide +kernel
theorem dX2_lawPart_35 : decode cX2_lawPart 35 = .ok (.imul, 1) := by decide +kernel
theorem dX2_lawPart_36 : decode cX2_lawPart 36 = .ok (.iload_n 2, 1) := by decide +kernel
theorem dX2_lawPart_37 : decode cX2_lawPart 37 = .ok (.iadd, 1) := by decide +kernel
theorem dX2_lawPart_38 : decode cX2_lawPart 38 = .ok (.iaload, 1) := by decide +kernel
theorem dX2_lawPart_39 : decode cX2_lawPart 39 = .ok (.ireturn, 1) := by decide +kernel
theorem dX2_coinsFor_0 : decode cX2_coinsFor 0 = .ok (.iconst 0, 1) := by decide +kernel
theorem dX2_coinsFor_1 : decode cX2_coinsFor 1 = .ok (.istore_n 3, 1) := by decide +kernel
theorem dX2_coinsFor_2 : decode cX2_coinsFor 2 = .ok (.iload_n 3, 1) := by decide +kernel
theorem dX2_coinsFor_3 : decode cX2_coinsFor 3 = .ok (.aload_n 0, 1) := by decide +kernel
theorem dX2_coinsFor_4 : decode cX2_coinsFor 4 = .ok (.getfield 21, 3) := by decide +kernel
theorem dX2_coinsFor_7 : decode cX2_coinsFor 7 = .ok (.if_icmp .ge 36, 3) := by decide +kernel
theorem dX2_coinsFor_10 : decode cX2_coinsFor 10 = .ok (.iload_n 1, 1) := by decide +kernel
theorem dX2_coinsFor_11 : decode cX2_coinsFor 11 = .ok (.aload_n 0, 1) := by decide +kernel
theorem dX2_coinsFor_12 : decode cX2_coinsFor 12 = .ok (.iload_n 3, 1) := by decide +kernel
theorem dX2_coinsFor_13 : decode cX2_coinsFor 13 = .ok (.iconst 0, 1) := by decide +kernel
theorem dX2_coinsFor_14 : decode cX2_coinsFor 14 = .ok (.invokevirtual 74, 3) := by decide +kernel
theorem dX2_coinsFor_17 : decode cX2_coinsFor 17 = .ok (.if_icmp .lt 20, 3) := by decide +kernel
theorem dX2_coinsFor_20 : decode cX2_coinsFor 20 = .ok (.iload_n 2, 1) := by decide +kernel
theorem dX2_coinsFor_21 : decode cX2_coinsFor 21 = .ok (.aload_n 0, 1) := by decide +kernel
theorem dX2_coinsFor_22 : decode cX2_coinsFor 22 = .ok (.iload_n 3, 1) := by decide +kernel
theorem dX2_coinsFor_23 : decode cX2_coinsFor 23 = .ok (.iconst 1, 1) := by decide +kernel
theorem dX2_coinsFor_24 : decode cX2_coinsFor 24 = .ok (.invokevirtual 74, 3) := by decide +kernel
theorem dX2_coinsFor_27 : decode cX2_coinsFor 27 = .ok (.if_icmp .lt 10, 3) := by decide +kernel
theorem dX2_coinsFor_30 : decode cX2_coinsFor 30 = .ok (.aload_n 0, 1) := by decide +kernel
theorem dX2_coinsFor_31 : decode cX2_coinsFor 31 = .ok (.iload_n 3, 1) := by decide +kernel
theorem dX2_coinsFor_32 : decode cX2_coinsFor 32 = .ok (.iconst 2, 1) := by decide +kernel
theorem dX2_coinsFor_33 : decode cX2_coinsFor 33 = .ok (.invokevirtual 74, 3) := by decide +kernel
theorem dX2_coinsFor_36 : decode cX2_coinsFor 36 = .ok (.ireturn, 1) := by decide +kernel
theorem dX2_coinsFor_37 : decode cX2_coinsFor 37 = .ok (.iinc 3 1, 3) := by decide +kernel
theorem dX2_coinsFor_40 : decode cX2_coinsFor 40 = .ok (.goto (-38), 3) := by decide +kernel
theorem dX2_coinsFor_43 : decode cX2_coinsFor 43 = .ok (.iconst 0, 1) := by decide +kernel
theorem dX2_coinsFor_44 : decode cX2_coinsFor 44 = .ok (.ireturn, 1) := by decide +kernel
theorem dX2_setNight_0 : decode cX2_setNight 0 = .ok (.aload_n 0, 1) := by decide +kernel
theorem dX2_setNight_1 : decode cX2_setNight 1 = .ok (.iconst 0, 1) := by decide +kernel
theorem dX2_setNight_2 : decode cX2_setNight 2 = .ok (.putfield 24, 3) := by decide +kernel
theorem dX2_setNight_5 : decode cX2_setNight 5 = .ok (.aload_n 0, 1) := by decide +kernel
theorem dX2_setNight_6 : decode cX2_setNight 6 = .ok (.iload_n 3, 1) := by decide +kernel
theorem dX2_setNight_7 : decode cX2_setNight 7 = .ok (.putfield 27, 3) := by decide +kernel
theorem dX2_setNight_10 : decode cX2_setNight 10 = .ok (.iload_n 1, 1) := by decide +kernel
theorem dX2_setNight_11 : decode cX2_setNight 11 = .ok (.istore 4, 2) := by decide +kernel
theorem dX2_setNight_13 : decode cX2_setNight 13 = .ok (.iconst 0, 1) := by decide +kernel
theorem dX2_setNight_14 : decode cX2_setNight 14 = .ok (.istore 5, 2) := by decide +kernel
theorem dX2_setNight_16 : decode cX2_setNight 16 = .ok (.iload 5, 2) := by decide +kernel
theorem dX2_setNight_18 : decode cX2_setNight 18 = .ok (.bipush 24, 2) := by decide +kernel
theorem dX2_setNight_20 : decode cX2_setNight 20 = .ok (.if_icmp .ge 37, 3) := by decide +kernel
theorem dX2_setNight_23 : decode cX2_setNight 23 = .ok (.iload 4, 2) := by decide +kernel
theorem dX2_setNight_25 : decode cX2_setNight 25 = .ok (.iload_n 2, 1) := by decide +kernel
theorem dX2_setNight_26 : decode cX2_setNight 26 = .ok (.if_icmp .eq 31, 3) := by decide +kernel
theorem dX2_setNight_29 : decode cX2_setNight 29 = .ok (.aload_n 0, 1) := by decide +kernel
theorem dX2_setNight_30 : decode cX2_setNight 30 = .ok (.dup, 1) := by decide +kernel
theorem dX2_setNight_31 : decode cX2_setNight 31 = .ok (.getfield 24, 3) := by decide +kernel
theorem dX2_setNight_34 : decode cX2_setNight 34 = .ok (.iconst 1, 1) := by decide +kernel
theorem dX2_setNight_35 : decode cX2_setNight 35 = .ok (.iload 4, 2) := by decide +kernel
theorem dX2_setNight_37 : decode cX2_setNight 37 = .ok (.ishl, 1) := by decide +kernel
theorem dX2_setNight_38 : decode cX2_setNight 38 = .ok (.ior, 1) := by decide +kernel
theorem dX2_setNight_39 : decode cX2_setNight 39 = .ok (.putfield 24, 3) := by decide +kernel
theorem dX2_setNight_42 : decode cX2_setNight 42 = .ok (.iload 4, 2) := by decide +kernel
theorem dX2_setNight_44 : decode cX2_setNight 44 = .ok (.iconst 1, 1) := by decide +kernel
theorem dX2_setNight_45 : decode cX2_setNight 45 = .ok (.iadd, 1) := by decide +kernel
theorem dX2_setNight_46 : decode cX2_setNight 46 = .ok (.bipush 24, 2) := by decide +kernel
theorem dX2_setNight_48 : decode cX2_setNight 48 = .ok (.irem, 1) := by decide +kernel
theorem dX2_setNight_49 : decode cX2_setNight 49 = .ok (.istore 4, 2) := by decide +kernel
theorem dX2_setNight_51 : decode cX2_setNight 51 = .ok (.iinc 5 1, 3) := by decide +kernel
theorem dX2_setNight_54 : decode cX2_setNight 54 = .ok (.goto (-38), 3) := by decide +kernel
theorem dX2_setNight_57 : decode cX2_setNight 57 = .ok (.return_, 1) := by decide +kernel
theorem dX2_timesIn_0 : decode cX2_timesIn 0 = .ok (.aload_n 0, 1) := by decide +kernel
theorem dX2_timesIn_1 : decode cX2_timesIn 1 = .ok (.getfield 24, 3) := by decide +kernel
theorem dX2_timesIn_4 : decode cX2_timesIn 4 = .ok (.iload_n 1, 1) := by decide +kernel
theorem dX2_timesIn_5 : decode cX2_timesIn 5 = .ok (.ishr, 1) := by decide +kernel
theorem dX2_timesIn_6 : decode cX2_timesIn 6 = .ok (.iconst 1, 1) := by decide +kernel
theorem dX2_timesIn_7 : decode cX2_timesIn 7 = .ok (.iand, 1) := by decide +kernel
theorem dX2_timesIn_8 : decode cX2_timesIn 8 = .ok (.iconst 1, 1) := by decide +kernel
theorem dX2_timesIn_9 : decode cX2_timesIn 9 = .ok (.if_icmp .ne 10, 3) := by decide +kernel
theorem dX2_timesIn_12 : decode cX2_timesIn 12 = .ok (.aload_n 0, 1) := by decide +kernel
theorem dX2_timesIn_13 : decode cX2_timesIn 13 = .ok (.getfield 27, 3) := by decide +kernel
theorem dX2_timesIn_16 : decode cX2_timesIn 16 = .ok (.goto 4, 3) := by decide +kernel
theorem dX2_timesIn_19 : decode cX2_timesIn 19 = .ok (.iconst 1, 1) := by decide +kernel
theorem dX2_timesIn_20 : decode cX2_timesIn 20 = .ok (.ireturn, 1) := by decide +kernel
theorem dX2_ahead_0 : decode cX2_ahead 0 = .ok (.aload_n 0, 1) := by decide +kernel
theorem dX2_ahead_1 : decode cX2_ahead 1 = .ok (.aload_n 0, 1) := by decide +kernel
theorem dX2_ahead_2 : decode cX2_ahead 2 = .ok (.iload_n 1, 1) := by decide +kernel
theorem dX2_ahead_3 : decode cX2_ahead 3 = .ok (.invokevirtual 77, 3) := by decide +kernel
theorem dX2_ahead_6 : decode cX2_ahead 6 = .ok (.getstatic 81, 3) := by decide +kernel
theorem dX2_ahead_9 : decode cX2_ahead 9 = .ok (.iload_n 2, 1) := by decide +kernel
theorem dX2_ahead_10 : decode cX2_ahead 10 = .ok (.bipush 7, 2) := by decide +kernel
theorem dX2_ahead_12 : decode cX2_ahead 12 = .ok (.iand, 1) := by decide +kernel
theorem dX2_ahead_13 : decode cX2_ahead 13 = .ok (.iaload, 1) := by decide +kernel
theorem dX2_ahead_14 : decode cX2_ahead 14 = .ok (.iadd, 1) := by decide +kernel
theorem dX2_ahead_15 : decode cX2_ahead 15 = .ok (.aload_n 0, 1) := by decide +kernel
theorem dX2_ahead_16 : decode cX2_ahead 16 = .ok (.iload_n 1, 1) := by decide +kernel
theorem dX2_ahead_17 : decode cX2_ahead 17 = .ok (.invokevirtual 84, 3) := by decide +kernel
theorem dX2_ahead_20 : decode cX2_ahead 20 = .ok (.getstatic 87, 3) := by decide +kernel
theorem dX2_ahead_23 : decode cX2_ahead 23 = .ok (.iload_n 2, 1) := by decide +kernel
theorem dX2_ahead_24 : decode cX2_ahead 24 = .ok (.bipush 7, 2) := by decide +kernel
theorem dX2_ahead_26 : decode cX2_ahead 26 = .ok (.iand, 1) := by decide +kernel
theorem dX2_ahead_27 : decode cX2_ahead 27 = .ok (.iaload, 1) := by decide +kernel
theorem dX2_ahead_28 : decode cX2_ahead 28 = .ok (.iadd, 1) := by decide +kernel
theorem dX2_ahead_29 : decode cX2_ahead 29 = .ok (.invokevirtual 90, 3) := by decide +kernel
theorem dX2_ahead_32 : decode cX2_ahead 32 = .ok (.ireturn, 1) := by decide +kernel
theorem dX2_wayBack_0 : decode cX2_wayBack 0 = .ok (.iload_n 2, 1) := by decide +kernel
theorem dX2_wayBack_1 : decode cX2_wayBack 1 = .ok (.iconst 4, 1) := by decide +kernel
theorem dX2_wayBack_2 : decode cX2_wayBack 2 = .ok (.iadd, 1) := by decide +kernel
theorem dX2_wayBack_3 : decode cX2_wayBack 3 = .ok (.bipush 7, 2) := by decide +kernel
theorem dX2_wayBack_5 : decode cX2_wayBack 5 = .ok (.iand, 1) := by decide +kernel
theorem dX2_wayBack_6 : decode cX2_wayBack 6 = .ok (.istore_n 3, 1) := by decide +kernel
theorem dX2_wayBack_7 : decode cX2_wayBack 7 = .ok (.iload_n 2, 1) := by decide +kernel
theorem dX2_wayBack_8 : decode cX2_wayBack 8 = .ok (.iconst 1, 1) := by decide +kernel
theorem dX2_wayBack_9 : decode cX2_wayBack 9 = .ok (.iand, 1) := by decide +kernel
theorem dX2_wayBack_10 : decode cX2_wayBack 10 = .ok (.ifCond .ne 5, 3) := by decide +kernel
theorem dX2_wayBack_13 : decode cX2_wayBack 13 = .ok (.iload_n 3, 1) := by decide +kernel
theorem dX2_wayBack_14 : decode cX2_wayBack 14 = .ok (.ireturn, 1) := by decide +kernel
theorem dX2_wayBack_15 : decode cX2_wayBack 15 = .ok (.aload_n 0, 1) := by decide +kernel
theorem dX2_wayBack_16 : decode cX2_wayBack 16 = .ok (.aload_n 0, 1) := by decide +kernel
theorem dX2_wayBack_17 : decode cX2_wayBack 17 = .ok (.aload_n 0, 1) := by decide +kernel
theorem dX2_wayBack_18 : decode cX2_wayBack 18 = .ok (.iload_n 1, 1) := by decide +kernel
theorem dX2_wayBack_19 : decode cX2_wayBack 19 = .ok (.invokevirtual 77, 3) := by decide +kernel
theorem dX2_wayBack_22 : decode cX2_wayBack 22 = .ok (.getstatic 81, 3) := by decide +kernel
theorem dX2_wayBack_25 : decode cX2_wayBack 25 = .ok (.iload_n 2, 1) := by decide +kernel
theorem dX2_wayBack_26 : decode cX2_wayBack 26 = .ok (.bipush 7, 2) := by decide +kernel
theorem dX2_wayBack_28 : decode cX2_wayBack 28 = .ok (.iand, 1) := by decide +kernel
theorem dX2_wayBack_29 : decode cX2_wayBack 29 = .ok (.iaload, 1) := by decide +kernel
theorem dX2_wayBack_30 : decode cX2_wayBack 30 = .ok (.iadd, 1) := by decide +kernel
theorem dX2_wayBack_31 : decode cX2_wayBack 31 = .ok (.aload_n 0, 1) := by decide +kernel
theorem dX2_wayBack_32 : decode cX2_wayBack 32 = .ok (.iload_n 1, 1) := by decide +kernel
theorem dX2_wayBack_33 : decode cX2_wayBack 33 = .ok (.invokevirtual 84, 3) := by decide +kernel
theorem dX2_wayBack_36 : decode cX2_wayBack 36 = .ok (.invokevirtual 90, 3) := by decide +kernel
theorem dX2_wayBack_39 : decode cX2_wayBack 39 = .ok (.invokevirtual 60, 3) := by decide +kernel
theorem dX2_wayBack_42 : decode cX2_wayBack 42 = .ok (.istore 4, 2) := by decide +kernel
theorem dX2_wayBack_44 : decode cX2_wayBack 44 = .ok (.aload_n 0, 1) := by decide +kernel
theorem dX2_wayBack_45 : decode cX2_wayBack 45 = .ok (.aload_n 0, 1) := by decide +kernel
theorem dX2_wayBack_46 : decode cX2_wayBack 46 = .ok (.aload_n 0, 1) := by decide +kernel
theorem dX2_wayBack_47 : decode cX2_wayBack 47 = .ok (.iload_n 1, 1) := by decide +kernel
theorem dX2_wayBack_48 : decode cX2_wayBack 48 = .ok (.invokevirtual 77, 3) := by decide +kernel
theorem dX2_wayBack_51 : decode cX2_wayBack 51 = .ok (.aload_n 0, 1) := by decide +kernel
theorem dX2_wayBack_52 : decode cX2_wayBack 52 = .ok (.iload_n 1, 1) := by decide +kernel
theorem dX2_wayBack_53 : decode cX2_wayBack 53 = .ok (.invokevirtual 84, 3) := by decide +kernel
theorem dX2_wayBack_56 : decode cX2_wayBack 56 = .ok (.getstatic 87, 3) := by decide +kernel
theorem dX2_wayBack_59 : decode cX2_wayBack 59 = .ok (.iload_n 2, 1) := by decide +kernel
theorem dX2_wayBack_60 : decode cX2_wayBack 60 = .ok (.bipush 7, 2) := by decide +kernel
theorem dX2_wayBack_62 : decode cX2_wayBack 62 = .ok (.iand, 1) := by decide +kernel
theorem dX2_wayBack_63 : decode cX2_wayBack 63 = .ok (.iaload, 1) := by decide +kernel
theorem dX2_wayBack_64 : decode cX2_wayBack 64 = .ok (.iadd, 1) := by decide +kernel
theorem dX2_wayBack_65 : decode cX2_wayBack 65 = .ok (.invokevirtual 90, 3) := by decide +kernel
theorem dX2_wayBack_68 : decode cX2_wayBack 68 = .ok (.invokevirtual 60, 3) := by decide +kernel
theorem dX2_wayBack_71 : decode cX2_wayBack 71 = .ok (.istore 5, 2) := by decide +kernel
theorem dX2_wayBack_73 : decode cX2_wayBack 73 = .ok (.iload 4, 2) := by decide +kernel
theorem dX2_wayBack_75 : decode cX2_wayBack 75 = .ok (.iload 5, 2) := by decide +kernel
theorem dX2_wayBack_77 : decode cX2_wayBack 77 = .ok (.if_icmp .ne 5, 3) := by decide +kernel
theorem dX2_wayBack_80 : decode cX2_wayBack 80 = .ok (.iload_n 3, 1) := by decide +kernel
theorem dX2_wayBack_81 : decode cX2_wayBack 81 = .ok (.ireturn, 1) := by decide +kernel
theorem dX2_wayBack_82 : decode cX2_wayBack 82 = .ok (.iload 4, 2) := by decide +kernel
theorem dX2_wayBack_84 : decode cX2_wayBack 84 = .ok (.ifCond .eq 13, 3) := by decide +kernel
theorem dX2_wayBack_87 : decode cX2_wayBack 87 = .ok (.bipush 8, 2) := by decide +kernel
theorem dX2_wayBack_89 : decode cX2_wayBack 89 = .ok (.iload_n 2, 1) := by decide +kernel
theorem dX2_wayBack_90 : decode cX2_wayBack 90 = .ok (.isub, 1) := by decide +kernel
theorem dX2_wayBack_91 : decode cX2_wayBack 91 = .ok (.bipush 7, 2) := by decide +kernel
theorem dX2_wayBack_93 : decode cX2_wayBack 93 = .ok (.iand, 1) := by decide +kernel
theorem dX2_wayBack_94 : decode cX2_wayBack 94 = .ok (.goto 10, 3) := by decide +kernel
theorem dX2_wayBack_97 : decode cX2_wayBack 97 = .ok (.bipush 12, 2) := by decide +kernel
theorem dX2_wayBack_99 : decode cX2_wayBack 99 = .ok (.iload_n 2, 1) := by decide +kernel
theorem dX2_wayBack_100 : decode cX2_wayBack 100 = .ok (.isub, 1) := by decide +kernel
theorem dX2_wayBack_101 : decode cX2_wayBack 101 = .ok (.bipush 7, 2) := by decide +kernel
theorem dX2_wayBack_103 : decode cX2_wayBack 103 = .ok (.iand, 1) := by decide +kernel
theorem dX2_wayBack_104 : decode cX2_wayBack 104 = .ok (.ireturn, 1) := by decide +kernel
theorem dX2_loudThrownBack_0 : decode cX2_loudThrownBack 0 = .ok (.iload_n 3, 1) := by decide +kernel
theorem dX2_loudThrownBack_1 : decode cX2_loudThrownBack 1 = .ok (.ifCond .eq 18, 3) := by decide +kernel
theorem dX2_loudThrownBack_4 : decode cX2_loudThrownBack 4 = .ok (.bipush 100, 2) := by decide +kernel
theorem dX2_loudThrownBack_6 : decode cX2_loudThrownBack 6 = .ok (.iconst 2, 1) := by decide +kernel
theorem dX2_loudThrownBack_7 : decode cX2_loudThrownBack 7 = .ok (.aload_n 0, 1) := by decide +kernel
theorem dX2_loudThrownBack_8 : decode cX2_loudThrownBack 8 = .ok (.iload_n 1, 1) := by decide +kernel
theorem dX2_loudThrownBack_9 : decode cX2_loudThrownBack 9 = .ok (.invokevirtual 93, 3) := by decide +kernel
theorem dX2_loudThrownBack_12 : decode cX2_loudThrownBack 12 = .ok (.imul, 1) := by decide +kernel
theorem dX2_loudThrownBack_13 : decode cX2_loudThrownBack 13 = .ok (.invokestatic 96, 3) := by decide +kernel
theorem dX2_loudThrownBack_16 : decode cX2_loudThrownBack 16 = .ok (.goto 8, 3) := by decide +kernel
theorem dX2_loudThrownBack_19 : decode cX2_loudThrownBack 19 = .ok (.aload_n 0, 1) := by decide +kernel
theorem dX2_loudThrownBack_20 : decode cX2_loudThrownBack 20 = .ok (.iload_n 1, 1) := by decide +kernel
theorem dX2_loudThrownBack_21 : decode cX2_loudThrownBack 21 = .ok (.invokevirtual 93, 3) := by decide +kernel
theorem dX2_loudThrownBack_24 : decode cX2_loudThrownBack 24 = .ok (.istore 4, 2) := by decide +kernel
theorem dX2_loudThrownBack_26 : decode cX2_loudThrownBack 26 = .ok (.iload_n 2, 1) := by decide +kernel
theorem dX2_loudThrownBack_27 : decode cX2_loudThrownBack 27 = .ok (.iload_n 2, 1) := by decide +kernel
theorem dX2_loudThrownBack_28 : decode cX2_loudThrownBack 28 = .ok (.iload 4, 2) := by decide +kernel
theorem dX2_loudThrownBack_30 : decode cX2_loudThrownBack 30 = .ok (.imul, 1) := by decide +kernel
theorem dX2_loudThrownBack_31 : decode cX2_loudThrownBack 31 = .ok (.bipush 100, 2) := by decide +kernel
theorem dX2_loudThrownBack_33 : decode cX2_loudThrownBack 33 = .ok (.idiv, 1) := by decide +kernel
theorem dX2_loudThrownBack_34 : decode cX2_loudThrownBack 34 = .ok (.isub, 1) := by decide +kernel
theorem dX2_loudThrownBack_35 : decode cX2_loudThrownBack 35 = .ok (.ireturn, 1) := by decide +kernel
theorem dX3_init_0 : decode cX3_init 0 = .ok (.aload_n 0, 1) := by decide +kernel
theorem dX3_init_1 : decode cX3_init 1 = .ok (.invokespecial 3, 3) := by decide +kernel
theorem dX3_init_4 : decode cX3_init 4 = .ok (.aload_n 0, 1) := by decide +kernel
theorem dX3_init_5 : decode cX3_init 5 = .ok (.bipush 36, 2) := by decide +kernel
theorem dX3_init_7 : decode cX3_init 7 = .ok (.newarray .long, 2) := by decide +kernel
theorem dX3_init_9 : decode cX3_init 9 = .ok (.putfield 9, 3) := by decide +kernel
theorem dX3_init_12 : decode cX3_init 12 = .ok (.return_, 1) := by decide +kernel
theorem dX3_listen_0 : decode cX3_listen 0 = .ok (.aload_n 0, 1) := by decide +kernel
theorem dX3_listen_1 : decode cX3_listen 1 = .ok (.getfield 9, 3) := by decide +kernel
theorem dX3_listen_4 : decode cX3_listen 4 = .ok (.lconst 0, 1) := by decide +kernel
theorem dX3_listen_5 : decode cX3_listen 5 = .ok (.invokestatic 15, 3) := by decide +kernel
theorem dX3_listen_8 : decode cX3_listen 8 = .ok (.iconst 0, 1) := by decide +kernel
theorem dX3_listen_9 : decode cX3_listen 9 = .ok (.istore_n 2, 1) := by decide +kernel
theorem dX3_listen_10 : decode cX3_listen 10 = .ok (.iload_n 2, 1) := by decide +kernel
theorem dX3_listen_11 : decode cX3_listen 11 = .ok (.bipush 8, 2) := by decide +kernel
theorem dX3_listen_13 : decode cX3_listen 13 = .ok (.if_icmp .ge 62, 3) := by decide +kernel
theorem dX3_listen_16 : decode cX3_listen 16 = .ok (.iconst 1, 1) := by decide +kernel
theorem dX3_listen_17 : decode cX3_listen 17 = .ok (.istore_n 3, 1) := by decide +kernel
theorem dX3_listen_18 : decode cX3_listen 18 = .ok (.iload_n 3, 1) := by decide +kernel
theorem dX3_listen_19 : decode cX3_listen 19 = .ok (.aload_n 1, 1) := by decide +kernel
theorem dX3_listen_20 : decode cX3_listen 20 = .ok (.iload_n 2, 1) := by decide +kernel
theorem dX3_listen_21 : decode cX3_listen 21 = .ok (.invokevirtual 21, 3) := by decide +kernel
theorem dX3_listen_24 : decode cX3_listen 24 = .ok (.if_icmp .gt 45, 3) := by decide +kernel
theorem dX3_listen_27 : decode cX3_listen 27 = .ok (.aload_n 1, 1) := by decide +kernel
theorem dX3_listen_28 : decode cX3_listen 28 = .ok (.iload_n 2, 1) := by decide +kernel
theorem dX3_listen_29 : decode cX3_listen 29 = .ok (.iload_n 3, 1) := by decide +kernel
theorem dX3_listen_30 : decode cX3_listen 30 = .ok (.invokevirtual 27, 3) := by decide +kernel
theorem dX3_listen_33 : decode cX3_listen 33 = .ok (.invokestatic 31, 3) := by decide +kernel
theorem dX3_listen_36 : decode cX3_listen 36 = .ok (.istore 4, 2) := by decide +kernel
theorem dX3_listen_38 : decode cX3_listen 38 = .ok (.iload 4, 2) := by decide +kernel
theorem dX3_listen_40 : decode cX3_listen 40 = .ok (.ifCond .lt 23, 3) := by decide +kernel
theorem dX3_listen_43 : decode cX3_listen 43 = .ok (.iload 4, 2) := by decide +kernel
theorem dX3_listen_45 : decode cX3_listen 45 = .ok (.bipush 36, 2) := by decide +kernel
theorem dX3_listen_47 : decode cX3_listen 47 = .ok (.if_icmp .ge 16, 3) := by decide +kernel
theorem dX3_listen_50 : decode cX3_listen 50 = .ok (.aload_n 0, 1) := by decide +kernel
theorem dX3_listen_51 : decode cX3_listen 51 = .ok (.getfield 9, 3) := by decide +kernel
theorem dX3_listen_54 : decode cX3_listen 54 = .ok (.iload 4, 2) := by decide +kernel
theorem dX3_listen_56 : decode cX3_listen 56 = .ok (.dup2, 1) := by decide +kernel
theorem dX3_listen_57 : decode cX3_listen 57 = .ok (.laload, 1) := by decide +kernel
theorem dX3_listen_58 : decode cX3_listen 58 = .ok (.lconst 1, 1) := by decide +kernel
theorem dX3_listen_59 : decode cX3_listen 59 = .ok (.iload_n 3, 1) := by decide +kernel
theorem dX3_listen_60 : decode cX3_listen 60 = .ok (.lshl, 1) := by decide +kernel
theorem dX3_listen_61 : decode cX3_listen 61 = .ok (.lor, 1) := by decide +kernel
theorem dX3_listen_62 : decode cX3_listen 62 = .ok (.lastore, 1) := by decide +kernel
theorem dX3_listen_63 : decode cX3_listen 63 = .ok (.iinc 3 1, 3) := by decide +kernel
theorem dX3_listen_66 : decode cX3_listen 66 = .ok (.goto (-48), 3) := by decide +kernel
theorem dX3_listen_69 : decode cX3_listen 69 = .ok (.iinc 2 1, 3) := by decide +kernel
theorem dX3_listen_72 : decode cX3_listen 72 = .ok (.goto (-62), 3) := by decide +kernel
theorem dX3_listen_75 : decode cX3_listen 75 = .ok (.return_, 1) := by decide +kernel
theorem dX3_minutesFor_0 : decode cX3_minutesFor 0 = .ok (.iconst 0, 1) := by decide +kernel
theorem dX3_minutesFor_1 : decode cX3_minutesFor 1 = .ok (.istore 4, 2) := by decide +kernel
theorem dX3_minutesFor_3 : decode cX3_minutesFor 3 = .ok (.iconst 0, 1) := by decide +kernel
theorem dX3_minutesFor_4 : decode cX3_minutesFor 4 = .ok (.istore 5, 2) := by decide +kernel
theorem dX3_minutesFor_6 : decode cX3_minutesFor 6 = .ok (.iload 5, 2) := by decide +kernel
theorem dX3_minutesFor_8 : decode cX3_minutesFor 8 = .ok (.bipush 100, 2) := by decide +kernel
theorem dX3_minutesFor_10 : decode cX3_minutesFor 10 = .ok (.if_icmp .ge 24, 3) := by decide +kernel
theorem dX3_minutesFor_13 : decode cX3_minutesFor 13 = .ok (.aload_n 0, 1) := by decide +kernel
theorem dX3_minutesFor_14 : decode cX3_minutesFor 14 = .ok (.iload_n 1, 1) := by decide +kernel
theorem dX3_minutesFor_15 : decode cX3_minutesFor 15 = .ok (.iload 5, 2) := by decide +kernel
theorem dX3_minutesFor_17 : decode cX3_minutesFor 17 = .ok (.aload_n 2, 1) := by decide +kernel
theorem dX3_minutesFor_18 : decode cX3_minutesFor 18 = .ok (.aload_n 3, 1) := by decide +kernel
theorem dX3_minutesFor_19 : decode cX3_minutesFor 19 = .ok (.invokevirtual 34, 3) := by decide +kernel
theorem dX3_minutesFor_22 : decode cX3_minutesFor 22 = .ok (.ifCond .eq 6, 3) := by decide +kernel
theorem dX3_minutesFor_25 : decode cX3_minutesFor 25 = .ok (.iinc 4 1, 3) := by decide +kernel
theorem dX3_minutesFor_28 : decode cX3_minutesFor 28 = .ok (.iinc 5 1, 3) := by decide +kernel
theorem dX3_minutesFor_31 : decode cX3_minutesFor 31 = .ok (.goto (-25), 3) := by decide +kernel
theorem dX3_minutesFor_34 : decode cX3_minutesFor 34 = .ok (.iload 4, 2) := by decide +kernel
theorem dX3_minutesFor_36 : decode cX3_minutesFor 36 = .ok (.ireturn, 1) := by decide +kernel
theorem dX3_fits_0 : decode cX3_fits 0 = .ok (.iconst 0, 1) := by decide +kernel
theorem dX3_fits_1 : decode cX3_fits 1 = .ok (.istore 5, 2) := by decide +kernel
theorem dX3_fits_3 : decode cX3_fits 3 = .ok (.iload 5, 2) := by decide +kernel
theorem dX3_fits_5 : decode cX3_fits 5 = .ok (.aload 4, 2) := by decide +kernel
theorem dX3_fits_7 : decode cX3_fits 7 = .ok (.getfield 38, 3) := by decide +kernel
theorem dX3_fits_10 : decode cX3_fits 10 = .ok (.if_icmp .ge 52, 3) := by decide +kernel
theorem dX3_fits_13 : decode cX3_fits 13 = .ok (.aload 4, 2) := by decide +kernel
theorem dX3_fits_15 : decode cX3_fits 15 = .ok (.iload 5, 2) := by decide +kernel
theorem dX3_fits_17 : decode cX3_fits 17 = .ok (.invokevirtual 44, 3) := by decide +kernel
theorem dX3_fits_20 : decode cX3_fits 20 = .ok (.istore 6, 2) := by decide +kernel
theorem dX3_fits_22 : decode cX3_fits 22 = .ok (.aload 4, 2) := by decide +kernel
theorem dX3_fits_24 : decode cX3_fits 24 = .ok (.iload 5, 2) := by decide +kernel
theorem dX3_fits_26 : decode cX3_fits 26 = .ok (.invokevirtual 47, 3) := by decide +kernel
theorem dX3_fits_29 : decode cX3_fits 29 = .ok (.iload_n 2, 1) := by decide +kernel
theorem dX3_fits_30 : decode cX3_fits 30 = .ok (.isub, 1) := by decide +kernel
theorem dX3_fits_31 : decode cX3_fits 31 = .ok (.istore 7, 2) := by decide +kernel
theorem dX3_fits_33 : decode cX3_fits 33 = .ok (.iload 6, 2) := by decide +kernel
theorem dX3_fits_35 : decode cX3_fits 35 = .ok (.iload_n 1, 1) := by decide +kernel
theorem dX3_fits_36 : decode cX3_fits 36 = .ok (.if_icmp .eq 18, 3) := by decide +kernel
theorem dX3_fits_39 : decode cX3_fits 39 = .ok (.aload_n 0, 1) := by decide +kernel
theorem dX3_fits_40 : decode cX3_fits 40 = .ok (.aload_n 3, 1) := by decide +kernel
theorem dX3_fits_41 : decode cX3_fits 41 = .ok (.iload 6, 2) := by decide +kernel
theorem dX3_fits_43 : decode cX3_fits 43 = .ok (.invokevirtual 50, 3) := by decide +kernel
theorem dX3_fits_46 : decode cX3_fits 46 = .ok (.iload 7, 2) := by decide +kernel
theorem dX3_fits_48 : decode cX3_fits 48 = .ok (.invokevirtual 55, 3) := by decide +kernel
theorem dX3_fits_51 : decode cX3_fits 51 = .ok (.ifCond .ne 5, 3) := by decide +kernel
theorem dX3_fits_54 : decode cX3_fits 54 = .ok (.iconst 0, 1) := by decide +kernel
theorem dX3_fits_55 : decode cX3_fits 55 = .ok (.ireturn, 1) := by decide +kernel
theorem dX3_fits_56 : decode cX3_fits 56 = .ok (.iinc 5 1, 3) := by decide +kernel
theorem dX3_fits_59 : decode cX3_fits 59 = .ok (.goto (-56), 3) := by decide +kernel
theorem dX3_fits_62 : decode cX3_fits 62 = .ok (.iconst 1, 1) := by decide +kernel
theorem dX3_fits_63 : decode cX3_fits 63 = .ok (.ireturn, 1) := by decide +kernel
theorem dX3_isHeard_0 : decode cX3_isHeard 0 = .ok (.iload_n 1, 1) := by decide +kernel
theorem dX3_isHeard_1 : decode cX3_isHeard 1 = .ok (.ifCond .lt 20, 3) := by decide +kernel
theorem dX3_isHeard_4 : decode cX3_isHeard 4 = .ok (.iload_n 1, 1) := by decide +kernel
theorem dX3_isHeard_5 : decode cX3_isHeard 5 = .ok (.bipush 36, 2) := by decide +kernel
theorem dX3_isHeard_7 : decode cX3_isHeard 7 = .ok (.if_icmp .ge 14, 3) := by decide +kernel
theorem dX3_isHeard_10 : decode cX3_isHeard 10 = .ok (.iload_n 2, 1) := by decide +kernel
theorem dX3_isHeard_11 : decode cX3_isHeard 11 = .ok (.iconst 1, 1) := by decide +kernel
theorem dX3_isHeard_12 : decode cX3_isHeard 12 = .ok (.if_icmp .lt 9, 3) := by decide +kernel
theorem dX3_isHeard_15 : decode cX3_isHeard 15 = .ok (.iload_n 2, 1) := by decide +kernel
theorem dX3_isHeard_16 : decode cX3_isHeard 16 = .ok (.bipush 60, 2) := by decide +kernel
theorem dX3_isHeard_18 : decode cX3_isHeard 18 = .ok (.if_icmp .le 5, 3) := by decide +kernel
theorem dX3_isHeard_21 : decode cX3_isHeard 21 = .ok (.iconst 0, 1) := by decide +kernel
theorem dX3_isHeard_22 : decode cX3_isHeard 22 = .ok (.ireturn, 1) := by decide +kernel
theorem dX3_isHeard_23 : decode cX3_isHeard 23 = .ok (.aload_n 0, 1) := by decide +kernel
theorem dX3_isHeard_24 : decode cX3_isHeard 24 = .ok (.getfield 9, 3) := by decide +kernel
theorem dX3_isHeard_27 : decode cX3_isHeard 27 = .ok (.iload_n 1, 1) := by decide +kernel
theorem dX3_isHeard_28 : decode cX3_isHeard 28 = .ok (.laload, 1) := by decide +kernel
theorem dX3_isHeard_29 : decode cX3_isHeard 29 = .ok (.iload_n 2, 1) := by decide +kernel
theorem dX3_isHeard_30 : decode cX3_isHeard 30 = .ok (.lshr, 1) := by decide +kernel
theorem dX3_isHeard_31 : decode cX3_isHeard 31 = .ok (.lconst 1, 1) := by decide +kernel
theorem dX3_isHeard_32 : decode cX3_isHeard 32 = .ok (.land, 1) := by decide +kernel
theorem dX3_isHeard_33 : decode cX3_isHeard 33 = .ok (.lconst 1, 1) := by decide +kernel
theorem dX3_isHeard_34 : decode cX3_isHeard 34 = .ok (.lcmp, 1) := by decide +kernel
theorem dX3_isHeard_35 : decode cX3_isHeard 35 = .ok (.ifCond .ne 7, 3) := by decide +kernel
theorem dX3_isHeard_38 : decode cX3_isHeard 38 = .ok (.iconst 1, 1) := by decide +kernel
theorem dX3_isHeard_39 : decode cX3_isHeard 39 = .ok (.goto 4, 3) := by decide +kernel
theorem dX3_isHeard_42 : decode cX3_isHeard 42 = .ok (.iconst 0, 1) := by decide +kernel
theorem dX3_isHeard_43 : decode cX3_isHeard 43 = .ok (.ireturn, 1) := by decide +kernel
theorem dX4_init_0 : decode cX4_init 0 = .ok (.aload_n 0, 1) := by decide +kernel
theorem dX4_init_1 : decode cX4_init 1 = .ok (.invokespecial 1, 3) := by decide +kernel
theorem dX4_init_4 : decode cX4_init 4 = .ok (.aload_n 0, 1) := by decide +kernel
theorem dX4_init_5 : decode cX4_init 5 = .ok (.new 7, 3) := by decide +kernel
theorem dX4_init_8 : decode cX4_init 8 = .ok (.dup, 1) := by decide +kernel
theorem dX4_init_9 : decode cX4_init 9 = .ok (.invokespecial 9, 3) := by decide +kernel
theorem dX4_init_12 : decode cX4_init 12 = .ok (.putfield 10, 3) := by decide +kernel
theorem dX4_init_15 : decode cX4_init 15 = .ok (.aload_n 0, 1) := by decide +kernel
theorem dX4_init_16 : decode cX4_init 16 = .ok (.new 16, 3) := by decide +kernel
theorem dX4_init_19 : decode cX4_init 19 = .ok (.dup, 1) := by decide +kernel
theorem dX4_init_20 : decode cX4_init 20 = .ok (.invokespecial 18, 3) := by decide +kernel
theorem dX4_init_23 : decode cX4_init 23 = .ok (.putfield 19, 3) := by decide +kernel
theorem dX4_init_26 : decode cX4_init 26 = .ok (.aload_n 0, 1) := by decide +kernel
theorem dX4_init_27 : decode cX4_init 27 = .ok (.iconst 0, 1) := by decide +kernel
theorem dX4_init_28 : decode cX4_init 28 = .ok (.putfield 23, 3) := by decide +kernel
theorem dX4_init_31 : decode cX4_init 31 = .ok (.return_, 1) := by decide +kernel
theorem dX5_init_0 : decode cX5_init 0 = .ok (.aload_n 0, 1) := by decide +kernel
theorem dX5_init_1 : decode cX5_init 1 = .ok (.invokespecial 3, 3) := by decide +kernel
theorem dX5_init_4 : decode cX5_init 4 = .ok (.aload_n 0, 1) := by decide +kernel
theorem dX5_init_5 : decode cX5_init 5 = .ok (.aconst_null, 1) := by decide +kernel
theorem dX5_init_6 : decode cX5_init 6 = .ok (.putfield 9, 3) := by decide +kernel
theorem dX5_init_9 : decode cX5_init 9 = .ok (.aload_n 0, 1) := by decide +kernel
theorem dX5_init_10 : decode cX5_init 10 = .ok (.iconst 0, 1) := by decide +kernel
theorem dX5_init_11 : decode cX5_init 11 = .ok (.putfield 15, 3) := by decide +kernel
theorem dX5_init_14 : decode cX5_init 14 = .ok (.aload_n 0, 1) := by decide +kernel
theorem dX5_init_15 : decode cX5_init 15 = .ok (.iconst 0, 1) := by decide +kernel
theorem dX5_init_16 : decode cX5_init 16 = .ok (.putfield 19, 3) := by decide +kernel
theorem dX5_init_19 : decode cX5_init 19 = .ok (.aload_n 0, 1) := by decide +kernel
theorem dX5_init_20 : decode cX5_init 20 = .ok (.iconst 0, 1) := by decide +kernel
theorem dX5_init_21 : decode cX5_init 21 = .ok (.putfield 22, 3) := by decide +kernel
theorem dX5_init_24 : decode cX5_init 24 = .ok (.aload_n 0, 1) := by decide +kernel
theorem dX5_init_25 : decode cX5_init 25 = .ok (.iconst 3, 1) := by decide +kernel
theorem dX5_init_26 : decode cX5_init 26 = .ok (.newarray .int, 2) := by decide +kernel
theorem dX5_init_28 : decode cX5_init 28 = .ok (.putfield 25, 3) := by decide +kernel
theorem dX5_init_31 : decode cX5_init 31 = .ok (.aload_n 0, 1) := by decide +kernel
theorem dX5_init_32 : decode cX5_init 32 = .ok (.iconst 0, 1) := by decide +kernel
theorem dX5_init_33 : decode cX5_init 33 = .ok (.putfield 29, 3) := by decide +kernel
theorem dX5_init_36 : decode cX5_init 36 = .ok (.return_, 1) := by decide +kernel
theorem dX5_read_0 : decode cX5_read 0 = .ok (.aload_n 0, 1) := by decide +kernel
theorem dX5_read_1 : decode cX5_read 1 = .ok (.aload_n 1, 1) := by decide +kernel
theorem dX5_read_2 : decode cX5_read 2 = .ok (.putfield 9, 3) := by decide +kernel
theorem dX5_read_5 : decode cX5_read 5 = .ok (.aload_n 0, 1) := by decide +kernel
theorem dX5_read_6 : decode cX5_read 6 = .ok (.iconst 0, 1) := by decide +kernel
theorem dX5_read_7 : decode cX5_read 7 = .ok (.putfield 22, 3) := by decide +kernel
theorem dX5_read_10 : decode cX5_read 10 = .ok (.aload_n 0, 1) := by decide +kernel
theorem dX5_read_11 : decode cX5_read 11 = .ok (.iconst 0, 1) := by decide +kernel
theorem dX5_read_12 : decode cX5_read 12 = .ok (.putfield 29, 3) := by decide +kernel
theorem dX5_read_15 : decode cX5_read 15 = .ok (.iconst 0, 1) := by decide +kernel
theorem dX5_read_16 : decode cX5_read 16 = .ok (.istore_n 3, 1) := by decide +kernel
theorem dX5_read_17 : decode cX5_read 17 = .ok (.iload_n 3, 1) := by decide +kernel
theorem dX5_read_18 : decode cX5_read 18 = .ok (.bipush 10, 2) := by decide +kernel
theorem dX5_read_20 : decode cX5_read 20 = .ok (.if_icmp .ge 62, 3) := by decide +kernel
theorem dX5_read_23 : decode cX5_read 23 = .ok (.aload_n 0, 1) := by decide +kernel
theorem dX5_read_24 : decode cX5_read 24 = .ok (.invokevirtual 32, 3) := by decide +kernel
theorem dX5_read_27 : decode cX5_read 27 = .ok (.aload_n 0, 1) := by decide +kernel
theorem dX5_read_28 : decode cX5_read 28 = .ok (.aload_n 2, 1) := by decide +kernel
theorem dX5_read_29 : decode cX5_read 29 = .ok (.invokevirtual 35, 3) := by decide +kernel
theorem dX5_read_32 : decode cX5_read 32 = .ok (.ifCond .ne 8, 3) := by decide +kernel
theorem dX5_read_35 : decode cX5_read 35 = .ok (.aload_n 0, 1) := by decide +kernel
theorem dX5_read_36 : decode cX5_read 36 = .ok (.getfield 19, 3) := by decide +kernel
theorem dX5_read_39 : decode cX5_read 39 = .ok (.ireturn, 1) := by decide +kernel
theorem dX5_read_40 : decode cX5_read 40 = .ok (.aload_n 0, 1) := by decide +kernel
theorem dX5_read_41 : decode cX5_read 41 = .ok (.dup, 1) := by decide +kernel
theorem dX5_read_42 : decode cX5_read 42 = .ok (.getfield 29, 3) := by decide +kernel
theorem dX5_read_45 : decode cX5_read 45 = .ok (.iconst 1, 1) := by decide +kernel
theorem dX5_read_46 : decode cX5_read 46 = .ok (.iadd, 1) := by decide +kernel
theorem dX5_read_47 : decode cX5_read 47 = .ok (.putfield 29, 3) := by decide +kernel
theorem dX5_read_50 : decode cX5_read 50 = .ok (.aload_n 0, 1) := by decide +kernel
theorem dX5_read_51 : decode cX5_read 51 = .ok (.invokevirtual 32, 3) := by decide +kernel
theorem dX5_read_54 : decode cX5_read 54 = .ok (.aload_n 0, 1) := by decide +kernel
theorem dX5_read_55 : decode cX5_read 55 = .ok (.getfield 15, 3) := by decide +kernel
theorem dX5_read_58 : decode cX5_read 58 = .ok (.ifCond .ne 5, 3) := by decide +kernel
theorem dX5_read_61 : decode cX5_read 61 = .ok (.iconst (-1), 1) := by decide +kernel
theorem dX5_read_62 : decode cX5_read 62 = .ok (.ireturn, 1) := by decide +kernel
theorem dX5_read_63 : decode cX5_read 63 = .ok (.aload_n 0, 1) := by decide +kernel
theorem dX5_read_64 : decode cX5_read 64 = .ok (.getfield 15, 3) := by decide +kernel
theorem dX5_read_67 : decode cX5_read 67 = .ok (.iconst 3, 1) := by decide +kernel
theorem dX5_read_68 : decode cX5_read 68 = .ok (.if_icmp .eq 8, 3) := by decide +kernel
theorem dX5_read_71 : decode cX5_read 71 = .ok (.aload_n 0, 1) := by decide +kernel
theorem dX5_read_72 : decode cX5_read 72 = .ok (.getfield 19, 3) := by decide +kernel
theorem dX5_read_75 : decode cX5_read 75 = .ok (.ireturn, 1) := by decide +kernel
theorem dX5_read_76 : decode cX5_read 76 = .ok (.iinc 3 1, 3) := by decide +kernel
theorem dX5_read_79 : decode cX5_read 79 = .ok (.goto (-62), 3) := by decide +kernel
theorem dX5_read_82 : decode cX5_read 82 = .ok (.aload_n 0, 1) := by decide +kernel
theorem dX5_read_83 : decode cX5_read 83 = .ok (.getfield 19, 3) := by decide +kernel
theorem dX5_read_86 : decode cX5_read 86 = .ok (.ireturn, 1) := by decide +kernel
theorem dX5_nextToken_0 : decode cX5_nextToken 0 = .ok (.aload_n 0, 1) := by decide +kernel
theorem dX5_nextToken_1 : decode cX5_nextToken 1 = .ok (.aload_n 0, 1) := by decide +kernel
theorem dX5_nextToken_2 : decode cX5_nextToken 2 = .ok (.getfield 22, 3) := by decide +kernel
theorem dX5_nextToken_5 : decode cX5_nextToken 5 = .ok (.putfield 19, 3) := by decide +kernel
theorem dX5_nextToken_8 : decode cX5_nextToken 8 = .ok (.iconst 0, 1) := by decide +kernel
theorem dX5_nextToken_9 : decode cX5_nextToken 9 = .ok (.istore_n 1, 1) := by decide +kernel
theorem dX5_nextToken_10 : decode cX5_nextToken 10 = .ok (.iload_n 1, 1) := by decide +kernel
theorem dX5_nextToken_11 : decode cX5_nextToken 11 = .ok (.sipush 200, 3) := by decide +kernel
theorem dX5_nextToken_14 : decode cX5_nextToken 14 = .ok (.if_icmp .ge 32, 3) := by decide +kernel
theorem dX5_nextToken_17 : decode cX5_nextToken 17 = .ok (.aload_n 0, 1) := by decide +kernel
theorem dX5_nextToken_18 : decode cX5_nextToken 18 = .ok (.aload_n 0, 1) := by decide +kernel
theorem dX5_nextToken_19 : decode cX5_nextToken 19 = .ok (.getfield 19, 3) := by decide +kernel
theorem dX5_nextToken_22 : decode cX5_nextToken 22 = .ok (.invokevirtual 41, 3) := by decide +kernel
theorem dX5_nextToken_25 : decode cX5_nextToken 25 = .ok (.bipush 32, 2) := by decide +kernel
theorem dX5_nextToken_27 : decode cX5_nextToken 27 = .ok (.if_icmp .ne 19, 3) := by decide +kernel
theorem dX5_nextToken_30 : decode cX5_nextToken 30 = .ok (.aload_n 0, 1) := by decide +kernel
theorem dX5_nextToken_31 : decode cX5_nextToken 31 = .ok (.dup, 1) := by decide +kernel
theorem dX5_nextToken_32 : decode cX5_nextToken 32 = .ok (.getfield 19, 3) := by decide +kernel
theorem dX5_nextToken_35 : decode cX5_nextToken 35 = .ok (.iconst 1, 1) := by decide +kernel
theorem dX5_nextToken_36 : decode cX5_nextToken 36 = .ok (.iadd, 1) := by decide +kernel
theorem dX5_nextToken_37 : decode cX5_nextToken 37 = .ok (.putfield 19, 3) := by decide +kernel
theorem dX5_nextToken_40 : decode cX5_nextToken 40 = .ok (.iinc 1 1, 3) := by decide +kernel
theorem dX5_nextToken_43 : decode cX5_nextToken 43 = .ok (.goto (-33), 3) := by decide +kernel
theorem dX5_nextToken_46 : decode cX5_nextToken 46 = .ok (.aload_n 0, 1) := by decide +kernel
theorem dX5_nextToken_47 : decode cX5_nextToken 47 = .ok (.aload_n 0, 1) := by decide +kernel
theorem dX5_nextToken_48 : decode cX5_nextToken 48 = .ok (.aload_n 0, 1) := by decide +kernel
theorem dX5_nextToken_49 : decode cX5_nextToken 49 = .ok (.getfield 19, 3) := by decide +kernel
theorem dX5_nextToken_52 : decode cX5_nextToken 52 = .ok (.invokevirtual 41, 3) := by decide +kernel
theorem dX5_nextToken_55 : decode cX5_nextToken 55 = .ok (.invokestatic 45, 3) := by decide +kernel
theorem dX5_nextToken_58 : decode cX5_nextToken 58 = .ok (.putfield 15, 3) := by decide +kernel
theorem dX5_nextToken_61 : decode cX5_nextToken 61 = .ok (.aload_n 0, 1) := by decide +kernel
theorem dX5_nextToken_62 : decode cX5_nextToken 62 = .ok (.aload_n 0, 1) := by decide +kernel
theorem dX5_nextToken_63 : decode cX5_nextToken 63 = .ok (.getfield 19, 3) := by decide +kernel
theorem dX5_nextToken_66 : decode cX5_nextToken 66 = .ok (.putfield 22, 3) := by decide +kernel
theorem dX5_nextToken_69 : decode cX5_nextToken 69 = .ok (.aload_n 0, 1) := by decide +kernel
theorem dX5_nextToken_70 : decode cX5_nextToken 70 = .ok (.getfield 15, 3) := by decide +kernel
theorem dX5_nextToken_73 : decode cX5_nextToken 73 = .ok (.ifCond .ne 4, 3) := by decide +kernel
theorem dX5_nextToken_76 : decode cX5_nextToken 76 = .ok (.return_, 1) := by decide +kernel
theorem dX5_nextToken_77 : decode cX5_nextToken 77 = .ok (.aload_n 0, 1) := by decide +kernel
theorem dX5_nextToken_78 : decode cX5_nextToken 78 = .ok (.dup, 1) := by decide +kernel
theorem dX5_nextToken_79 : decode cX5_nextToken 79 = .ok (.getfield 22, 3) := by decide +kernel
theorem dX5_nextToken_82 : decode cX5_nextToken 82 = .ok (.iconst 1, 1) := by decide +kernel
theorem dX5_nextToken_83 : decode cX5_nextToken 83 = .ok (.iadd, 1) := by decide +kernel
theorem dX5_nextToken_84 : decode cX5_nextToken 84 = .ok (.putfield 22, 3) := by decide +kernel
theorem dX5_nextToken_87 : decode cX5_nextToken 87 = .ok (.aload_n 0, 1) := by decide +kernel
theorem dX5_nextToken_88 : decode cX5_nextToken 88 = .ok (.getfield 15, 3) := by decide +kernel
theorem dX5_nextToken_91 : decode cX5_nextToken 91 = .ok (.iconst 1, 1) := by decide +kernel
theorem dX5_nextToken_92 : decode cX5_nextToken 92 = .ok (.if_icmp .eq 12, 3) := by decide +kernel
theorem dX5_nextToken_95 : decode cX5_nextToken 95 = .ok (.aload_n 0, 1) := by decide +kernel
theorem dX5_nextToken_96 : decode cX5_nextToken 96 = .ok (.getfield 15, 3) := by decide +kernel
theorem dX5_nextToken_99 : decode cX5_nextToken 99 = .ok (.iconst 2, 1) := by decide +kernel
theorem dX5_nextToken_100 : decode cX5_nextToken 100 = .ok (.if_icmp .eq 4, 3) := by decide +kernel
theorem dX5_nextToken_103 : decode cX5_nextToken 103 = .ok (.return_, 1) := by decide +kernel
theorem dX5_nextToken_104 : decode cX5_nextToken 104 = .ok (.iconst 0, 1) := by decide +kernel
theorem dX5_nextToken_105 : decode cX5_nextToken 105 = .ok (.istore_n 1, 1) := by decide +kernel
theorem dX5_nextToken_106 : decode cX5_nextToken 106 = .ok (.iload_n 1, 1) := by decide +kernel
theorem dX5_nextToken_107 : decode cX5_nextToken 107 = .ok (.sipush 200, 3) := by decide +kernel
theorem dX5_nextToken_110 : decode cX5_nextToken 110 = .ok (.if_icmp .ge 37, 3) := by decide +kernel
theorem dX5_nextToken_113 : decode cX5_nextToken 113 = .ok (.aload_n 0, 1) := by decide +kernel
theorem dX5_nextToken_114 : decode cX5_nextToken 114 = .ok (.aload_n 0, 1) := by decide +kernel
theorem dX5_nextToken_115 : decode cX5_nextToken 115 = .ok (.getfield 22, 3) := by decide +kernel
theorem dX5_nextToken_118 : decode cX5_nextToken 118 = .ok (.invokevirtual 41, 3) := by decide +kernel
theorem dX5_nextToken_121 : decode cX5_nextToken 121 = .ok (.invokestatic 45, 3) := by decide +kernel
theorem dX5_nextToken_124 : decode cX5_nextToken 124 = .ok (.aload_n 0, 1) := by decide +kernel
theorem dX5_nextToken_125 : decode cX5_nextToken 125 = .ok (.getfield 15, 3) := by decide +kernel
theorem dX5_nextToken_128 : decode cX5_nextToken 128 = .ok (.if_icmp .ne 19, 3) := by decide +kernel
theorem dX5_nextToken_131 : decode cX5_nextToken 131 = .ok (.aload_n 0, 1) := by decide +kernel
theorem dX5_nextToken_132 : decode cX5_nextToken 132 = .ok (.dup, 1) := by decide +kernel
theorem dX5_nextToken_133 : decode cX5_nextToken 133 = .ok (.getfield 22, 3) := by decide +kernel
theorem dX5_nextToken_136 : decode cX5_nextToken 136 = .ok (.iconst 1, 1) := by decide +kernel
theorem dX5_nextToken_137 : decode cX5_nextToken 137 = .ok (.iadd, 1) := by decide +kernel
theorem dX5_nextToken_138 : decode cX5_nextToken 138 = .ok (.putfield 22, 3) := by decide +kernel
theorem dX5_nextToken_141 : decode cX5_nextToken 141 = .ok (.iinc 1 1, 3) := by decide +kernel
theorem dX5_nextToken_144 : decode cX5_nextToken 144 = .ok (.goto (-38), 3) := by decide +kernel
theorem dX5_nextToken_147 : decode cX5_nextToken 147 = .ok (.return_, 1) := by decide +kernel
theorem dX5_byteAt_0 : decode cX5_byteAt 0 = .ok (.aload_n 0, 1) := by decide +kernel
theorem dX5_byteAt_1 : decode cX5_byteAt 1 = .ok (.getfield 9, 3) := by decide +kernel
theorem dX5_byteAt_4 : decode cX5_byteAt 4 = .ok (.ifnonnull 7, 3) := by decide +kernel
theorem dX5_byteAt_7 : decode cX5_byteAt 7 = .ok (.iconst (-1), 1) := by decide +kernel
theorem dX5_byteAt_8 : decode cX5_byteAt 8 = .ok (.goto 11, 3) := by decide +kernel
theorem dX5_byteAt_11 : decode cX5_byteAt 11 = .ok (.aload_n 0, 1) := by decide +kernel
theorem dX5_byteAt_12 : decode cX5_byteAt 12 = .ok (.getfield 9, 3) := by decide +kernel
theorem dX5_byteAt_15 : decode cX5_byteAt 15 = .ok (.iload_n 1, 1) := by decide +kernel
theorem dX5_byteAt_16 : decode cX5_byteAt 16 = .ok (.invokevirtual 48, 3) := by decide +kernel
theorem dX5_byteAt_19 : decode cX5_byteAt 19 = .ok (.ireturn, 1) := by decide +kernel
theorem dX5_sortOf_0 : decode cX5_sortOf 0 = .ok (.iload_n 0, 1) := by decide +kernel
theorem dX5_sortOf_1 : decode cX5_sortOf 1 = .ok (.iconst (-1), 1) := by decide +kernel
theorem dX5_sortOf_2 : decode cX5_sortOf 2 = .ok (.if_icmp .ne 5, 3) := by decide +kernel
theorem dX5_sortOf_5 : decode cX5_sortOf 5 = .ok (.iconst 0, 1) := by decide +kernel
theorem dX5_sortOf_6 : decode cX5_sortOf 6 = .ok (.ireturn, 1) := by decide +kernel
theorem dX5_sortOf_7 : decode cX5_sortOf 7 = .ok (.iload_n 0, 1) := by decide +kernel
theorem dX5_sortOf_8 : decode cX5_sortOf 8 = .ok (.bipush 97, 2) := by decide +kernel
theorem dX5_sortOf_10 : decode cX5_sortOf 10 = .ok (.if_icmp .lt 11, 3) := by decide +kernel
theorem dX5_sortOf_13 : decode cX5_sortOf 13 = .ok (.iload_n 0, 1) := by decide +kernel
theorem dX5_sortOf_14 : decode cX5_sortOf 14 = .ok (.bipush 122, 2) := by decide +kernel
theorem dX5_sortOf_16 : decode cX5_sortOf 16 = .ok (.if_icmp .gt 5, 3) := by decide +kernel
theorem dX5_sortOf_19 : decode cX5_sortOf 19 = .ok (.iconst 1, 1) := by decide +kernel
theorem dX5_sortOf_20 : decode cX5_sortOf 20 = .ok (.ireturn, 1) := by decide +kernel
theorem dX5_sortOf_21 : decode cX5_sortOf 21 = .ok (.iload_n 0, 1) := by decide +kernel
theorem dX5_sortOf_22 : decode cX5_sortOf 22 = .ok (.bipush 48, 2) := by decide +kernel
theorem dX5_sortOf_24 : decode cX5_sortOf 24 = .ok (.if_icmp .lt 11, 3) := by decide +kernel
theorem dX5_sortOf_27 : decode cX5_sortOf 27 = .ok (.iload_n 0, 1) := by decide +kernel
theorem dX5_sortOf_28 : decode cX5_sortOf 28 = .ok (.bipush 57, 2) := by decide +kernel
theorem dX5_sortOf_30 : decode cX5_sortOf 30 = .ok (.if_icmp .gt 5, 3) := by decide +kernel
theorem dX5_sortOf_33 : decode cX5_sortOf 33 = .ok (.iconst 2, 1) := by decide +kernel
theorem dX5_sortOf_34 : decode cX5_sortOf 34 = .ok (.ireturn, 1) := by decide +kernel
theorem dX5_sortOf_35 : decode cX5_sortOf 35 = .ok (.iload_n 0, 1) := by decide +kernel
theorem dX5_sortOf_36 : decode cX5_sortOf 36 = .ok (.bipush 59, 2) := by decide +kernel
theorem dX5_sortOf_38 : decode cX5_sortOf 38 = .ok (.if_icmp .ne 7, 3) := by decide +kernel
theorem dX5_sortOf_41 : decode cX5_sortOf 41 = .ok (.iconst 3, 1) := by decide +kernel
theorem dX5_sortOf_42 : decode cX5_sortOf 42 = .ok (.goto 4, 3) := by decide +kernel
theorem dX5_sortOf_45 : decode cX5_sortOf 45 = .ok (.iconst 4, 1) := by decide +kernel
theorem dX5_sortOf_46 : decode cX5_sortOf 46 = .ok (.ireturn, 1) := by decide +kernel
theorem dX5_readLine_0 : decode cX5_readLine 0 = .ok (.aload_n 0, 1) := by decide +kernel
theorem dX5_readLine_1 : decode cX5_readLine 1 = .ok (.invokevirtual 49, 3) := by decide +kernel
theorem dX5_readLine_4 : decode cX5_readLine 4 = .ok (.istore_n 2, 1) := by decide +kernel
theorem dX5_readLine_5 : decode cX5_readLine 5 = .ok (.iload_n 2, 1) := by decide +kernel
theorem dX5_readLine_6 : decode cX5_readLine 6 = .ok (.ifCond .eq 18, 3) := by decide +kernel
theorem dX5_readLine_9 : decode cX5_readLine 9 = .ok (.iload_n 2, 1) := by decide +kernel
theorem dX5_readLine_10 : decode cX5_readLine 10 = .ok (.bipush 6, 2) := by decide +kernel
theorem dX5_readLine_12 : decode cX5_readLine 12 = .ok (.if_icmp .ne 14, 3) := by decide +kernel
theorem dX5_readLine_15 : decode cX5_readLine 15 = .ok (.aload_n 1, 1) := by decide +kernel
theorem dX5_readLine_16 : decode cX5_readLine 16 = .ok (.getfield 53, 3) := by decide +kernel
theorem dX5_readLine_19 : decode cX5_readLine 19 = .ok (.bipush 6, 2) := by decide +kernel
theorem dX5_readLine_21 : decode cX5_readLine 21 = .ok (.if_icmp .lt 5, 3) := by decide +kernel
theorem dX5_readLine_24 : decode cX5_readLine 24 = .ok (.iconst 0, 1) := by decide +kernel
theorem dX5_readLine_25 : decode cX5_readLine 25 = .ok (.ireturn, 1) := by decide +kernel
theorem dX5_readLine_26 : decode cX5_readLine 26 = .ok (.iload_n 2, 1) := by decide +kernel
theorem dX5_readLine_27 : decode cX5_readLine 27 = .ok (.invokestatic 58, 3) := by decide +kernel
theorem dX5_readLine_30 : decode cX5_readLine 30 = .ok (.astore_n 3, 1) := by decide +kernel
theorem dX5_readLine_31 : decode cX5_readLine 31 = .ok (.iconst 0, 1) := by decide +kernel
theorem dX5_readLine_32 : decode cX5_readLine 32 = .ok (.istore 4, 2) := by decide +kernel
theorem dX5_readLine_34 : decode cX5_readLine 34 = .ok (.iload 4, 2) := by decide +kernel
theorem dX5_readLine_36 : decode cX5_readLine 36 = .ok (.aload_n 3, 1) := by decide +kernel
theorem dX5_readLine_37 : decode cX5_readLine 37 = .ok (.invokevirtual 62, 3) := by decide +kernel
theorem dX5_readLine_40 : decode cX5_readLine 40 = .ok (.if_icmp .ge 71, 3) := by decide +kernel
theorem dX5_readLine_43 : decode cX5_readLine 43 = .ok (.iload 4, 2) := by decide +kernel
theorem dX5_readLine_45 : decode cX5_readLine 45 = .ok (.iconst 3, 1) := by decide +kernel
theorem dX5_readLine_46 : decode cX5_readLine 46 = .ok (.if_icmp .ge 65, 3) := by decide +kernel
theorem dX5_readLine_49 : decode cX5_readLine 49 = .ok (.aload_n 0, 1) := by decide +kernel
theorem dX5_readLine_50 : decode cX5_readLine 50 = .ok (.invokevirtual 32, 3) := by decide +kernel
theorem dX5_readLine_53 : decode cX5_readLine 53 = .ok (.aload_n 3, 1) := by decide +kernel
theorem dX5_readLine_54 : decode cX5_readLine 54 = .ok (.iload 4, 2) := by decide +kernel
theorem dX5_readLine_56 : decode cX5_readLine 56 = .ok (.invokevirtual 67, 3) := by decide +kernel
theorem dX5_readLine_59 : decode cX5_readLine 59 = .ok (.istore 5, 2) := by decide +kernel
theorem dX5_readLine_61 : decode cX5_readLine 61 = .ok (.aload_n 0, 1) := by decide +kernel
theorem dX5_readLine_62 : decode cX5_readLine 62 = .ok (.getfield 25, 3) := by decide +kernel
theorem dX5_readLine_65 : decode cX5_readLine 65 = .ok (.iload 4, 2) := by decide +kernel
theorem dX5_readLine_67 : decode cX5_readLine 67 = .ok (.iload 5, 2) := by decide +kernel
theorem dX5_readLine_69 : decode cX5_readLine 69 = .ok (.bipush 84, 2) := by decide +kernel
theorem dX5_readLine_71 : decode cX5_readLine 71 = .ok (.if_icmp .ne 10, 3) := by decide +kernel
theorem dX5_readLine_74 : decode cX5_readLine 74 = .ok (.aload_n 0, 1) := by decide +kernel
theorem dX5_readLine_75 : decode cX5_readLine 75 = .ok (.invokevirtual 71, 3) := by decide +kernel
theorem dX5_readLine_78 : decode cX5_readLine 78 = .ok (.goto 7, 3) := by decide +kernel
theorem dX5_readLine_81 : decode cX5_readLine 81 = .ok (.aload_n 0, 1) := by decide +kernel
theorem dX5_readLine_82 : decode cX5_readLine 82 = .ok (.invokevirtual 74, 3) := by decide +kernel
theorem dX5_readLine_85 : decode cX5_readLine 85 = .ok (.iastore, 1) := by decide +kernel
theorem dX5_readLine_86 : decode cX5_readLine 86 = .ok (.aload_n 0, 1) := by decide +kernel
theorem dX5_readLine_87 : decode cX5_readLine 87 = .ok (.iload 5, 2) := by decide +kernel
theorem dX5_readLine_89 : decode cX5_readLine 89 = .ok (.aload_n 0, 1) := by decide +kernel
theorem dX5_readLine_90 : decode cX5_readLine 90 = .ok (.getfield 25, 3) := by decide +kernel
theorem dX5_readLine_93 : decode cX5_readLine 93 = .ok (.iload 4, 2) := by decide +kernel
theorem dX5_readLine_95 : decode cX5_readLine 95 = .ok (.iaload, 1) := by decide +kernel
theorem dX5_readLine_96 : decode cX5_readLine 96 = .ok (.aload_n 1, 1) := by decide +kernel
theorem dX5_readLine_97 : decode cX5_readLine 97 = .ok (.invokevirtual 77, 3) := by decide +kernel
theorem dX5_readLine_100 : decode cX5_readLine 100 = .ok (.ifCond .ne 5, 3) := by decide +kernel
theorem dX5_readLine_103 : decode cX5_readLine 103 = .ok (.iconst 0, 1) := by decide +kernel
theorem dX5_readLine_104 : decode cX5_readLine 104 = .ok (.ireturn, 1) := by decide +kernel
theorem dX5_readLine_105 : decode cX5_readLine 105 = .ok (.iinc 4 1, 3) := by decide +kernel
theorem dX5_readLine_108 : decode cX5_readLine 108 = .ok (.goto (-74), 3) := by decide +kernel
theorem dX5_readLine_111 : decode cX5_readLine 111 = .ok (.aload_n 0, 1) := by decide +kernel
theorem dX5_readLine_112 : decode cX5_readLine 112 = .ok (.iload_n 2, 1) := by decide +kernel
theorem dX5_readLine_113 : decode cX5_readLine 113 = .ok (.aload_n 1, 1) := by decide +kernel
theorem dX5_readLine_114 : decode cX5_readLine 114 = .ok (.invokevirtual 81, 3) := by decide +kernel
theorem dX5_readLine_117 : decode cX5_readLine 117 = .ok (.iconst 1, 1) := by decide +kernel
theorem dX5_readLine_118 : decode cX5_readLine 118 = .ok (.ireturn, 1) := by decide +kernel
theorem dX5_lineOf_0 : decode cX5_lineOf 0 = .ok (.aload_n 0, 1) := by decide +kernel
theorem dX5_lineOf_1 : decode cX5_lineOf 1 = .ok (.getfield 15, 3) := by decide +kernel
theorem dX5_lineOf_4 : decode cX5_lineOf 4 = .ok (.iconst 1, 1) := by decide +kernel
theorem dX5_lineOf_5 : decode cX5_lineOf 5 = .ok (.if_icmp .eq 5, 3) := by decide +kernel
theorem dX5_lineOf_8 : decode cX5_lineOf 8 = .ok (.iconst 0, 1) := by decide +kernel
theorem dX5_lineOf_9 : decode cX5_lineOf 9 = .ok (.ireturn, 1) := by decide +kernel
theorem dX5_lineOf_10 : decode cX5_lineOf 10 = .ok (.aload_n 0, 1) := by decide +kernel
theorem dX5_lineOf_11 : decode cX5_lineOf 11 = .ok (.ldc 85, 2) := by decide +kernel
theorem dX5_lineOf_13 : decode cX5_lineOf 13 = .ok (.invokevirtual 87, 3) := by decide +kernel
theorem dX5_lineOf_16 : decode cX5_lineOf 16 = .ok (.ifCond .eq 5, 3) := by decide +kernel
theorem dX5_lineOf_19 : decode cX5_lineOf 19 = .ok (.iconst 1, 1) := by decide +kernel
theorem dX5_lineOf_20 : decode cX5_lineOf 20 = .ok (.ireturn, 1) := by decide +kernel
theorem dX5_lineOf_21 : decode cX5_lineOf 21 = .ok (.aload_n 0, 1) := by decide +kernel
theorem dX5_lineOf_22 : decode cX5_lineOf 22 = .ok (.ldc 91, 2) := by decide +kernel
theorem dX5_lineOf_24 : decode cX5_lineOf 24 = .ok (.invokevirtual 87, 3) := by decide +kernel
theorem dX5_lineOf_27 : decode cX5_lineOf 27 = .ok (.ifCond .eq 5, 3) := by decide +kernel
theorem dX5_lineOf_30 : decode cX5_lineOf 30 = .ok (.iconst 2, 1) := by decide +kernel
theorem dX5_lineOf_31 : decode cX5_lineOf 31 = .ok (.ireturn, 1) := by decide +kernel
theorem dX5_lineOf_32 : decode cX5_lineOf 32 = .ok (.aload_n 0, 1) := by decide +kernel
theorem dX5_lineOf_33 : decode cX5_lineOf 33 = .ok (.ldc 93, 2) := by decide +kernel
theorem dX5_lineOf_35 : decode cX5_lineOf 35 = .ok (.invokevirtual 87, 3) := by decide +kernel
theorem dX5_lineOf_38 : decode cX5_lineOf 38 = .ok (.ifCond .eq 5, 3) := by decide +kernel
theorem dX5_lineOf_41 : decode cX5_lineOf 41 = .ok (.iconst 3, 1) := by decide +kernel
theorem dX5_lineOf_42 : decode cX5_lineOf 42 = .ok (.ireturn, 1) := by decide +kernel
theorem dX5_lineOf_43 : decode cX5_lineOf 43 = .ok (.aload_n 0, 1) := by decide +kernel
theorem dX5_lineOf_44 : decode cX5_lineOf 44 = .ok (.ldc 95, 2) := by decide +kernel
theorem dX5_lineOf_46 : decode cX5_lineOf 46 = .ok (.invokevirtual 87, 3) := by decide +kernel
theorem dX5_lineOf_49 : decode cX5_lineOf 49 = .ok (.ifCond .eq 5, 3) := by decide +kernel
theorem dX5_lineOf_52 : decode cX5_lineOf 52 = .ok (.iconst 4, 1) := by decide +kernel
theorem dX5_lineOf_53 : decode cX5_lineOf 53 = .ok (.ireturn, 1) := by decide +kernel
theorem dX5_lineOf_54 : decode cX5_lineOf 54 = .ok (.aload_n 0, 1) := by decide +kernel
theorem dX5_lineOf_55 : decode cX5_lineOf 55 = .ok (.ldc 97, 2) := by decide +kernel
theorem dX5_lineOf_57 : decode cX5_lineOf 57 = .ok (.invokevirtual 87, 3) := by decide +kernel
theorem dX5_lineOf_60 : decode cX5_lineOf 60 = .ok (.ifCond .eq 5, 3) := by decide +kernel
theorem dX5_lineOf_63 : decode cX5_lineOf 63 = .ok (.iconst 5, 1) := by decide +kernel
theorem dX5_lineOf_64 : decode cX5_lineOf 64 = .ok (.ireturn, 1) := by decide +kernel
theorem dX5_lineOf_65 : decode cX5_lineOf 65 = .ok (.aload_n 0, 1) := by decide +kernel
theorem dX5_lineOf_66 : decode cX5_lineOf 66 = .ok (.ldc 99, 2) := by decide +kernel
theorem dX5_lineOf_68 : decode cX5_lineOf 68 = .ok (.invokevirtual 87, 3) := by decide +kernel
theorem dX5_lineOf_71 : decode cX5_lineOf 71 = .ok (.ifCond .eq 6, 3) := by decide +kernel
theorem dX5_lineOf_74 : decode cX5_lineOf 74 = .ok (.bipush 6, 2) := by decide +kernel
theorem dX5_lineOf_76 : decode cX5_lineOf 76 = .ok (.ireturn, 1) := by decide +kernel
theorem dX5_lineOf_77 : decode cX5_lineOf 77 = .ok (.aload_n 0, 1) := by decide +kernel
theorem dX5_lineOf_78 : decode cX5_lineOf 78 = .ok (.ldc 101, 2) := by decide +kernel
theorem dX5_lineOf_80 : decode cX5_lineOf 80 = .ok (.invokevirtual 87, 3) := by decide +kernel
theorem dX5_lineOf_83 : decode cX5_lineOf 83 = .ok (.ifCond .eq 6, 3) := by decide +kernel
theorem dX5_lineOf_86 : decode cX5_lineOf 86 = .ok (.bipush 7, 2) := by decide +kernel
theorem dX5_lineOf_88 : decode cX5_lineOf 88 = .ok (.ireturn, 1) := by decide +kernel
theorem dX5_lineOf_89 : decode cX5_lineOf 89 = .ok (.aload_n 0, 1) := by decide +kernel
theorem dX5_lineOf_90 : decode cX5_lineOf 90 = .ok (.ldc 103, 2) := by decide +kernel
theorem dX5_lineOf_92 : decode cX5_lineOf 92 = .ok (.invokevirtual 87, 3) := by decide +kernel
theorem dX5_lineOf_95 : decode cX5_lineOf 95 = .ok (.ifCond .eq 6, 3) := by decide +kernel
theorem dX5_lineOf_98 : decode cX5_lineOf 98 = .ok (.bipush 8, 2) := by decide +kernel
theorem dX5_lineOf_100 : decode cX5_lineOf 100 = .ok (.ireturn, 1) := by decide +kernel
theorem dX5_lineOf_101 : decode cX5_lineOf 101 = .ok (.aload_n 0, 1) := by decide +kernel
theorem dX5_lineOf_102 : decode cX5_lineOf 102 = .ok (.ldc 105, 2) := by decide +kernel
theorem dX5_lineOf_104 : decode cX5_lineOf 104 = .ok (.invokevirtual 87, 3) := by decide +kernel
theorem dX5_lineOf_107 : decode cX5_lineOf 107 = .ok (.ifCond .eq 8, 3) := by decide +kernel
theorem dX5_lineOf_110 : decode cX5_lineOf 110 = .ok (.bipush 9, 2) := by decide +kernel
theorem dX5_lineOf_112 : decode cX5_lineOf 112 = .ok (.goto 4, 3) := by decide +kernel
theorem dX5_lineOf_115 : decode cX5_lineOf 115 = .ok (.iconst 0, 1) := by decide +kernel
theorem dX5_lineOf_116 : decode cX5_lineOf 116 = .ok (.ireturn, 1) := by decide +kernel
theorem dX5_isWord_0 : decode cX5_isWord 0 = .ok (.aload_n 0, 1) := by decide +kernel
theorem dX5_isWord_1 : decode cX5_isWord 1 = .ok (.getfield 22, 3) := by decide +kernel
theorem dX5_isWord_4 : decode cX5_isWord 4 = .ok (.aload_n 0, 1) := by decide +kernel
theorem dX5_isWord_5 : decode cX5_isWord 5 = .ok (.getfield 19, 3) := by decide +kernel
theorem dX5_isWord_8 : decode cX5_isWord 8 = .ok (.isub, 1) := by decide +kernel
theorem dX5_isWord_9 : decode cX5_isWord 9 = .ok (.aload_n 1, 1) := by decide +kernel
theorem dX5_isWord_10 : decode cX5_isWord 10 = .ok (.invokevirtual 62, 3) := by decide +kernel
theorem dX5_isWord_13 : decode cX5_isWord 13 = .ok (.if_icmp .eq 5, 3) := by decide +kernel
theorem dX5_isWord_16 : decode cX5_isWord 16 = .ok (.iconst 0, 1) := by decide +kernel
theorem dX5_isWord_17 : decode cX5_isWord 17 = .ok (.ireturn, 1) := by decide +kernel
theorem dX5_isWord_18 : decode cX5_isWord 18 = .ok (.iconst 0, 1) := by decide +kernel
theorem dX5_isWord_19 : decode cX5_isWord 19 = .ok (.istore_n 2, 1) := by decide +kernel
theorem dX5_isWord_20 : decode cX5_isWord 20 = .ok (.iload_n 2, 1) := by decide +kernel
theorem dX5_isWord_21 : decode cX5_isWord 21 = .ok (.aload_n 1, 1) := by decide +kernel
theorem dX5_isWord_22 : decode cX5_isWord 22 = .ok (.invokevirtual 62, 3) := by decide +kernel
theorem dX5_isWord_25 : decode cX5_isWord 25 = .ok (.if_icmp .ge 29, 3) := by decide +kernel
theorem dX5_isWord_28 : decode cX5_isWord 28 = .ok (.aload_n 0, 1) := by decide +kernel
theorem dX5_isWord_29 : decode cX5_isWord 29 = .ok (.aload_n 0, 1) := by decide +kernel
theorem dX5_isWord_30 : decode cX5_isWord 30 = .ok (.getfield 19, 3) := by decide +kernel
theorem dX5_isWord_33 : decode cX5_isWord 33 = .ok (.iload_n 2, 1) := by decide +kernel
theorem dX5_isWord_34 : decode cX5_isWord 34 = .ok (.iadd, 1) := by decide +kernel
theorem dX5_isWord_35 : decode cX5_isWord 35 = .ok (.invokevirtual 41, 3) := by decide +kernel
theorem dX5_isWord_38 : decode cX5_isWord 38 = .ok (.aload_n 1, 1) := by decide +kernel
theorem dX5_isWord_39 : decode cX5_isWord 39 = .ok (.iload_n 2, 1) := by decide +kernel
theorem dX5_isWord_40 : decode cX5_isWord 40 = .ok (.invokevirtual 67, 3) := by decide +kernel
theorem dX5_isWord_43 : decode cX5_isWord 43 = .ok (.if_icmp .eq 5, 3) := by decide +kernel
theorem dX5_isWord_46 : decode cX5_isWord 46 = .ok (.iconst 0, 1) := by decide +kernel
theorem dX5_isWord_47 : decode cX5_isWord 47 = .ok (.ireturn, 1) := by decide +kernel
theorem dX5_isWord_48 : decode cX5_isWord 48 = .ok (.iinc 2 1, 3) := by decide +kernel
theorem dX5_isWord_51 : decode cX5_isWord 51 = .ok (.goto (-31), 3) := by decide +kernel
theorem dX5_isWord_54 : decode cX5_isWord 54 = .ok (.iconst 1, 1) := by decide +kernel
theorem dX5_isWord_55 : decode cX5_isWord 55 = .ok (.ireturn, 1) := by decide +kernel
theorem dX5_formsOf_0 : decode cX5_formsOf 0 = .ok (.iload_n 0, 1) := by decide +kernel
theorem dX5_formsOf_1 : decode cX5_formsOf 1 = .ok (.tableswitch 75 1 9 #[51, 54, 57, 60, 63, 66, 75, 69, 72], 51) := by decide +kernel
theorem dX5_formsOf_52 : decode cX5_formsOf 52 = .ok (.ldc 107, 2) := by decide +kernel
theorem dX5_formsOf_54 : decode cX5_formsOf 54 = .ok (.areturn, 1) := by decide +kernel
theorem dX5_formsOf_55 : decode cX5_formsOf 55 = .ok (.ldc 109, 2) := by decide +kernel
theorem dX5_formsOf_57 : decode cX5_formsOf 57 = .ok (.areturn, 1) := by decide +kernel
theorem dX5_formsOf_58 : decode cX5_formsOf 58 = .ok (.ldc 111, 2) := by decide +kernel
theorem dX5_formsOf_60 : decode cX5_formsOf 60 = .ok (.areturn, 1) := by decide +kernel
theorem dX5_formsOf_61 : decode cX5_formsOf 61 = .ok (.ldc 113, 2) := by decide +kernel
theorem dX5_formsOf_63 : decode cX5_formsOf 63 = .ok (.areturn, 1) := by decide +kernel
theorem dX5_formsOf_64 : decode cX5_formsOf 64 = .ok (.ldc 115, 2) := by decide +kernel
theorem dX5_formsOf_66 : decode cX5_formsOf 66 = .ok (.areturn, 1) := by decide +kernel
theorem dX5_formsOf_67 : decode cX5_formsOf 67 = .ok (.ldc 117, 2) := by decide +kernel
theorem dX5_formsOf_69 : decode cX5_formsOf 69 = .ok (.areturn, 1) := by decide +kernel
theorem dX5_formsOf_70 : decode cX5_formsOf 70 = .ok (.ldc 119, 2) := by decide +kernel
theorem dX5_formsOf_72 : decode cX5_formsOf 72 = .ok (.areturn, 1) := by decide +kernel
theorem dX5_formsOf_73 : decode cX5_formsOf 73 = .ok (.ldc 121, 2) := by decide +kernel
theorem dX5_formsOf_75 : decode cX5_formsOf 75 = .ok (.areturn, 1) := by decide +kernel
theorem dX5_formsOf_76 : decode cX5_formsOf 76 = .ok (.ldc 123, 2) := by decide +kernel
theorem dX5_formsOf_78 : decode cX5_formsOf 78 = .ok (.areturn, 1) := by decide +kernel
theorem dX5_isWithin_0 : decode cX5_isWithin 0 = .ok (.iload_n 1, 1) := by decide +kernel
theorem dX5_isWithin_1 : decode cX5_isWithin 1 = .ok (.tableswitch 298 65 89 #[282, 298, 298, 233, 298, 168, 298, 249, 298, 298, 298, 216, 298, 265, 298, 298, 298, 298, 184, 200, 298, 298, 115, 132, 150], 115) := by decide +kernel
theorem dX5_isWithin_116 : decode cX5_isWithin 116 = .ok (.iload_n 2, 1) := by decide +kernel
theorem dX5_isWithin_117 : decode cX5_isWithin 117 = .ok (.iconst 1, 1) := by decide +kernel
theorem dX5_isWithin_118 : decode cX5_isWithin 118 = .ok (.if_icmp .lt 13, 3) := by decide +kernel
theorem dX5_isWithin_121 : decode cX5_isWithin 121 = .ok (.iload_n 2, 1) := by decide +kernel
theorem dX5_isWithin_122 : decode cX5_isWithin 122 = .ok (.bipush 6, 2) := by decide +kernel
theorem dX5_isWithin_124 : decode cX5_isWithin 124 = .ok (.if_icmp .gt 7, 3) := by decide +kernel
theorem dX5_isWithin_127 : decode cX5_isWithin 127 = .ok (.iconst 1, 1) := by decide +kernel
theorem dX5_isWithin_128 : decode cX5_isWithin 128 = .ok (.goto 4, 3) := by decide +kernel
theorem dX5_isWithin_131 : decode cX5_isWithin 131 = .ok (.iconst 0, 1) := by decide +kernel
theorem dX5_isWithin_132 : decode cX5_isWithin 132 = .ok (.ireturn, 1) := by decide +kernel
theorem dX5_isWithin_133 : decode cX5_isWithin 133 = .ok (.iload_n 2, 1) := by decide +kernel
theorem dX5_isWithin_134 : decode cX5_isWithin 134 = .ok (.ifCond .lt 15, 3) := by decide +kernel
theorem dX5_isWithin_137 : decode cX5_isWithin 137 = .ok (.iload_n 2, 1) := by decide +kernel
theorem dX5_isWithin_138 : decode cX5_isWithin 138 = .ok (.aload_n 3, 1) := by decide +kernel
theorem dX5_isWithin_139 : decode cX5_isWithin 139 = .ok (.getfield 125, 3) := by decide +kernel
theorem dX5_isWithin_142 : decode cX5_isWithin 142 = .ok (.if_icmp .ge 7, 3) := by decide +kernel
theorem dX5_isWithin_145 : decode cX5_isWithin 145 = .ok (.iconst 1, 1) := by decide +kernel
theorem dX5_isWithin_146 : decode cX5_isWithin 146 = .ok (.goto 4, 3) := by decide +kernel
theorem dX5_isWithin_149 : decode cX5_isWithin 149 = .ok (.iconst 0, 1) := by decide +kernel
theorem dX5_isWithin_150 : decode cX5_isWithin 150 = .ok (.ireturn, 1) := by decide +kernel
theorem dX5_isWithin_151 : decode cX5_isWithin 151 = .ok (.iload_n 2, 1) := by decide +kernel
theorem dX5_isWithin_152 : decode cX5_isWithin 152 = .ok (.ifCond .lt 15, 3) := by decide +kernel
theorem dX5_isWithin_155 : decode cX5_isWithin 155 = .ok (.iload_n 2, 1) := by decide +kernel
theorem dX5_isWithin_156 : decode cX5_isWithin 156 = .ok (.aload_n 3, 1) := by decide +kernel
theorem dX5_isWithin_157 : decode cX5_isWithin 157 = .ok (.getfield 128, 3) := by decide +kernel
theorem dX5_isWithin_160 : decode cX5_isWithin 160 = .ok (.if_icmp .ge 7, 3) := by decide +kernel
theorem dX5_isWithin_163 : decode cX5_isWithin 163 = .ok (.iconst 1, 1) := by decide +kernel
theorem dX5_isWithin_164 : decode cX5_isWithin 164 = .ok (.goto 4, 3) := by decide +kernel
theorem dX5_isWithin_167 : decode cX5_isWithin 167 = .ok (.iconst 0, 1) := by decide +kernel
theorem dX5_isWithin_168 : decode cX5_isWithin 168 = .ok (.ireturn, 1) := by decide +kernel
theorem dX5_isWithin_169 : decode cX5_isWithin 169 = .ok (.aload_n 3, 1) := by decide +kernel
theorem dX5_isWithin_170 : decode cX5_isWithin 170 = .ok (.aload_n 3, 1) := by decide +kernel
theorem dX5_isWithin_171 : decode cX5_isWithin 171 = .ok (.aload_n 0, 1) := by decide +kernel
theorem dX5_isWithin_172 : decode cX5_isWithin 172 = .ok (.getfield 25, 3) := by decide +kernel
theorem dX5_isWithin_175 : decode cX5_isWithin 175 = .ok (.iconst 1, 1) := by decide +kernel
theorem dX5_isWithin_176 : decode cX5_isWithin 176 = .ok (.iaload, 1) := by decide +kernel
theorem dX5_isWithin_177 : decode cX5_isWithin 177 = .ok (.iload_n 2, 1) := by decide +kernel
theorem dX5_isWithin_178 : decode cX5_isWithin 178 = .ok (.invokevirtual 131, 3) := by decide +kernel
theorem dX5_isWithin_181 : decode cX5_isWithin 181 = .ok (.invokevirtual 135, 3) := by decide +kernel
theorem dX5_isWithin_184 : decode cX5_isWithin 184 = .ok (.ireturn, 1) := by decide +kernel
theorem dX5_isWithin_185 : decode cX5_isWithin 185 = .ok (.iload_n 2, 1) := by decide +kernel
theorem dX5_isWithin_186 : decode cX5_isWithin 186 = .ok (.ifCond .lt 13, 3) := by decide +kernel
theorem dX5_isWithin_189 : decode cX5_isWithin 189 = .ok (.iload_n 2, 1) := by decide +kernel
theorem dX5_isWithin_190 : decode cX5_isWithin 190 = .ok (.bipush 99, 2) := by decide +kernel
theorem dX5_isWithin_192 : decode cX5_isWithin 192 = .ok (.if_icmp .gt 7, 3) := by decide +kernel
theorem dX5_isWithin_195 : decode cX5_isWithin 195 = .ok (.iconst 1, 1) := by decide +kernel
theorem dX5_isWithin_196 : decode cX5_isWithin 196 = .ok (.goto 4, 3) := by decide +kernel
theorem dX5_isWithin_199 : decode cX5_isWithin 199 = .ok (.iconst 0, 1) := by decide +kernel
theorem dX5_isWithin_200 : decode cX5_isWithin 200 = .ok (.ireturn, 1) := by decide +kernel
theorem dX5_isWithin_201 : decode cX5_isWithin 201 = .ok (.iload_n 2, 1) := by decide +kernel
theorem dX5_isWithin_202 : decode cX5_isWithin 202 = .ok (.ifCond .lt 13, 3) := by decide +kernel
theorem dX5_isWithin_205 : decode cX5_isWithin 205 = .ok (.iload_n 2, 1) := by decide +kernel
theorem dX5_isWithin_206 : decode cX5_isWithin 206 = .ok (.bipush 6, 2) := by decide +kernel
theorem dX5_isWithin_208 : decode cX5_isWithin 208 = .ok (.if_icmp .ge 7, 3) := by decide +kernel
theorem dX5_isWithin_211 : decode cX5_isWithin 211 = .ok (.iconst 1, 1) := by decide +kernel
theorem dX5_isWithin_212 : decode cX5_isWithin 212 = .ok (.goto 4, 3) := by decide +kernel
theorem dX5_isWithin_215 : decode cX5_isWithin 215 = .ok (.iconst 0, 1) := by decide +kernel
theorem dX5_isWithin_216 : decode cX5_isWithin 216 = .ok (.ireturn, 1) := by decide +kernel
theorem dX5_isWithin_217 : decode cX5_isWithin 217 = .ok (.iload_n 2, 1) := by decide +kernel
theorem dX5_isWithin_218 : decode cX5_isWithin 218 = .ok (.iconst 1, 1) := by decide +kernel
theorem dX5_isWithin_219 : decode cX5_isWithin 219 = .ok (.if_icmp .lt 13, 3) := by decide +kernel
theorem dX5_isWithin_222 : decode cX5_isWithin 222 = .ok (.iload_n 2, 1) := by decide +kernel
theorem dX5_isWithin_223 : decode cX5_isWithin 223 = .ok (.bipush 99, 2) := by decide +kernel
theorem dX5_isWithin_225 : decode cX5_isWithin 225 = .ok (.if_icmp .gt 7, 3) := by decide +kernel
theorem dX5_isWithin_228 : decode cX5_isWithin 228 = .ok (.iconst 1, 1) := by decide +kernel
theorem dX5_isWithin_229 : decode cX5_isWithin 229 = .ok (.goto 4, 3) := by decide +kernel
theorem dX5_isWithin_232 : decode cX5_isWithin 232 = .ok (.iconst 0, 1) := by decide +kernel
theorem dX5_isWithin_233 : decode cX5_isWithin 233 = .ok (.ireturn, 1) := by decide +kernel
theorem dX5_isWithin_234 : decode cX5_isWithin 234 = .ok (.iload_n 2, 1) := by decide +kernel
theorem dX5_isWithin_235 : decode cX5_isWithin 235 = .ok (.ifCond .lt 13, 3) := by decide +kernel
theorem dX5_isWithin_238 : decode cX5_isWithin 238 = .ok (.iload_n 2, 1) := by decide +kernel
theorem dX5_isWithin_239 : decode cX5_isWithin 239 = .ok (.bipush 60, 2) := by decide +kernel
theorem dX5_isWithin_241 : decode cX5_isWithin 241 = .ok (.if_icmp .gt 7, 3) := by decide +kernel
theorem dX5_isWithin_244 : decode cX5_isWithin 244 = .ok (.iconst 1, 1) := by decide +kernel
theorem dX5_isWithin_245 : decode cX5_isWithin 245 = .ok (.goto 4, 3) := by decide +kernel
theorem dX5_isWithin_248 : decode cX5_isWithin 248 = .ok (.iconst 0, 1) := by decide +kernel
theorem dX5_isWithin_249 : decode cX5_isWithin 249 = .ok (.ireturn, 1) := by decide +kernel
theorem dX5_isWithin_250 : decode cX5_isWithin 250 = .ok (.iload_n 2, 1) := by decide +kernel
theorem dX5_isWithin_251 : decode cX5_isWithin 251 = .ok (.ifCond .lt 13, 3) := by decide +kernel
theorem dX5_isWithin_254 : decode cX5_isWithin 254 = .ok (.iload_n 2, 1) := by decide +kernel
theorem dX5_isWithin_255 : decode cX5_isWithin 255 = .ok (.bipush 24, 2) := by decide +kernel
theorem dX5_isWithin_257 : decode cX5_isWithin 257 = .ok (.if_icmp .ge 7, 3) := by decide +kernel
theorem dX5_isWithin_260 : decode cX5_isWithin 260 = .ok (.iconst 1, 1) := by decide +kernel
theorem dX5_isWithin_261 : decode cX5_isWithin 261 = .ok (.goto 4, 3) := by decide +kernel
theorem dX5_isWithin_264 : decode cX5_isWithin 264 = .ok (.iconst 0, 1) := by decide +kernel
theorem dX5_isWithin_265 : decode cX5_isWithin 265 = .ok (.ireturn, 1) := by decide +kernel
theorem dX5_isWithin_266 : decode cX5_isWithin 266 = .ok (.iload_n 2, 1) := by decide +kernel
theorem dX5_isWithin_267 : decode cX5_isWithin 267 = .ok (.iconst 1, 1) := by decide +kernel
theorem dX5_isWithin_268 : decode cX5_isWithin 268 = .ok (.if_icmp .lt 13, 3) := by decide +kernel
theorem dX5_isWithin_271 : decode cX5_isWithin 271 = .ok (.iload_n 2, 1) := by decide +kernel
theorem dX5_isWithin_272 : decode cX5_isWithin 272 = .ok (.bipush 9, 2) := by decide +kernel
theorem dX5_isWithin_274 : decode cX5_isWithin 274 = .ok (.if_icmp .gt 7, 3) := by decide +kernel
theorem dX5_isWithin_277 : decode cX5_isWithin 277 = .ok (.iconst 1, 1) := by decide +kernel
theorem dX5_isWithin_278 : decode cX5_isWithin 278 = .ok (.goto 4, 3) := by decide +kernel
theorem dX5_isWithin_281 : decode cX5_isWithin 281 = .ok (.iconst 0, 1) := by decide +kernel
theorem dX5_isWithin_282 : decode cX5_isWithin 282 = .ok (.ireturn, 1) := by decide +kernel
theorem dX5_isWithin_283 : decode cX5_isWithin 283 = .ok (.iload_n 2, 1) := by decide +kernel
theorem dX5_isWithin_284 : decode cX5_isWithin 284 = .ok (.ifCond .lt 13, 3) := by decide +kernel
theorem dX5_isWithin_287 : decode cX5_isWithin 287 = .ok (.iload_n 2, 1) := by decide +kernel
theorem dX5_isWithin_288 : decode cX5_isWithin 288 = .ok (.bipush 9, 2) := by decide +kernel
theorem dX5_isWithin_290 : decode cX5_isWithin 290 = .ok (.if_icmp .gt 7, 3) := by decide +kernel
theorem dX5_isWithin_293 : decode cX5_isWithin 293 = .ok (.iconst 1, 1) := by decide +kernel
theorem dX5_isWithin_294 : decode cX5_isWithin 294 = .ok (.goto 4, 3) := by decide +kernel
theorem dX5_isWithin_297 : decode cX5_isWithin 297 = .ok (.iconst 0, 1) := by decide +kernel
theorem dX5_isWithin_298 : decode cX5_isWithin 298 = .ok (.ireturn, 1) := by decide +kernel
theorem dX5_isWithin_299 : decode cX5_isWithin 299 = .ok (.iconst 0, 1) := by decide +kernel
theorem dX5_isWithin_300 : decode cX5_isWithin 300 = .ok (.ireturn, 1) := by decide +kernel
theorem dX5_letterTold_0 : decode cX5_letterTold 0 = .ok (.aload_n 0, 1) := by decide +kernel
theorem dX5_letterTold_1 : decode cX5_letterTold 1 = .ok (.getfield 15, 3) := by decide +kernel
theorem dX5_letterTold_4 : decode cX5_letterTold 4 = .ok (.iconst 1, 1) := by decide +kernel
theorem dX5_letterTold_5 : decode cX5_letterTold 5 = .ok (.if_icmp .ne 30, 3) := by decide +kernel
theorem dX5_letterTold_8 : decode cX5_letterTold 8 = .ok (.aload_n 0, 1) := by decide +kernel
theorem dX5_letterTold_9 : decode cX5_letterTold 9 = .ok (.getfield 22, 3) := by decide +kernel
theorem dX5_letterTold_12 : decode cX5_letterTold 12 = .ok (.aload_n 0, 1) := by decide +kernel
theorem dX5_letterTold_13 : decode cX5_letterTold 13 = .ok (.getfield 19, 3) := by decide +kernel
theorem dX5_letterTold_16 : decode cX5_letterTold 16 = .ok (.isub, 1) := by decide +kernel
theorem dX5_letterTold_17 : decode cX5_letterTold 17 = .ok (.iconst 1, 1) := by decide +kernel
theorem dX5_letterTold_18 : decode cX5_letterTold 18 = .ok (.if_icmp .ne 17, 3) := by decide +kernel
theorem dX5_letterTold_21 : decode cX5_letterTold 21 = .ok (.aload_n 0, 1) := by decide +kernel
theorem dX5_letterTold_22 : decode cX5_letterTold 22 = .ok (.aload_n 0, 1) := by decide +kernel
theorem dX5_letterTold_23 : decode cX5_letterTold 23 = .ok (.getfield 19, 3) := by decide +kernel
theorem dX5_letterTold_26 : decode cX5_letterTold 26 = .ok (.invokevirtual 41, 3) := by decide +kernel
theorem dX5_letterTold_29 : decode cX5_letterTold 29 = .ok (.bipush 97, 2) := by decide +kernel
theorem dX5_letterTold_31 : decode cX5_letterTold 31 = .ok (.isub, 1) := by decide +kernel
theorem dX5_letterTold_32 : decode cX5_letterTold 32 = .ok (.goto 4, 3) := by decide +kernel
theorem dX5_letterTold_35 : decode cX5_letterTold 35 = .ok (.iconst (-1), 1) := by decide +kernel
theorem dX5_letterTold_36 : decode cX5_letterTold 36 = .ok (.ireturn, 1) := by decide +kernel
theorem dX5_numberTold_0 : decode cX5_numberTold 0 = .ok (.aload_n 0, 1) := by decide +kernel
theorem dX5_numberTold_1 : decode cX5_numberTold 1 = .ok (.getfield 15, 3) := by decide +kernel
theorem dX5_numberTold_4 : decode cX5_numberTold 4 = .ok (.iconst 2, 1) := by decide +kernel
theorem dX5_numberTold_5 : decode cX5_numberTold 5 = .ok (.if_icmp .ne 16, 3) := by decide +kernel
theorem dX5_numberTold_8 : decode cX5_numberTold 8 = .ok (.aload_n 0, 1) := by decide +kernel
theorem dX5_numberTold_9 : decode cX5_numberTold 9 = .ok (.getfield 22, 3) := by decide +kernel
theorem dX5_numberTold_12 : decode cX5_numberTold 12 = .ok (.aload_n 0, 1) := by decide +kernel
theorem dX5_numberTold_13 : decode cX5_numberTold 13 = .ok (.getfield 19, 3) := by decide +kernel
theorem dX5_numberTold_16 : decode cX5_numberTold 16 = .ok (.isub, 1) := by decide +kernel
theorem dX5_numberTold_17 : decode cX5_numberTold 17 = .ok (.iconst 2, 1) := by decide +kernel
theorem dX5_numberTold_18 : decode cX5_numberTold 18 = .ok (.if_icmp .le 5, 3) := by decide +kernel
theorem dX5_numberTold_21 : decode cX5_numberTold 21 = .ok (.iconst (-1), 1) := by decide +kernel
theorem dX5_numberTold_22 : decode cX5_numberTold 22 = .ok (.ireturn, 1) := by decide +kernel
theorem dX5_numberTold_23 : decode cX5_numberTold 23 = .ok (.iconst 0, 1) := by decide +kernel
theorem dX5_numberTold_24 : decode cX5_numberTold 24 = .ok (.istore_n 1, 1) := by decide +kernel
theorem dX5_numberTold_25 : decode cX5_numberTold 25 = .ok (.aload_n 0, 1) := by decide +kernel
theorem dX5_numberTold_26 : decode cX5_numberTold 26 = .ok (.getfield 19, 3) := by decide +kernel
theorem dX5_numberTold_29 : decode cX5_numberTold 29 = .ok (.istore_n 2, 1) := by decide +kernel
theorem dX5_numberTold_30 : decode cX5_numberTold 30 = .ok (.iload_n 2, 1) := by decide +kernel
theorem dX5_numberTold_31 : decode cX5_numberTold 31 = .ok (.aload_n 0, 1) := by decide +kernel
theorem dX5_numberTold_32 : decode cX5_numberTold 32 = .ok (.getfield 22, 3) := by decide +kernel
theorem dX5_numberTold_35 : decode cX5_numberTold 35 = .ok (.if_icmp .ge 23, 3) := by decide +kernel
theorem dX5_numberTold_38 : decode cX5_numberTold 38 = .ok (.iload_n 1, 1) := by decide +kernel
theorem dX5_numberTold_39 : decode cX5_numberTold 39 = .ok (.bipush 10, 2) := by decide +kernel
theorem dX5_numberTold_41 : decode cX5_numberTold 41 = .ok (.imul, 1) := by decide +kernel
theorem dX5_numberTold_42 : decode cX5_numberTold 42 = .ok (.aload_n 0, 1) := by decide +kernel
theorem dX5_numberTold_43 : decode cX5_numberTold 43 = .ok (.iload_n 2, 1) := by decide +kernel
theorem dX5_numberTold_44 : decode cX5_numberTold 44 = .ok (.invokevirtual 41, 3) := by decide +kernel
theorem dX5_numberTold_47 : decode cX5_numberTold 47 = .ok (.iadd, 1) := by decide +kernel
theorem dX5_numberTold_48 : decode cX5_numberTold 48 = .ok (.bipush 48, 2) := by decide +kernel
theorem dX5_numberTold_50 : decode cX5_numberTold 50 = .ok (.isub, 1) := by decide +kernel
theorem dX5_numberTold_51 : decode cX5_numberTold 51 = .ok (.istore_n 1, 1) := by decide +kernel
theorem dX5_numberTold_52 : decode cX5_numberTold 52 = .ok (.iinc 2 1, 3) := by decide +kernel
theorem dX5_numberTold_55 : decode cX5_numberTold 55 = .ok (.goto (-25), 3) := by decide +kernel
theorem dX5_numberTold_58 : decode cX5_numberTold 58 = .ok (.iload_n 1, 1) := by decide +kernel
theorem dX5_numberTold_59 : decode cX5_numberTold 59 = .ok (.ireturn, 1) := by decide +kernel
theorem dX5_carryOut_0 : decode cX5_carryOut 0 = .ok (.aload_n 0, 1) := by decide +kernel
theorem dX5_carryOut_1 : decode cX5_carryOut 1 = .ok (.getfield 25, 3) := by decide +kernel
theorem dX5_carryOut_4 : decode cX5_carryOut 4 = .ok (.iconst 0, 1) := by decide +kernel
theorem dX5_carryOut_5 : decode cX5_carryOut 5 = .ok (.iaload, 1) := by decide +kernel
theorem dX5_carryOut_6 : decode cX5_carryOut 6 = .ok (.istore_n 3, 1) := by decide +kernel
theorem dX5_carryOut_7 : decode cX5_carryOut 7 = .ok (.aload_n 0, 1) := by decide +kernel
theorem dX5_carryOut_8 : decode cX5_carryOut 8 = .ok (.getfield 25, 3) := by decide +kernel
theorem dX5_carryOut_11 : decode cX5_carryOut 11 = .ok (.iconst 1, 1) := by decide +kernel
theorem dX5_carryOut_12 : decode cX5_carryOut 12 = .ok (.iaload, 1) := by decide +kernel
theorem dX5_carryOut_13 : decode cX5_carryOut 13 = .ok (.istore 4, 2) := by decide +kernel
theorem dX5_carryOut_15 : decode cX5_carryOut 15 = .ok (.aload_n 0, 1) := by decide +kernel
theorem dX5_carryOut_16 : decode cX5_carryOut 16 = .ok (.getfield 25, 3) := by decide +kernel
theorem dX5_carryOut_19 : decode cX5_carryOut 19 = .ok (.iconst 2, 1) := by decide +kernel
theorem dX5_carryOut_20 : decode cX5_carryOut 20 = .ok (.iaload, 1) := by decide +kernel
theorem dX5_carryOut_21 : decode cX5_carryOut 21 = .ok (.istore 5, 2) := by decide +kernel
theorem dX5_carryOut_23 : decode cX5_carryOut 23 = .ok (.iload_n 1, 1) := by decide +kernel
theorem dX5_carryOut_24 : decode cX5_carryOut 24 = .ok (.tableswitch 157 1 9 #[52, 62, 78, 92, 108, 117, 129, 137, 149], 52) := by decide +kernel
theorem dX5_carryOut_76 : decode cX5_carryOut 76 = .ok (.aload_n 2, 1) := by decide +kernel
theorem dX5_carryOut_77 : decode cX5_carryOut 77 = .ok (.iload_n 3, 1) := by decide +kernel
theorem dX5_carryOut_78 : decode cX5_carryOut 78 = .ok (.iload 4, 2) := by decide +kernel
theorem dX5_carryOut_80 : decode cX5_carryOut 80 = .ok (.invokevirtual 139, 3) := by decide +kernel
theorem dX5_carryOut_83 : decode cX5_carryOut 83 = .ok (.goto 98, 3) := by decide +kernel
theorem dX5_carryOut_86 : decode cX5_carryOut 86 = .ok (.aload_n 2, 1) := by decide +kernel
theorem dX5_carryOut_87 : decode cX5_carryOut 87 = .ok (.aload_n 2, 1) := by decide +kernel
theorem dX5_carryOut_88 : decode cX5_carryOut 88 = .ok (.iload_n 3, 1) := by decide +kernel
theorem dX5_carryOut_89 : decode cX5_carryOut 89 = .ok (.iload 4, 2) := by decide +kernel
theorem dX5_carryOut_91 : decode cX5_carryOut 91 = .ok (.invokevirtual 131, 3) := by decide +kernel
theorem dX5_carryOut_94 : decode cX5_carryOut 94 = .ok (.iload 5, 2) := by decide +kernel
theorem dX5_carryOut_96 : decode cX5_carryOut 96 = .ok (.invokevirtual 143, 3) := by decide +kernel
theorem dX5_carryOut_99 : decode cX5_carryOut 99 = .ok (.goto 82, 3) := by decide +kernel
theorem dX5_carryOut_102 : decode cX5_carryOut 102 = .ok (.aload_n 2, 1) := by decide +kernel
theorem dX5_carryOut_103 : decode cX5_carryOut 103 = .ok (.aload_n 2, 1) := by decide +kernel
theorem dX5_carryOut_104 : decode cX5_carryOut 104 = .ok (.iload_n 3, 1) := by decide +kernel
theorem dX5_carryOut_105 : decode cX5_carryOut 105 = .ok (.iload 4, 2) := by decide +kernel
theorem dX5_carryOut_107 : decode cX5_carryOut 107 = .ok (.invokevirtual 131, 3) := by decide +kernel
theorem dX5_carryOut_110 : decode cX5_carryOut 110 = .ok (.invokevirtual 146, 3) := by decide +kernel
theorem dX5_carryOut_113 : decode cX5_carryOut 113 = .ok (.goto 68, 3) := by decide +kernel
theorem dX5_carryOut_116 : decode cX5_carryOut 116 = .ok (.aload_n 2, 1) := by decide +kernel
theorem dX5_carryOut_117 : decode cX5_carryOut 117 = .ok (.iload_n 3, 1) := by decide +kernel
theorem dX5_carryOut_118 : decode cX5_carryOut 118 = .ok (.aload_n 2, 1) := by decide +kernel
theorem dX5_carryOut_119 : decode cX5_carryOut 119 = .ok (.iload 4, 2) := by decide +kernel
theorem dX5_carryOut_121 : decode cX5_carryOut 121 = .ok (.iload 5, 2) := by decide +kernel
theorem dX5_carryOut_123 : decode cX5_carryOut 123 = .ok (.invokevirtual 131, 3) := by decide +kernel
theorem dX5_carryOut_126 : decode cX5_carryOut 126 = .ok (.invokevirtual 150, 3) := by decide +kernel
theorem dX5_carryOut_129 : decode cX5_carryOut 129 = .ok (.goto 52, 3) := by decide +kernel
theorem dX5_carryOut_132 : decode cX5_carryOut 132 = .ok (.aload_n 2, 1) := by decide +kernel
theorem dX5_carryOut_133 : decode cX5_carryOut 133 = .ok (.iload_n 3, 1) := by decide +kernel
theorem dX5_carryOut_134 : decode cX5_carryOut 134 = .ok (.iconst (-1), 1) := by decide +kernel
theorem dX5_carryOut_135 : decode cX5_carryOut 135 = .ok (.invokevirtual 150, 3) := by decide +kernel
theorem dX5_carryOut_138 : decode cX5_carryOut 138 = .ok (.goto 43, 3) := by decide +kernel
theorem dX5_carryOut_141 : decode cX5_carryOut 141 = .ok (.aload_n 2, 1) := by decide +kernel
theorem dX5_carryOut_142 : decode cX5_carryOut 142 = .ok (.iload_n 3, 1) := by decide +kernel
theorem dX5_carryOut_143 : decode cX5_carryOut 143 = .ok (.iload 4, 2) := by decide +kernel
theorem dX5_carryOut_145 : decode cX5_carryOut 145 = .ok (.iload 5, 2) := by decide +kernel
theorem dX5_carryOut_147 : decode cX5_carryOut 147 = .ok (.invokevirtual 153, 3) := by decide +kernel
theorem dX5_carryOut_150 : decode cX5_carryOut 150 = .ok (.goto 31, 3) := by decide +kernel
theorem dX5_carryOut_153 : decode cX5_carryOut 153 = .ok (.aload_n 2, 1) := by decide +kernel
theorem dX5_carryOut_154 : decode cX5_carryOut 154 = .ok (.iconst 0, 1) := by decide +kernel
theorem dX5_carryOut_155 : decode cX5_carryOut 155 = .ok (.putfield 53, 3) := by decide +kernel
theorem dX5_carryOut_158 : decode cX5_carryOut 158 = .ok (.goto 23, 3) := by decide +kernel
theorem dX5_carryOut_161 : decode cX5_carryOut 161 = .ok (.aload_n 2, 1) := by decide +kernel
theorem dX5_carryOut_162 : decode cX5_carryOut 162 = .ok (.iload_n 3, 1) := by decide +kernel
theorem dX5_carryOut_163 : decode cX5_carryOut 163 = .ok (.iload 4, 2) := by decide +kernel
theorem dX5_carryOut_165 : decode cX5_carryOut 165 = .ok (.iload 5, 2) := by decide +kernel
theorem dX5_carryOut_167 : decode cX5_carryOut 167 = .ok (.invokevirtual 157, 3) := by decide +kernel
theorem dX5_carryOut_170 : decode cX5_carryOut 170 = .ok (.goto 11, 3) := by decide +kernel
theorem dX5_carryOut_173 : decode cX5_carryOut 173 = .ok (.aload_n 2, 1) := by decide +kernel
theorem dX5_carryOut_174 : decode cX5_carryOut 174 = .ok (.iload_n 3, 1) := by decide +kernel
theorem dX5_carryOut_175 : decode cX5_carryOut 175 = .ok (.putfield 160, 3) := by decide +kernel
theorem dX5_carryOut_178 : decode cX5_carryOut 178 = .ok (.goto 3, 3) := by decide +kernel
theorem dX5_carryOut_181 : decode cX5_carryOut 181 = .ok (.return_, 1) := by decide +kernel
theorem dX6_init_0 : decode cX6_init 0 = .ok (.aload_n 0, 1) := by decide +kernel
theorem dX6_init_1 : decode cX6_init 1 = .ok (.invokespecial 3, 3) := by decide +kernel
theorem dX6_init_4 : decode cX6_init 4 = .ok (.aload_n 0, 1) := by decide +kernel
theorem dX6_init_5 : decode cX6_init 5 = .ok (.bipush 64, 2) := by decide +kernel
theorem dX6_init_7 : decode cX6_init 7 = .ok (.newarray .int, 2) := by decide +kernel
theorem dX6_init_9 : decode cX6_init 9 = .ok (.putfield 11, 3) := by decide +kernel
theorem dX6_init_12 : decode cX6_init 12 = .ok (.aload_n 0, 1) := by decide +kernel
theorem dX6_init_13 : decode cX6_init 13 = .ok (.bipush 64, 2) := by decide +kernel
theorem dX6_init_15 : decode cX6_init 15 = .ok (.newarray .int, 2) := by decide +kernel
theorem dX6_init_17 : decode cX6_init 17 = .ok (.putfield 15, 3) := by decide +kernel
theorem dX6_init_20 : decode cX6_init 20 = .ok (.return_, 1) := by decide +kernel
theorem dX6_fewestPayments_0 : decode cX6_fewestPayments 0 = .ok (.aload_n 0, 1) := by decide +kernel
theorem dX6_fewestPayments_1 : decode cX6_fewestPayments 1 = .ok (.getfield 11, 3) := by decide +kernel
theorem dX6_fewestPayments_4 : decode cX6_fewestPayments 4 = .ok (.iconst 0, 1) := by decide +kernel
theorem dX6_fewestPayments_5 : decode cX6_fewestPayments 5 = .ok (.iconst 0, 1) := by decide +kernel
theorem dX6_fewestPayments_6 : decode cX6_fewestPayments 6 = .ok (.iastore, 1) := by decide +kernel
theorem dX6_fewestPayments_7 : decode cX6_fewestPayments 7 = .ok (.aload_n 0, 1) := by decide +kernel
theorem dX6_fewestPayments_8 : decode cX6_fewestPayments 8 = .ok (.getfield 15, 3) := by decide +kernel
theorem dX6_fewestPayments_11 : decode cX6_fewestPayments 11 = .ok (.iconst 0, 1) := by decide +kernel
theorem dX6_fewestPayments_12 : decode cX6_fewestPayments 12 = .ok (.iconst 0, 1) := by decide +kernel
theorem dX6_fewestPayments_13 : decode cX6_fewestPayments 13 = .ok (.iastore, 1) := by decide +kernel
theorem dX6_fewestPayments_14 : decode cX6_fewestPayments 14 = .ok (.iconst 1, 1) := by decide +kernel
theorem dX6_fewestPayments_15 : decode cX6_fewestPayments 15 = .ok (.istore_n 2, 1) := by decide +kernel
theorem dX6_fewestPayments_16 : decode cX6_fewestPayments 16 = .ok (.iload_n 2, 1) := by decide +kernel
theorem dX6_fewestPayments_17 : decode cX6_fewestPayments 17 = .ok (.bipush 64, 2) := by decide +kernel
theorem dX6_fewestPayments_19 : decode cX6_fewestPayments 19 = .ok (.if_icmp .ge 15, 3) := by decide +kernel
theorem dX6_fewestPayments_22 : decode cX6_fewestPayments 22 = .ok (.aload_n 0, 1) := by decide +kernel
theorem dX6_fewestPayments_23 : decode cX6_fewestPayments 23 = .ok (.iload_n 2, 1) := by decide +kernel
theorem dX6_fewestPayments_24 : decode cX6_fewestPayments 24 = .ok (.aload_n 1, 1) := by decide +kernel
theorem dX6_fewestPayments_25 : decode cX6_fewestPayments 25 = .ok (.invokevirtual 18, 3) := by decide +kernel
theorem dX6_fewestPayments_28 : decode cX6_fewestPayments 28 = .ok (.iinc 2 1, 3) := by decide +kernel
theorem dX6_fewestPayments_31 : decode cX6_fewestPayments 31 = .ok (.goto (-15), 3) := by decide +kernel
theorem dX6_fewestPayments_34 : decode cX6_fewestPayments 34 = .ok (.bipush 6, 2) := by decide +kernel
theorem dX6_fewestPayments_36 : decode cX6_fewestPayments 36 = .ok (.aload_n 0, 1) := by decide +kernel
theorem dX6_fewestPayments_37 : decode cX6_fewestPayments 37 = .ok (.getfield 15, 3) := by decide +kernel
theorem dX6_fewestPayments_40 : decode cX6_fewestPayments 40 = .ok (.bipush 63, 2) := by decide +kernel
theorem dX6_fewestPayments_42 : decode cX6_fewestPayments 42 = .ok (.iaload, 1) := by decide +kernel
theorem dX6_fewestPayments_43 : decode cX6_fewestPayments 43 = .ok (.isub, 1) := by decide +kernel
theorem dX6_fewestPayments_44 : decode cX6_fewestPayments 44 = .ok (.ireturn, 1) := by decide +kernel
theorem dX6_weigh_0 : decode cX6_weigh 0 = .ok (.iconst 0, 1) := by decide +kernel
theorem dX6_weigh_1 : decode cX6_weigh 1 = .ok (.istore_n 3, 1) := by decide +kernel
theorem dX6_weigh_2 : decode cX6_weigh 2 = .ok (.iconst 0, 1) := by decide +kernel
theorem dX6_weigh_3 : decode cX6_weigh 3 = .ok (.istore 4, 2) := by decide +kernel
theorem dX6_weigh_5 : decode cX6_weigh 5 = .ok (.iload 4, 2) := by decide +kernel
theorem dX6_weigh_7 : decode cX6_weigh 7 = .ok (.bipush 6, 2) := by decide +kernel
theorem dX6_weigh_9 : decode cX6_weigh 9 = .ok (.if_icmp .ge 61, 3) := by decide +kernel
theorem dX6_weigh_12 : decode cX6_weigh 12 = .ok (.iload_n 1, 1) := by decide +kernel
theorem dX6_weigh_13 : decode cX6_weigh 13 = .ok (.iload 4, 2) := by decide +kernel
theorem dX6_weigh_15 : decode cX6_weigh 15 = .ok (.ishr, 1) := by decide +kernel
theorem dX6_weigh_16 : decode cX6_weigh 16 = .ok (.iconst 1, 1) := by decide +kernel
theorem dX6_weigh_17 : decode cX6_weigh 17 = .ok (.iand, 1) := by decide +kernel
theorem dX6_weigh_18 : decode cX6_weigh 18 = .ok (.ifCond .ne 6, 3) := by decide +kernel
theorem dX6_weigh_21 : decode cX6_weigh 21 = .ok (.goto 43, 3) := by decide +kernel
theorem dX6_weigh_24 : decode cX6_weigh 24 = .ok (.iload_n 1, 1) := by decide +kernel
theorem dX6_weigh_25 : decode cX6_weigh 25 = .ok (.iconst 1, 1) := by decide +kernel
theorem dX6_weigh_26 : decode cX6_weigh 26 = .ok (.iload 4, 2) := by decide +kernel
theorem dX6_weigh_28 : decode cX6_weigh 28 = .ok (.ishl, 1) := by decide +kernel
theorem dX6_weigh_29 : decode cX6_weigh 29 = .ok (.ixor, 1) := by decide +kernel
theorem dX6_weigh_30 : decode cX6_weigh 30 = .ok (.istore 5, 2) := by decide +kernel
theorem dX6_weigh_32 : decode cX6_weigh 32 = .ok (.aload_n 0, 1) := by decide +kernel
theorem dX6_weigh_33 : decode cX6_weigh 33 = .ok (.getfield 11, 3) := by decide +kernel
theorem dX6_weigh_36 : decode cX6_weigh 36 = .ok (.iload_n 1, 1) := by decide +kernel
theorem dX6_weigh_37 : decode cX6_weigh 37 = .ok (.aload_n 0, 1) := by decide +kernel
theorem dX6_weigh_38 : decode cX6_weigh 38 = .ok (.getfield 11, 3) := by decide +kernel
theorem dX6_weigh_41 : decode cX6_weigh 41 = .ok (.iload 5, 2) := by decide +kernel
theorem dX6_weigh_43 : decode cX6_weigh 43 = .ok (.iaload, 1) := by decide +kernel
theorem dX6_weigh_44 : decode cX6_weigh 44 = .ok (.aload_n 2, 1) := by decide +kernel
theorem dX6_weigh_45 : decode cX6_weigh 45 = .ok (.iload 4, 2) := by decide +kernel
theorem dX6_weigh_47 : decode cX6_weigh 47 = .ok (.invokevirtual 22, 3) := by decide +kernel
theorem dX6_weigh_50 : decode cX6_weigh 50 = .ok (.iadd, 1) := by decide +kernel
theorem dX6_weigh_51 : decode cX6_weigh 51 = .ok (.iastore, 1) := by decide +kernel
theorem dX6_weigh_52 : decode cX6_weigh 52 = .ok (.iload_n 3, 1) := by decide +kernel
theorem dX6_weigh_53 : decode cX6_weigh 53 = .ok (.aload_n 0, 1) := by decide +kernel
theorem dX6_weigh_54 : decode cX6_weigh 54 = .ok (.getfield 15, 3) := by decide +kernel
theorem dX6_weigh_57 : decode cX6_weigh 57 = .ok (.iload 5, 2) := by decide +kernel
theorem dX6_weigh_59 : decode cX6_weigh 59 = .ok (.iaload, 1) := by decide +kernel
theorem dX6_weigh_60 : decode cX6_weigh 60 = .ok (.invokestatic 28, 3) := by decide +kernel
theorem dX6_weigh_63 : decode cX6_weigh 63 = .ok (.istore_n 3, 1) := by decide +kernel
theorem dX6_weigh_64 : decode cX6_weigh 64 = .ok (.iinc 4 1, 3) := by decide +kernel
theorem dX6_weigh_67 : decode cX6_weigh 67 = .ok (.goto (-62), 3) := by decide +kernel
theorem dX6_weigh_70 : decode cX6_weigh 70 = .ok (.aload_n 0, 1) := by decide +kernel
theorem dX6_weigh_71 : decode cX6_weigh 71 = .ok (.getfield 15, 3) := by decide +kernel
theorem dX6_weigh_74 : decode cX6_weigh 74 = .ok (.iload_n 1, 1) := by decide +kernel
theorem dX6_weigh_75 : decode cX6_weigh 75 = .ok (.aload_n 0, 1) := by decide +kernel
theorem dX6_weigh_76 : decode cX6_weigh 76 = .ok (.getfield 11, 3) := by decide +kernel
theorem dX6_weigh_79 : decode cX6_weigh 79 = .ok (.iload_n 1, 1) := by decide +kernel
theorem dX6_weigh_80 : decode cX6_weigh 80 = .ok (.iaload, 1) := by decide +kernel
theorem dX6_weigh_81 : decode cX6_weigh 81 = .ok (.ifCond .ne 9, 3) := by decide +kernel
theorem dX6_weigh_84 : decode cX6_weigh 84 = .ok (.iload_n 3, 1) := by decide +kernel
theorem dX6_weigh_85 : decode cX6_weigh 85 = .ok (.iconst 1, 1) := by decide +kernel
theorem dX6_weigh_86 : decode cX6_weigh 86 = .ok (.iadd, 1) := by decide +kernel
theorem dX6_weigh_87 : decode cX6_weigh 87 = .ok (.goto 4, 3) := by decide +kernel
theorem dX6_weigh_90 : decode cX6_weigh 90 = .ok (.iload_n 3, 1) := by decide +kernel
theorem dX6_weigh_91 : decode cX6_weigh 91 = .ok (.iastore, 1) := by decide +kernel
theorem dX6_weigh_92 : decode cX6_weigh 92 = .ok (.return_, 1) := by decide +kernel
theorem dX7_init_0 : decode cX7_init 0 = .ok (.aload_n 0, 1) := by decide +kernel
theorem dX7_init_1 : decode cX7_init 1 = .ok (.invokespecial 3, 3) := by decide +kernel
theorem dX7_init_4 : decode cX7_init 4 = .ok (.aload_n 0, 1) := by decide +kernel
theorem dX7_init_5 : decode cX7_init 5 = .ok (.sipush 200, 3) := by decide +kernel
theorem dX7_init_8 : decode cX7_init 8 = .ok (.newarray .int, 2) := by decide +kernel
theorem dX7_init_10 : decode cX7_init 10 = .ok (.putfield 11, 3) := by decide +kernel
theorem dX7_init_13 : decode cX7_init 13 = .ok (.aload_n 0, 1) := by decide +kernel
theorem dX7_init_14 : decode cX7_init 14 = .ok (.iconst 0, 1) := by decide +kernel
theorem dX7_init_15 : decode cX7_init 15 = .ok (.putfield 15, 3) := by decide +kernel
theorem dX7_init_18 : decode cX7_init 18 = .ok (.return_, 1) := by decide +kernel
theorem dX7_append_0 : decode cX7_append 0 = .ok (.aload_n 0, 1) := by decide +kernel
theorem dX7_append_1 : decode cX7_append 1 = .ok (.getfield 15, 3) := by decide +kernel
theorem dX7_append_4 : decode cX7_append 4 = .ok (.ifCond .lt 13, 3) := by decide +kernel
theorem dX7_append_7 : decode cX7_append 7 = .ok (.aload_n 0, 1) := by decide +kernel
theorem dX7_append_8 : decode cX7_append 8 = .ok (.getfield 15, 3) := by decide +kernel
theorem dX7_append_11 : decode cX7_append 11 = .ok (.sipush 200, 3) := by decide +kernel
theorem dX7_append_14 : decode cX7_append 14 = .ok (.if_icmp .lt 4, 3) := by decide +kernel
theorem dX7_append_17 : decode cX7_append 17 = .ok (.return_, 1) := by decide +kernel
theorem dX7_append_18 : decode cX7_append 18 = .ok (.aload_n 0, 1) := by decide +kernel
theorem dX7_append_19 : decode cX7_append 19 = .ok (.getfield 11, 3) := by decide +kernel
theorem dX7_append_22 : decode cX7_append 22 = .ok (.aload_n 0, 1) := by decide +kernel
theorem dX7_append_23 : decode cX7_append 23 = .ok (.getfield 15, 3) := by decide +kernel
theorem dX7_append_26 : decode cX7_append 26 = .ok (.iload_n 1, 1) := by decide +kernel
theorem dX7_append_27 : decode cX7_append 27 = .ok (.iastore, 1) := by decide +kernel
theorem dX7_append_28 : decode cX7_append 28 = .ok (.aload_n 0, 1) := by decide +kernel
theorem dX7_append_29 : decode cX7_append 29 = .ok (.dup, 1) := by decide +kernel
theorem dX7_append_30 : decode cX7_append 30 = .ok (.getfield 15, 3) := by decide +kernel
theorem dX7_append_33 : decode cX7_append 33 = .ok (.iconst 1, 1) := by decide +kernel
theorem dX7_append_34 : decode cX7_append 34 = .ok (.iadd, 1) := by decide +kernel
theorem dX7_append_35 : decode cX7_append 35 = .ok (.putfield 15, 3) := by decide +kernel
theorem dX7_append_38 : decode cX7_append 38 = .ok (.return_, 1) := by decide +kernel
theorem dX7_byteAt_0 : decode cX7_byteAt 0 = .ok (.iload_n 1, 1) := by decide +kernel
theorem dX7_byteAt_1 : decode cX7_byteAt 1 = .ok (.ifCond .lt 18, 3) := by decide +kernel
theorem dX7_byteAt_4 : decode cX7_byteAt 4 = .ok (.iload_n 1, 1) := by decide +kernel
theorem dX7_byteAt_5 : decode cX7_byteAt 5 = .ok (.aload_n 0, 1) := by decide +kernel
theorem dX7_byteAt_6 : decode cX7_byteAt 6 = .ok (.getfield 15, 3) := by decide +kernel
theorem dX7_byteAt_9 : decode cX7_byteAt 9 = .ok (.if_icmp .ge 10, 3) := by decide +kernel
theorem dX7_byteAt_12 : decode cX7_byteAt 12 = .ok (.iload_n 1, 1) := by decide +kernel
theorem dX7_byteAt_13 : decode cX7_byteAt 13 = .ok (.sipush 200, 3) := by decide +kernel
theorem dX7_byteAt_16 : decode cX7_byteAt 16 = .ok (.if_icmp .lt 7, 3) := by decide +kernel
theorem dX7_byteAt_19 : decode cX7_byteAt 19 = .ok (.iconst (-1), 1) := by decide +kernel
theorem dX7_byteAt_20 : decode cX7_byteAt 20 = .ok (.goto 9, 3) := by decide +kernel
theorem dX7_byteAt_23 : decode cX7_byteAt 23 = .ok (.aload_n 0, 1) := by decide +kernel
theorem dX7_byteAt_24 : decode cX7_byteAt 24 = .ok (.getfield 11, 3) := by decide +kernel
theorem dX7_byteAt_27 : decode cX7_byteAt 27 = .ok (.iload_n 1, 1) := by decide +kernel
theorem dX7_byteAt_28 : decode cX7_byteAt 28 = .ok (.iaload, 1) := by decide +kernel
theorem dX7_byteAt_29 : decode cX7_byteAt 29 = .ok (.ireturn, 1) := by decide +kernel
theorem dX8_init_0 : decode cX8_init 0 = .ok (.aload_n 0, 1) := by decide +kernel
theorem dX8_init_1 : decode cX8_init 1 = .ok (.invokespecial 5, 3) := by decide +kernel
theorem dX8_init_4 : decode cX8_init 4 = .ok (.aload_n 0, 1) := by decide +kernel
theorem dX8_init_5 : decode cX8_init 5 = .ok (.sipush 480, 3) := by decide +kernel
theorem dX8_init_8 : decode cX8_init 8 = .ok (.newarray .int, 2) := by decide +kernel
theorem dX8_init_10 : decode cX8_init 10 = .ok (.putfield 11, 3) := by decide +kernel
theorem dX8_init_13 : decode cX8_init 13 = .ok (.aload_n 0, 1) := by decide +kernel
theorem dX8_init_14 : decode cX8_init 14 = .ok (.bipush 8, 2) := by decide +kernel
theorem dX8_init_16 : decode cX8_init 16 = .ok (.newarray .int, 2) := by decide +kernel
theorem dX8_init_18 : decode cX8_init 18 = .ok (.putfield 15, 3) := by decide +kernel
theorem dX8_init_21 : decode cX8_init 21 = .ok (.return_, 1) := by decide +kernel
theorem dX8_spread_0 : decode cX8_spread 0 = .ok (.iconst 0, 1) := by decide +kernel
theorem dX8_spread_1 : decode cX8_spread 1 = .ok (.istore 5, 2) := by decide +kernel
theorem dX8_spread_3 : decode cX8_spread 3 = .ok (.iload 5, 2) := by decide +kernel
theorem dX8_spread_5 : decode cX8_spread 5 = .ok (.bipush 8, 2) := by decide +kernel
theorem dX8_spread_7 : decode cX8_spread 7 = .ok (.if_icmp .ge 27, 3) := by decide +kernel
theorem dX8_spread_10 : decode cX8_spread 10 = .ok (.aload_n 0, 1) := by decide +kernel
theorem dX8_spread_11 : decode cX8_spread 11 = .ok (.getfield 15, 3) := by decide +kernel
theorem dX8_spread_14 : decode cX8_spread 14 = .ok (.iload 5, 2) := by decide +kernel
theorem dX8_spread_16 : decode cX8_spread 16 = .ok (.aload_n 0, 1) := by decide +kernel
theorem dX8_spread_17 : decode cX8_spread 17 = .ok (.aload_n 1, 1) := by decide +kernel
theorem dX8_spread_18 : decode cX8_spread 18 = .ok (.iload 5, 2) := by decide +kernel
theorem dX8_spread_20 : decode cX8_spread 20 = .ok (.iload_n 2, 1) := by decide +kernel
theorem dX8_spread_21 : decode cX8_spread 21 = .ok (.iload_n 3, 1) := by decide +kernel
theorem dX8_spread_22 : decode cX8_spread 22 = .ok (.iload 4, 2) := by decide +kernel
theorem dX8_spread_24 : decode cX8_spread 24 = .ok (.invokevirtual 18, 3) := by decide +kernel
theorem dX8_spread_27 : decode cX8_spread 27 = .ok (.iastore, 1) := by decide +kernel
theorem dX8_spread_28 : decode cX8_spread 28 = .ok (.iinc 5 1, 3) := by decide +kernel
theorem dX8_spread_31 : decode cX8_spread 31 = .ok (.goto (-28), 3) := by decide +kernel
theorem dX8_spread_34 : decode cX8_spread 34 = .ok (.return_, 1) := by decide +kernel
theorem dX8_follow_0 : decode cX8_follow 0 = .ok (.iload_n 2, 1) := by decide +kernel
theorem dX8_follow_1 : decode cX8_follow 1 = .ok (.istore 6, 2) := by decide +kernel
theorem dX8_follow_3 : decode cX8_follow 3 = .ok (.iload_n 3, 1) := by decide +kernel
theorem dX8_follow_4 : decode cX8_follow 4 = .ok (.istore 7, 2) := by decide +kernel
theorem dX8_follow_6 : decode cX8_follow 6 = .ok (.iload 4, 2) := by decide +kernel
theorem dX8_follow_8 : decode cX8_follow 8 = .ok (.istore 8, 2) := by decide +kernel
theorem dX8_follow_10 : decode cX8_follow 10 = .ok (.iconst 0, 1) := by decide +kernel
theorem dX8_follow_11 : decode cX8_follow 11 = .ok (.istore 9, 2) := by decide +kernel
theorem dX8_follow_13 : decode cX8_follow 13 = .ok (.iconst 1, 1) := by decide +kernel
theorem dX8_follow_14 : decode cX8_follow 14 = .ok (.istore 10, 2) := by decide +kernel
theorem dX8_follow_16 : decode cX8_follow 16 = .ok (.iload 10, 2) := by decide +kernel
theorem dX8_follow_18 : decode cX8_follow 18 = .ok (.bipush 60, 2) := by decide +kernel
theorem dX8_follow_20 : decode cX8_follow 20 = .ok (.if_icmp .gt 121, 3) := by decide +kernel
theorem dX8_follow_23 : decode cX8_follow 23 = .ok (.aload_n 1, 1) := by decide +kernel
theorem dX8_follow_24 : decode cX8_follow 24 = .ok (.iload 7, 2) := by decide +kernel
theorem dX8_follow_26 : decode cX8_follow 26 = .ok (.iload 6, 2) := by decide +kernel
theorem dX8_follow_28 : decode cX8_follow 28 = .ok (.invokevirtual 22, 3) := by decide +kernel
theorem dX8_follow_31 : decode cX8_follow 31 = .ok (.istore 11, 2) := by decide +kernel
theorem dX8_follow_33 : decode cX8_follow 33 = .ok (.iconst 0, 1) := by decide +kernel
theorem dX8_follow_34 : decode cX8_follow 34 = .ok (.istore 12, 2) := by decide +kernel
theorem dX8_follow_36 : decode cX8_follow 36 = .ok (.iload 11, 2) := by decide +kernel
theorem dX8_follow_38 : decode cX8_follow 38 = .ok (.iconst (-1), 1) := by decide +kernel
theorem dX8_follow_39 : decode cX8_follow 39 = .ok (.if_icmp .ne 8, 3) := by decide +kernel
theorem dX8_follow_42 : decode cX8_follow 42 = .ok (.iload 10, 2) := by decide +kernel
theorem dX8_follow_44 : decode cX8_follow 44 = .ok (.iconst 1, 1) := by decide +kernel
theorem dX8_follow_45 : decode cX8_follow 45 = .ok (.isub, 1) := by decide +kernel
theorem dX8_follow_46 : decode cX8_follow 46 = .ok (.ireturn, 1) := by decide +kernel
theorem dX8_follow_47 : decode cX8_follow 47 = .ok (.aload_n 1, 1) := by decide +kernel
theorem dX8_follow_48 : decode cX8_follow 48 = .ok (.iload 11, 2) := by decide +kernel
theorem dX8_follow_50 : decode cX8_follow 50 = .ok (.invokevirtual 28, 3) := by decide +kernel
theorem dX8_follow_53 : decode cX8_follow 53 = .ok (.ifCond .eq 31, 3) := by decide +kernel
theorem dX8_follow_56 : decode cX8_follow 56 = .ok (.aload_n 1, 1) := by decide +kernel
theorem dX8_follow_57 : decode cX8_follow 57 = .ok (.iload 11, 2) := by decide +kernel
theorem dX8_follow_59 : decode cX8_follow 59 = .ok (.iload 8, 2) := by decide +kernel
theorem dX8_follow_61 : decode cX8_follow 61 = .ok (.iload 5, 2) := by decide +kernel
theorem dX8_follow_63 : decode cX8_follow 63 = .ok (.invokevirtual 32, 3) := by decide +kernel
theorem dX8_follow_66 : decode cX8_follow 66 = .ok (.istore 8, 2) := by decide +kernel
theorem dX8_follow_68 : decode cX8_follow 68 = .ok (.aload_n 1, 1) := by decide +kernel
theorem dX8_follow_69 : decode cX8_follow 69 = .ok (.iload 7, 2) := by decide +kernel
theorem dX8_follow_71 : decode cX8_follow 71 = .ok (.iload 6, 2) := by decide +kernel
theorem dX8_follow_73 : decode cX8_follow 73 = .ok (.invokevirtual 36, 3) := by decide +kernel
theorem dX8_follow_76 : decode cX8_follow 76 = .ok (.istore 6, 2) := by decide +kernel
theorem dX8_follow_78 : decode cX8_follow 78 = .ok (.iinc 9 1, 3) := by decide +kernel
theorem dX8_follow_81 : decode cX8_follow 81 = .ok (.goto 27, 3) := by decide +kernel
theorem dX8_follow_84 : decode cX8_follow 84 = .ok (.iload 11, 2) := by decide +kernel
theorem dX8_follow_86 : decode cX8_follow 86 = .ok (.istore 7, 2) := by decide +kernel
theorem dX8_follow_88 : decode cX8_follow 88 = .ok (.iload 8, 2) := by decide +kernel
theorem dX8_follow_90 : decode cX8_follow 90 = .ok (.aload_n 1, 1) := by decide +kernel
theorem dX8_follow_91 : decode cX8_follow 91 = .ok (.getfield 39, 3) := by decide +kernel
theorem dX8_follow_94 : decode cX8_follow 94 = .ok (.isub, 1) := by decide +kernel
theorem dX8_follow_95 : decode cX8_follow 95 = .ok (.istore 8, 2) := by decide +kernel
theorem dX8_follow_97 : decode cX8_follow 97 = .ok (.iload 7, 2) := by decide +kernel
theorem dX8_follow_99 : decode cX8_follow 99 = .ok (.iload 8, 2) := by decide +kernel
theorem dX8_follow_101 : decode cX8_follow 101 = .ok (.iload 9, 2) := by decide +kernel
theorem dX8_follow_103 : decode cX8_follow 103 = .ok (.invokestatic 43, 3) := by decide +kernel
theorem dX8_follow_106 : decode cX8_follow 106 = .ok (.istore 12, 2) := by decide +kernel
theorem dX8_follow_108 : decode cX8_follow 108 = .ok (.iload 8, 2) := by decide +kernel
theorem dX8_follow_110 : decode cX8_follow 110 = .ok (.iconst 1, 1) := by decide +kernel
theorem dX8_follow_111 : decode cX8_follow 111 = .ok (.if_icmp .ge 8, 3) := by decide +kernel
theorem dX8_follow_114 : decode cX8_follow 114 = .ok (.iload 10, 2) := by decide +kernel
theorem dX8_follow_116 : decode cX8_follow 116 = .ok (.iconst 1, 1) := by decide +kernel
theorem dX8_follow_117 : decode cX8_follow 117 = .ok (.isub, 1) := by decide +kernel
theorem dX8_follow_118 : decode cX8_follow 118 = .ok (.ireturn, 1) := by decide +kernel
theorem dX8_follow_119 : decode cX8_follow 119 = .ok (.aload_n 0, 1) := by decide +kernel
theorem dX8_follow_120 : decode cX8_follow 120 = .ok (.getfield 11, 3) := by decide +kernel
theorem dX8_follow_123 : decode cX8_follow 123 = .ok (.iload_n 2, 1) := by decide +kernel
theorem dX8_follow_124 : decode cX8_follow 124 = .ok (.bipush 60, 2) := by decide +kernel
theorem dX8_follow_126 : decode cX8_follow 126 = .ok (.imul, 1) := by decide +kernel
theorem dX8_follow_127 : decode cX8_follow 127 = .ok (.iload 10, 2) := by decide +kernel
theorem dX8_follow_129 : decode cX8_follow 129 = .ok (.iadd, 1) := by decide +kernel
theorem dX8_follow_130 : decode cX8_follow 130 = .ok (.iconst 1, 1) := by decide +kernel
theorem dX8_follow_131 : decode cX8_follow 131 = .ok (.isub, 1) := by decide +kernel
theorem dX8_follow_132 : decode cX8_follow 132 = .ok (.iload 12, 2) := by decide +kernel
theorem dX8_follow_134 : decode cX8_follow 134 = .ok (.iastore, 1) := by decide +kernel
theorem dX8_follow_135 : decode cX8_follow 135 = .ok (.iinc 10 1, 3) := by decide +kernel
theorem dX8_follow_138 : decode cX8_follow 138 = .ok (.goto (-122), 3) := by decide +kernel
theorem dX8_follow_141 : decode cX8_follow 141 = .ok (.bipush 60, 2) := by decide +kernel
theorem dX8_follow_143 : decode cX8_follow 143 = .ok (.ireturn, 1) := by decide +kernel
theorem dX8_soundFrom_0 : decode cX8_soundFrom 0 = .ok (.iload_n 2, 1) := by decide +kernel
theorem dX8_soundFrom_1 : decode cX8_soundFrom 1 = .ok (.bipush 7, 2) := by decide +kernel
theorem dX8_soundFrom_3 : decode cX8_soundFrom 3 = .ok (.ishl, 1) := by decide +kernel
theorem dX8_soundFrom_4 : decode cX8_soundFrom 4 = .ok (.iload_n 1, 1) := by decide +kernel
theorem dX8_soundFrom_5 : decode cX8_soundFrom 5 = .ok (.ior, 1) := by decide +kernel
theorem dX8_soundFrom_6 : decode cX8_soundFrom 6 = .ok (.bipush 6, 2) := by decide +kernel
theorem dX8_soundFrom_8 : decode cX8_soundFrom 8 = .ok (.ishl, 1) := by decide +kernel
theorem dX8_soundFrom_9 : decode cX8_soundFrom 9 = .ok (.iload_n 0, 1) := by decide +kernel
theorem dX8_soundFrom_10 : decode cX8_soundFrom 10 = .ok (.iconst 1, 1) := by decide +kernel
theorem dX8_soundFrom_11 : decode cX8_soundFrom 11 = .ok (.iadd, 1) := by decide +kernel
theorem dX8_soundFrom_12 : decode cX8_soundFrom 12 = .ok (.ior, 1) := by decide +kernel
theorem dX8_soundFrom_13 : decode cX8_soundFrom 13 = .ok (.ireturn, 1) := by decide +kernel
theorem dX8_cellOf_0 : decode cX8_cellOf 0 = .ok (.iload_n 0, 1) := by decide +kernel
theorem dX8_cellOf_1 : decode cX8_cellOf 1 = .ok (.bipush 63, 2) := by decide +kernel
theorem dX8_cellOf_3 : decode cX8_cellOf 3 = .ok (.iand, 1) := by decide +kernel
theorem dX8_cellOf_4 : decode cX8_cellOf 4 = .ok (.iconst 1, 1) := by decide +kernel
theorem dX8_cellOf_5 : decode cX8_cellOf 5 = .ok (.isub, 1) := by decide +kernel
theorem dX8_cellOf_6 : decode cX8_cellOf 6 = .ok (.ireturn, 1) := by decide +kernel
theorem dX8_loudOf_0 : decode cX8_loudOf 0 = .ok (.iload_n 0, 1) := by decide +kernel
theorem dX8_loudOf_1 : decode cX8_loudOf 1 = .ok (.bipush 6, 2) := by decide +kernel
theorem dX8_loudOf_3 : decode cX8_loudOf 3 = .ok (.ishr, 1) := by decide +kernel
theorem dX8_loudOf_4 : decode cX8_loudOf 4 = .ok (.bipush 127, 2) := by decide +kernel
theorem dX8_loudOf_6 : decode cX8_loudOf 6 = .ok (.iand, 1) := by decide +kernel
theorem dX8_loudOf_7 : decode cX8_loudOf 7 = .ok (.ireturn, 1) := by decide +kernel
theorem dX8_thrownOf_0 : decode cX8_thrownOf 0 = .ok (.iload_n 0, 1) := by decide +kernel
theorem dX8_thrownOf_1 : decode cX8_thrownOf 1 = .ok (.bipush 13, 2) := by decide +kernel
theorem dX8_thrownOf_3 : decode cX8_thrownOf 3 = .ok (.ishr, 1) := by decide +kernel
theorem dX8_thrownOf_4 : decode cX8_thrownOf 4 = .ok (.ireturn, 1) := by decide +kernel
theorem dX8_soundOf_0 : decode cX8_soundOf 0 = .ok (.iload_n 1, 1) := by decide +kernel
theorem dX8_soundOf_1 : decode cX8_soundOf 1 = .ok (.ifCond .lt 24, 3) := by decide +kernel
theorem dX8_soundOf_4 : decode cX8_soundOf 4 = .ok (.iload_n 1, 1) := by decide +kernel
theorem dX8_soundOf_5 : decode cX8_soundOf 5 = .ok (.bipush 8, 2) := by decide +kernel
theorem dX8_soundOf_7 : decode cX8_soundOf 7 = .ok (.if_icmp .ge 18, 3) := by decide +kernel
theorem dX8_soundOf_10 : decode cX8_soundOf 10 = .ok (.iload_n 2, 1) := by decide +kernel
theorem dX8_soundOf_11 : decode cX8_soundOf 11 = .ok (.iconst 1, 1) := by decide +kernel
theorem dX8_soundOf_12 : decode cX8_soundOf 12 = .ok (.if_icmp .lt 13, 3) := by decide +kernel
theorem dX8_soundOf_15 : decode cX8_soundOf 15 = .ok (.iload_n 2, 1) := by decide +kernel
theorem dX8_soundOf_16 : decode cX8_soundOf 16 = .ok (.aload_n 0, 1) := by decide +kernel
theorem dX8_soundOf_17 : decode cX8_soundOf 17 = .ok (.getfield 15, 3) := by decide +kernel
theorem dX8_soundOf_20 : decode cX8_soundOf 20 = .ok (.iload_n 1, 1) := by decide +kernel
theorem dX8_soundOf_21 : decode cX8_soundOf 21 = .ok (.iaload, 1) := by decide +kernel
theorem dX8_soundOf_22 : decode cX8_soundOf 22 = .ok (.if_icmp .le 5, 3) := by decide +kernel
theorem dX8_soundOf_25 : decode cX8_soundOf 25 = .ok (.iconst 0, 1) := by decide +kernel
theorem dX8_soundOf_26 : decode cX8_soundOf 26 = .ok (.ireturn, 1) := by decide +kernel
theorem dX8_soundOf_27 : decode cX8_soundOf 27 = .ok (.aload_n 0, 1) := by decide +kernel
theorem dX8_soundOf_28 : decode cX8_soundOf 28 = .ok (.getfield 11, 3) := by decide +kernel
theorem dX8_soundOf_31 : decode cX8_soundOf 31 = .ok (.iload_n 1, 1) := by decide +kernel
theorem dX8_soundOf_32 : decode cX8_soundOf 32 = .ok (.bipush 60, 2) := by decide +kernel
theorem dX8_soundOf_34 : decode cX8_soundOf 34 = .ok (.imul, 1) := by decide +kernel
theorem dX8_soundOf_35 : decode cX8_soundOf 35 = .ok (.iload_n 2, 1) := by decide +kernel
theorem dX8_soundOf_36 : decode cX8_soundOf 36 = .ok (.iadd, 1) := by decide +kernel
theorem dX8_soundOf_37 : decode cX8_soundOf 37 = .ok (.iconst 1, 1) := by decide +kernel
theorem dX8_soundOf_38 : decode cX8_soundOf 38 = .ok (.isub, 1) := by decide +kernel
theorem dX8_soundOf_39 : decode cX8_soundOf 39 = .ok (.iaload, 1) := by decide +kernel
