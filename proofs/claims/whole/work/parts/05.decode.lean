theorem dX10_reads_115 : decode cX10_reads 115 = .ok (.iastore, 1) := by decide +kernel
theorem dX10_reads_116 : decode cX10_reads 116 = .ok (.aload_n 0, 1) := by decide +kernel
theorem dX10_reads_117 : decode cX10_reads 117 = .ok (.invokevirtual 101, 3) := by decide +kernel
theorem dX10_reads_120 : decode cX10_reads 120 = .ok (.iconst 1, 1) := by decide +kernel
theorem dX10_reads_121 : decode cX10_reads 121 = .ok (.ireturn, 1) := by decide +kernel
theorem dX10_readsCell_0 : decode cX10_readsCell 0 = .ok (.iconst 4, 1) := by decide +kernel
theorem dX10_readsCell_1 : decode cX10_readsCell 1 = .ok (.aload_n 0, 1) := by decide +kernel
theorem dX10_readsCell_2 : decode cX10_readsCell 2 = .ok (.getfield 98, 3) := by decide +kernel
theorem dX10_readsCell_5 : decode cX10_readsCell 5 = .ok (.imul, 1) := by decide +kernel
theorem dX10_readsCell_6 : decode cX10_readsCell 6 = .ok (.iconst 1, 1) := by decide +kernel
theorem dX10_readsCell_7 : decode cX10_readsCell 7 = .ok (.iadd, 1) := by decide +kernel
theorem dX10_readsCell_8 : decode cX10_readsCell 8 = .ok (.istore_n 3, 1) := by decide +kernel
theorem dX10_readsCell_9 : decode cX10_readsCell 9 = .ok (.aload_n 0, 1) := by decide +kernel
theorem dX10_readsCell_10 : decode cX10_readsCell 10 = .ok (.iload_n 1, 1) := by decide +kernel
theorem dX10_readsCell_11 : decode cX10_readsCell 11 = .ok (.iconst 0, 1) := by decide +kernel
theorem dX10_readsCell_12 : decode cX10_readsCell 12 = .ok (.aload_n 0, 1) := by decide +kernel
theorem dX10_readsCell_13 : decode cX10_readsCell 13 = .ok (.getfield 104, 3) := by decide +kernel
theorem dX10_readsCell_16 : decode cX10_readsCell 16 = .ok (.iconst 1, 1) := by decide +kernel
theorem dX10_readsCell_17 : decode cX10_readsCell 17 = .ok (.isub, 1) := by decide +kernel
theorem dX10_readsCell_18 : decode cX10_readsCell 18 = .ok (.invokevirtual 107, 3) := by decide +kernel
theorem dX10_readsCell_21 : decode cX10_readsCell 21 = .ok (.ifCond .ne 5, 3) := by decide +kernel
theorem dX10_readsCell_24 : decode cX10_readsCell 24 = .ok (.iconst 0, 1) := by decide +kernel
theorem dX10_readsCell_25 : decode cX10_readsCell 25 = .ok (.ireturn, 1) := by decide +kernel
theorem dX10_readsCell_26 : decode cX10_readsCell 26 = .ok (.aload_n 0, 1) := by decide +kernel
theorem dX10_readsCell_27 : decode cX10_readsCell 27 = .ok (.getfield 20, 3) := by decide +kernel
theorem dX10_readsCell_30 : decode cX10_readsCell 30 = .ok (.iload_n 3, 1) := by decide +kernel
theorem dX10_readsCell_31 : decode cX10_readsCell 31 = .ok (.iload_n 1, 1) := by decide +kernel
theorem dX10_readsCell_32 : decode cX10_readsCell 32 = .ok (.iadd, 1) := by decide +kernel
theorem dX10_readsCell_33 : decode cX10_readsCell 33 = .ok (.iaload, 1) := by decide +kernel
theorem dX10_readsCell_34 : decode cX10_readsCell 34 = .ok (.istore 4, 2) := by decide +kernel
theorem dX10_readsCell_36 : decode cX10_readsCell 36 = .ok (.aload_n 0, 1) := by decide +kernel
theorem dX10_readsCell_37 : decode cX10_readsCell 37 = .ok (.getfield 77, 3) := by decide +kernel
theorem dX10_readsCell_40 : decode cX10_readsCell 40 = .ok (.istore 5, 2) := by decide +kernel
theorem dX10_readsCell_42 : decode cX10_readsCell 42 = .ok (.aload_n 0, 1) := by decide +kernel
theorem dX10_readsCell_43 : decode cX10_readsCell 43 = .ok (.iload_n 1, 1) := by decide +kernel
theorem dX10_readsCell_44 : decode cX10_readsCell 44 = .ok (.iconst 0, 1) := by decide +kernel
theorem dX10_readsCell_45 : decode cX10_readsCell 45 = .ok (.aload_n 0, 1) := by decide +kernel
theorem dX10_readsCell_46 : decode cX10_readsCell 46 = .ok (.getfield 111, 3) := by decide +kernel
theorem dX10_readsCell_49 : decode cX10_readsCell 49 = .ok (.iconst 1, 1) := by decide +kernel
theorem dX10_readsCell_50 : decode cX10_readsCell 50 = .ok (.isub, 1) := by decide +kernel
theorem dX10_readsCell_51 : decode cX10_readsCell 51 = .ok (.invokevirtual 107, 3) := by decide +kernel
theorem dX10_readsCell_54 : decode cX10_readsCell 54 = .ok (.ifCond .ne 5, 3) := by decide +kernel
theorem dX10_readsCell_57 : decode cX10_readsCell 57 = .ok (.iconst 0, 1) := by decide +kernel
theorem dX10_readsCell_58 : decode cX10_readsCell 58 = .ok (.ireturn, 1) := by decide +kernel
theorem dX10_readsCell_59 : decode cX10_readsCell 59 = .ok (.aload_n 0, 1) := by decide +kernel
theorem dX10_readsCell_60 : decode cX10_readsCell 60 = .ok (.getfield 20, 3) := by decide +kernel
theorem dX10_readsCell_63 : decode cX10_readsCell 63 = .ok (.iload_n 3, 1) := by decide +kernel
theorem dX10_readsCell_64 : decode cX10_readsCell 64 = .ok (.iload_n 1, 1) := by decide +kernel
theorem dX10_readsCell_65 : decode cX10_readsCell 65 = .ok (.iadd, 1) := by decide +kernel
theorem dX10_readsCell_66 : decode cX10_readsCell 66 = .ok (.aload_n 0, 1) := by decide +kernel
theorem dX10_readsCell_67 : decode cX10_readsCell 67 = .ok (.getfield 104, 3) := by decide +kernel
theorem dX10_readsCell_70 : decode cX10_readsCell 70 = .ok (.aload_n 0, 1) := by decide +kernel
theorem dX10_readsCell_71 : decode cX10_readsCell 71 = .ok (.getfield 20, 3) := by decide +kernel
theorem dX10_readsCell_74 : decode cX10_readsCell 74 = .ok (.iload_n 3, 1) := by decide +kernel
theorem dX10_readsCell_75 : decode cX10_readsCell 75 = .ok (.iload_n 1, 1) := by decide +kernel
theorem dX10_readsCell_76 : decode cX10_readsCell 76 = .ok (.iadd, 1) := by decide +kernel
theorem dX10_readsCell_77 : decode cX10_readsCell 77 = .ok (.iaload, 1) := by decide +kernel
theorem dX10_readsCell_78 : decode cX10_readsCell 78 = .ok (.imul, 1) := by decide +kernel
theorem dX10_readsCell_79 : decode cX10_readsCell 79 = .ok (.iload 4, 2) := by decide +kernel
theorem dX10_readsCell_81 : decode cX10_readsCell 81 = .ok (.iadd, 1) := by decide +kernel
theorem dX10_readsCell_82 : decode cX10_readsCell 82 = .ok (.iastore, 1) := by decide +kernel
theorem dX10_readsCell_83 : decode cX10_readsCell 83 = .ok (.iload_n 2, 1) := by decide +kernel
theorem dX10_readsCell_84 : decode cX10_readsCell 84 = .ok (.ifCond .eq 27, 3) := by decide +kernel
theorem dX10_readsCell_87 : decode cX10_readsCell 87 = .ok (.aload_n 0, 1) := by decide +kernel
theorem dX10_readsCell_88 : decode cX10_readsCell 88 = .ok (.getfield 33, 3) := by decide +kernel
theorem dX10_readsCell_91 : decode cX10_readsCell 91 = .ok (.aload_n 0, 1) := by decide +kernel
theorem dX10_readsCell_92 : decode cX10_readsCell 92 = .ok (.getfield 20, 3) := by decide +kernel
theorem dX10_readsCell_95 : decode cX10_readsCell 95 = .ok (.iload_n 3, 1) := by decide +kernel
theorem dX10_readsCell_96 : decode cX10_readsCell 96 = .ok (.iload_n 1, 1) := by decide +kernel
theorem dX10_readsCell_97 : decode cX10_readsCell 97 = .ok (.iadd, 1) := by decide +kernel
theorem dX10_readsCell_98 : decode cX10_readsCell 98 = .ok (.iaload, 1) := by decide +kernel
theorem dX10_readsCell_99 : decode cX10_readsCell 99 = .ok (.baload, 1) := by decide +kernel
theorem dX10_readsCell_100 : decode cX10_readsCell 100 = .ok (.ifCond .eq 11, 3) := by decide +kernel
theorem dX10_readsCell_103 : decode cX10_readsCell 103 = .ok (.aload_n 0, 1) := by decide +kernel
theorem dX10_readsCell_104 : decode cX10_readsCell 104 = .ok (.iload 5, 2) := by decide +kernel
theorem dX10_readsCell_106 : decode cX10_readsCell 106 = .ok (.putfield 77, 3) := by decide +kernel
theorem dX10_readsCell_109 : decode cX10_readsCell 109 = .ok (.iconst 0, 1) := by decide +kernel
theorem dX10_readsCell_110 : decode cX10_readsCell 110 = .ok (.ireturn, 1) := by decide +kernel
theorem dX10_readsCell_111 : decode cX10_readsCell 111 = .ok (.iconst 1, 1) := by decide +kernel
theorem dX10_readsCell_112 : decode cX10_readsCell 112 = .ok (.ireturn, 1) := by decide +kernel
theorem dX10_readsPerson_0 : decode cX10_readsPerson 0 = .ok (.aload_n 0, 1) := by decide +kernel
theorem dX10_readsPerson_1 : decode cX10_readsPerson 1 = .ok (.getfield 77, 3) := by decide +kernel
theorem dX10_readsPerson_4 : decode cX10_readsPerson 4 = .ok (.aload_n 0, 1) := by decide +kernel
theorem dX10_readsPerson_5 : decode cX10_readsPerson 5 = .ok (.getfield 69, 3) := by decide +kernel
theorem dX10_readsPerson_8 : decode cX10_readsPerson 8 = .ok (.if_icmp .eq 38, 3) := by decide +kernel
theorem dX10_readsPerson_11 : decode cX10_readsPerson 11 = .ok (.aload_n 0, 1) := by decide +kernel
theorem dX10_readsPerson_12 : decode cX10_readsPerson 12 = .ok (.getfield 84, 3) := by decide +kernel
theorem dX10_readsPerson_15 : decode cX10_readsPerson 15 = .ok (.aload_n 0, 1) := by decide +kernel
theorem dX10_readsPerson_16 : decode cX10_readsPerson 16 = .ok (.getfield 77, 3) := by decide +kernel
theorem dX10_readsPerson_19 : decode cX10_readsPerson 19 = .ok (.isub, 1) := by decide +kernel
theorem dX10_readsPerson_20 : decode cX10_readsPerson 20 = .ok (.iconst 1, 1) := by decide +kernel
theorem dX10_readsPerson_21 : decode cX10_readsPerson 21 = .ok (.if_icmp .ne 25, 3) := by decide +kernel
theorem dX10_readsPerson_24 : decode cX10_readsPerson 24 = .ok (.aload_n 0, 1) := by decide +kernel
theorem dX10_readsPerson_25 : decode cX10_readsPerson 25 = .ok (.getfield 17, 3) := by decide +kernel
theorem dX10_readsPerson_28 : decode cX10_readsPerson 28 = .ok (.aload_n 0, 1) := by decide +kernel
theorem dX10_readsPerson_29 : decode cX10_readsPerson 29 = .ok (.getfield 77, 3) := by decide +kernel
theorem dX10_readsPerson_32 : decode cX10_readsPerson 32 = .ok (.iaload, 1) := by decide +kernel
theorem dX10_readsPerson_33 : decode cX10_readsPerson 33 = .ok (.i2l, 1) := by decide +kernel
theorem dX10_readsPerson_34 : decode cX10_readsPerson 34 = .ok (.ldc2_w 114, 3) := by decide +kernel
theorem dX10_readsPerson_37 : decode cX10_readsPerson 37 = .ok (.ldc2_w 116, 3) := by decide +kernel
theorem dX10_readsPerson_40 : decode cX10_readsPerson 40 = .ok (.invokestatic 65, 3) := by decide +kernel
theorem dX10_readsPerson_43 : decode cX10_readsPerson 43 = .ok (.ifCond .ne 5, 3) := by decide +kernel
theorem dX10_readsPerson_46 : decode cX10_readsPerson 46 = .ok (.iconst 0, 1) := by decide +kernel
theorem dX10_readsPerson_47 : decode cX10_readsPerson 47 = .ok (.ireturn, 1) := by decide +kernel
theorem dX10_readsPerson_48 : decode cX10_readsPerson 48 = .ok (.aload_n 0, 1) := by decide +kernel
theorem dX10_readsPerson_49 : decode cX10_readsPerson 49 = .ok (.getfield 20, 3) := by decide +kernel
theorem dX10_readsPerson_52 : decode cX10_readsPerson 52 = .ok (.iconst 4, 1) := by decide +kernel
theorem dX10_readsPerson_53 : decode cX10_readsPerson 53 = .ok (.aload_n 0, 1) := by decide +kernel
theorem dX10_readsPerson_54 : decode cX10_readsPerson 54 = .ok (.getfield 98, 3) := by decide +kernel
theorem dX10_readsPerson_57 : decode cX10_readsPerson 57 = .ok (.imul, 1) := by decide +kernel
theorem dX10_readsPerson_58 : decode cX10_readsPerson 58 = .ok (.iconst 1, 1) := by decide +kernel
theorem dX10_readsPerson_59 : decode cX10_readsPerson 59 = .ok (.iadd, 1) := by decide +kernel
theorem dX10_readsPerson_60 : decode cX10_readsPerson 60 = .ok (.aload_n 0, 1) := by decide +kernel
theorem dX10_readsPerson_61 : decode cX10_readsPerson 61 = .ok (.getfield 17, 3) := by decide +kernel
theorem dX10_readsPerson_64 : decode cX10_readsPerson 64 = .ok (.aload_n 0, 1) := by decide +kernel
theorem dX10_readsPerson_65 : decode cX10_readsPerson 65 = .ok (.getfield 77, 3) := by decide +kernel
theorem dX10_readsPerson_68 : decode cX10_readsPerson 68 = .ok (.iaload, 1) := by decide +kernel
theorem dX10_readsPerson_69 : decode cX10_readsPerson 69 = .ok (.bipush 97, 2) := by decide +kernel
theorem dX10_readsPerson_71 : decode cX10_readsPerson 71 = .ok (.isub, 1) := by decide +kernel
theorem dX10_readsPerson_72 : decode cX10_readsPerson 72 = .ok (.iastore, 1) := by decide +kernel
theorem dX10_readsPerson_73 : decode cX10_readsPerson 73 = .ok (.aload_n 0, 1) := by decide +kernel
theorem dX10_readsPerson_74 : decode cX10_readsPerson 74 = .ok (.invokevirtual 101, 3) := by decide +kernel
theorem dX10_readsPerson_77 : decode cX10_readsPerson 77 = .ok (.iconst 1, 1) := by decide +kernel
theorem dX10_readsPerson_78 : decode cX10_readsPerson 78 = .ok (.ireturn, 1) := by decide +kernel
theorem dX10_readsRest_0 : decode cX10_readsRest 0 = .ok (.iload_n 1, 1) := by decide +kernel
theorem dX10_readsRest_1 : decode cX10_readsRest 1 = .ok (.tableswitch 226 0 8 #[51, 79, 105, 112, 134, 139, 226, 178, 217], 51) := by decide +kernel
theorem dX10_readsRest_52 : decode cX10_readsRest 52 = .ok (.aload_n 0, 1) := by decide +kernel
theorem dX10_readsRest_53 : decode cX10_readsRest 53 = .ok (.iconst 0, 1) := by decide +kernel
theorem dX10_readsRest_54 : decode cX10_readsRest 54 = .ok (.iconst 1, 1) := by decide +kernel
theorem dX10_readsRest_55 : decode cX10_readsRest 55 = .ok (.bipush 6, 2) := by decide +kernel
theorem dX10_readsRest_57 : decode cX10_readsRest 57 = .ok (.invokevirtual 107, 3) := by decide +kernel
theorem dX10_readsRest_60 : decode cX10_readsRest 60 = .ok (.ifCond .eq 18, 3) := by decide +kernel
theorem dX10_readsRest_63 : decode cX10_readsRest 63 = .ok (.aload_n 0, 1) := by decide +kernel
theorem dX10_readsRest_64 : decode cX10_readsRest 64 = .ok (.iconst 1, 1) := by decide +kernel
theorem dX10_readsRest_65 : decode cX10_readsRest 65 = .ok (.iconst 1, 1) := by decide +kernel
theorem dX10_readsRest_66 : decode cX10_readsRest 66 = .ok (.bipush 6, 2) := by decide +kernel
theorem dX10_readsRest_68 : decode cX10_readsRest 68 = .ok (.invokevirtual 107, 3) := by decide +kernel
theorem dX10_readsRest_71 : decode cX10_readsRest 71 = .ok (.ifCond .eq 7, 3) := by decide +kernel
theorem dX10_readsRest_74 : decode cX10_readsRest 74 = .ok (.iconst 1, 1) := by decide +kernel
theorem dX10_readsRest_75 : decode cX10_readsRest 75 = .ok (.goto 4, 3) := by decide +kernel
theorem dX10_readsRest_78 : decode cX10_readsRest 78 = .ok (.iconst 0, 1) := by decide +kernel
theorem dX10_readsRest_79 : decode cX10_readsRest 79 = .ok (.ireturn, 1) := by decide +kernel
theorem dX10_readsRest_80 : decode cX10_readsRest 80 = .ok (.aload_n 0, 1) := by decide +kernel
theorem dX10_readsRest_81 : decode cX10_readsRest 81 = .ok (.iconst 0, 1) := by decide +kernel
theorem dX10_readsRest_82 : decode cX10_readsRest 82 = .ok (.iconst 0, 1) := by decide +kernel
theorem dX10_readsRest_83 : decode cX10_readsRest 83 = .ok (.invokevirtual 118, 3) := by decide +kernel
theorem dX10_readsRest_86 : decode cX10_readsRest 86 = .ok (.ifCond .eq 18, 3) := by decide +kernel
theorem dX10_readsRest_89 : decode cX10_readsRest 89 = .ok (.aload_n 0, 1) := by decide +kernel
theorem dX10_readsRest_90 : decode cX10_readsRest 90 = .ok (.iconst 1, 1) := by decide +kernel
theorem dX10_readsRest_91 : decode cX10_readsRest 91 = .ok (.iconst 0, 1) := by decide +kernel
theorem dX10_readsRest_92 : decode cX10_readsRest 92 = .ok (.bipush 99, 2) := by decide +kernel
theorem dX10_readsRest_94 : decode cX10_readsRest 94 = .ok (.invokevirtual 107, 3) := by decide +kernel
theorem dX10_readsRest_97 : decode cX10_readsRest 97 = .ok (.ifCond .eq 7, 3) := by decide +kernel
theorem dX10_readsRest_100 : decode cX10_readsRest 100 = .ok (.iconst 1, 1) := by decide +kernel
theorem dX10_readsRest_101 : decode cX10_readsRest 101 = .ok (.goto 4, 3) := by decide +kernel
theorem dX10_readsRest_104 : decode cX10_readsRest 104 = .ok (.iconst 0, 1) := by decide +kernel
theorem dX10_readsRest_105 : decode cX10_readsRest 105 = .ok (.ireturn, 1) := by decide +kernel
theorem dX10_readsRest_106 : decode cX10_readsRest 106 = .ok (.aload_n 0, 1) := by decide +kernel
theorem dX10_readsRest_107 : decode cX10_readsRest 107 = .ok (.iconst 0, 1) := by decide +kernel
theorem dX10_readsRest_108 : decode cX10_readsRest 108 = .ok (.iconst 0, 1) := by decide +kernel
theorem dX10_readsRest_109 : decode cX10_readsRest 109 = .ok (.invokevirtual 118, 3) := by decide +kernel
theorem dX10_readsRest_112 : decode cX10_readsRest 112 = .ok (.ireturn, 1) := by decide +kernel
theorem dX10_readsRest_113 : decode cX10_readsRest 113 = .ok (.aload_n 0, 1) := by decide +kernel
theorem dX10_readsRest_114 : decode cX10_readsRest 114 = .ok (.invokevirtual 122, 3) := by decide +kernel
theorem dX10_readsRest_117 : decode cX10_readsRest 117 = .ok (.ifCond .eq 16, 3) := by decide +kernel
theorem dX10_readsRest_120 : decode cX10_readsRest 120 = .ok (.aload_n 0, 1) := by decide +kernel
theorem dX10_readsRest_121 : decode cX10_readsRest 121 = .ok (.iconst 1, 1) := by decide +kernel
theorem dX10_readsRest_122 : decode cX10_readsRest 122 = .ok (.iconst 1, 1) := by decide +kernel
theorem dX10_readsRest_123 : decode cX10_readsRest 123 = .ok (.invokevirtual 118, 3) := by decide +kernel
theorem dX10_readsRest_126 : decode cX10_readsRest 126 = .ok (.ifCond .eq 7, 3) := by decide +kernel
theorem dX10_readsRest_129 : decode cX10_readsRest 129 = .ok (.iconst 1, 1) := by decide +kernel
theorem dX10_readsRest_130 : decode cX10_readsRest 130 = .ok (.goto 4, 3) := by decide +kernel
theorem dX10_readsRest_133 : decode cX10_readsRest 133 = .ok (.iconst 0, 1) := by decide +kernel
theorem dX10_readsRest_134 : decode cX10_readsRest 134 = .ok (.ireturn, 1) := by decide +kernel
theorem dX10_readsRest_135 : decode cX10_readsRest 135 = .ok (.aload_n 0, 1) := by decide +kernel
theorem dX10_readsRest_136 : decode cX10_readsRest 136 = .ok (.invokevirtual 122, 3) := by decide +kernel
theorem dX10_readsRest_139 : decode cX10_readsRest 139 = .ok (.ireturn, 1) := by decide +kernel
theorem dX10_readsRest_140 : decode cX10_readsRest 140 = .ok (.aload_n 0, 1) := by decide +kernel
theorem dX10_readsRest_141 : decode cX10_readsRest 141 = .ok (.iconst 0, 1) := by decide +kernel
theorem dX10_readsRest_142 : decode cX10_readsRest 142 = .ok (.iconst 1, 1) := by decide +kernel
theorem dX10_readsRest_143 : decode cX10_readsRest 143 = .ok (.bipush 99, 2) := by decide +kernel
theorem dX10_readsRest_145 : decode cX10_readsRest 145 = .ok (.invokevirtual 107, 3) := by decide +kernel
theorem dX10_readsRest_148 : decode cX10_readsRest 148 = .ok (.ifCond .eq 29, 3) := by decide +kernel
theorem dX10_readsRest_151 : decode cX10_readsRest 151 = .ok (.aload_n 0, 1) := by decide +kernel
theorem dX10_readsRest_152 : decode cX10_readsRest 152 = .ok (.iconst 1, 1) := by decide +kernel
theorem dX10_readsRest_153 : decode cX10_readsRest 153 = .ok (.iconst 0, 1) := by decide +kernel
theorem dX10_readsRest_154 : decode cX10_readsRest 154 = .ok (.bipush 60, 2) := by decide +kernel
theorem dX10_readsRest_156 : decode cX10_readsRest 156 = .ok (.invokevirtual 107, 3) := by decide +kernel
theorem dX10_readsRest_159 : decode cX10_readsRest 159 = .ok (.ifCond .eq 18, 3) := by decide +kernel
theorem dX10_readsRest_162 : decode cX10_readsRest 162 = .ok (.aload_n 0, 1) := by decide +kernel
theorem dX10_readsRest_163 : decode cX10_readsRest 163 = .ok (.iconst 2, 1) := by decide +kernel
theorem dX10_readsRest_164 : decode cX10_readsRest 164 = .ok (.iconst 1, 1) := by decide +kernel
theorem dX10_readsRest_165 : decode cX10_readsRest 165 = .ok (.bipush 99, 2) := by decide +kernel
theorem dX10_readsRest_167 : decode cX10_readsRest 167 = .ok (.invokevirtual 107, 3) := by decide +kernel
theorem dX10_readsRest_170 : decode cX10_readsRest 170 = .ok (.ifCond .eq 7, 3) := by decide +kernel
theorem dX10_readsRest_173 : decode cX10_readsRest 173 = .ok (.iconst 1, 1) := by decide +kernel
theorem dX10_readsRest_174 : decode cX10_readsRest 174 = .ok (.goto 4, 3) := by decide +kernel
theorem dX10_readsRest_177 : decode cX10_readsRest 177 = .ok (.iconst 0, 1) := by decide +kernel
theorem dX10_readsRest_178 : decode cX10_readsRest 178 = .ok (.ireturn, 1) := by decide +kernel
theorem dX10_readsRest_179 : decode cX10_readsRest 179 = .ok (.aload_n 0, 1) := by decide +kernel
theorem dX10_readsRest_180 : decode cX10_readsRest 180 = .ok (.iconst 0, 1) := by decide +kernel
theorem dX10_readsRest_181 : decode cX10_readsRest 181 = .ok (.iconst 0, 1) := by decide +kernel
theorem dX10_readsRest_182 : decode cX10_readsRest 182 = .ok (.bipush 23, 2) := by decide +kernel
theorem dX10_readsRest_184 : decode cX10_readsRest 184 = .ok (.invokevirtual 107, 3) := by decide +kernel
theorem dX10_readsRest_187 : decode cX10_readsRest 187 = .ok (.ifCond .eq 29, 3) := by decide +kernel
theorem dX10_readsRest_190 : decode cX10_readsRest 190 = .ok (.aload_n 0, 1) := by decide +kernel
theorem dX10_readsRest_191 : decode cX10_readsRest 191 = .ok (.iconst 1, 1) := by decide +kernel
theorem dX10_readsRest_192 : decode cX10_readsRest 192 = .ok (.iconst 0, 1) := by decide +kernel
theorem dX10_readsRest_193 : decode cX10_readsRest 193 = .ok (.bipush 23, 2) := by decide +kernel
theorem dX10_readsRest_195 : decode cX10_readsRest 195 = .ok (.invokevirtual 107, 3) := by decide +kernel
theorem dX10_readsRest_198 : decode cX10_readsRest 198 = .ok (.ifCond .eq 18, 3) := by decide +kernel
theorem dX10_readsRest_201 : decode cX10_readsRest 201 = .ok (.aload_n 0, 1) := by decide +kernel
theorem dX10_readsRest_202 : decode cX10_readsRest 202 = .ok (.iconst 2, 1) := by decide +kernel
theorem dX10_readsRest_203 : decode cX10_readsRest 203 = .ok (.iconst 1, 1) := by decide +kernel
theorem dX10_readsRest_204 : decode cX10_readsRest 204 = .ok (.bipush 9, 2) := by decide +kernel
theorem dX10_readsRest_206 : decode cX10_readsRest 206 = .ok (.invokevirtual 107, 3) := by decide +kernel
theorem dX10_readsRest_209 : decode cX10_readsRest 209 = .ok (.ifCond .eq 7, 3) := by decide +kernel
theorem dX10_readsRest_212 : decode cX10_readsRest 212 = .ok (.iconst 1, 1) := by decide +kernel
theorem dX10_readsRest_213 : decode cX10_readsRest 213 = .ok (.goto 4, 3) := by decide +kernel
theorem dX10_readsRest_216 : decode cX10_readsRest 216 = .ok (.iconst 0, 1) := by decide +kernel
theorem dX10_readsRest_217 : decode cX10_readsRest 217 = .ok (.ireturn, 1) := by decide +kernel
theorem dX10_readsRest_218 : decode cX10_readsRest 218 = .ok (.aload_n 0, 1) := by decide +kernel
theorem dX10_readsRest_219 : decode cX10_readsRest 219 = .ok (.iconst 0, 1) := by decide +kernel
theorem dX10_readsRest_220 : decode cX10_readsRest 220 = .ok (.iconst 0, 1) := by decide +kernel
theorem dX10_readsRest_221 : decode cX10_readsRest 221 = .ok (.bipush 9, 2) := by decide +kernel
theorem dX10_readsRest_223 : decode cX10_readsRest 223 = .ok (.invokevirtual 107, 3) := by decide +kernel
theorem dX10_readsRest_226 : decode cX10_readsRest 226 = .ok (.ireturn, 1) := by decide +kernel
theorem dX10_readsRest_227 : decode cX10_readsRest 227 = .ok (.iconst 1, 1) := by decide +kernel
theorem dX10_readsRest_228 : decode cX10_readsRest 228 = .ok (.ireturn, 1) := by decide +kernel
theorem dX10_readsLine_0 : decode cX10_readsLine 0 = .ok (.aload_n 0, 1) := by decide +kernel
theorem dX10_readsLine_1 : decode cX10_readsLine 1 = .ok (.invokevirtual 126, 3) := by decide +kernel
theorem dX10_readsLine_4 : decode cX10_readsLine 4 = .ok (.istore_n 1, 1) := by decide +kernel
theorem dX10_readsLine_5 : decode cX10_readsLine 5 = .ok (.iload_n 1, 1) := by decide +kernel
theorem dX10_readsLine_6 : decode cX10_readsLine 6 = .ok (.iconst (-1), 1) := by decide +kernel
theorem dX10_readsLine_7 : decode cX10_readsLine 7 = .ok (.if_icmp .eq 17, 3) := by decide +kernel
theorem dX10_readsLine_10 : decode cX10_readsLine 10 = .ok (.iload_n 1, 1) := by decide +kernel
theorem dX10_readsLine_11 : decode cX10_readsLine 11 = .ok (.iconst 5, 1) := by decide +kernel
theorem dX10_readsLine_12 : decode cX10_readsLine 12 = .ok (.if_icmp .ne 14, 3) := by decide +kernel
theorem dX10_readsLine_15 : decode cX10_readsLine 15 = .ok (.aload_n 0, 1) := by decide +kernel
theorem dX10_readsLine_16 : decode cX10_readsLine 16 = .ok (.getfield 130, 3) := by decide +kernel
theorem dX10_readsLine_19 : decode cX10_readsLine 19 = .ok (.bipush 6, 2) := by decide +kernel
theorem dX10_readsLine_21 : decode cX10_readsLine 21 = .ok (.if_icmp .ne 5, 3) := by decide +kernel
theorem dX10_readsLine_24 : decode cX10_readsLine 24 = .ok (.iconst 0, 1) := by decide +kernel
theorem dX10_readsLine_25 : decode cX10_readsLine 25 = .ok (.ireturn, 1) := by decide +kernel
theorem dX10_readsLine_26 : decode cX10_readsLine 26 = .ok (.aload_n 0, 1) := by decide +kernel
theorem dX10_readsLine_27 : decode cX10_readsLine 27 = .ok (.invokevirtual 101, 3) := by decide +kernel
theorem dX10_readsLine_30 : decode cX10_readsLine 30 = .ok (.iconst 4, 1) := by decide +kernel
theorem dX10_readsLine_31 : decode cX10_readsLine 31 = .ok (.aload_n 0, 1) := by decide +kernel
theorem dX10_readsLine_32 : decode cX10_readsLine 32 = .ok (.getfield 98, 3) := by decide +kernel
theorem dX10_readsLine_35 : decode cX10_readsLine 35 = .ok (.imul, 1) := by decide +kernel
theorem dX10_readsLine_36 : decode cX10_readsLine 36 = .ok (.istore_n 2, 1) := by decide +kernel
theorem dX10_readsLine_37 : decode cX10_readsLine 37 = .ok (.aload_n 0, 1) := by decide +kernel
theorem dX10_readsLine_38 : decode cX10_readsLine 38 = .ok (.getfield 20, 3) := by decide +kernel
theorem dX10_readsLine_41 : decode cX10_readsLine 41 = .ok (.iload_n 2, 1) := by decide +kernel
theorem dX10_readsLine_42 : decode cX10_readsLine 42 = .ok (.iload_n 1, 1) := by decide +kernel
theorem dX10_readsLine_43 : decode cX10_readsLine 43 = .ok (.iastore, 1) := by decide +kernel
theorem dX10_readsLine_44 : decode cX10_readsLine 44 = .ok (.aload_n 0, 1) := by decide +kernel
theorem dX10_readsLine_45 : decode cX10_readsLine 45 = .ok (.iload_n 1, 1) := by decide +kernel
theorem dX10_readsLine_46 : decode cX10_readsLine 46 = .ok (.invokevirtual 133, 3) := by decide +kernel
theorem dX10_readsLine_49 : decode cX10_readsLine 49 = .ok (.ifCond .ne 5, 3) := by decide +kernel
theorem dX10_readsLine_52 : decode cX10_readsLine 52 = .ok (.iconst 0, 1) := by decide +kernel
theorem dX10_readsLine_53 : decode cX10_readsLine 53 = .ok (.ireturn, 1) := by decide +kernel
theorem dX10_readsLine_54 : decode cX10_readsLine 54 = .ok (.iload_n 1, 1) := by decide +kernel
theorem dX10_readsLine_55 : decode cX10_readsLine 55 = .ok (.ifCond .ne 51, 3) := by decide +kernel
theorem dX10_readsLine_58 : decode cX10_readsLine 58 = .ok (.aload_n 0, 1) := by decide +kernel
theorem dX10_readsLine_59 : decode cX10_readsLine 59 = .ok (.aload_n 0, 1) := by decide +kernel
theorem dX10_readsLine_60 : decode cX10_readsLine 60 = .ok (.getfield 20, 3) := by decide +kernel
theorem dX10_readsLine_63 : decode cX10_readsLine 63 = .ok (.iload_n 2, 1) := by decide +kernel
theorem dX10_readsLine_64 : decode cX10_readsLine 64 = .ok (.iconst 1, 1) := by decide +kernel
theorem dX10_readsLine_65 : decode cX10_readsLine 65 = .ok (.iadd, 1) := by decide +kernel
theorem dX10_readsLine_66 : decode cX10_readsLine 66 = .ok (.iaload, 1) := by decide +kernel
theorem dX10_readsLine_67 : decode cX10_readsLine 67 = .ok (.putfield 104, 3) := by decide +kernel
theorem dX10_readsLine_70 : decode cX10_readsLine 70 = .ok (.aload_n 0, 1) := by decide +kernel
theorem dX10_readsLine_71 : decode cX10_readsLine 71 = .ok (.aload_n 0, 1) := by decide +kernel
theorem dX10_readsLine_72 : decode cX10_readsLine 72 = .ok (.getfield 20, 3) := by decide +kernel
theorem dX10_readsLine_75 : decode cX10_readsLine 75 = .ok (.iload_n 2, 1) := by decide +kernel
theorem dX10_readsLine_76 : decode cX10_readsLine 76 = .ok (.iconst 2, 1) := by decide +kernel
theorem dX10_readsLine_77 : decode cX10_readsLine 77 = .ok (.iadd, 1) := by decide +kernel
theorem dX10_readsLine_78 : decode cX10_readsLine 78 = .ok (.iaload, 1) := by decide +kernel
theorem dX10_readsLine_79 : decode cX10_readsLine 79 = .ok (.putfield 111, 3) := by decide +kernel
theorem dX10_readsLine_82 : decode cX10_readsLine 82 = .ok (.iconst 0, 1) := by decide +kernel
theorem dX10_readsLine_83 : decode cX10_readsLine 83 = .ok (.istore_n 3, 1) := by decide +kernel
theorem dX10_readsLine_84 : decode cX10_readsLine 84 = .ok (.iload_n 3, 1) := by decide +kernel
theorem dX10_readsLine_85 : decode cX10_readsLine 85 = .ok (.bipush 36, 2) := by decide +kernel
theorem dX10_readsLine_87 : decode cX10_readsLine 87 = .ok (.if_icmp .ge 16, 3) := by decide +kernel
theorem dX10_readsLine_90 : decode cX10_readsLine 90 = .ok (.aload_n 0, 1) := by decide +kernel
theorem dX10_readsLine_91 : decode cX10_readsLine 91 = .ok (.getfield 33, 3) := by decide +kernel
theorem dX10_readsLine_94 : decode cX10_readsLine 94 = .ok (.iload_n 3, 1) := by decide +kernel
theorem dX10_readsLine_95 : decode cX10_readsLine 95 = .ok (.iconst 0, 1) := by decide +kernel
theorem dX10_readsLine_96 : decode cX10_readsLine 96 = .ok (.bastore, 1) := by decide +kernel
theorem dX10_readsLine_97 : decode cX10_readsLine 97 = .ok (.iinc 3 1, 3) := by decide +kernel
theorem dX10_readsLine_100 : decode cX10_readsLine 100 = .ok (.goto (-16), 3) := by decide +kernel
theorem dX10_readsLine_103 : decode cX10_readsLine 103 = .ok (.goto 36, 3) := by decide +kernel
theorem dX10_readsLine_106 : decode cX10_readsLine 106 = .ok (.iload_n 1, 1) := by decide +kernel
theorem dX10_readsLine_107 : decode cX10_readsLine 107 = .ok (.iconst 1, 1) := by decide +kernel
theorem dX10_readsLine_108 : decode cX10_readsLine 108 = .ok (.if_icmp .eq 8, 3) := by decide +kernel
theorem dX10_readsLine_111 : decode cX10_readsLine 111 = .ok (.iload_n 1, 1) := by decide +kernel
theorem dX10_readsLine_112 : decode cX10_readsLine 112 = .ok (.iconst 2, 1) := by decide +kernel
theorem dX10_readsLine_113 : decode cX10_readsLine 113 = .ok (.if_icmp .ne 26, 3) := by decide +kernel
theorem dX10_readsLine_116 : decode cX10_readsLine 116 = .ok (.aload_n 0, 1) := by decide +kernel
theorem dX10_readsLine_117 : decode cX10_readsLine 117 = .ok (.getfield 33, 3) := by decide +kernel
theorem dX10_readsLine_120 : decode cX10_readsLine 120 = .ok (.aload_n 0, 1) := by decide +kernel
theorem dX10_readsLine_121 : decode cX10_readsLine 121 = .ok (.getfield 20, 3) := by decide +kernel
theorem dX10_readsLine_124 : decode cX10_readsLine 124 = .ok (.iload_n 2, 1) := by decide +kernel
theorem dX10_readsLine_125 : decode cX10_readsLine 125 = .ok (.iconst 1, 1) := by decide +kernel
theorem dX10_readsLine_126 : decode cX10_readsLine 126 = .ok (.iadd, 1) := by decide +kernel
theorem dX10_readsLine_127 : decode cX10_readsLine 127 = .ok (.iaload, 1) := by decide +kernel
theorem dX10_readsLine_128 : decode cX10_readsLine 128 = .ok (.iload_n 1, 1) := by decide +kernel
theorem dX10_readsLine_129 : decode cX10_readsLine 129 = .ok (.iconst 1, 1) := by decide +kernel
theorem dX10_readsLine_130 : decode cX10_readsLine 130 = .ok (.if_icmp .ne 7, 3) := by decide +kernel
theorem dX10_readsLine_133 : decode cX10_readsLine 133 = .ok (.iconst 1, 1) := by decide +kernel
theorem dX10_readsLine_134 : decode cX10_readsLine 134 = .ok (.goto 4, 3) := by decide +kernel
theorem dX10_readsLine_137 : decode cX10_readsLine 137 = .ok (.iconst 0, 1) := by decide +kernel
theorem dX10_readsLine_138 : decode cX10_readsLine 138 = .ok (.bastore, 1) := by decide +kernel
theorem dX10_readsLine_139 : decode cX10_readsLine 139 = .ok (.aload_n 0, 1) := by decide +kernel
theorem dX10_readsLine_140 : decode cX10_readsLine 140 = .ok (.iload_n 1, 1) := by decide +kernel
theorem dX10_readsLine_141 : decode cX10_readsLine 141 = .ok (.bipush 6, 2) := by decide +kernel
theorem dX10_readsLine_143 : decode cX10_readsLine 143 = .ok (.if_icmp .ne 7, 3) := by decide +kernel
theorem dX10_readsLine_146 : decode cX10_readsLine 146 = .ok (.iconst 0, 1) := by decide +kernel
theorem dX10_readsLine_147 : decode cX10_readsLine 147 = .ok (.goto 21, 3) := by decide +kernel
theorem dX10_readsLine_150 : decode cX10_readsLine 150 = .ok (.iload_n 1, 1) := by decide +kernel
theorem dX10_readsLine_151 : decode cX10_readsLine 151 = .ok (.iconst 5, 1) := by decide +kernel
theorem dX10_readsLine_152 : decode cX10_readsLine 152 = .ok (.if_icmp .ne 12, 3) := by decide +kernel
theorem dX10_readsLine_155 : decode cX10_readsLine 155 = .ok (.aload_n 0, 1) := by decide +kernel
theorem dX10_readsLine_156 : decode cX10_readsLine 156 = .ok (.getfield 130, 3) := by decide +kernel
theorem dX10_readsLine_159 : decode cX10_readsLine 159 = .ok (.iconst 1, 1) := by decide +kernel
theorem dX10_readsLine_160 : decode cX10_readsLine 160 = .ok (.iadd, 1) := by decide +kernel
theorem dX10_readsLine_161 : decode cX10_readsLine 161 = .ok (.goto 7, 3) := by decide +kernel
theorem dX10_readsLine_164 : decode cX10_readsLine 164 = .ok (.aload_n 0, 1) := by decide +kernel
theorem dX10_readsLine_165 : decode cX10_readsLine 165 = .ok (.getfield 130, 3) := by decide +kernel
theorem dX10_readsLine_168 : decode cX10_readsLine 168 = .ok (.putfield 130, 3) := by decide +kernel
theorem dX10_readsLine_171 : decode cX10_readsLine 171 = .ok (.aload_n 0, 1) := by decide +kernel
theorem dX10_readsLine_172 : decode cX10_readsLine 172 = .ok (.dup, 1) := by decide +kernel
theorem dX10_readsLine_173 : decode cX10_readsLine 173 = .ok (.getfield 98, 3) := by decide +kernel
theorem dX10_readsLine_176 : decode cX10_readsLine 176 = .ok (.iconst 1, 1) := by decide +kernel
theorem dX10_readsLine_177 : decode cX10_readsLine 177 = .ok (.iadd, 1) := by decide +kernel
theorem dX10_readsLine_178 : decode cX10_readsLine 178 = .ok (.putfield 98, 3) := by decide +kernel
theorem dX10_readsLine_181 : decode cX10_readsLine 181 = .ok (.iconst 1, 1) := by decide +kernel
theorem dX10_readsLine_182 : decode cX10_readsLine 182 = .ok (.ireturn, 1) := by decide +kernel
theorem dX10_fault_0 : decode cX10_fault 0 = .ok (.aload_n 0, 1) := by decide +kernel
theorem dX10_fault_1 : decode cX10_fault 1 = .ok (.iconst 0, 1) := by decide +kernel
theorem dX10_fault_2 : decode cX10_fault 2 = .ok (.putfield 74, 3) := by decide +kernel
theorem dX10_fault_5 : decode cX10_fault 5 = .ok (.aload_n 0, 1) := by decide +kernel
theorem dX10_fault_6 : decode cX10_fault 6 = .ok (.iconst 0, 1) := by decide +kernel
theorem dX10_fault_7 : decode cX10_fault 7 = .ok (.putfield 98, 3) := by decide +kernel
theorem dX10_fault_10 : decode cX10_fault 10 = .ok (.aload_n 0, 1) := by decide +kernel
theorem dX10_fault_11 : decode cX10_fault 11 = .ok (.aload_n 0, 1) := by decide +kernel
theorem dX10_fault_12 : decode cX10_fault 12 = .ok (.getfield 7, 3) := by decide +kernel
theorem dX10_fault_15 : decode cX10_fault 15 = .ok (.iconst 0, 1) := by decide +kernel
theorem dX10_fault_16 : decode cX10_fault 16 = .ok (.iaload, 1) := by decide +kernel
theorem dX10_fault_17 : decode cX10_fault 17 = .ok (.putfield 104, 3) := by decide +kernel
theorem dX10_fault_20 : decode cX10_fault 20 = .ok (.aload_n 0, 1) := by decide +kernel
theorem dX10_fault_21 : decode cX10_fault 21 = .ok (.aload_n 0, 1) := by decide +kernel
theorem dX10_fault_22 : decode cX10_fault 22 = .ok (.getfield 7, 3) := by decide +kernel
theorem dX10_fault_25 : decode cX10_fault 25 = .ok (.iconst 1, 1) := by decide +kernel
theorem dX10_fault_26 : decode cX10_fault 26 = .ok (.iaload, 1) := by decide +kernel
theorem dX10_fault_27 : decode cX10_fault 27 = .ok (.putfield 111, 3) := by decide +kernel
theorem dX10_fault_30 : decode cX10_fault 30 = .ok (.aload_n 0, 1) := by decide +kernel
theorem dX10_fault_31 : decode cX10_fault 31 = .ok (.aload_n 0, 1) := by decide +kernel
theorem dX10_fault_32 : decode cX10_fault 32 = .ok (.getfield 137, 3) := by decide +kernel
theorem dX10_fault_35 : decode cX10_fault 35 = .ok (.putfield 130, 3) := by decide +kernel
theorem dX10_fault_38 : decode cX10_fault 38 = .ok (.iconst 0, 1) := by decide +kernel
theorem dX10_fault_39 : decode cX10_fault 39 = .ok (.istore_n 1, 1) := by decide +kernel
theorem dX10_fault_40 : decode cX10_fault 40 = .ok (.iload_n 1, 1) := by decide +kernel
theorem dX10_fault_41 : decode cX10_fault 41 = .ok (.bipush 36, 2) := by decide +kernel
theorem dX10_fault_43 : decode cX10_fault 43 = .ok (.if_icmp .ge 32, 3) := by decide +kernel
theorem dX10_fault_46 : decode cX10_fault 46 = .ok (.aload_n 0, 1) := by decide +kernel
theorem dX10_fault_47 : decode cX10_fault 47 = .ok (.getfield 33, 3) := by decide +kernel
theorem dX10_fault_50 : decode cX10_fault 50 = .ok (.iload_n 1, 1) := by decide +kernel
theorem dX10_fault_51 : decode cX10_fault 51 = .ok (.aload_n 0, 1) := by decide +kernel
theorem dX10_fault_52 : decode cX10_fault 52 = .ok (.getfield 7, 3) := by decide +kernel
theorem dX10_fault_55 : decode cX10_fault 55 = .ok (.iconst 2, 1) := by decide +kernel
theorem dX10_fault_56 : decode cX10_fault 56 = .ok (.iload_n 1, 1) := by decide +kernel
theorem dX10_fault_57 : decode cX10_fault 57 = .ok (.iadd, 1) := by decide +kernel
theorem dX10_fault_58 : decode cX10_fault 58 = .ok (.iaload, 1) := by decide +kernel
theorem dX10_fault_59 : decode cX10_fault 59 = .ok (.iconst (-1), 1) := by decide +kernel
theorem dX10_fault_60 : decode cX10_fault 60 = .ok (.if_icmp .eq 7, 3) := by decide +kernel
theorem dX10_fault_63 : decode cX10_fault 63 = .ok (.iconst 1, 1) := by decide +kernel
theorem dX10_fault_64 : decode cX10_fault 64 = .ok (.goto 4, 3) := by decide +kernel
theorem dX10_fault_67 : decode cX10_fault 67 = .ok (.iconst 0, 1) := by decide +kernel
theorem dX10_fault_68 : decode cX10_fault 68 = .ok (.bastore, 1) := by decide +kernel
theorem dX10_fault_69 : decode cX10_fault 69 = .ok (.iinc 1 1, 3) := by decide +kernel
theorem dX10_fault_72 : decode cX10_fault 72 = .ok (.goto (-32), 3) := by decide +kernel
theorem dX10_fault_75 : decode cX10_fault 75 = .ok (.aload_n 0, 1) := by decide +kernel
theorem dX10_fault_76 : decode cX10_fault 76 = .ok (.invokevirtual 101, 3) := by decide +kernel
theorem dX10_fault_79 : decode cX10_fault 79 = .ok (.aload_n 0, 1) := by decide +kernel
theorem dX10_fault_80 : decode cX10_fault 80 = .ok (.invokevirtual 140, 3) := by decide +kernel
theorem dX10_fault_83 : decode cX10_fault 83 = .ok (.ifCond .ne 8, 3) := by decide +kernel
theorem dX10_fault_86 : decode cX10_fault 86 = .ok (.aload_n 0, 1) := by decide +kernel
theorem dX10_fault_87 : decode cX10_fault 87 = .ok (.getfield 77, 3) := by decide +kernel
theorem dX10_fault_90 : decode cX10_fault 90 = .ok (.ireturn, 1) := by decide +kernel
theorem dX10_fault_91 : decode cX10_fault 91 = .ok (.aload_n 0, 1) := by decide +kernel
theorem dX10_fault_92 : decode cX10_fault 92 = .ok (.getfield 77, 3) := by decide +kernel
theorem dX10_fault_95 : decode cX10_fault 95 = .ok (.aload_n 0, 1) := by decide +kernel
theorem dX10_fault_96 : decode cX10_fault 96 = .ok (.getfield 69, 3) := by decide +kernel
theorem dX10_fault_99 : decode cX10_fault 99 = .ok (.if_icmp .ge 70, 3) := by decide +kernel
theorem dX10_fault_102 : decode cX10_fault 102 = .ok (.aload_n 0, 1) := by decide +kernel
theorem dX10_fault_103 : decode cX10_fault 103 = .ok (.getfield 84, 3) := by decide +kernel
theorem dX10_fault_106 : decode cX10_fault 106 = .ok (.aload_n 0, 1) := by decide +kernel
theorem dX10_fault_107 : decode cX10_fault 107 = .ok (.getfield 77, 3) := by decide +kernel
theorem dX10_fault_110 : decode cX10_fault 110 = .ok (.isub, 1) := by decide +kernel
theorem dX10_fault_111 : decode cX10_fault 111 = .ok (.iconst 1, 1) := by decide +kernel
theorem dX10_fault_112 : decode cX10_fault 112 = .ok (.if_icmp .ne 30, 3) := by decide +kernel
theorem dX10_fault_115 : decode cX10_fault 115 = .ok (.aload_n 0, 1) := by decide +kernel
theorem dX10_fault_116 : decode cX10_fault 116 = .ok (.getfield 17, 3) := by decide +kernel
theorem dX10_fault_119 : decode cX10_fault 119 = .ok (.aload_n 0, 1) := by decide +kernel
theorem dX10_fault_120 : decode cX10_fault 120 = .ok (.getfield 77, 3) := by decide +kernel
theorem dX10_fault_123 : decode cX10_fault 123 = .ok (.iaload, 1) := by decide +kernel
theorem dX10_fault_124 : decode cX10_fault 124 = .ok (.bipush 59, 2) := by decide +kernel
theorem dX10_fault_126 : decode cX10_fault 126 = .ok (.if_icmp .ne 16, 3) := by decide +kernel
theorem dX10_fault_129 : decode cX10_fault 129 = .ok (.aload_n 0, 1) := by decide +kernel
theorem dX10_fault_130 : decode cX10_fault 130 = .ok (.getfield 98, 3) := by decide +kernel
theorem dX10_fault_133 : decode cX10_fault 133 = .ok (.bipush 10, 2) := by decide +kernel
theorem dX10_fault_135 : decode cX10_fault 135 = .ok (.if_icmp .ge 7, 3) := by decide +kernel
theorem dX10_fault_138 : decode cX10_fault 138 = .ok (.iconst 1, 1) := by decide +kernel
theorem dX10_fault_139 : decode cX10_fault 139 = .ok (.goto 4, 3) := by decide +kernel
theorem dX10_fault_142 : decode cX10_fault 142 = .ok (.iconst 0, 1) := by decide +kernel
theorem dX10_fault_143 : decode cX10_fault 143 = .ok (.istore_n 1, 1) := by decide +kernel
theorem dX10_fault_144 : decode cX10_fault 144 = .ok (.iload_n 1, 1) := by decide +kernel
theorem dX10_fault_145 : decode cX10_fault 145 = .ok (.ifCond .eq 12, 3) := by decide +kernel
theorem dX10_fault_148 : decode cX10_fault 148 = .ok (.aload_n 0, 1) := by decide +kernel
theorem dX10_fault_149 : decode cX10_fault 149 = .ok (.invokevirtual 101, 3) := by decide +kernel
theorem dX10_fault_152 : decode cX10_fault 152 = .ok (.aload_n 0, 1) := by decide +kernel
theorem dX10_fault_153 : decode cX10_fault 153 = .ok (.invokevirtual 140, 3) := by decide +kernel
theorem dX10_fault_156 : decode cX10_fault 156 = .ok (.istore_n 1, 1) := by decide +kernel
theorem dX10_fault_157 : decode cX10_fault 157 = .ok (.iload_n 1, 1) := by decide +kernel
theorem dX10_fault_158 : decode cX10_fault 158 = .ok (.ifCond .ne 8, 3) := by decide +kernel
theorem dX10_fault_161 : decode cX10_fault 161 = .ok (.aload_n 0, 1) := by decide +kernel
theorem dX10_fault_162 : decode cX10_fault 162 = .ok (.getfield 77, 3) := by decide +kernel
theorem dX10_fault_165 : decode cX10_fault 165 = .ok (.ireturn, 1) := by decide +kernel
theorem dX10_fault_166 : decode cX10_fault 166 = .ok (.goto (-75), 3) := by decide +kernel
theorem dX10_fault_169 : decode cX10_fault 169 = .ok (.iconst (-1), 1) := by decide +kernel
theorem dX10_fault_170 : decode cX10_fault 170 = .ok (.ireturn, 1) := by decide +kernel
theorem dX10_drive_0 : decode cX10_drive 0 = .ok (.iconst 0, 1) := by decide +kernel
theorem dX10_drive_1 : decode cX10_drive 1 = .ok (.istore_n 2, 1) := by decide +kernel
theorem dX10_drive_2 : decode cX10_drive 2 = .ok (.iload_n 2, 1) := by decide +kernel
theorem dX10_drive_3 : decode cX10_drive 3 = .ok (.bipush 6, 2) := by decide +kernel
theorem dX10_drive_5 : decode cX10_drive 5 = .ok (.if_icmp .ge 44, 3) := by decide +kernel
theorem dX10_drive_8 : decode cX10_drive 8 = .ok (.aload_n 0, 1) := by decide +kernel
theorem dX10_drive_9 : decode cX10_drive 9 = .ok (.getfield 7, 3) := by decide +kernel
theorem dX10_drive_12 : decode cX10_drive 12 = .ok (.bipush 38, 2) := by decide +kernel
theorem dX10_drive_14 : decode cX10_drive 14 = .ok (.iload_n 2, 1) := by decide +kernel
theorem dX10_drive_15 : decode cX10_drive 15 = .ok (.iadd, 1) := by decide +kernel
theorem dX10_drive_16 : decode cX10_drive 16 = .ok (.aload_n 0, 1) := by decide +kernel
theorem dX10_drive_17 : decode cX10_drive 17 = .ok (.getfield 7, 3) := by decide +kernel
theorem dX10_drive_20 : decode cX10_drive 20 = .ok (.bipush 38, 2) := by decide +kernel
theorem dX10_drive_22 : decode cX10_drive 22 = .ok (.iload_n 2, 1) := by decide +kernel
theorem dX10_drive_23 : decode cX10_drive 23 = .ok (.iadd, 1) := by decide +kernel
theorem dX10_drive_24 : decode cX10_drive 24 = .ok (.iaload, 1) := by decide +kernel
theorem dX10_drive_25 : decode cX10_drive 25 = .ok (.iload_n 1, 1) := by decide +kernel
theorem dX10_drive_26 : decode cX10_drive 26 = .ok (.if_icmp .ne 7, 3) := by decide +kernel
theorem dX10_drive_29 : decode cX10_drive 29 = .ok (.iconst (-1), 1) := by decide +kernel
theorem dX10_drive_30 : decode cX10_drive 30 = .ok (.goto 12, 3) := by decide +kernel
theorem dX10_drive_33 : decode cX10_drive 33 = .ok (.aload_n 0, 1) := by decide +kernel
theorem dX10_drive_34 : decode cX10_drive 34 = .ok (.getfield 7, 3) := by decide +kernel
theorem dX10_drive_37 : decode cX10_drive 37 = .ok (.bipush 38, 2) := by decide +kernel
theorem dX10_drive_39 : decode cX10_drive 39 = .ok (.iload_n 2, 1) := by decide +kernel
theorem dX10_drive_40 : decode cX10_drive 40 = .ok (.iadd, 1) := by decide +kernel
theorem dX10_drive_41 : decode cX10_drive 41 = .ok (.iaload, 1) := by decide +kernel
theorem dX10_drive_42 : decode cX10_drive 42 = .ok (.iastore, 1) := by decide +kernel
theorem dX10_drive_43 : decode cX10_drive 43 = .ok (.iinc 2 1, 3) := by decide +kernel
theorem dX10_drive_46 : decode cX10_drive 46 = .ok (.goto (-44), 3) := by decide +kernel
theorem dX10_drive_49 : decode cX10_drive 49 = .ok (.return_, 1) := by decide +kernel
theorem dX10_tell_0 : decode cX10_tell 0 = .ok (.aload_n 0, 1) := by decide +kernel
theorem dX10_tell_1 : decode cX10_tell 1 = .ok (.getfield 20, 3) := by decide +kernel
theorem dX10_tell_4 : decode cX10_tell 4 = .ok (.iload_n 1, 1) := by decide +kernel
theorem dX10_tell_5 : decode cX10_tell 5 = .ok (.iconst 1, 1) := by decide +kernel
theorem dX10_tell_6 : decode cX10_tell 6 = .ok (.iadd, 1) := by decide +kernel
theorem dX10_tell_7 : decode cX10_tell 7 = .ok (.iaload, 1) := by decide +kernel
theorem dX10_tell_8 : decode cX10_tell 8 = .ok (.istore_n 2, 1) := by decide +kernel
theorem dX10_tell_9 : decode cX10_tell 9 = .ok (.aload_n 0, 1) := by decide +kernel
theorem dX10_tell_10 : decode cX10_tell 10 = .ok (.getfield 20, 3) := by decide +kernel
theorem dX10_tell_13 : decode cX10_tell 13 = .ok (.iload_n 1, 1) := by decide +kernel
theorem dX10_tell_14 : decode cX10_tell 14 = .ok (.iconst 2, 1) := by decide +kernel
theorem dX10_tell_15 : decode cX10_tell 15 = .ok (.iadd, 1) := by decide +kernel
theorem dX10_tell_16 : decode cX10_tell 16 = .ok (.iaload, 1) := by decide +kernel
theorem dX10_tell_17 : decode cX10_tell 17 = .ok (.istore_n 3, 1) := by decide +kernel
theorem dX10_tell_18 : decode cX10_tell 18 = .ok (.aload_n 0, 1) := by decide +kernel
theorem dX10_tell_19 : decode cX10_tell 19 = .ok (.getfield 20, 3) := by decide +kernel
theorem dX10_tell_22 : decode cX10_tell 22 = .ok (.iload_n 1, 1) := by decide +kernel
theorem dX10_tell_23 : decode cX10_tell 23 = .ok (.iaload, 1) := by decide +kernel
theorem dX10_tell_24 : decode cX10_tell 24 = .ok (.tableswitch 250 0 7 #[48, 87, 102, 112, 123, 134, 192, 198], 48) := by decide +kernel
theorem dX10_tell_72 : decode cX10_tell 72 = .ok (.aload_n 0, 1) := by decide +kernel
theorem dX10_tell_73 : decode cX10_tell 73 = .ok (.getfield 7, 3) := by decide +kernel
theorem dX10_tell_76 : decode cX10_tell 76 = .ok (.iconst 0, 1) := by decide +kernel
theorem dX10_tell_77 : decode cX10_tell 77 = .ok (.iload_n 2, 1) := by decide +kernel
theorem dX10_tell_78 : decode cX10_tell 78 = .ok (.iastore, 1) := by decide +kernel
theorem dX10_tell_79 : decode cX10_tell 79 = .ok (.aload_n 0, 1) := by decide +kernel
theorem dX10_tell_80 : decode cX10_tell 80 = .ok (.getfield 7, 3) := by decide +kernel
theorem dX10_tell_83 : decode cX10_tell 83 = .ok (.iconst 1, 1) := by decide +kernel
theorem dX10_tell_84 : decode cX10_tell 84 = .ok (.iload_n 3, 1) := by decide +kernel
theorem dX10_tell_85 : decode cX10_tell 85 = .ok (.iastore, 1) := by decide +kernel
theorem dX10_tell_86 : decode cX10_tell 86 = .ok (.iconst 2, 1) := by decide +kernel
theorem dX10_tell_87 : decode cX10_tell 87 = .ok (.istore 4, 2) := by decide +kernel
theorem dX10_tell_89 : decode cX10_tell 89 = .ok (.iload 4, 2) := by decide +kernel
theorem dX10_tell_91 : decode cX10_tell 91 = .ok (.bipush 44, 2) := by decide +kernel
theorem dX10_tell_93 : decode cX10_tell 93 = .ok (.if_icmp .ge 17, 3) := by decide +kernel
theorem dX10_tell_96 : decode cX10_tell 96 = .ok (.aload_n 0, 1) := by decide +kernel
theorem dX10_tell_97 : decode cX10_tell 97 = .ok (.getfield 7, 3) := by decide +kernel
theorem dX10_tell_100 : decode cX10_tell 100 = .ok (.iload 4, 2) := by decide +kernel
theorem dX10_tell_102 : decode cX10_tell 102 = .ok (.iconst (-1), 1) := by decide +kernel
theorem dX10_tell_103 : decode cX10_tell 103 = .ok (.iastore, 1) := by decide +kernel
theorem dX10_tell_104 : decode cX10_tell 104 = .ok (.iinc 4 1, 3) := by decide +kernel
theorem dX10_tell_107 : decode cX10_tell 107 = .ok (.goto (-18), 3) := by decide +kernel
theorem dX10_tell_110 : decode cX10_tell 110 = .ok (.return_, 1) := by decide +kernel
theorem dX10_tell_111 : decode cX10_tell 111 = .ok (.aload_n 0, 1) := by decide +kernel
theorem dX10_tell_112 : decode cX10_tell 112 = .ok (.getfield 7, 3) := by decide +kernel
theorem dX10_tell_115 : decode cX10_tell 115 = .ok (.iconst 2, 1) := by decide +kernel
theorem dX10_tell_116 : decode cX10_tell 116 = .ok (.iload_n 2, 1) := by decide +kernel
theorem dX10_tell_117 : decode cX10_tell 117 = .ok (.iadd, 1) := by decide +kernel
theorem dX10_tell_118 : decode cX10_tell 118 = .ok (.iload_n 3, 1) := by decide +kernel
theorem dX10_tell_119 : decode cX10_tell 119 = .ok (.iastore, 1) := by decide +kernel
theorem dX10_tell_120 : decode cX10_tell 120 = .ok (.aload_n 0, 1) := by decide +kernel
theorem dX10_tell_121 : decode cX10_tell 121 = .ok (.iload_n 2, 1) := by decide +kernel
theorem dX10_tell_122 : decode cX10_tell 122 = .ok (.invokevirtual 143, 3) := by decide +kernel
theorem dX10_tell_125 : decode cX10_tell 125 = .ok (.return_, 1) := by decide +kernel
theorem dX10_tell_126 : decode cX10_tell 126 = .ok (.aload_n 0, 1) := by decide +kernel
theorem dX10_tell_127 : decode cX10_tell 127 = .ok (.getfield 7, 3) := by decide +kernel
theorem dX10_tell_130 : decode cX10_tell 130 = .ok (.iconst 2, 1) := by decide +kernel
theorem dX10_tell_131 : decode cX10_tell 131 = .ok (.iload_n 2, 1) := by decide +kernel
theorem dX10_tell_132 : decode cX10_tell 132 = .ok (.iadd, 1) := by decide +kernel
theorem dX10_tell_133 : decode cX10_tell 133 = .ok (.iconst (-1), 1) := by decide +kernel
theorem dX10_tell_134 : decode cX10_tell 134 = .ok (.iastore, 1) := by decide +kernel
theorem dX10_tell_135 : decode cX10_tell 135 = .ok (.return_, 1) := by decide +kernel
theorem dX10_tell_136 : decode cX10_tell 136 = .ok (.aload_n 0, 1) := by decide +kernel
theorem dX10_tell_137 : decode cX10_tell 137 = .ok (.getfield 7, 3) := by decide +kernel
theorem dX10_tell_140 : decode cX10_tell 140 = .ok (.bipush 38, 2) := by decide +kernel
theorem dX10_tell_142 : decode cX10_tell 142 = .ok (.iload_n 2, 1) := by decide +kernel
theorem dX10_tell_143 : decode cX10_tell 143 = .ok (.iadd, 1) := by decide +kernel
theorem dX10_tell_144 : decode cX10_tell 144 = .ok (.iload_n 3, 1) := by decide +kernel
theorem dX10_tell_145 : decode cX10_tell 145 = .ok (.iastore, 1) := by decide +kernel
theorem dX10_tell_146 : decode cX10_tell 146 = .ok (.return_, 1) := by decide +kernel
theorem dX10_tell_147 : decode cX10_tell 147 = .ok (.aload_n 0, 1) := by decide +kernel
theorem dX10_tell_148 : decode cX10_tell 148 = .ok (.getfield 7, 3) := by decide +kernel
theorem dX10_tell_151 : decode cX10_tell 151 = .ok (.bipush 38, 2) := by decide +kernel
theorem dX10_tell_153 : decode cX10_tell 153 = .ok (.iload_n 2, 1) := by decide +kernel
theorem dX10_tell_154 : decode cX10_tell 154 = .ok (.iadd, 1) := by decide +kernel
theorem dX10_tell_155 : decode cX10_tell 155 = .ok (.iconst (-1), 1) := by decide +kernel
theorem dX10_tell_156 : decode cX10_tell 156 = .ok (.iastore, 1) := by decide +kernel
theorem dX10_tell_157 : decode cX10_tell 157 = .ok (.return_, 1) := by decide +kernel
theorem dX10_tell_158 : decode cX10_tell 158 = .ok (.aload_n 0, 1) := by decide +kernel
theorem dX10_tell_159 : decode cX10_tell 159 = .ok (.getfield 23, 3) := by decide +kernel
theorem dX10_tell_162 : decode cX10_tell 162 = .ok (.iconst 3, 1) := by decide +kernel
theorem dX10_tell_163 : decode cX10_tell 163 = .ok (.aload_n 0, 1) := by decide +kernel
theorem dX10_tell_164 : decode cX10_tell 164 = .ok (.getfield 137, 3) := by decide +kernel
theorem dX10_tell_167 : decode cX10_tell 167 = .ok (.imul, 1) := by decide +kernel
theorem dX10_tell_168 : decode cX10_tell 168 = .ok (.iload_n 2, 1) := by decide +kernel
theorem dX10_tell_169 : decode cX10_tell 169 = .ok (.iastore, 1) := by decide +kernel
theorem dX10_tell_170 : decode cX10_tell 170 = .ok (.aload_n 0, 1) := by decide +kernel
theorem dX10_tell_171 : decode cX10_tell 171 = .ok (.getfield 23, 3) := by decide +kernel
theorem dX10_tell_174 : decode cX10_tell 174 = .ok (.iconst 3, 1) := by decide +kernel
theorem dX10_tell_175 : decode cX10_tell 175 = .ok (.aload_n 0, 1) := by decide +kernel
theorem dX10_tell_176 : decode cX10_tell 176 = .ok (.getfield 137, 3) := by decide +kernel
theorem dX10_tell_179 : decode cX10_tell 179 = .ok (.imul, 1) := by decide +kernel
theorem dX10_tell_180 : decode cX10_tell 180 = .ok (.iconst 1, 1) := by decide +kernel
theorem dX10_tell_181 : decode cX10_tell 181 = .ok (.iadd, 1) := by decide +kernel
theorem dX10_tell_182 : decode cX10_tell 182 = .ok (.iload_n 3, 1) := by decide +kernel
theorem dX10_tell_183 : decode cX10_tell 183 = .ok (.iastore, 1) := by decide +kernel
theorem dX10_tell_184 : decode cX10_tell 184 = .ok (.aload_n 0, 1) := by decide +kernel
theorem dX10_tell_185 : decode cX10_tell 185 = .ok (.getfield 23, 3) := by decide +kernel
theorem dX10_tell_188 : decode cX10_tell 188 = .ok (.iconst 3, 1) := by decide +kernel
theorem dX10_tell_189 : decode cX10_tell 189 = .ok (.aload_n 0, 1) := by decide +kernel
theorem dX10_tell_190 : decode cX10_tell 190 = .ok (.getfield 137, 3) := by decide +kernel
theorem dX10_tell_193 : decode cX10_tell 193 = .ok (.imul, 1) := by decide +kernel
theorem dX10_tell_194 : decode cX10_tell 194 = .ok (.iconst 2, 1) := by decide +kernel
theorem dX10_tell_195 : decode cX10_tell 195 = .ok (.iadd, 1) := by decide +kernel
theorem dX10_tell_196 : decode cX10_tell 196 = .ok (.aload_n 0, 1) := by decide +kernel
theorem dX10_tell_197 : decode cX10_tell 197 = .ok (.getfield 20, 3) := by decide +kernel
theorem dX10_tell_200 : decode cX10_tell 200 = .ok (.iload_n 1, 1) := by decide +kernel
theorem dX10_tell_201 : decode cX10_tell 201 = .ok (.iconst 3, 1) := by decide +kernel
theorem dX10_tell_202 : decode cX10_tell 202 = .ok (.iadd, 1) := by decide +kernel
theorem dX10_tell_203 : decode cX10_tell 203 = .ok (.iaload, 1) := by decide +kernel
theorem dX10_tell_204 : decode cX10_tell 204 = .ok (.iastore, 1) := by decide +kernel
theorem dX10_tell_205 : decode cX10_tell 205 = .ok (.aload_n 0, 1) := by decide +kernel
theorem dX10_tell_206 : decode cX10_tell 206 = .ok (.dup, 1) := by decide +kernel
theorem dX10_tell_207 : decode cX10_tell 207 = .ok (.getfield 137, 3) := by decide +kernel
theorem dX10_tell_210 : decode cX10_tell 210 = .ok (.iconst 1, 1) := by decide +kernel
theorem dX10_tell_211 : decode cX10_tell 211 = .ok (.iadd, 1) := by decide +kernel
theorem dX10_tell_212 : decode cX10_tell 212 = .ok (.putfield 137, 3) := by decide +kernel
theorem dX10_tell_215 : decode cX10_tell 215 = .ok (.return_, 1) := by decide +kernel
theorem dX10_tell_216 : decode cX10_tell 216 = .ok (.aload_n 0, 1) := by decide +kernel
theorem dX10_tell_217 : decode cX10_tell 217 = .ok (.iconst 0, 1) := by decide +kernel
theorem dX10_tell_218 : decode cX10_tell 218 = .ok (.putfield 137, 3) := by decide +kernel
theorem dX10_tell_221 : decode cX10_tell 221 = .ok (.return_, 1) := by decide +kernel
theorem dX10_tell_222 : decode cX10_tell 222 = .ok (.aload_n 0, 1) := by decide +kernel
theorem dX10_tell_223 : decode cX10_tell 223 = .ok (.iconst 0, 1) := by decide +kernel
theorem dX10_tell_224 : decode cX10_tell 224 = .ok (.putfield 147, 3) := by decide +kernel
theorem dX10_tell_227 : decode cX10_tell 227 = .ok (.iload_n 2, 1) := by decide +kernel
theorem dX10_tell_228 : decode cX10_tell 228 = .ok (.istore 4, 2) := by decide +kernel
theorem dX10_tell_230 : decode cX10_tell 230 = .ok (.iload 4, 2) := by decide +kernel
theorem dX10_tell_232 : decode cX10_tell 232 = .ok (.iload_n 3, 1) := by decide +kernel
theorem dX10_tell_233 : decode cX10_tell 233 = .ok (.if_icmp .eq 28, 3) := by decide +kernel
theorem dX10_tell_236 : decode cX10_tell 236 = .ok (.aload_n 0, 1) := by decide +kernel
theorem dX10_tell_237 : decode cX10_tell 237 = .ok (.dup, 1) := by decide +kernel
theorem dX10_tell_238 : decode cX10_tell 238 = .ok (.getfield 147, 3) := by decide +kernel
theorem dX10_tell_241 : decode cX10_tell 241 = .ok (.iconst 1, 1) := by decide +kernel
theorem dX10_tell_242 : decode cX10_tell 242 = .ok (.iload 4, 2) := by decide +kernel
theorem dX10_tell_244 : decode cX10_tell 244 = .ok (.ishl, 1) := by decide +kernel
theorem dX10_tell_245 : decode cX10_tell 245 = .ok (.ior, 1) := by decide +kernel
theorem dX10_tell_246 : decode cX10_tell 246 = .ok (.putfield 147, 3) := by decide +kernel
theorem dX10_tell_249 : decode cX10_tell 249 = .ok (.iload 4, 2) := by decide +kernel
theorem dX10_tell_251 : decode cX10_tell 251 = .ok (.iconst 1, 1) := by decide +kernel
theorem dX10_tell_252 : decode cX10_tell 252 = .ok (.iadd, 1) := by decide +kernel
theorem dX10_tell_253 : decode cX10_tell 253 = .ok (.bipush 24, 2) := by decide +kernel
theorem dX10_tell_255 : decode cX10_tell 255 = .ok (.irem, 1) := by decide +kernel
theorem dX10_tell_256 : decode cX10_tell 256 = .ok (.istore 4, 2) := by decide +kernel
theorem dX10_tell_258 : decode cX10_tell 258 = .ok (.goto (-28), 3) := by decide +kernel
theorem dX10_tell_261 : decode cX10_tell 261 = .ok (.aload_n 0, 1) := by decide +kernel
theorem dX10_tell_262 : decode cX10_tell 262 = .ok (.aload_n 0, 1) := by decide +kernel
theorem dX10_tell_263 : decode cX10_tell 263 = .ok (.getfield 20, 3) := by decide +kernel
theorem dX10_tell_266 : decode cX10_tell 266 = .ok (.iload_n 1, 1) := by decide +kernel
theorem dX10_tell_267 : decode cX10_tell 267 = .ok (.iconst 3, 1) := by decide +kernel
theorem dX10_tell_268 : decode cX10_tell 268 = .ok (.iadd, 1) := by decide +kernel
theorem dX10_tell_269 : decode cX10_tell 269 = .ok (.iaload, 1) := by decide +kernel
theorem dX10_tell_270 : decode cX10_tell 270 = .ok (.putfield 26, 3) := by decide +kernel
theorem dX10_tell_273 : decode cX10_tell 273 = .ok (.return_, 1) := by decide +kernel
theorem dX10_tell_274 : decode cX10_tell 274 = .ok (.aload_n 0, 1) := by decide +kernel
theorem dX10_tell_275 : decode cX10_tell 275 = .ok (.iload_n 2, 1) := by decide +kernel
theorem dX10_tell_276 : decode cX10_tell 276 = .ok (.putfield 30, 3) := by decide +kernel
theorem dX10_tell_279 : decode cX10_tell 279 = .ok (.return_, 1) := by decide +kernel
theorem dX10_canyon_0 : decode cX10_canyon 0 = .ok (.aload_n 0, 1) := by decide +kernel
theorem dX10_canyon_1 : decode cX10_canyon 1 = .ok (.invokevirtual 150, 3) := by decide +kernel
theorem dX10_canyon_4 : decode cX10_canyon 4 = .ok (.iconst (-1), 1) := by decide +kernel
theorem dX10_canyon_5 : decode cX10_canyon 5 = .ok (.if_icmp .eq 6, 3) := by decide +kernel
theorem dX10_canyon_8 : decode cX10_canyon 8 = .ok (.bipush (-4), 2) := by decide +kernel
theorem dX10_canyon_10 : decode cX10_canyon 10 = .ok (.ireturn, 1) := by decide +kernel
theorem dX10_canyon_11 : decode cX10_canyon 11 = .ok (.iconst 0, 1) := by decide +kernel
theorem dX10_canyon_12 : decode cX10_canyon 12 = .ok (.istore_n 1, 1) := by decide +kernel
theorem dX10_canyon_13 : decode cX10_canyon 13 = .ok (.iload_n 1, 1) := by decide +kernel
theorem dX10_canyon_14 : decode cX10_canyon 14 = .ok (.aload_n 0, 1) := by decide +kernel
theorem dX10_canyon_15 : decode cX10_canyon 15 = .ok (.getfield 98, 3) := by decide +kernel
theorem dX10_canyon_18 : decode cX10_canyon 18 = .ok (.if_icmp .ge 16, 3) := by decide +kernel
theorem dX10_canyon_21 : decode cX10_canyon 21 = .ok (.aload_n 0, 1) := by decide +kernel
theorem dX10_canyon_22 : decode cX10_canyon 22 = .ok (.iconst 4, 1) := by decide +kernel
theorem dX10_canyon_23 : decode cX10_canyon 23 = .ok (.iload_n 1, 1) := by decide +kernel
theorem dX10_canyon_24 : decode cX10_canyon 24 = .ok (.imul, 1) := by decide +kernel
theorem dX10_canyon_25 : decode cX10_canyon 25 = .ok (.invokevirtual 153, 3) := by decide +kernel
theorem dX10_canyon_28 : decode cX10_canyon 28 = .ok (.iinc 1 1, 3) := by decide +kernel
theorem dX10_canyon_31 : decode cX10_canyon 31 = .ok (.goto (-18), 3) := by decide +kernel
theorem dX10_canyon_34 : decode cX10_canyon 34 = .ok (.bipush 44, 2) := by decide +kernel
theorem dX10_canyon_36 : decode cX10_canyon 36 = .ok (.istore_n 1, 1) := by decide +kernel
theorem dX10_canyon_37 : decode cX10_canyon 37 = .ok (.iload_n 1, 1) := by decide +kernel
theorem dX10_canyon_38 : decode cX10_canyon 38 = .ok (.sipush 186, 3) := by decide +kernel
theorem dX10_canyon_41 : decode cX10_canyon 41 = .ok (.if_icmp .ge 16, 3) := by decide +kernel
theorem dX10_canyon_44 : decode cX10_canyon 44 = .ok (.aload_n 0, 1) := by decide +kernel
theorem dX10_canyon_45 : decode cX10_canyon 45 = .ok (.getfield 7, 3) := by decide +kernel
theorem dX10_canyon_48 : decode cX10_canyon 48 = .ok (.iload_n 1, 1) := by decide +kernel
theorem dX10_canyon_49 : decode cX10_canyon 49 = .ok (.iconst 0, 1) := by decide +kernel
theorem dX10_canyon_50 : decode cX10_canyon 50 = .ok (.iastore, 1) := by decide +kernel
theorem dX10_canyon_51 : decode cX10_canyon 51 = .ok (.iinc 1 1, 3) := by decide +kernel
theorem dX10_canyon_54 : decode cX10_canyon 54 = .ok (.goto (-17), 3) := by decide +kernel
theorem dX10_canyon_57 : decode cX10_canyon 57 = .ok (.aload_n 0, 1) := by decide +kernel
theorem dX10_canyon_58 : decode cX10_canyon 58 = .ok (.getfield 13, 3) := by decide +kernel
theorem dX10_canyon_61 : decode cX10_canyon 61 = .ok (.iconst 0, 1) := by decide +kernel
theorem dX10_canyon_62 : decode cX10_canyon 62 = .ok (.iconst 0, 1) := by decide +kernel
theorem dX10_canyon_63 : decode cX10_canyon 63 = .ok (.bastore, 1) := by decide +kernel
theorem dX10_canyon_64 : decode cX10_canyon 64 = .ok (.aload_n 0, 1) := by decide +kernel
theorem dX10_canyon_65 : decode cX10_canyon 65 = .ok (.getfield 13, 3) := by decide +kernel
theorem dX10_canyon_68 : decode cX10_canyon 68 = .ok (.iconst 1, 1) := by decide +kernel
theorem dX10_canyon_69 : decode cX10_canyon 69 = .ok (.iconst 0, 1) := by decide +kernel
theorem dX10_canyon_70 : decode cX10_canyon 70 = .ok (.bastore, 1) := by decide +kernel
theorem dX10_canyon_71 : decode cX10_canyon 71 = .ok (.aload_n 0, 1) := by decide +kernel
theorem dX10_canyon_72 : decode cX10_canyon 72 = .ok (.iconst 0, 1) := by decide +kernel
theorem dX10_canyon_73 : decode cX10_canyon 73 = .ok (.putfield 69, 3) := by decide +kernel
theorem dX10_canyon_76 : decode cX10_canyon 76 = .ok (.aload_n 0, 1) := by decide +kernel
theorem dX10_canyon_77 : decode cX10_canyon 77 = .ok (.getfield 98, 3) := by decide +kernel
theorem dX10_canyon_80 : decode cX10_canyon 80 = .ok (.ireturn, 1) := by decide +kernel
theorem dX10_cells_0 : decode cX10_cells 0 = .ok (.aload_n 0, 1) := by decide +kernel
theorem dX10_cells_1 : decode cX10_cells 1 = .ok (.getfield 7, 3) := by decide +kernel
theorem dX10_cells_4 : decode cX10_cells 4 = .ok (.iconst 0, 1) := by decide +kernel
theorem dX10_cells_5 : decode cX10_cells 5 = .ok (.iaload, 1) := by decide +kernel
theorem dX10_cells_6 : decode cX10_cells 6 = .ok (.aload_n 0, 1) := by decide +kernel
theorem dX10_cells_7 : decode cX10_cells 7 = .ok (.getfield 7, 3) := by decide +kernel
theorem dX10_cells_10 : decode cX10_cells 10 = .ok (.iconst 1, 1) := by decide +kernel
theorem dX10_cells_11 : decode cX10_cells 11 = .ok (.iaload, 1) := by decide +kernel
theorem dX10_cells_12 : decode cX10_cells 12 = .ok (.imul, 1) := by decide +kernel
theorem dX10_cells_13 : decode cX10_cells 13 = .ok (.ireturn, 1) := by decide +kernel
theorem dX10_isCell_0 : decode cX10_isCell 0 = .ok (.iload_n 1, 1) := by decide +kernel
theorem dX10_isCell_1 : decode cX10_isCell 1 = .ok (.i2l, 1) := by decide +kernel
theorem dX10_isCell_2 : decode cX10_isCell 2 = .ok (.lconst 0, 1) := by decide +kernel
theorem dX10_isCell_3 : decode cX10_isCell 3 = .ok (.aload_n 0, 1) := by decide +kernel
theorem dX10_isCell_4 : decode cX10_isCell 4 = .ok (.invokevirtual 156, 3) := by decide +kernel
theorem dX10_isCell_7 : decode cX10_isCell 7 = .ok (.iconst 1, 1) := by decide +kernel
theorem dX10_isCell_8 : decode cX10_isCell 8 = .ok (.isub, 1) := by decide +kernel
theorem dX10_isCell_9 : decode cX10_isCell 9 = .ok (.i2l, 1) := by decide +kernel
theorem dX10_isCell_10 : decode cX10_isCell 10 = .ok (.invokestatic 65, 3) := by decide +kernel
theorem dX10_isCell_13 : decode cX10_isCell 13 = .ok (.ireturn, 1) := by decide +kernel
theorem dX10_isPerson_0 : decode cX10_isPerson 0 = .ok (.iload_n 0, 1) := by decide +kernel
theorem dX10_isPerson_1 : decode cX10_isPerson 1 = .ok (.i2l, 1) := by decide +kernel
theorem dX10_isPerson_2 : decode cX10_isPerson 2 = .ok (.lconst 0, 1) := by decide +kernel
theorem dX10_isPerson_3 : decode cX10_isPerson 3 = .ok (.ldc2_w 159, 3) := by decide +kernel
theorem dX10_isPerson_6 : decode cX10_isPerson 6 = .ok (.invokestatic 65, 3) := by decide +kernel
theorem dX10_isPerson_9 : decode cX10_isPerson 9 = .ok (.ireturn, 1) := by decide +kernel
theorem dX10_isFloor_0 : decode cX10_isFloor 0 = .ok (.aload_n 0, 1) := by decide +kernel
theorem dX10_isFloor_1 : decode cX10_isFloor 1 = .ok (.getfield 7, 3) := by decide +kernel
theorem dX10_isFloor_4 : decode cX10_isFloor 4 = .ok (.iconst 2, 1) := by decide +kernel
theorem dX10_isFloor_5 : decode cX10_isFloor 5 = .ok (.iload_n 1, 1) := by decide +kernel
theorem dX10_isFloor_6 : decode cX10_isFloor 6 = .ok (.iadd, 1) := by decide +kernel
theorem dX10_isFloor_7 : decode cX10_isFloor 7 = .ok (.iaload, 1) := by decide +kernel
theorem dX10_isFloor_8 : decode cX10_isFloor 8 = .ok (.iconst (-1), 1) := by decide +kernel
theorem dX10_isFloor_9 : decode cX10_isFloor 9 = .ok (.if_icmp .ne 7, 3) := by decide +kernel
theorem dX10_isFloor_12 : decode cX10_isFloor 12 = .ok (.iconst 1, 1) := by decide +kernel
theorem dX10_isFloor_13 : decode cX10_isFloor 13 = .ok (.goto 4, 3) := by decide +kernel
theorem dX10_isFloor_16 : decode cX10_isFloor 16 = .ok (.iconst 0, 1) := by decide +kernel
theorem dX10_isFloor_17 : decode cX10_isFloor 17 = .ok (.ireturn, 1) := by decide +kernel
theorem dX10_personsAt_0 : decode cX10_personsAt 0 = .ok (.iconst 0, 1) := by decide +kernel
theorem dX10_personsAt_1 : decode cX10_personsAt 1 = .ok (.istore_n 2, 1) := by decide +kernel
theorem dX10_personsAt_2 : decode cX10_personsAt 2 = .ok (.iconst 0, 1) := by decide +kernel
theorem dX10_personsAt_3 : decode cX10_personsAt 3 = .ok (.istore_n 3, 1) := by decide +kernel
theorem dX10_personsAt_4 : decode cX10_personsAt 4 = .ok (.iload_n 3, 1) := by decide +kernel
theorem dX10_personsAt_5 : decode cX10_personsAt 5 = .ok (.bipush 6, 2) := by decide +kernel
theorem dX10_personsAt_7 : decode cX10_personsAt 7 = .ok (.if_icmp .ge 32, 3) := by decide +kernel
theorem dX10_personsAt_10 : decode cX10_personsAt 10 = .ok (.iload_n 2, 1) := by decide +kernel
theorem dX10_personsAt_11 : decode cX10_personsAt 11 = .ok (.aload_n 0, 1) := by decide +kernel
theorem dX10_personsAt_12 : decode cX10_personsAt 12 = .ok (.getfield 7, 3) := by decide +kernel
theorem dX10_personsAt_15 : decode cX10_personsAt 15 = .ok (.bipush 38, 2) := by decide +kernel
theorem dX10_personsAt_17 : decode cX10_personsAt 17 = .ok (.iload_n 3, 1) := by decide +kernel
theorem dX10_personsAt_18 : decode cX10_personsAt 18 = .ok (.iadd, 1) := by decide +kernel
theorem dX10_personsAt_19 : decode cX10_personsAt 19 = .ok (.iaload, 1) := by decide +kernel
theorem dX10_personsAt_20 : decode cX10_personsAt 20 = .ok (.iload_n 1, 1) := by decide +kernel
theorem dX10_personsAt_21 : decode cX10_personsAt 21 = .ok (.if_icmp .ne 9, 3) := by decide +kernel
theorem dX10_personsAt_24 : decode cX10_personsAt 24 = .ok (.iconst 1, 1) := by decide +kernel
theorem dX10_personsAt_25 : decode cX10_personsAt 25 = .ok (.iload_n 3, 1) := by decide +kernel
theorem dX10_personsAt_26 : decode cX10_personsAt 26 = .ok (.ishl, 1) := by decide +kernel
theorem dX10_personsAt_27 : decode cX10_personsAt 27 = .ok (.goto 4, 3) := by decide +kernel
theorem dX10_personsAt_30 : decode cX10_personsAt 30 = .ok (.iconst 0, 1) := by decide +kernel
theorem dX10_personsAt_31 : decode cX10_personsAt 31 = .ok (.ior, 1) := by decide +kernel
theorem dX10_personsAt_32 : decode cX10_personsAt 32 = .ok (.istore_n 2, 1) := by decide +kernel
theorem dX10_personsAt_33 : decode cX10_personsAt 33 = .ok (.iinc 3 1, 3) := by decide +kernel
theorem dX10_personsAt_36 : decode cX10_personsAt 36 = .ok (.goto (-32), 3) := by decide +kernel
theorem dX10_personsAt_39 : decode cX10_personsAt 39 = .ok (.iload_n 2, 1) := by decide +kernel
theorem dX10_personsAt_40 : decode cX10_personsAt 40 = .ok (.ireturn, 1) := by decide +kernel
theorem dX10_cell_0 : decode cX10_cell 0 = .ok (.aload_n 0, 1) := by decide +kernel
theorem dX10_cell_1 : decode cX10_cell 1 = .ok (.iload_n 1, 1) := by decide +kernel
theorem dX10_cell_2 : decode cX10_cell 2 = .ok (.invokevirtual 161, 3) := by decide +kernel
theorem dX10_cell_5 : decode cX10_cell 5 = .ok (.ifCond .ne 6, 3) := by decide +kernel
theorem dX10_cell_8 : decode cX10_cell 8 = .ok (.bipush (-2), 2) := by decide +kernel
theorem dX10_cell_10 : decode cX10_cell 10 = .ok (.ireturn, 1) := by decide +kernel
theorem dX10_cell_11 : decode cX10_cell 11 = .ok (.iload_n 2, 1) := by decide +kernel
theorem dX10_cell_12 : decode cX10_cell 12 = .ok (.ifCond .ne 19, 3) := by decide +kernel
theorem dX10_cell_15 : decode cX10_cell 15 = .ok (.aload_n 0, 1) := by decide +kernel
theorem dX10_cell_16 : decode cX10_cell 16 = .ok (.iload_n 1, 1) := by decide +kernel
theorem dX10_cell_17 : decode cX10_cell 17 = .ok (.invokevirtual 164, 3) := by decide +kernel
theorem dX10_cell_20 : decode cX10_cell 20 = .ok (.ifCond .eq 7, 3) := by decide +kernel
theorem dX10_cell_23 : decode cX10_cell 23 = .ok (.iconst 0, 1) := by decide +kernel
theorem dX10_cell_24 : decode cX10_cell 24 = .ok (.goto 50, 3) := by decide +kernel
theorem dX10_cell_27 : decode cX10_cell 27 = .ok (.iconst 1, 1) := by decide +kernel
theorem dX10_cell_28 : decode cX10_cell 28 = .ok (.goto 46, 3) := by decide +kernel
theorem dX10_cell_31 : decode cX10_cell 31 = .ok (.iload_n 2, 1) := by decide +kernel
theorem dX10_cell_32 : decode cX10_cell 32 = .ok (.iconst 1, 1) := by decide +kernel
theorem dX10_cell_33 : decode cX10_cell 33 = .ok (.if_icmp .ne 26, 3) := by decide +kernel
theorem dX10_cell_36 : decode cX10_cell 36 = .ok (.aload_n 0, 1) := by decide +kernel
theorem dX10_cell_37 : decode cX10_cell 37 = .ok (.iload_n 1, 1) := by decide +kernel
theorem dX10_cell_38 : decode cX10_cell 38 = .ok (.invokevirtual 164, 3) := by decide +kernel
theorem dX10_cell_41 : decode cX10_cell 41 = .ok (.ifCond .eq 7, 3) := by decide +kernel
theorem dX10_cell_44 : decode cX10_cell 44 = .ok (.iconst 0, 1) := by decide +kernel
theorem dX10_cell_45 : decode cX10_cell 45 = .ok (.goto 29, 3) := by decide +kernel
theorem dX10_cell_48 : decode cX10_cell 48 = .ok (.aload_n 0, 1) := by decide +kernel
theorem dX10_cell_49 : decode cX10_cell 49 = .ok (.getfield 7, 3) := by decide +kernel
theorem dX10_cell_52 : decode cX10_cell 52 = .ok (.iconst 2, 1) := by decide +kernel
theorem dX10_cell_53 : decode cX10_cell 53 = .ok (.iload_n 1, 1) := by decide +kernel
theorem dX10_cell_54 : decode cX10_cell 54 = .ok (.iadd, 1) := by decide +kernel
theorem dX10_cell_55 : decode cX10_cell 55 = .ok (.iaload, 1) := by decide +kernel
theorem dX10_cell_56 : decode cX10_cell 56 = .ok (.goto 18, 3) := by decide +kernel
theorem dX10_cell_59 : decode cX10_cell 59 = .ok (.iload_n 2, 1) := by decide +kernel
theorem dX10_cell_60 : decode cX10_cell 60 = .ok (.iconst 2, 1) := by decide +kernel
theorem dX10_cell_61 : decode cX10_cell 61 = .ok (.if_icmp .ne 11, 3) := by decide +kernel
theorem dX10_cell_64 : decode cX10_cell 64 = .ok (.aload_n 0, 1) := by decide +kernel
theorem dX10_cell_65 : decode cX10_cell 65 = .ok (.iload_n 1, 1) := by decide +kernel
theorem dX10_cell_66 : decode cX10_cell 66 = .ok (.invokevirtual 167, 3) := by decide +kernel
theorem dX10_cell_69 : decode cX10_cell 69 = .ok (.goto 5, 3) := by decide +kernel
theorem dX10_cell_72 : decode cX10_cell 72 = .ok (.bipush (-3), 2) := by decide +kernel
theorem dX10_cell_74 : decode cX10_cell 74 = .ok (.ireturn, 1) := by decide +kernel
theorem dX10_net_0 : decode cX10_net 0 = .ok (.iconst 0, 1) := by decide +kernel
theorem dX10_net_1 : decode cX10_net 1 = .ok (.istore_n 2, 1) := by decide +kernel
theorem dX10_net_2 : decode cX10_net 2 = .ok (.iconst 0, 1) := by decide +kernel
theorem dX10_net_3 : decode cX10_net 3 = .ok (.istore_n 3, 1) := by decide +kernel
theorem dX10_net_4 : decode cX10_net 4 = .ok (.iload_n 3, 1) := by decide +kernel
theorem dX10_net_5 : decode cX10_net 5 = .ok (.bipush 6, 2) := by decide +kernel
theorem dX10_net_7 : decode cX10_net 7 = .ok (.if_icmp .ge 41, 3) := by decide +kernel
theorem dX10_net_10 : decode cX10_net 10 = .ok (.iload_n 2, 1) := by decide +kernel
theorem dX10_net_11 : decode cX10_net 11 = .ok (.aload_n 0, 1) := by decide +kernel
theorem dX10_net_12 : decode cX10_net 12 = .ok (.getfield 7, 3) := by decide +kernel
theorem dX10_net_15 : decode cX10_net 15 = .ok (.bipush 44, 2) := by decide +kernel
theorem dX10_net_17 : decode cX10_net 17 = .ok (.bipush 6, 2) := by decide +kernel
theorem dX10_net_19 : decode cX10_net 19 = .ok (.iload_n 3, 1) := by decide +kernel
theorem dX10_net_20 : decode cX10_net 20 = .ok (.imul, 1) := by decide +kernel
theorem dX10_net_21 : decode cX10_net 21 = .ok (.iadd, 1) := by decide +kernel
theorem dX10_net_22 : decode cX10_net 22 = .ok (.iload_n 1, 1) := by decide +kernel
theorem dX10_net_23 : decode cX10_net 23 = .ok (.iadd, 1) := by decide +kernel
theorem dX10_net_24 : decode cX10_net 24 = .ok (.iaload, 1) := by decide +kernel
theorem dX10_net_25 : decode cX10_net 25 = .ok (.aload_n 0, 1) := by decide +kernel
theorem dX10_net_26 : decode cX10_net 26 = .ok (.getfield 7, 3) := by decide +kernel
theorem dX10_net_29 : decode cX10_net 29 = .ok (.bipush 44, 2) := by decide +kernel
theorem dX10_net_31 : decode cX10_net 31 = .ok (.bipush 6, 2) := by decide +kernel
theorem dX10_net_33 : decode cX10_net 33 = .ok (.iload_n 1, 1) := by decide +kernel
theorem dX10_net_34 : decode cX10_net 34 = .ok (.imul, 1) := by decide +kernel
theorem dX10_net_35 : decode cX10_net 35 = .ok (.iadd, 1) := by decide +kernel
theorem dX10_net_36 : decode cX10_net 36 = .ok (.iload_n 3, 1) := by decide +kernel
theorem dX10_net_37 : decode cX10_net 37 = .ok (.iadd, 1) := by decide +kernel
theorem dX10_net_38 : decode cX10_net 38 = .ok (.iaload, 1) := by decide +kernel
theorem dX10_net_39 : decode cX10_net 39 = .ok (.isub, 1) := by decide +kernel
theorem dX10_net_40 : decode cX10_net 40 = .ok (.iadd, 1) := by decide +kernel
theorem dX10_net_41 : decode cX10_net 41 = .ok (.istore_n 2, 1) := by decide +kernel
theorem dX10_net_42 : decode cX10_net 42 = .ok (.iinc 3 1, 3) := by decide +kernel
theorem dX10_net_45 : decode cX10_net 45 = .ok (.goto (-41), 3) := by decide +kernel
theorem dX10_net_48 : decode cX10_net 48 = .ok (.iload_n 2, 1) := by decide +kernel
theorem dX10_net_49 : decode cX10_net 49 = .ok (.ireturn, 1) := by decide +kernel
theorem dX10_criesOf_0 : decode cX10_criesOf 0 = .ok (.iconst 0, 1) := by decide +kernel
theorem dX10_criesOf_1 : decode cX10_criesOf 1 = .ok (.istore_n 2, 1) := by decide +kernel
theorem dX10_criesOf_2 : decode cX10_criesOf 2 = .ok (.iconst 0, 1) := by decide +kernel
theorem dX10_criesOf_3 : decode cX10_criesOf 3 = .ok (.istore_n 3, 1) := by decide +kernel
theorem dX10_criesOf_4 : decode cX10_criesOf 4 = .ok (.iload_n 3, 1) := by decide +kernel
theorem dX10_criesOf_5 : decode cX10_criesOf 5 = .ok (.aload_n 0, 1) := by decide +kernel
theorem dX10_criesOf_6 : decode cX10_criesOf 6 = .ok (.getfield 7, 3) := by decide +kernel
theorem dX10_criesOf_9 : decode cX10_criesOf 9 = .ok (.bipush 80, 2) := by decide +kernel
theorem dX10_criesOf_11 : decode cX10_criesOf 11 = .ok (.iaload, 1) := by decide +kernel
theorem dX10_criesOf_12 : decode cX10_criesOf 12 = .ok (.if_icmp .ge 32, 3) := by decide +kernel
theorem dX10_criesOf_15 : decode cX10_criesOf 15 = .ok (.iload_n 2, 1) := by decide +kernel
theorem dX10_criesOf_16 : decode cX10_criesOf 16 = .ok (.aload_n 0, 1) := by decide +kernel
theorem dX10_criesOf_17 : decode cX10_criesOf 17 = .ok (.getfield 7, 3) := by decide +kernel
theorem dX10_criesOf_20 : decode cX10_criesOf 20 = .ok (.bipush 81, 2) := by decide +kernel
theorem dX10_criesOf_22 : decode cX10_criesOf 22 = .ok (.iconst 4, 1) := by decide +kernel
theorem dX10_criesOf_23 : decode cX10_criesOf 23 = .ok (.iload_n 3, 1) := by decide +kernel
theorem dX10_criesOf_24 : decode cX10_criesOf 24 = .ok (.imul, 1) := by decide +kernel
theorem dX10_criesOf_25 : decode cX10_criesOf 25 = .ok (.iadd, 1) := by decide +kernel
theorem dX10_criesOf_26 : decode cX10_criesOf 26 = .ok (.iaload, 1) := by decide +kernel
theorem dX10_criesOf_27 : decode cX10_criesOf 27 = .ok (.iload_n 1, 1) := by decide +kernel
theorem dX10_criesOf_28 : decode cX10_criesOf 28 = .ok (.if_icmp .ne 7, 3) := by decide +kernel
theorem dX10_criesOf_31 : decode cX10_criesOf 31 = .ok (.iconst 1, 1) := by decide +kernel
theorem dX10_criesOf_32 : decode cX10_criesOf 32 = .ok (.goto 4, 3) := by decide +kernel
theorem dX10_criesOf_35 : decode cX10_criesOf 35 = .ok (.iconst 0, 1) := by decide +kernel
theorem dX10_criesOf_36 : decode cX10_criesOf 36 = .ok (.iadd, 1) := by decide +kernel
theorem dX10_criesOf_37 : decode cX10_criesOf 37 = .ok (.istore_n 2, 1) := by decide +kernel
theorem dX10_criesOf_38 : decode cX10_criesOf 38 = .ok (.iinc 3 1, 3) := by decide +kernel
theorem dX10_criesOf_41 : decode cX10_criesOf 41 = .ok (.goto (-37), 3) := by decide +kernel
theorem dX10_criesOf_44 : decode cX10_criesOf 44 = .ok (.iload_n 2, 1) := by decide +kernel
theorem dX10_criesOf_45 : decode cX10_criesOf 45 = .ok (.ireturn, 1) := by decide +kernel
theorem dX10_person_0 : decode cX10_person 0 = .ok (.iload_n 1, 1) := by decide +kernel
theorem dX10_person_1 : decode cX10_person 1 = .ok (.invokestatic 170, 3) := by decide +kernel
theorem dX10_person_4 : decode cX10_person 4 = .ok (.ifCond .ne 6, 3) := by decide +kernel
theorem dX10_person_7 : decode cX10_person 7 = .ok (.bipush (-2), 2) := by decide +kernel
theorem dX10_person_9 : decode cX10_person 9 = .ok (.ireturn, 1) := by decide +kernel
theorem dX10_person_10 : decode cX10_person 10 = .ok (.iload_n 2, 1) := by decide +kernel
theorem dX10_person_11 : decode cX10_person 11 = .ok (.ifCond .ne 15, 3) := by decide +kernel
theorem dX10_person_14 : decode cX10_person 14 = .ok (.aload_n 0, 1) := by decide +kernel
theorem dX10_person_15 : decode cX10_person 15 = .ok (.getfield 7, 3) := by decide +kernel
theorem dX10_person_18 : decode cX10_person 18 = .ok (.bipush 38, 2) := by decide +kernel
theorem dX10_person_20 : decode cX10_person 20 = .ok (.iload_n 1, 1) := by decide +kernel
theorem dX10_person_21 : decode cX10_person 21 = .ok (.iadd, 1) := by decide +kernel
theorem dX10_person_22 : decode cX10_person 22 = .ok (.iaload, 1) := by decide +kernel
theorem dX10_person_23 : decode cX10_person 23 = .ok (.goto 34, 3) := by decide +kernel
theorem dX10_person_26 : decode cX10_person 26 = .ok (.iload_n 2, 1) := by decide +kernel
theorem dX10_person_27 : decode cX10_person 27 = .ok (.iconst 1, 1) := by decide +kernel
theorem dX10_person_28 : decode cX10_person 28 = .ok (.if_icmp .ne 14, 3) := by decide +kernel
theorem dX10_person_31 : decode cX10_person 31 = .ok (.aload_n 0, 1) := by decide +kernel
theorem dX10_person_32 : decode cX10_person 32 = .ok (.iload_n 1, 1) := by decide +kernel
theorem dX10_person_33 : decode cX10_person 33 = .ok (.invokevirtual 173, 3) := by decide +kernel
theorem dX10_person_36 : decode cX10_person 36 = .ok (.ldc 176, 2) := by decide +kernel
theorem dX10_person_38 : decode cX10_person 38 = .ok (.iadd, 1) := by decide +kernel
theorem dX10_person_39 : decode cX10_person 39 = .ok (.goto 18, 3) := by decide +kernel
theorem dX10_person_42 : decode cX10_person 42 = .ok (.iload_n 2, 1) := by decide +kernel
theorem dX10_person_43 : decode cX10_person 43 = .ok (.iconst 2, 1) := by decide +kernel
theorem dX10_person_44 : decode cX10_person 44 = .ok (.if_icmp .ne 11, 3) := by decide +kernel
theorem dX10_person_47 : decode cX10_person 47 = .ok (.aload_n 0, 1) := by decide +kernel
theorem dX10_person_48 : decode cX10_person 48 = .ok (.iload_n 1, 1) := by decide +kernel
theorem dX10_person_49 : decode cX10_person 49 = .ok (.invokevirtual 177, 3) := by decide +kernel
theorem dX10_person_52 : decode cX10_person 52 = .ok (.goto 5, 3) := by decide +kernel
theorem dX10_person_55 : decode cX10_person 55 = .ok (.bipush (-3), 2) := by decide +kernel
theorem dX10_person_57 : decode cX10_person 57 = .ok (.ireturn, 1) := by decide +kernel
theorem dX10_law_0 : decode cX10_law 0 = .ok (.iload_n 1, 1) := by decide +kernel
theorem dX10_law_1 : decode cX10_law 1 = .ok (.ifCond .lt 15, 3) := by decide +kernel
theorem dX10_law_4 : decode cX10_law 4 = .ok (.iload_n 2, 1) := by decide +kernel
theorem dX10_law_5 : decode cX10_law 5 = .ok (.i2l, 1) := by decide +kernel
theorem dX10_law_6 : decode cX10_law 6 = .ok (.lconst 0, 1) := by decide +kernel
theorem dX10_law_7 : decode cX10_law 7 = .ok (.ldc2_w 180, 3) := by decide +kernel
theorem dX10_law_10 : decode cX10_law 10 = .ok (.invokestatic 65, 3) := by decide +kernel
theorem dX10_law_13 : decode cX10_law 13 = .ok (.ifCond .ne 6, 3) := by decide +kernel
theorem dX10_law_16 : decode cX10_law 16 = .ok (.bipush (-3), 2) := by decide +kernel
theorem dX10_law_18 : decode cX10_law 18 = .ok (.ireturn, 1) := by decide +kernel
theorem dX10_law_19 : decode cX10_law 19 = .ok (.iload_n 1, 1) := by decide +kernel
theorem dX10_law_20 : decode cX10_law 20 = .ok (.aload_n 0, 1) := by decide +kernel
theorem dX10_law_21 : decode cX10_law 21 = .ok (.getfield 137, 3) := by decide +kernel
theorem dX10_law_24 : decode cX10_law 24 = .ok (.if_icmp .ge 16, 3) := by decide +kernel
theorem dX10_law_27 : decode cX10_law 27 = .ok (.aload_n 0, 1) := by decide +kernel
theorem dX10_law_28 : decode cX10_law 28 = .ok (.getfield 23, 3) := by decide +kernel
theorem dX10_law_31 : decode cX10_law 31 = .ok (.iconst 3, 1) := by decide +kernel
theorem dX10_law_32 : decode cX10_law 32 = .ok (.iload_n 1, 1) := by decide +kernel
theorem dX10_law_33 : decode cX10_law 33 = .ok (.imul, 1) := by decide +kernel
theorem dX10_law_34 : decode cX10_law 34 = .ok (.iload_n 2, 1) := by decide +kernel
theorem dX10_law_35 : decode cX10_law 35 = .ok (.iadd, 1) := by decide +kernel
theorem dX10_law_36 : decode cX10_law 36 = .ok (.iaload, 1) := by decide +kernel
theorem dX10_law_37 : decode cX10_law 37 = .ok (.goto 4, 3) := by decide +kernel
theorem dX10_law_40 : decode cX10_law 40 = .ok (.iconst (-1), 1) := by decide +kernel
theorem dX10_law_41 : decode cX10_law 41 = .ok (.ireturn, 1) := by decide +kernel
theorem dX10_isRock_0 : decode cX10_isRock 0 = .ok (.iload_n 1, 1) := by decide +kernel
theorem dX10_isRock_1 : decode cX10_isRock 1 = .ok (.i2l, 1) := by decide +kernel
theorem dX10_isRock_2 : decode cX10_isRock 2 = .ok (.lconst 0, 1) := by decide +kernel
theorem dX10_isRock_3 : decode cX10_isRock 3 = .ok (.aload_n 0, 1) := by decide +kernel
theorem dX10_isRock_4 : decode cX10_isRock 4 = .ok (.getfield 7, 3) := by decide +kernel
theorem dX10_isRock_7 : decode cX10_isRock 7 = .ok (.iconst 0, 1) := by decide +kernel
theorem dX10_isRock_8 : decode cX10_isRock 8 = .ok (.iaload, 1) := by decide +kernel
theorem dX10_isRock_9 : decode cX10_isRock 9 = .ok (.iconst 1, 1) := by decide +kernel
theorem dX10_isRock_10 : decode cX10_isRock 10 = .ok (.isub, 1) := by decide +kernel
theorem dX10_isRock_11 : decode cX10_isRock 11 = .ok (.i2l, 1) := by decide +kernel
theorem dX10_isRock_12 : decode cX10_isRock 12 = .ok (.invokestatic 65, 3) := by decide +kernel
theorem dX10_isRock_15 : decode cX10_isRock 15 = .ok (.ifCond .eq 42, 3) := by decide +kernel
theorem dX10_isRock_18 : decode cX10_isRock 18 = .ok (.iload_n 2, 1) := by decide +kernel
theorem dX10_isRock_19 : decode cX10_isRock 19 = .ok (.i2l, 1) := by decide +kernel
theorem dX10_isRock_20 : decode cX10_isRock 20 = .ok (.lconst 0, 1) := by decide +kernel
theorem dX10_isRock_21 : decode cX10_isRock 21 = .ok (.aload_n 0, 1) := by decide +kernel
theorem dX10_isRock_22 : decode cX10_isRock 22 = .ok (.getfield 7, 3) := by decide +kernel
theorem dX10_isRock_25 : decode cX10_isRock 25 = .ok (.iconst 1, 1) := by decide +kernel
theorem dX10_isRock_26 : decode cX10_isRock 26 = .ok (.iaload, 1) := by decide +kernel
theorem dX10_isRock_27 : decode cX10_isRock 27 = .ok (.iconst 1, 1) := by decide +kernel
theorem dX10_isRock_28 : decode cX10_isRock 28 = .ok (.isub, 1) := by decide +kernel
theorem dX10_isRock_29 : decode cX10_isRock 29 = .ok (.i2l, 1) := by decide +kernel
theorem dX10_isRock_30 : decode cX10_isRock 30 = .ok (.invokestatic 65, 3) := by decide +kernel
theorem dX10_isRock_33 : decode cX10_isRock 33 = .ok (.ifCond .eq 24, 3) := by decide +kernel
theorem dX10_isRock_36 : decode cX10_isRock 36 = .ok (.aload_n 0, 1) := by decide +kernel
theorem dX10_isRock_37 : decode cX10_isRock 37 = .ok (.aload_n 0, 1) := by decide +kernel
theorem dX10_isRock_38 : decode cX10_isRock 38 = .ok (.getfield 7, 3) := by decide +kernel
theorem dX10_isRock_41 : decode cX10_isRock 41 = .ok (.iconst 0, 1) := by decide +kernel
theorem dX10_isRock_42 : decode cX10_isRock 42 = .ok (.iaload, 1) := by decide +kernel
theorem dX10_isRock_43 : decode cX10_isRock 43 = .ok (.iload_n 2, 1) := by decide +kernel
theorem dX10_isRock_44 : decode cX10_isRock 44 = .ok (.imul, 1) := by decide +kernel
theorem dX10_isRock_45 : decode cX10_isRock 45 = .ok (.iload_n 1, 1) := by decide +kernel
theorem dX10_isRock_46 : decode cX10_isRock 46 = .ok (.iadd, 1) := by decide +kernel
theorem dX10_isRock_47 : decode cX10_isRock 47 = .ok (.invokevirtual 164, 3) := by decide +kernel
theorem dX10_isRock_50 : decode cX10_isRock 50 = .ok (.ifCond .ne 7, 3) := by decide +kernel
theorem dX10_isRock_53 : decode cX10_isRock 53 = .ok (.iconst 1, 1) := by decide +kernel
theorem dX10_isRock_54 : decode cX10_isRock 54 = .ok (.goto 4, 3) := by decide +kernel
theorem dX10_isRock_57 : decode cX10_isRock 57 = .ok (.iconst 0, 1) := by decide +kernel
theorem dX10_isRock_58 : decode cX10_isRock 58 = .ok (.ireturn, 1) := by decide +kernel
theorem dX10_follow_0 : decode cX10_follow 0 = .ok (.iload 4, 2) := by decide +kernel
theorem dX10_follow_2 : decode cX10_follow 2 = .ok (.ifCond .le 13, 3) := by decide +kernel
theorem dX10_follow_5 : decode cX10_follow 5 = .ok (.iload 4, 2) := by decide +kernel
theorem dX10_follow_7 : decode cX10_follow 7 = .ok (.iconst 4, 1) := by decide +kernel
theorem dX10_follow_8 : decode cX10_follow 8 = .ok (.if_icmp .ge 7, 3) := by decide +kernel
theorem dX10_follow_11 : decode cX10_follow 11 = .ok (.iconst 1, 1) := by decide +kernel
theorem dX10_follow_12 : decode cX10_follow 12 = .ok (.goto 14, 3) := by decide +kernel
theorem dX10_follow_15 : decode cX10_follow 15 = .ok (.iload 4, 2) := by decide +kernel
theorem dX10_follow_17 : decode cX10_follow 17 = .ok (.iconst 4, 1) := by decide +kernel
theorem dX10_follow_18 : decode cX10_follow 18 = .ok (.if_icmp .le 7, 3) := by decide +kernel
theorem dX10_follow_21 : decode cX10_follow 21 = .ok (.iconst (-1), 1) := by decide +kernel
theorem dX10_follow_22 : decode cX10_follow 22 = .ok (.goto 4, 3) := by decide +kernel
theorem dX10_follow_25 : decode cX10_follow 25 = .ok (.iconst 0, 1) := by decide +kernel
theorem dX10_follow_26 : decode cX10_follow 26 = .ok (.istore 5, 2) := by decide +kernel
theorem dX10_follow_28 : decode cX10_follow 28 = .ok (.iload 4, 2) := by decide +kernel
theorem dX10_follow_30 : decode cX10_follow 30 = .ok (.iconst 2, 1) := by decide +kernel
theorem dX10_follow_31 : decode cX10_follow 31 = .ok (.if_icmp .lt 10, 3) := by decide +kernel
theorem dX10_follow_34 : decode cX10_follow 34 = .ok (.iload 4, 2) := by decide +kernel
theorem dX10_follow_36 : decode cX10_follow 36 = .ok (.bipush 7, 2) := by decide +kernel
theorem dX10_follow_38 : decode cX10_follow 38 = .ok (.if_icmp .ne 7, 3) := by decide +kernel
theorem dX10_follow_41 : decode cX10_follow 41 = .ok (.iconst (-1), 1) := by decide +kernel
theorem dX10_follow_42 : decode cX10_follow 42 = .ok (.goto 21, 3) := by decide +kernel
theorem dX10_follow_45 : decode cX10_follow 45 = .ok (.iload 4, 2) := by decide +kernel
theorem dX10_follow_47 : decode cX10_follow 47 = .ok (.iconst 2, 1) := by decide +kernel
theorem dX10_follow_48 : decode cX10_follow 48 = .ok (.if_icmp .le 14, 3) := by decide +kernel
theorem dX10_follow_51 : decode cX10_follow 51 = .ok (.iload 4, 2) := by decide +kernel
theorem dX10_follow_53 : decode cX10_follow 53 = .ok (.bipush 6, 2) := by decide +kernel
theorem dX10_follow_55 : decode cX10_follow 55 = .ok (.if_icmp .ge 7, 3) := by decide +kernel
theorem dX10_follow_58 : decode cX10_follow 58 = .ok (.iconst 1, 1) := by decide +kernel
theorem dX10_follow_59 : decode cX10_follow 59 = .ok (.goto 4, 3) := by decide +kernel
theorem dX10_follow_62 : decode cX10_follow 62 = .ok (.iconst 0, 1) := by decide +kernel
theorem dX10_follow_63 : decode cX10_follow 63 = .ok (.istore 6, 2) := by decide +kernel
theorem dX10_follow_65 : decode cX10_follow 65 = .ok (.iload_n 1, 1) := by decide +kernel
theorem dX10_follow_66 : decode cX10_follow 66 = .ok (.aload_n 0, 1) := by decide +kernel
theorem dX10_follow_67 : decode cX10_follow 67 = .ok (.getfield 7, 3) := by decide +kernel
theorem dX10_follow_70 : decode cX10_follow 70 = .ok (.iconst 0, 1) := by decide +kernel
theorem dX10_follow_71 : decode cX10_follow 71 = .ok (.iaload, 1) := by decide +kernel
theorem dX10_follow_72 : decode cX10_follow 72 = .ok (.irem, 1) := by decide +kernel
theorem dX10_follow_73 : decode cX10_follow 73 = .ok (.istore 7, 2) := by decide +kernel
theorem dX10_follow_75 : decode cX10_follow 75 = .ok (.iload_n 1, 1) := by decide +kernel
theorem dX10_follow_76 : decode cX10_follow 76 = .ok (.aload_n 0, 1) := by decide +kernel
theorem dX10_follow_77 : decode cX10_follow 77 = .ok (.getfield 7, 3) := by decide +kernel
theorem dX10_follow_80 : decode cX10_follow 80 = .ok (.iconst 0, 1) := by decide +kernel
theorem dX10_follow_81 : decode cX10_follow 81 = .ok (.iaload, 1) := by decide +kernel
theorem dX10_follow_82 : decode cX10_follow 82 = .ok (.idiv, 1) := by decide +kernel
theorem dX10_follow_83 : decode cX10_follow 83 = .ok (.istore 8, 2) := by decide +kernel
theorem dX10_follow_85 : decode cX10_follow 85 = .ok (.iload_n 2, 1) := by decide +kernel
theorem dX10_follow_86 : decode cX10_follow 86 = .ok (.istore 9, 2) := by decide +kernel
theorem dX10_follow_88 : decode cX10_follow 88 = .ok (.iconst 0, 1) := by decide +kernel
theorem dX10_follow_89 : decode cX10_follow 89 = .ok (.istore 10, 2) := by decide +kernel
theorem dX10_follow_91 : decode cX10_follow 91 = .ok (.iconst 1, 1) := by decide +kernel
theorem dX10_follow_92 : decode cX10_follow 92 = .ok (.istore 11, 2) := by decide +kernel
theorem dX10_follow_94 : decode cX10_follow 94 = .ok (.iload 11, 2) := by decide +kernel
theorem dX10_follow_96 : decode cX10_follow 96 = .ok (.bipush 61, 2) := by decide +kernel
theorem dX10_follow_98 : decode cX10_follow 98 = .ok (.if_icmp .ge 337, 3) := by decide +kernel
theorem dX10_follow_101 : decode cX10_follow 101 = .ok (.iload 9, 2) := by decide +kernel
theorem dX10_follow_103 : decode cX10_follow 103 = .ok (.ifCond .le 332, 3) := by decide +kernel
theorem dX10_follow_106 : decode cX10_follow 106 = .ok (.iload 7, 2) := by decide +kernel
theorem dX10_follow_108 : decode cX10_follow 108 = .ok (.iload 5, 2) := by decide +kernel
theorem dX10_follow_110 : decode cX10_follow 110 = .ok (.iadd, 1) := by decide +kernel
theorem dX10_follow_111 : decode cX10_follow 111 = .ok (.i2l, 1) := by decide +kernel
theorem dX10_follow_112 : decode cX10_follow 112 = .ok (.lconst 0, 1) := by decide +kernel
theorem dX10_follow_113 : decode cX10_follow 113 = .ok (.aload_n 0, 1) := by decide +kernel
theorem dX10_follow_114 : decode cX10_follow 114 = .ok (.getfield 7, 3) := by decide +kernel
theorem dX10_follow_117 : decode cX10_follow 117 = .ok (.iconst 0, 1) := by decide +kernel
theorem dX10_follow_118 : decode cX10_follow 118 = .ok (.iaload, 1) := by decide +kernel
theorem dX10_follow_119 : decode cX10_follow 119 = .ok (.iconst 1, 1) := by decide +kernel
theorem dX10_follow_120 : decode cX10_follow 120 = .ok (.isub, 1) := by decide +kernel
theorem dX10_follow_121 : decode cX10_follow 121 = .ok (.i2l, 1) := by decide +kernel
theorem dX10_follow_122 : decode cX10_follow 122 = .ok (.invokestatic 65, 3) := by decide +kernel
theorem dX10_follow_125 : decode cX10_follow 125 = .ok (.ifCond .eq 25, 3) := by decide +kernel
theorem dX10_follow_128 : decode cX10_follow 128 = .ok (.iload 8, 2) := by decide +kernel
theorem dX10_follow_130 : decode cX10_follow 130 = .ok (.iload 6, 2) := by decide +kernel
theorem dX10_follow_132 : decode cX10_follow 132 = .ok (.iadd, 1) := by decide +kernel
theorem dX10_follow_133 : decode cX10_follow 133 = .ok (.i2l, 1) := by decide +kernel
theorem dX10_follow_134 : decode cX10_follow 134 = .ok (.lconst 0, 1) := by decide +kernel
theorem dX10_follow_135 : decode cX10_follow 135 = .ok (.aload_n 0, 1) := by decide +kernel
theorem dX10_follow_136 : decode cX10_follow 136 = .ok (.getfield 7, 3) := by decide +kernel
theorem dX10_follow_139 : decode cX10_follow 139 = .ok (.iconst 1, 1) := by decide +kernel
theorem dX10_follow_140 : decode cX10_follow 140 = .ok (.iaload, 1) := by decide +kernel
theorem dX10_follow_141 : decode cX10_follow 141 = .ok (.iconst 1, 1) := by decide +kernel
theorem dX10_follow_142 : decode cX10_follow 142 = .ok (.isub, 1) := by decide +kernel
theorem dX10_follow_143 : decode cX10_follow 143 = .ok (.i2l, 1) := by decide +kernel
theorem dX10_follow_144 : decode cX10_follow 144 = .ok (.invokestatic 65, 3) := by decide +kernel
theorem dX10_follow_147 : decode cX10_follow 147 = .ok (.ifCond .ne 4, 3) := by decide +kernel
theorem dX10_follow_150 : decode cX10_follow 150 = .ok (.return_, 1) := by decide +kernel
theorem dX10_follow_151 : decode cX10_follow 151 = .ok (.aload_n 0, 1) := by decide +kernel
theorem dX10_follow_152 : decode cX10_follow 152 = .ok (.iload 7, 2) := by decide +kernel
theorem dX10_follow_154 : decode cX10_follow 154 = .ok (.iload 5, 2) := by decide +kernel
theorem dX10_follow_156 : decode cX10_follow 156 = .ok (.iadd, 1) := by decide +kernel
theorem dX10_follow_157 : decode cX10_follow 157 = .ok (.iload 8, 2) := by decide +kernel
theorem dX10_follow_159 : decode cX10_follow 159 = .ok (.iload 6, 2) := by decide +kernel
theorem dX10_follow_161 : decode cX10_follow 161 = .ok (.iadd, 1) := by decide +kernel
theorem dX10_follow_162 : decode cX10_follow 162 = .ok (.invokevirtual 182, 3) := by decide +kernel
theorem dX10_follow_165 : decode cX10_follow 165 = .ok (.ifCond .eq 161, 3) := by decide +kernel
theorem dX10_follow_168 : decode cX10_follow 168 = .ok (.aload_n 0, 1) := by decide +kernel
theorem dX10_follow_169 : decode cX10_follow 169 = .ok (.getfield 7, 3) := by decide +kernel
theorem dX10_follow_172 : decode cX10_follow 172 = .ok (.iconst 2, 1) := by decide +kernel
theorem dX10_follow_173 : decode cX10_follow 173 = .ok (.aload_n 0, 1) := by decide +kernel
theorem dX10_follow_174 : decode cX10_follow 174 = .ok (.getfield 7, 3) := by decide +kernel
theorem dX10_follow_177 : decode cX10_follow 177 = .ok (.iconst 0, 1) := by decide +kernel
theorem dX10_follow_178 : decode cX10_follow 178 = .ok (.iaload, 1) := by decide +kernel
theorem dX10_follow_179 : decode cX10_follow 179 = .ok (.iload 8, 2) := by decide +kernel
theorem dX10_follow_181 : decode cX10_follow 181 = .ok (.iload 6, 2) := by decide +kernel
theorem dX10_follow_183 : decode cX10_follow 183 = .ok (.iadd, 1) := by decide +kernel
theorem dX10_follow_184 : decode cX10_follow 184 = .ok (.imul, 1) := by decide +kernel
theorem dX10_follow_185 : decode cX10_follow 185 = .ok (.iadd, 1) := by decide +kernel
theorem dX10_follow_186 : decode cX10_follow 186 = .ok (.iload 7, 2) := by decide +kernel
theorem dX10_follow_188 : decode cX10_follow 188 = .ok (.iadd, 1) := by decide +kernel
theorem dX10_follow_189 : decode cX10_follow 189 = .ok (.iload 5, 2) := by decide +kernel
theorem dX10_follow_191 : decode cX10_follow 191 = .ok (.iadd, 1) := by decide +kernel
theorem dX10_follow_192 : decode cX10_follow 192 = .ok (.iaload, 1) := by decide +kernel
theorem dX10_follow_193 : decode cX10_follow 193 = .ok (.iload_n 3, 1) := by decide +kernel
theorem dX10_follow_194 : decode cX10_follow 194 = .ok (.ifCond .eq 7, 3) := by decide +kernel
theorem dX10_follow_197 : decode cX10_follow 197 = .ok (.iconst 2, 1) := by decide +kernel
theorem dX10_follow_198 : decode cX10_follow 198 = .ok (.goto 4, 3) := by decide +kernel
theorem dX10_follow_201 : decode cX10_follow 201 = .ok (.iconst 1, 1) := by decide +kernel
theorem dX10_follow_202 : decode cX10_follow 202 = .ok (.imul, 1) := by decide +kernel
theorem dX10_follow_203 : decode cX10_follow 203 = .ok (.istore 12, 2) := by decide +kernel
theorem dX10_follow_205 : decode cX10_follow 205 = .ok (.iload 9, 2) := by decide +kernel
theorem dX10_follow_207 : decode cX10_follow 207 = .ok (.iload 9, 2) := by decide +kernel
theorem dX10_follow_209 : decode cX10_follow 209 = .ok (.iload 12, 2) := by decide +kernel
theorem dX10_follow_211 : decode cX10_follow 211 = .ok (.bipush 100, 2) := by decide +kernel
theorem dX10_follow_213 : decode cX10_follow 213 = .ok (.if_icmp .le 8, 3) := by decide +kernel
theorem dX10_follow_216 : decode cX10_follow 216 = .ok (.bipush 100, 2) := by decide +kernel
theorem dX10_follow_218 : decode cX10_follow 218 = .ok (.goto 5, 3) := by decide +kernel
theorem dX10_follow_221 : decode cX10_follow 221 = .ok (.iload 12, 2) := by decide +kernel
theorem dX10_follow_223 : decode cX10_follow 223 = .ok (.imul, 1) := by decide +kernel
theorem dX10_follow_224 : decode cX10_follow 224 = .ok (.bipush 100, 2) := by decide +kernel
theorem dX10_follow_226 : decode cX10_follow 226 = .ok (.idiv, 1) := by decide +kernel
theorem dX10_follow_227 : decode cX10_follow 227 = .ok (.isub, 1) := by decide +kernel
theorem dX10_follow_228 : decode cX10_follow 228 = .ok (.istore 9, 2) := by decide +kernel
theorem dX10_follow_230 : decode cX10_follow 230 = .ok (.iinc 10 1, 3) := by decide +kernel
theorem dX10_follow_233 : decode cX10_follow 233 = .ok (.aload_n 0, 1) := by decide +kernel
theorem dX10_follow_234 : decode cX10_follow 234 = .ok (.iload 7, 2) := by decide +kernel
theorem dX10_follow_236 : decode cX10_follow 236 = .ok (.iload 5, 2) := by decide +kernel
theorem dX10_follow_238 : decode cX10_follow 238 = .ok (.iadd, 1) := by decide +kernel
theorem dX10_follow_239 : decode cX10_follow 239 = .ok (.iload 8, 2) := by decide +kernel
theorem dX10_follow_241 : decode cX10_follow 241 = .ok (.invokevirtual 182, 3) := by decide +kernel
theorem dX10_follow_244 : decode cX10_follow 244 = .ok (.istore 13, 2) := by decide +kernel
theorem dX10_follow_246 : decode cX10_follow 246 = .ok (.aload_n 0, 1) := by decide +kernel
theorem dX10_follow_247 : decode cX10_follow 247 = .ok (.iload 7, 2) := by decide +kernel
theorem dX10_follow_249 : decode cX10_follow 249 = .ok (.iload 8, 2) := by decide +kernel
theorem dX10_follow_251 : decode cX10_follow 251 = .ok (.iload 6, 2) := by decide +kernel
theorem dX10_follow_253 : decode cX10_follow 253 = .ok (.iadd, 1) := by decide +kernel
theorem dX10_follow_254 : decode cX10_follow 254 = .ok (.invokevirtual 182, 3) := by decide +kernel
theorem dX10_follow_257 : decode cX10_follow 257 = .ok (.istore 14, 2) := by decide +kernel
theorem dX10_follow_259 : decode cX10_follow 259 = .ok (.iload 5, 2) := by decide +kernel
theorem dX10_follow_261 : decode cX10_follow 261 = .ok (.ifCond .eq 19, 3) := by decide +kernel
theorem dX10_follow_264 : decode cX10_follow 264 = .ok (.iload 6, 2) := by decide +kernel
theorem dX10_follow_266 : decode cX10_follow 266 = .ok (.ifCond .eq 14, 3) := by decide +kernel
theorem dX10_follow_269 : decode cX10_follow 269 = .ok (.iload 13, 2) := by decide +kernel
theorem dX10_follow_271 : decode cX10_follow 271 = .ok (.iload 14, 2) := by decide +kernel
theorem dX10_follow_273 : decode cX10_follow 273 = .ok (.if_icmp .eq 7, 3) := by decide +kernel
theorem dX10_follow_276 : decode cX10_follow 276 = .ok (.iconst 1, 1) := by decide +kernel
theorem dX10_follow_277 : decode cX10_follow 277 = .ok (.goto 4, 3) := by decide +kernel
theorem dX10_follow_280 : decode cX10_follow 280 = .ok (.iconst 0, 1) := by decide +kernel
theorem dX10_follow_281 : decode cX10_follow 281 = .ok (.istore 15, 2) := by decide +kernel
theorem dX10_follow_283 : decode cX10_follow 283 = .ok (.iload 15, 2) := by decide +kernel
theorem dX10_follow_285 : decode cX10_follow 285 = .ok (.ifCond .eq 13, 3) := by decide +kernel
theorem dX10_follow_288 : decode cX10_follow 288 = .ok (.iload 14, 2) := by decide +kernel
theorem dX10_follow_290 : decode cX10_follow 290 = .ok (.ifCond .eq 8, 3) := by decide +kernel
theorem dX10_follow_293 : decode cX10_follow 293 = .ok (.iload 5, 2) := by decide +kernel
theorem dX10_follow_295 : decode cX10_follow 295 = .ok (.goto 6, 3) := by decide +kernel
theorem dX10_follow_298 : decode cX10_follow 298 = .ok (.iload 5, 2) := by decide +kernel
theorem dX10_follow_300 : decode cX10_follow 300 = .ok (.ineg, 1) := by decide +kernel
theorem dX10_follow_301 : decode cX10_follow 301 = .ok (.istore 5, 2) := by decide +kernel
theorem dX10_follow_303 : decode cX10_follow 303 = .ok (.iload 15, 2) := by decide +kernel
theorem dX10_follow_305 : decode cX10_follow 305 = .ok (.ifCond .eq 13, 3) := by decide +kernel
theorem dX10_follow_308 : decode cX10_follow 308 = .ok (.iload 13, 2) := by decide +kernel
theorem dX10_follow_310 : decode cX10_follow 310 = .ok (.ifCond .eq 8, 3) := by decide +kernel
theorem dX10_follow_313 : decode cX10_follow 313 = .ok (.iload 6, 2) := by decide +kernel
theorem dX10_follow_315 : decode cX10_follow 315 = .ok (.goto 6, 3) := by decide +kernel
theorem dX10_follow_318 : decode cX10_follow 318 = .ok (.iload 6, 2) := by decide +kernel
theorem dX10_follow_320 : decode cX10_follow 320 = .ok (.ineg, 1) := by decide +kernel
theorem dX10_follow_321 : decode cX10_follow 321 = .ok (.istore 6, 2) := by decide +kernel
theorem dX10_follow_323 : decode cX10_follow 323 = .ok (.goto 106, 3) := by decide +kernel
theorem dX10_follow_326 : decode cX10_follow 326 = .ok (.iload 7, 2) := by decide +kernel
theorem dX10_follow_328 : decode cX10_follow 328 = .ok (.iload 5, 2) := by decide +kernel
theorem dX10_follow_330 : decode cX10_follow 330 = .ok (.iadd, 1) := by decide +kernel
theorem dX10_follow_331 : decode cX10_follow 331 = .ok (.istore 7, 2) := by decide +kernel
theorem dX10_follow_333 : decode cX10_follow 333 = .ok (.iload 8, 2) := by decide +kernel
theorem dX10_follow_335 : decode cX10_follow 335 = .ok (.iload 6, 2) := by decide +kernel
theorem dX10_follow_337 : decode cX10_follow 337 = .ok (.iadd, 1) := by decide +kernel
theorem dX10_follow_338 : decode cX10_follow 338 = .ok (.istore 8, 2) := by decide +kernel
theorem dX10_follow_340 : decode cX10_follow 340 = .ok (.iload 9, 2) := by decide +kernel
theorem dX10_follow_342 : decode cX10_follow 342 = .ok (.aload_n 0, 1) := by decide +kernel
theorem dX10_follow_343 : decode cX10_follow 343 = .ok (.getfield 30, 3) := by decide +kernel
theorem dX10_follow_346 : decode cX10_follow 346 = .ok (.isub, 1) := by decide +kernel
theorem dX10_follow_347 : decode cX10_follow 347 = .ok (.istore 9, 2) := by decide +kernel
theorem dX10_follow_349 : decode cX10_follow 349 = .ok (.iload 9, 2) := by decide +kernel
theorem dX10_follow_351 : decode cX10_follow 351 = .ok (.ifCond .le 78, 3) := by decide +kernel
theorem dX10_follow_354 : decode cX10_follow 354 = .ok (.aload_n 0, 1) := by decide +kernel
theorem dX10_follow_355 : decode cX10_follow 355 = .ok (.getfield 36, 3) := by decide +kernel
theorem dX10_follow_358 : decode cX10_follow 358 = .ok (.aload_n 0, 1) := by decide +kernel
theorem dX10_follow_359 : decode cX10_follow 359 = .ok (.getfield 185, 3) := by decide +kernel
theorem dX10_follow_362 : decode cX10_follow 362 = .ok (.aload_n 0, 1) := by decide +kernel
theorem dX10_follow_363 : decode cX10_follow 363 = .ok (.getfield 7, 3) := by decide +kernel
theorem dX10_follow_366 : decode cX10_follow 366 = .ok (.iconst 0, 1) := by decide +kernel
theorem dX10_follow_367 : decode cX10_follow 367 = .ok (.iaload, 1) := by decide +kernel
theorem dX10_follow_368 : decode cX10_follow 368 = .ok (.iload 8, 2) := by decide +kernel
theorem dX10_follow_370 : decode cX10_follow 370 = .ok (.imul, 1) := by decide +kernel
theorem dX10_follow_371 : decode cX10_follow 371 = .ok (.iload 7, 2) := by decide +kernel
theorem dX10_follow_373 : decode cX10_follow 373 = .ok (.iadd, 1) := by decide +kernel
theorem dX10_follow_374 : decode cX10_follow 374 = .ok (.iastore, 1) := by decide +kernel
theorem dX10_follow_375 : decode cX10_follow 375 = .ok (.aload_n 0, 1) := by decide +kernel
theorem dX10_follow_376 : decode cX10_follow 376 = .ok (.getfield 39, 3) := by decide +kernel
theorem dX10_follow_379 : decode cX10_follow 379 = .ok (.aload_n 0, 1) := by decide +kernel
theorem dX10_follow_380 : decode cX10_follow 380 = .ok (.getfield 185, 3) := by decide +kernel
theorem dX10_follow_383 : decode cX10_follow 383 = .ok (.iload 11, 2) := by decide +kernel
theorem dX10_follow_385 : decode cX10_follow 385 = .ok (.iastore, 1) := by decide +kernel
theorem dX10_follow_386 : decode cX10_follow 386 = .ok (.aload_n 0, 1) := by decide +kernel
theorem dX10_follow_387 : decode cX10_follow 387 = .ok (.getfield 42, 3) := by decide +kernel
theorem dX10_follow_390 : decode cX10_follow 390 = .ok (.aload_n 0, 1) := by decide +kernel
theorem dX10_follow_391 : decode cX10_follow 391 = .ok (.getfield 185, 3) := by decide +kernel
theorem dX10_follow_394 : decode cX10_follow 394 = .ok (.iload 9, 2) := by decide +kernel
theorem dX10_follow_396 : decode cX10_follow 396 = .ok (.iastore, 1) := by decide +kernel
theorem dX10_follow_397 : decode cX10_follow 397 = .ok (.aload_n 0, 1) := by decide +kernel
theorem dX10_follow_398 : decode cX10_follow 398 = .ok (.getfield 45, 3) := by decide +kernel
theorem dX10_follow_401 : decode cX10_follow 401 = .ok (.aload_n 0, 1) := by decide +kernel
theorem dX10_follow_402 : decode cX10_follow 402 = .ok (.getfield 185, 3) := by decide +kernel
theorem dX10_follow_405 : decode cX10_follow 405 = .ok (.iload 10, 2) := by decide +kernel
theorem dX10_follow_407 : decode cX10_follow 407 = .ok (.iastore, 1) := by decide +kernel
theorem dX10_follow_408 : decode cX10_follow 408 = .ok (.aload_n 0, 1) := by decide +kernel
theorem dX10_follow_409 : decode cX10_follow 409 = .ok (.getfield 48, 3) := by decide +kernel
theorem dX10_follow_412 : decode cX10_follow 412 = .ok (.aload_n 0, 1) := by decide +kernel
theorem dX10_follow_413 : decode cX10_follow 413 = .ok (.getfield 185, 3) := by decide +kernel
theorem dX10_follow_416 : decode cX10_follow 416 = .ok (.iload 4, 2) := by decide +kernel
theorem dX10_follow_418 : decode cX10_follow 418 = .ok (.iastore, 1) := by decide +kernel
theorem dX10_follow_419 : decode cX10_follow 419 = .ok (.aload_n 0, 1) := by decide +kernel
theorem dX10_follow_420 : decode cX10_follow 420 = .ok (.dup, 1) := by decide +kernel
theorem dX10_follow_421 : decode cX10_follow 421 = .ok (.getfield 185, 3) := by decide +kernel
theorem dX10_follow_424 : decode cX10_follow 424 = .ok (.iconst 1, 1) := by decide +kernel
theorem dX10_follow_425 : decode cX10_follow 425 = .ok (.iadd, 1) := by decide +kernel
theorem dX10_follow_426 : decode cX10_follow 426 = .ok (.putfield 185, 3) := by decide +kernel
theorem dX10_follow_429 : decode cX10_follow 429 = .ok (.iinc 11 1, 3) := by decide +kernel
theorem dX10_follow_432 : decode cX10_follow 432 = .ok (.goto (-338), 3) := by decide +kernel
theorem dX10_follow_435 : decode cX10_follow 435 = .ok (.return_, 1) := by decide +kernel
theorem dX10_laySounds_0 : decode cX10_laySounds 0 = .ok (.aload_n 0, 1) := by decide +kernel
theorem dX10_laySounds_1 : decode cX10_laySounds 1 = .ok (.iconst 0, 1) := by decide +kernel
theorem dX10_laySounds_2 : decode cX10_laySounds 2 = .ok (.putfield 185, 3) := by decide +kernel
theorem dX10_laySounds_5 : decode cX10_laySounds 5 = .ok (.iconst 0, 1) := by decide +kernel
theorem dX10_laySounds_6 : decode cX10_laySounds 6 = .ok (.istore 4, 2) := by decide +kernel
theorem dX10_laySounds_8 : decode cX10_laySounds 8 = .ok (.iload 4, 2) := by decide +kernel
theorem dX10_laySounds_10 : decode cX10_laySounds 10 = .ok (.bipush 8, 2) := by decide +kernel
theorem dX10_laySounds_12 : decode cX10_laySounds 12 = .ok (.if_icmp .ge 18, 3) := by decide +kernel
theorem dX10_laySounds_15 : decode cX10_laySounds 15 = .ok (.aload_n 0, 1) := by decide +kernel
theorem dX10_laySounds_16 : decode cX10_laySounds 16 = .ok (.iload_n 1, 1) := by decide +kernel
theorem dX10_laySounds_17 : decode cX10_laySounds 17 = .ok (.iload_n 2, 1) := by decide +kernel
theorem dX10_laySounds_18 : decode cX10_laySounds 18 = .ok (.iload_n 3, 1) := by decide +kernel
theorem dX10_laySounds_19 : decode cX10_laySounds 19 = .ok (.iload 4, 2) := by decide +kernel
theorem dX10_laySounds_21 : decode cX10_laySounds 21 = .ok (.invokevirtual 188, 3) := by decide +kernel
theorem dX10_laySounds_24 : decode cX10_laySounds 24 = .ok (.iinc 4 1, 3) := by decide +kernel
theorem dX10_laySounds_27 : decode cX10_laySounds 27 = .ok (.goto (-19), 3) := by decide +kernel
theorem dX10_laySounds_30 : decode cX10_laySounds 30 = .ok (.return_, 1) := by decide +kernel
theorem dX10_fineOf_0 : decode cX10_fineOf 0 = .ok (.iconst 0, 1) := by decide +kernel
theorem dX10_fineOf_1 : decode cX10_fineOf 1 = .ok (.istore_n 3, 1) := by decide +kernel
theorem dX10_fineOf_2 : decode cX10_fineOf 2 = .ok (.iload_n 3, 1) := by decide +kernel
theorem dX10_fineOf_3 : decode cX10_fineOf 3 = .ok (.aload_n 0, 1) := by decide +kernel
theorem dX10_fineOf_4 : decode cX10_fineOf 4 = .ok (.getfield 137, 3) := by decide +kernel
theorem dX10_fineOf_7 : decode cX10_fineOf 7 = .ok (.if_icmp .ge 76, 3) := by decide +kernel
theorem dX10_fineOf_10 : decode cX10_fineOf 10 = .ok (.aload_n 0, 1) := by decide +kernel
theorem dX10_fineOf_11 : decode cX10_fineOf 11 = .ok (.getfield 42, 3) := by decide +kernel
theorem dX10_fineOf_14 : decode cX10_fineOf 14 = .ok (.iload_n 1, 1) := by decide +kernel
theorem dX10_fineOf_15 : decode cX10_fineOf 15 = .ok (.iaload, 1) := by decide +kernel
theorem dX10_fineOf_16 : decode cX10_fineOf 16 = .ok (.aload_n 0, 1) := by decide +kernel
theorem dX10_fineOf_17 : decode cX10_fineOf 17 = .ok (.getfield 23, 3) := by decide +kernel
theorem dX10_fineOf_20 : decode cX10_fineOf 20 = .ok (.iconst 3, 1) := by decide +kernel
theorem dX10_fineOf_21 : decode cX10_fineOf 21 = .ok (.iload_n 3, 1) := by decide +kernel
theorem dX10_fineOf_22 : decode cX10_fineOf 22 = .ok (.imul, 1) := by decide +kernel
theorem dX10_fineOf_23 : decode cX10_fineOf 23 = .ok (.iaload, 1) := by decide +kernel
theorem dX10_fineOf_24 : decode cX10_fineOf 24 = .ok (.if_icmp .lt 53, 3) := by decide +kernel
theorem dX10_fineOf_27 : decode cX10_fineOf 27 = .ok (.aload_n 0, 1) := by decide +kernel
theorem dX10_fineOf_28 : decode cX10_fineOf 28 = .ok (.getfield 39, 3) := by decide +kernel
theorem dX10_fineOf_31 : decode cX10_fineOf 31 = .ok (.iload_n 1, 1) := by decide +kernel
theorem dX10_fineOf_32 : decode cX10_fineOf 32 = .ok (.iaload, 1) := by decide +kernel
theorem dX10_fineOf_33 : decode cX10_fineOf 33 = .ok (.aload_n 0, 1) := by decide +kernel
theorem dX10_fineOf_34 : decode cX10_fineOf 34 = .ok (.getfield 23, 3) := by decide +kernel
theorem dX10_fineOf_37 : decode cX10_fineOf 37 = .ok (.iconst 3, 1) := by decide +kernel
theorem dX10_fineOf_38 : decode cX10_fineOf 38 = .ok (.iload_n 3, 1) := by decide +kernel
theorem dX10_fineOf_39 : decode cX10_fineOf 39 = .ok (.imul, 1) := by decide +kernel
theorem dX10_fineOf_40 : decode cX10_fineOf 40 = .ok (.iconst 1, 1) := by decide +kernel
theorem dX10_fineOf_41 : decode cX10_fineOf 41 = .ok (.iadd, 1) := by decide +kernel
theorem dX10_fineOf_42 : decode cX10_fineOf 42 = .ok (.iaload, 1) := by decide +kernel
theorem dX10_fineOf_43 : decode cX10_fineOf 43 = .ok (.if_icmp .lt 34, 3) := by decide +kernel
theorem dX10_fineOf_46 : decode cX10_fineOf 46 = .ok (.aload_n 0, 1) := by decide +kernel
theorem dX10_fineOf_47 : decode cX10_fineOf 47 = .ok (.getfield 23, 3) := by decide +kernel
theorem dX10_fineOf_50 : decode cX10_fineOf 50 = .ok (.iconst 3, 1) := by decide +kernel
theorem dX10_fineOf_51 : decode cX10_fineOf 51 = .ok (.iload_n 3, 1) := by decide +kernel
theorem dX10_fineOf_52 : decode cX10_fineOf 52 = .ok (.imul, 1) := by decide +kernel
theorem dX10_fineOf_53 : decode cX10_fineOf 53 = .ok (.iconst 2, 1) := by decide +kernel
theorem dX10_fineOf_54 : decode cX10_fineOf 54 = .ok (.iadd, 1) := by decide +kernel
theorem dX10_fineOf_55 : decode cX10_fineOf 55 = .ok (.iaload, 1) := by decide +kernel
theorem dX10_fineOf_56 : decode cX10_fineOf 56 = .ok (.aload_n 0, 1) := by decide +kernel
theorem dX10_fineOf_57 : decode cX10_fineOf 57 = .ok (.getfield 147, 3) := by decide +kernel
theorem dX10_fineOf_60 : decode cX10_fineOf 60 = .ok (.iload_n 2, 1) := by decide +kernel
theorem dX10_fineOf_61 : decode cX10_fineOf 61 = .ok (.invokestatic 192, 3) := by decide +kernel
theorem dX10_fineOf_64 : decode cX10_fineOf 64 = .ok (.ifCond .eq 10, 3) := by decide +kernel
theorem dX10_fineOf_67 : decode cX10_fineOf 67 = .ok (.aload_n 0, 1) := by decide +kernel
theorem dX10_fineOf_68 : decode cX10_fineOf 68 = .ok (.getfield 26, 3) := by decide +kernel
theorem dX10_fineOf_71 : decode cX10_fineOf 71 = .ok (.goto 4, 3) := by decide +kernel
theorem dX10_fineOf_74 : decode cX10_fineOf 74 = .ok (.iconst 1, 1) := by decide +kernel
theorem dX10_fineOf_75 : decode cX10_fineOf 75 = .ok (.imul, 1) := by decide +kernel
theorem dX10_fineOf_76 : decode cX10_fineOf 76 = .ok (.ireturn, 1) := by decide +kernel
theorem dX10_fineOf_77 : decode cX10_fineOf 77 = .ok (.iinc 3 1, 3) := by decide +kernel
theorem dX10_fineOf_80 : decode cX10_fineOf 80 = .ok (.goto (-78), 3) := by decide +kernel
theorem dX10_fineOf_83 : decode cX10_fineOf 83 = .ok (.iconst 0, 1) := by decide +kernel
theorem dX10_fineOf_84 : decode cX10_fineOf 84 = .ok (.ireturn, 1) := by decide +kernel
theorem dX10_finesAt_0 : decode cX10_finesAt 0 = .ok (.iconst 0, 1) := by decide +kernel
theorem dX10_finesAt_1 : decode cX10_finesAt 1 = .ok (.istore_n 3, 1) := by decide +kernel
theorem dX10_finesAt_2 : decode cX10_finesAt 2 = .ok (.iconst 0, 1) := by decide +kernel
theorem dX10_finesAt_3 : decode cX10_finesAt 3 = .ok (.istore 4, 2) := by decide +kernel
theorem dX10_finesAt_5 : decode cX10_finesAt 5 = .ok (.iload 4, 2) := by decide +kernel
theorem dX10_finesAt_7 : decode cX10_finesAt 7 = .ok (.aload_n 0, 1) := by decide +kernel
theorem dX10_finesAt_8 : decode cX10_finesAt 8 = .ok (.getfield 185, 3) := by decide +kernel
theorem dX10_finesAt_11 : decode cX10_finesAt 11 = .ok (.if_icmp .ge 44, 3) := by decide +kernel
theorem dX10_finesAt_14 : decode cX10_finesAt 14 = .ok (.iload_n 3, 1) := by decide +kernel
theorem dX10_finesAt_15 : decode cX10_finesAt 15 = .ok (.aload_n 0, 1) := by decide +kernel
theorem dX10_finesAt_16 : decode cX10_finesAt 16 = .ok (.getfield 36, 3) := by decide +kernel
theorem dX10_finesAt_19 : decode cX10_finesAt 19 = .ok (.iload 4, 2) := by decide +kernel
theorem dX10_finesAt_21 : decode cX10_finesAt 21 = .ok (.iaload, 1) := by decide +kernel
theorem dX10_finesAt_22 : decode cX10_finesAt 22 = .ok (.iload_n 1, 1) := by decide +kernel
theorem dX10_finesAt_23 : decode cX10_finesAt 23 = .ok (.if_icmp .ne 23, 3) := by decide +kernel
theorem dX10_finesAt_26 : decode cX10_finesAt 26 = .ok (.aload_n 0, 1) := by decide +kernel
theorem dX10_finesAt_27 : decode cX10_finesAt 27 = .ok (.getfield 45, 3) := by decide +kernel
theorem dX10_finesAt_30 : decode cX10_finesAt 30 = .ok (.iload 4, 2) := by decide +kernel
theorem dX10_finesAt_32 : decode cX10_finesAt 32 = .ok (.iaload, 1) := by decide +kernel
theorem dX10_finesAt_33 : decode cX10_finesAt 33 = .ok (.ifCond .le 13, 3) := by decide +kernel
theorem dX10_finesAt_36 : decode cX10_finesAt 36 = .ok (.aload_n 0, 1) := by decide +kernel
theorem dX10_finesAt_37 : decode cX10_finesAt 37 = .ok (.iload 4, 2) := by decide +kernel
theorem dX10_finesAt_39 : decode cX10_finesAt 39 = .ok (.iload_n 2, 1) := by decide +kernel
theorem dX10_finesAt_40 : decode cX10_finesAt 40 = .ok (.invokevirtual 195, 3) := by decide +kernel
theorem dX10_finesAt_43 : decode cX10_finesAt 43 = .ok (.goto 4, 3) := by decide +kernel
theorem dX10_finesAt_46 : decode cX10_finesAt 46 = .ok (.iconst 0, 1) := by decide +kernel
theorem dX10_finesAt_47 : decode cX10_finesAt 47 = .ok (.iadd, 1) := by decide +kernel
theorem dX10_finesAt_48 : decode cX10_finesAt 48 = .ok (.istore_n 3, 1) := by decide +kernel
theorem dX10_finesAt_49 : decode cX10_finesAt 49 = .ok (.iinc 4 1, 3) := by decide +kernel
theorem dX10_finesAt_52 : decode cX10_finesAt 52 = .ok (.goto (-47), 3) := by decide +kernel
theorem dX10_finesAt_55 : decode cX10_finesAt 55 = .ok (.iload_n 3, 1) := by decide +kernel
theorem dX10_finesAt_56 : decode cX10_finesAt 56 = .ok (.ireturn, 1) := by decide +kernel
theorem dX10_costFrom_0 : decode cX10_costFrom 0 = .ok (.aload_n 0, 1) := by decide +kernel
theorem dX10_costFrom_1 : decode cX10_costFrom 1 = .ok (.iload_n 2, 1) := by decide +kernel
theorem dX10_costFrom_2 : decode cX10_costFrom 2 = .ok (.iload_n 3, 1) := by decide +kernel
theorem dX10_costFrom_3 : decode cX10_costFrom 3 = .ok (.iload 4, 2) := by decide +kernel
theorem dX10_costFrom_5 : decode cX10_costFrom 5 = .ok (.invokevirtual 199, 3) := by decide +kernel
theorem dX10_costFrom_8 : decode cX10_costFrom 8 = .ok (.iconst 0, 1) := by decide +kernel
theorem dX10_costFrom_9 : decode cX10_costFrom 9 = .ok (.istore 6, 2) := by decide +kernel
theorem dX10_costFrom_11 : decode cX10_costFrom 11 = .ok (.iconst 0, 1) := by decide +kernel
theorem dX10_costFrom_12 : decode cX10_costFrom 12 = .ok (.istore 7, 2) := by decide +kernel
theorem dX10_costFrom_14 : decode cX10_costFrom 14 = .ok (.iload 7, 2) := by decide +kernel
theorem dX10_costFrom_16 : decode cX10_costFrom 16 = .ok (.bipush 6, 2) := by decide +kernel
theorem dX10_costFrom_18 : decode cX10_costFrom 18 = .ok (.if_icmp .ge 54, 3) := by decide +kernel
theorem dX10_costFrom_21 : decode cX10_costFrom 21 = .ok (.iload 6, 2) := by decide +kernel
theorem dX10_costFrom_23 : decode cX10_costFrom 23 = .ok (.iload 7, 2) := by decide +kernel
theorem dX10_costFrom_25 : decode cX10_costFrom 25 = .ok (.iload_n 1, 1) := by decide +kernel
theorem dX10_costFrom_26 : decode cX10_costFrom 26 = .ok (.if_icmp .eq 36, 3) := by decide +kernel
theorem dX10_costFrom_29 : decode cX10_costFrom 29 = .ok (.aload_n 0, 1) := by decide +kernel
theorem dX10_costFrom_30 : decode cX10_costFrom 30 = .ok (.getfield 7, 3) := by decide +kernel
theorem dX10_costFrom_33 : decode cX10_costFrom 33 = .ok (.bipush 38, 2) := by decide +kernel
theorem dX10_costFrom_35 : decode cX10_costFrom 35 = .ok (.iload 7, 2) := by decide +kernel
theorem dX10_costFrom_37 : decode cX10_costFrom 37 = .ok (.iadd, 1) := by decide +kernel
theorem dX10_costFrom_38 : decode cX10_costFrom 38 = .ok (.iaload, 1) := by decide +kernel
theorem dX10_costFrom_39 : decode cX10_costFrom 39 = .ok (.iconst (-1), 1) := by decide +kernel
theorem dX10_costFrom_40 : decode cX10_costFrom 40 = .ok (.if_icmp .eq 22, 3) := by decide +kernel
theorem dX10_costFrom_43 : decode cX10_costFrom 43 = .ok (.aload_n 0, 1) := by decide +kernel
theorem dX10_costFrom_44 : decode cX10_costFrom 44 = .ok (.aload_n 0, 1) := by decide +kernel
theorem dX10_costFrom_45 : decode cX10_costFrom 45 = .ok (.getfield 7, 3) := by decide +kernel
theorem dX10_costFrom_48 : decode cX10_costFrom 48 = .ok (.bipush 38, 2) := by decide +kernel
theorem dX10_costFrom_50 : decode cX10_costFrom 50 = .ok (.iload 7, 2) := by decide +kernel
theorem dX10_costFrom_52 : decode cX10_costFrom 52 = .ok (.iadd, 1) := by decide +kernel
theorem dX10_costFrom_53 : decode cX10_costFrom 53 = .ok (.iaload, 1) := by decide +kernel
theorem dX10_costFrom_54 : decode cX10_costFrom 54 = .ok (.iload 5, 2) := by decide +kernel
theorem dX10_costFrom_56 : decode cX10_costFrom 56 = .ok (.invokevirtual 203, 3) := by decide +kernel
theorem dX10_costFrom_59 : decode cX10_costFrom 59 = .ok (.goto 4, 3) := by decide +kernel
theorem dX10_costFrom_62 : decode cX10_costFrom 62 = .ok (.iconst 0, 1) := by decide +kernel
theorem dX10_costFrom_63 : decode cX10_costFrom 63 = .ok (.iadd, 1) := by decide +kernel
theorem dX10_costFrom_64 : decode cX10_costFrom 64 = .ok (.istore 6, 2) := by decide +kernel
theorem dX10_costFrom_66 : decode cX10_costFrom 66 = .ok (.iinc 7 1, 3) := by decide +kernel
theorem dX10_costFrom_69 : decode cX10_costFrom 69 = .ok (.goto (-55), 3) := by decide +kernel
theorem dX10_costFrom_72 : decode cX10_costFrom 72 = .ok (.iload 6, 2) := by decide +kernel
theorem dX10_costFrom_74 : decode cX10_costFrom 74 = .ok (.ireturn, 1) := by decide +kernel
theorem dX10_isLoud_0 : decode cX10_isLoud 0 = .ok (.iload_n 0, 1) := by decide +kernel
theorem dX10_isLoud_1 : decode cX10_isLoud 1 = .ok (.i2l, 1) := by decide +kernel
theorem dX10_isLoud_2 : decode cX10_isLoud 2 = .ok (.lconst 1, 1) := by decide +kernel
theorem dX10_isLoud_3 : decode cX10_isLoud 3 = .ok (.ldc2_w 206, 3) := by decide +kernel
theorem dX10_isLoud_6 : decode cX10_isLoud 6 = .ok (.invokestatic 65, 3) := by decide +kernel
theorem dX10_isLoud_9 : decode cX10_isLoud 9 = .ok (.ireturn, 1) := by decide +kernel
theorem dX10_isHour_0 : decode cX10_isHour 0 = .ok (.iload_n 0, 1) := by decide +kernel
theorem dX10_isHour_1 : decode cX10_isHour 1 = .ok (.i2l, 1) := by decide +kernel
theorem dX10_isHour_2 : decode cX10_isHour 2 = .ok (.lconst 0, 1) := by decide +kernel
theorem dX10_isHour_3 : decode cX10_isHour 3 = .ok (.ldc2_w 208, 3) := by decide +kernel
theorem dX10_isHour_6 : decode cX10_isHour 6 = .ok (.invokestatic 65, 3) := by decide +kernel
theorem dX10_isHour_9 : decode cX10_isHour 9 = .ok (.ireturn, 1) := by decide +kernel
theorem dX10_refuses_0 : decode cX10_refuses 0 = .ok (.iload_n 1, 1) := by decide +kernel
theorem dX10_refuses_1 : decode cX10_refuses 1 = .ok (.invokestatic 170, 3) := by decide +kernel
theorem dX10_refuses_4 : decode cX10_refuses 4 = .ok (.ifCond .ne 8, 3) := by decide +kernel
theorem dX10_refuses_7 : decode cX10_refuses 7 = .ok (.bipush (-2), 2) := by decide +kernel
theorem dX10_refuses_9 : decode cX10_refuses 9 = .ok (.goto 46, 3) := by decide +kernel
theorem dX10_refuses_12 : decode cX10_refuses 12 = .ok (.iload_n 2, 1) := by decide +kernel
theorem dX10_refuses_13 : decode cX10_refuses 13 = .ok (.invokestatic 210, 3) := by decide +kernel
theorem dX10_refuses_16 : decode cX10_refuses 16 = .ok (.ifCond .eq 15, 3) := by decide +kernel
theorem dX10_refuses_19 : decode cX10_refuses 19 = .ok (.iload_n 3, 1) := by decide +kernel
theorem dX10_refuses_20 : decode cX10_refuses 20 = .ok (.invokestatic 213, 3) := by decide +kernel
theorem dX10_refuses_23 : decode cX10_refuses 23 = .ok (.ifCond .eq 8, 3) := by decide +kernel
theorem dX10_refuses_26 : decode cX10_refuses 26 = .ok (.iload 4, 2) := by decide +kernel
theorem dX10_refuses_28 : decode cX10_refuses 28 = .ok (.ifCond .ne 8, 3) := by decide +kernel
theorem dX10_refuses_31 : decode cX10_refuses 31 = .ok (.bipush (-3), 2) := by decide +kernel
theorem dX10_refuses_33 : decode cX10_refuses 33 = .ok (.goto 22, 3) := by decide +kernel
theorem dX10_refuses_36 : decode cX10_refuses 36 = .ok (.aload_n 0, 1) := by decide +kernel
theorem dX10_refuses_37 : decode cX10_refuses 37 = .ok (.getfield 7, 3) := by decide +kernel
theorem dX10_refuses_40 : decode cX10_refuses 40 = .ok (.bipush 38, 2) := by decide +kernel
theorem dX10_refuses_42 : decode cX10_refuses 42 = .ok (.iload_n 1, 1) := by decide +kernel
theorem dX10_refuses_43 : decode cX10_refuses 43 = .ok (.iadd, 1) := by decide +kernel
theorem dX10_refuses_44 : decode cX10_refuses 44 = .ok (.iaload, 1) := by decide +kernel
theorem dX10_refuses_45 : decode cX10_refuses 45 = .ok (.iconst (-1), 1) := by decide +kernel
theorem dX10_refuses_46 : decode cX10_refuses 46 = .ok (.if_icmp .ne 8, 3) := by decide +kernel
theorem dX10_refuses_49 : decode cX10_refuses 49 = .ok (.bipush (-4), 2) := by decide +kernel
theorem dX10_refuses_51 : decode cX10_refuses 51 = .ok (.goto 4, 3) := by decide +kernel
theorem dX10_refuses_54 : decode cX10_refuses 54 = .ok (.iconst 0, 1) := by decide +kernel
theorem dX10_refuses_55 : decode cX10_refuses 55 = .ok (.ireturn, 1) := by decide +kernel
theorem dX10_cry_0 : decode cX10_cry 0 = .ok (.aload_n 0, 1) := by decide +kernel
theorem dX10_cry_1 : decode cX10_cry 1 = .ok (.iload_n 1, 1) := by decide +kernel
theorem dX10_cry_2 : decode cX10_cry 2 = .ok (.iload_n 2, 1) := by decide +kernel
theorem dX10_cry_3 : decode cX10_cry 3 = .ok (.iload 4, 2) := by decide +kernel
theorem dX10_cry_5 : decode cX10_cry 5 = .ok (.iconst 1, 1) := by decide +kernel
theorem dX10_cry_6 : decode cX10_cry 6 = .ok (.invokevirtual 216, 3) := by decide +kernel
theorem dX10_cry_9 : decode cX10_cry 9 = .ok (.istore 5, 2) := by decide +kernel
theorem dX10_cry_11 : decode cX10_cry 11 = .ok (.iload 5, 2) := by decide +kernel
theorem dX10_cry_13 : decode cX10_cry 13 = .ok (.ifCond .ge 6, 3) := by decide +kernel
theorem dX10_cry_16 : decode cX10_cry 16 = .ok (.iload 5, 2) := by decide +kernel
theorem dX10_cry_18 : decode cX10_cry 18 = .ok (.ireturn, 1) := by decide +kernel
theorem dX10_cry_19 : decode cX10_cry 19 = .ok (.aload_n 0, 1) := by decide +kernel
theorem dX10_cry_20 : decode cX10_cry 20 = .ok (.getfield 7, 3) := by decide +kernel
theorem dX10_cry_23 : decode cX10_cry 23 = .ok (.bipush 80, 2) := by decide +kernel
theorem dX10_cry_25 : decode cX10_cry 25 = .ok (.iaload, 1) := by decide +kernel
theorem dX10_cry_26 : decode cX10_cry 26 = .ok (.bipush 20, 2) := by decide +kernel
theorem dX10_cry_28 : decode cX10_cry 28 = .ok (.if_icmp .ne 6, 3) := by decide +kernel
theorem dX10_cry_31 : decode cX10_cry 31 = .ok (.bipush (-5), 2) := by decide +kernel
theorem dX10_cry_33 : decode cX10_cry 33 = .ok (.ireturn, 1) := by decide +kernel
theorem dX10_cry_34 : decode cX10_cry 34 = .ok (.bipush 81, 2) := by decide +kernel
theorem dX10_cry_36 : decode cX10_cry 36 = .ok (.iconst 4, 1) := by decide +kernel
theorem dX10_cry_37 : decode cX10_cry 37 = .ok (.aload_n 0, 1) := by decide +kernel
theorem dX10_cry_38 : decode cX10_cry 38 = .ok (.getfield 7, 3) := by decide +kernel
theorem dX10_cry_41 : decode cX10_cry 41 = .ok (.bipush 80, 2) := by decide +kernel
theorem dX10_cry_43 : decode cX10_cry 43 = .ok (.iaload, 1) := by decide +kernel
theorem dX10_cry_44 : decode cX10_cry 44 = .ok (.imul, 1) := by decide +kernel
theorem dX10_cry_45 : decode cX10_cry 45 = .ok (.iadd, 1) := by decide +kernel
theorem dX10_cry_46 : decode cX10_cry 46 = .ok (.istore 6, 2) := by decide +kernel
theorem dX10_cry_48 : decode cX10_cry 48 = .ok (.aload_n 0, 1) := by decide +kernel
theorem dX10_cry_49 : decode cX10_cry 49 = .ok (.getfield 7, 3) := by decide +kernel
theorem dX10_cry_52 : decode cX10_cry 52 = .ok (.iload 6, 2) := by decide +kernel
theorem dX10_cry_54 : decode cX10_cry 54 = .ok (.iload_n 1, 1) := by decide +kernel
theorem dX10_cry_55 : decode cX10_cry 55 = .ok (.iastore, 1) := by decide +kernel
theorem dX10_cry_56 : decode cX10_cry 56 = .ok (.aload_n 0, 1) := by decide +kernel
theorem dX10_cry_57 : decode cX10_cry 57 = .ok (.getfield 7, 3) := by decide +kernel
theorem dX10_cry_60 : decode cX10_cry 60 = .ok (.iload 6, 2) := by decide +kernel
theorem dX10_cry_62 : decode cX10_cry 62 = .ok (.iconst 1, 1) := by decide +kernel
theorem dX10_cry_63 : decode cX10_cry 63 = .ok (.iadd, 1) := by decide +kernel
theorem dX10_cry_64 : decode cX10_cry 64 = .ok (.iload_n 2, 1) := by decide +kernel
theorem dX10_cry_65 : decode cX10_cry 65 = .ok (.iastore, 1) := by decide +kernel
theorem dX10_cry_66 : decode cX10_cry 66 = .ok (.aload_n 0, 1) := by decide +kernel
theorem dX10_cry_67 : decode cX10_cry 67 = .ok (.getfield 7, 3) := by decide +kernel
theorem dX10_cry_70 : decode cX10_cry 70 = .ok (.iload 6, 2) := by decide +kernel
theorem dX10_cry_72 : decode cX10_cry 72 = .ok (.iconst 2, 1) := by decide +kernel
theorem dX10_cry_73 : decode cX10_cry 73 = .ok (.iadd, 1) := by decide +kernel
theorem dX10_cry_74 : decode cX10_cry 74 = .ok (.iload_n 3, 1) := by decide +kernel
theorem dX10_cry_75 : decode cX10_cry 75 = .ok (.ifCond .eq 7, 3) := by decide +kernel
theorem dX10_cry_78 : decode cX10_cry 78 = .ok (.iconst 1, 1) := by decide +kernel
theorem dX10_cry_79 : decode cX10_cry 79 = .ok (.goto 4, 3) := by decide +kernel
theorem dX10_cry_82 : decode cX10_cry 82 = .ok (.iconst 0, 1) := by decide +kernel
theorem dX10_cry_83 : decode cX10_cry 83 = .ok (.iastore, 1) := by decide +kernel
theorem dX10_cry_84 : decode cX10_cry 84 = .ok (.aload_n 0, 1) := by decide +kernel
theorem dX10_cry_85 : decode cX10_cry 85 = .ok (.getfield 7, 3) := by decide +kernel
theorem dX10_cry_88 : decode cX10_cry 88 = .ok (.iload 6, 2) := by decide +kernel
theorem dX10_cry_90 : decode cX10_cry 90 = .ok (.iconst 3, 1) := by decide +kernel
theorem dX10_cry_91 : decode cX10_cry 91 = .ok (.iadd, 1) := by decide +kernel
theorem dX10_cry_92 : decode cX10_cry 92 = .ok (.iload 4, 2) := by decide +kernel
theorem dX10_cry_94 : decode cX10_cry 94 = .ok (.iastore, 1) := by decide +kernel
theorem dX10_cry_95 : decode cX10_cry 95 = .ok (.aload_n 0, 1) := by decide +kernel
theorem dX10_cry_96 : decode cX10_cry 96 = .ok (.getfield 7, 3) := by decide +kernel
theorem dX10_cry_99 : decode cX10_cry 99 = .ok (.bipush 80, 2) := by decide +kernel
theorem dX10_cry_101 : decode cX10_cry 101 = .ok (.dup2, 1) := by decide +kernel
theorem dX10_cry_102 : decode cX10_cry 102 = .ok (.iaload, 1) := by decide +kernel
theorem dX10_cry_103 : decode cX10_cry 103 = .ok (.iconst 1, 1) := by decide +kernel
theorem dX10_cry_104 : decode cX10_cry 104 = .ok (.iadd, 1) := by decide +kernel
theorem dX10_cry_105 : decode cX10_cry 105 = .ok (.iastore, 1) := by decide +kernel
theorem dX10_cry_106 : decode cX10_cry 106 = .ok (.aload_n 0, 1) := by decide +kernel
theorem dX10_cry_107 : decode cX10_cry 107 = .ok (.iload_n 1, 1) := by decide +kernel
theorem dX10_cry_108 : decode cX10_cry 108 = .ok (.aload_n 0, 1) := by decide +kernel
theorem dX10_cry_109 : decode cX10_cry 109 = .ok (.getfield 7, 3) := by decide +kernel
theorem dX10_cry_112 : decode cX10_cry 112 = .ok (.bipush 38, 2) := by decide +kernel
theorem dX10_cry_114 : decode cX10_cry 114 = .ok (.iload_n 1, 1) := by decide +kernel
theorem dX10_cry_115 : decode cX10_cry 115 = .ok (.iadd, 1) := by decide +kernel
theorem dX10_cry_116 : decode cX10_cry 116 = .ok (.iaload, 1) := by decide +kernel
theorem dX10_cry_117 : decode cX10_cry 117 = .ok (.iload_n 2, 1) := by decide +kernel
theorem dX10_cry_118 : decode cX10_cry 118 = .ok (.iload_n 3, 1) := by decide +kernel
theorem dX10_cry_119 : decode cX10_cry 119 = .ok (.iload 4, 2) := by decide +kernel
theorem dX10_cry_121 : decode cX10_cry 121 = .ok (.invokevirtual 220, 3) := by decide +kernel
theorem dX10_cry_124 : decode cX10_cry 124 = .ok (.istore 7, 2) := by decide +kernel
theorem dX10_cry_126 : decode cX10_cry 126 = .ok (.iconst 0, 1) := by decide +kernel
theorem dX10_cry_127 : decode cX10_cry 127 = .ok (.istore 8, 2) := by decide +kernel
theorem dX10_cry_129 : decode cX10_cry 129 = .ok (.iload 8, 2) := by decide +kernel
theorem dX10_cry_131 : decode cX10_cry 131 = .ok (.bipush 6, 2) := by decide +kernel
theorem dX10_cry_133 : decode cX10_cry 133 = .ok (.if_icmp .ge 67, 3) := by decide +kernel
theorem dX10_cry_136 : decode cX10_cry 136 = .ok (.aload_n 0, 1) := by decide +kernel
theorem dX10_cry_137 : decode cX10_cry 137 = .ok (.getfield 7, 3) := by decide +kernel
theorem dX10_cry_140 : decode cX10_cry 140 = .ok (.bipush 44, 2) := by decide +kernel
theorem dX10_cry_142 : decode cX10_cry 142 = .ok (.bipush 6, 2) := by decide +kernel
theorem dX10_cry_144 : decode cX10_cry 144 = .ok (.iload_n 1, 1) := by decide +kernel
theorem dX10_cry_145 : decode cX10_cry 145 = .ok (.imul, 1) := by decide +kernel
theorem dX10_cry_146 : decode cX10_cry 146 = .ok (.iadd, 1) := by decide +kernel
theorem dX10_cry_147 : decode cX10_cry 147 = .ok (.iload 8, 2) := by decide +kernel
theorem dX10_cry_149 : decode cX10_cry 149 = .ok (.iadd, 1) := by decide +kernel
theorem dX10_cry_150 : decode cX10_cry 150 = .ok (.dup2, 1) := by decide +kernel
theorem dX10_cry_151 : decode cX10_cry 151 = .ok (.iaload, 1) := by decide +kernel
theorem dX10_cry_152 : decode cX10_cry 152 = .ok (.iload 8, 2) := by decide +kernel
theorem dX10_cry_154 : decode cX10_cry 154 = .ok (.iload_n 1, 1) := by decide +kernel
theorem dX10_cry_155 : decode cX10_cry 155 = .ok (.if_icmp .eq 36, 3) := by decide +kernel
theorem dX10_cry_158 : decode cX10_cry 158 = .ok (.aload_n 0, 1) := by decide +kernel
theorem dX10_cry_159 : decode cX10_cry 159 = .ok (.getfield 7, 3) := by decide +kernel
theorem dX10_cry_162 : decode cX10_cry 162 = .ok (.bipush 38, 2) := by decide +kernel
theorem dX10_cry_164 : decode cX10_cry 164 = .ok (.iload 8, 2) := by decide +kernel
theorem dX10_cry_166 : decode cX10_cry 166 = .ok (.iadd, 1) := by decide +kernel
theorem dX10_cry_167 : decode cX10_cry 167 = .ok (.iaload, 1) := by decide +kernel
theorem dX10_cry_168 : decode cX10_cry 168 = .ok (.iconst (-1), 1) := by decide +kernel
theorem dX10_cry_169 : decode cX10_cry 169 = .ok (.if_icmp .eq 22, 3) := by decide +kernel
theorem dX10_cry_172 : decode cX10_cry 172 = .ok (.aload_n 0, 1) := by decide +kernel
theorem dX10_cry_173 : decode cX10_cry 173 = .ok (.aload_n 0, 1) := by decide +kernel
theorem dX10_cry_174 : decode cX10_cry 174 = .ok (.getfield 7, 3) := by decide +kernel
theorem dX10_cry_177 : decode cX10_cry 177 = .ok (.bipush 38, 2) := by decide +kernel
theorem dX10_cry_179 : decode cX10_cry 179 = .ok (.iload 8, 2) := by decide +kernel
theorem dX10_cry_181 : decode cX10_cry 181 = .ok (.iadd, 1) := by decide +kernel
theorem dX10_cry_182 : decode cX10_cry 182 = .ok (.iaload, 1) := by decide +kernel
theorem dX10_cry_183 : decode cX10_cry 183 = .ok (.iload 4, 2) := by decide +kernel
theorem dX10_cry_185 : decode cX10_cry 185 = .ok (.invokevirtual 203, 3) := by decide +kernel
theorem dX10_cry_188 : decode cX10_cry 188 = .ok (.goto 4, 3) := by decide +kernel
theorem dX10_cry_191 : decode cX10_cry 191 = .ok (.iconst 0, 1) := by decide +kernel
theorem dX10_cry_192 : decode cX10_cry 192 = .ok (.iadd, 1) := by decide +kernel
theorem dX10_cry_193 : decode cX10_cry 193 = .ok (.iastore, 1) := by decide +kernel
theorem dX10_cry_194 : decode cX10_cry 194 = .ok (.iinc 8 1, 3) := by decide +kernel
theorem dX10_cry_197 : decode cX10_cry 197 = .ok (.goto (-68), 3) := by decide +kernel
theorem dX10_cry_200 : decode cX10_cry 200 = .ok (.iload 7, 2) := by decide +kernel
theorem dX10_cry_202 : decode cX10_cry 202 = .ok (.ireturn, 1) := by decide +kernel
theorem dX10_costs_0 : decode cX10_costs 0 = .ok (.aload_n 0, 1) := by decide +kernel
theorem dX10_costs_1 : decode cX10_costs 1 = .ok (.iload_n 1, 1) := by decide +kernel
theorem dX10_costs_2 : decode cX10_costs 2 = .ok (.iload_n 2, 1) := by decide +kernel
theorem dX10_costs_3 : decode cX10_costs 3 = .ok (.iload 4, 2) := by decide +kernel
theorem dX10_costs_5 : decode cX10_costs 5 = .ok (.iconst 1, 1) := by decide +kernel
theorem dX10_costs_6 : decode cX10_costs 6 = .ok (.invokevirtual 216, 3) := by decide +kernel
theorem dX10_costs_9 : decode cX10_costs 9 = .ok (.istore 5, 2) := by decide +kernel
theorem dX10_costs_11 : decode cX10_costs 11 = .ok (.iload 5, 2) := by decide +kernel
theorem dX10_costs_13 : decode cX10_costs 13 = .ok (.ifCond .ge 8, 3) := by decide +kernel
theorem dX10_costs_16 : decode cX10_costs 16 = .ok (.iload 5, 2) := by decide +kernel
theorem dX10_costs_18 : decode cX10_costs 18 = .ok (.goto 21, 3) := by decide +kernel
theorem dX10_costs_21 : decode cX10_costs 21 = .ok (.aload_n 0, 1) := by decide +kernel
theorem dX10_costs_22 : decode cX10_costs 22 = .ok (.iload_n 1, 1) := by decide +kernel
theorem dX10_costs_23 : decode cX10_costs 23 = .ok (.aload_n 0, 1) := by decide +kernel
theorem dX10_costs_24 : decode cX10_costs 24 = .ok (.getfield 7, 3) := by decide +kernel
theorem dX10_costs_27 : decode cX10_costs 27 = .ok (.bipush 38, 2) := by decide +kernel
theorem dX10_costs_29 : decode cX10_costs 29 = .ok (.iload_n 1, 1) := by decide +kernel
theorem dX10_costs_30 : decode cX10_costs 30 = .ok (.iadd, 1) := by decide +kernel
theorem dX10_costs_31 : decode cX10_costs 31 = .ok (.iaload, 1) := by decide +kernel
theorem dX10_costs_32 : decode cX10_costs 32 = .ok (.iload_n 2, 1) := by decide +kernel
theorem dX10_costs_33 : decode cX10_costs 33 = .ok (.iload_n 3, 1) := by decide +kernel
theorem dX10_costs_34 : decode cX10_costs 34 = .ok (.iload 4, 2) := by decide +kernel
theorem dX10_costs_36 : decode cX10_costs 36 = .ok (.invokevirtual 220, 3) := by decide +kernel
theorem dX10_costs_39 : decode cX10_costs 39 = .ok (.ireturn, 1) := by decide +kernel
theorem dX10_sounds_0 : decode cX10_sounds 0 = .ok (.aload_n 0, 1) := by decide +kernel
theorem dX10_sounds_1 : decode cX10_sounds 1 = .ok (.iload_n 1, 1) := by decide +kernel
theorem dX10_sounds_2 : decode cX10_sounds 2 = .ok (.invokevirtual 161, 3) := by decide +kernel
theorem dX10_sounds_5 : decode cX10_sounds 5 = .ok (.ifCond .eq 12, 3) := by decide +kernel
theorem dX10_sounds_8 : decode cX10_sounds 8 = .ok (.aload_n 0, 1) := by decide +kernel
theorem dX10_sounds_9 : decode cX10_sounds 9 = .ok (.iload 4, 2) := by decide +kernel
theorem dX10_sounds_11 : decode cX10_sounds 11 = .ok (.invokevirtual 161, 3) := by decide +kernel
theorem dX10_sounds_14 : decode cX10_sounds 14 = .ok (.ifCond .ne 6, 3) := by decide +kernel
theorem dX10_sounds_17 : decode cX10_sounds 17 = .ok (.bipush (-2), 2) := by decide +kernel
theorem dX10_sounds_19 : decode cX10_sounds 19 = .ok (.ireturn, 1) := by decide +kernel
theorem dX10_sounds_20 : decode cX10_sounds 20 = .ok (.iload_n 2, 1) := by decide +kernel
theorem dX10_sounds_21 : decode cX10_sounds 21 = .ok (.invokestatic 210, 3) := by decide +kernel
theorem dX10_sounds_24 : decode cX10_sounds 24 = .ok (.ifCond .eq 16, 3) := by decide +kernel
theorem dX10_sounds_27 : decode cX10_sounds 27 = .ok (.iload 5, 2) := by decide +kernel
theorem dX10_sounds_29 : decode cX10_sounds 29 = .ok (.i2l, 1) := by decide +kernel
theorem dX10_sounds_30 : decode cX10_sounds 30 = .ok (.lconst 0, 1) := by decide +kernel
theorem dX10_sounds_31 : decode cX10_sounds 31 = .ok (.ldc2_w 224, 3) := by decide +kernel
theorem dX10_sounds_34 : decode cX10_sounds 34 = .ok (.invokestatic 65, 3) := by decide +kernel
theorem dX10_sounds_37 : decode cX10_sounds 37 = .ok (.ifCond .ne 6, 3) := by decide +kernel
theorem dX10_sounds_40 : decode cX10_sounds 40 = .ok (.bipush (-3), 2) := by decide +kernel
theorem dX10_sounds_42 : decode cX10_sounds 42 = .ok (.ireturn, 1) := by decide +kernel
theorem dX10_sounds_43 : decode cX10_sounds 43 = .ok (.aload_n 0, 1) := by decide +kernel
theorem dX10_sounds_44 : decode cX10_sounds 44 = .ok (.iload_n 1, 1) := by decide +kernel
theorem dX10_sounds_45 : decode cX10_sounds 45 = .ok (.invokevirtual 164, 3) := by decide +kernel
theorem dX10_sounds_48 : decode cX10_sounds 48 = .ok (.ifCond .eq 12, 3) := by decide +kernel
theorem dX10_sounds_51 : decode cX10_sounds 51 = .ok (.aload_n 0, 1) := by decide +kernel
theorem dX10_sounds_52 : decode cX10_sounds 52 = .ok (.iload 4, 2) := by decide +kernel
theorem dX10_sounds_54 : decode cX10_sounds 54 = .ok (.invokevirtual 164, 3) := by decide +kernel
theorem dX10_sounds_57 : decode cX10_sounds 57 = .ok (.ifCond .ne 6, 3) := by decide +kernel
theorem dX10_sounds_60 : decode cX10_sounds 60 = .ok (.bipush (-4), 2) := by decide +kernel
theorem dX10_sounds_62 : decode cX10_sounds 62 = .ok (.ireturn, 1) := by decide +kernel
theorem dX10_sounds_63 : decode cX10_sounds 63 = .ok (.aload_n 0, 1) := by decide +kernel
theorem dX10_sounds_64 : decode cX10_sounds 64 = .ok (.iload_n 1, 1) := by decide +kernel
theorem dX10_sounds_65 : decode cX10_sounds 65 = .ok (.iload_n 2, 1) := by decide +kernel
theorem dX10_sounds_66 : decode cX10_sounds 66 = .ok (.iload_n 3, 1) := by decide +kernel
theorem dX10_sounds_67 : decode cX10_sounds 67 = .ok (.invokevirtual 199, 3) := by decide +kernel
theorem dX10_sounds_70 : decode cX10_sounds 70 = .ok (.iconst 0, 1) := by decide +kernel
theorem dX10_sounds_71 : decode cX10_sounds 71 = .ok (.istore 6, 2) := by decide +kernel
theorem dX10_sounds_73 : decode cX10_sounds 73 = .ok (.iconst 0, 1) := by decide +kernel
theorem dX10_sounds_74 : decode cX10_sounds 74 = .ok (.istore 7, 2) := by decide +kernel
theorem dX10_sounds_76 : decode cX10_sounds 76 = .ok (.iconst (-1), 1) := by decide +kernel
theorem dX10_sounds_77 : decode cX10_sounds 77 = .ok (.istore 8, 2) := by decide +kernel
theorem dX10_sounds_79 : decode cX10_sounds 79 = .ok (.iconst (-1), 1) := by decide +kernel
theorem dX10_sounds_80 : decode cX10_sounds 80 = .ok (.istore 9, 2) := by decide +kernel
theorem dX10_sounds_82 : decode cX10_sounds 82 = .ok (.iconst 0, 1) := by decide +kernel
theorem dX10_sounds_83 : decode cX10_sounds 83 = .ok (.istore 10, 2) := by decide +kernel
theorem dX10_sounds_85 : decode cX10_sounds 85 = .ok (.iload 10, 2) := by decide +kernel
theorem dX10_sounds_87 : decode cX10_sounds 87 = .ok (.aload_n 0, 1) := by decide +kernel
theorem dX10_sounds_88 : decode cX10_sounds 88 = .ok (.getfield 185, 3) := by decide +kernel
theorem dX10_sounds_91 : decode cX10_sounds 91 = .ok (.if_icmp .ge 102, 3) := by decide +kernel
theorem dX10_sounds_94 : decode cX10_sounds 94 = .ok (.aload_n 0, 1) := by decide +kernel
theorem dX10_sounds_95 : decode cX10_sounds 95 = .ok (.getfield 36, 3) := by decide +kernel
theorem dX10_sounds_98 : decode cX10_sounds 98 = .ok (.iload 10, 2) := by decide +kernel
theorem dX10_sounds_100 : decode cX10_sounds 100 = .ok (.iaload, 1) := by decide +kernel
theorem dX10_sounds_101 : decode cX10_sounds 101 = .ok (.iload 4, 2) := by decide +kernel
theorem dX10_sounds_103 : decode cX10_sounds 103 = .ok (.if_icmp .ne 84, 3) := by decide +kernel
theorem dX10_sounds_106 : decode cX10_sounds 106 = .ok (.iinc 6 1, 3) := by decide +kernel
theorem dX10_sounds_109 : decode cX10_sounds 109 = .ok (.iload 7, 2) := by decide +kernel
theorem dX10_sounds_111 : decode cX10_sounds 111 = .ok (.aload_n 0, 1) := by decide +kernel
theorem dX10_sounds_112 : decode cX10_sounds 112 = .ok (.getfield 45, 3) := by decide +kernel
theorem dX10_sounds_115 : decode cX10_sounds 115 = .ok (.iload 10, 2) := by decide +kernel
theorem dX10_sounds_117 : decode cX10_sounds 117 = .ok (.iaload, 1) := by decide +kernel
theorem dX10_sounds_118 : decode cX10_sounds 118 = .ok (.ifCond .le 7, 3) := by decide +kernel
theorem dX10_sounds_121 : decode cX10_sounds 121 = .ok (.iconst 1, 1) := by decide +kernel
theorem dX10_sounds_122 : decode cX10_sounds 122 = .ok (.goto 4, 3) := by decide +kernel
theorem dX10_sounds_125 : decode cX10_sounds 125 = .ok (.iconst 0, 1) := by decide +kernel
theorem dX10_sounds_126 : decode cX10_sounds 126 = .ok (.iadd, 1) := by decide +kernel
theorem dX10_sounds_127 : decode cX10_sounds 127 = .ok (.istore 7, 2) := by decide +kernel
theorem dX10_sounds_129 : decode cX10_sounds 129 = .ok (.iload 8, 2) := by decide +kernel
theorem dX10_sounds_131 : decode cX10_sounds 131 = .ok (.iconst (-1), 1) := by decide +kernel
theorem dX10_sounds_132 : decode cX10_sounds 132 = .ok (.if_icmp .eq 15, 3) := by decide +kernel
theorem dX10_sounds_135 : decode cX10_sounds 135 = .ok (.aload_n 0, 1) := by decide +kernel
theorem dX10_sounds_136 : decode cX10_sounds 136 = .ok (.getfield 39, 3) := by decide +kernel
theorem dX10_sounds_139 : decode cX10_sounds 139 = .ok (.iload 10, 2) := by decide +kernel
theorem dX10_sounds_141 : decode cX10_sounds 141 = .ok (.iaload, 1) := by decide +kernel
theorem dX10_sounds_142 : decode cX10_sounds 142 = .ok (.iload 8, 2) := by decide +kernel
theorem dX10_sounds_144 : decode cX10_sounds 144 = .ok (.if_icmp .ge 13, 3) := by decide +kernel
theorem dX10_sounds_147 : decode cX10_sounds 147 = .ok (.aload_n 0, 1) := by decide +kernel
theorem dX10_sounds_148 : decode cX10_sounds 148 = .ok (.getfield 39, 3) := by decide +kernel
theorem dX10_sounds_151 : decode cX10_sounds 151 = .ok (.iload 10, 2) := by decide +kernel
theorem dX10_sounds_153 : decode cX10_sounds 153 = .ok (.iaload, 1) := by decide +kernel
theorem dX10_sounds_154 : decode cX10_sounds 154 = .ok (.goto 5, 3) := by decide +kernel
theorem dX10_sounds_157 : decode cX10_sounds 157 = .ok (.iload 8, 2) := by decide +kernel
theorem dX10_sounds_159 : decode cX10_sounds 159 = .ok (.istore 8, 2) := by decide +kernel
theorem dX10_sounds_161 : decode cX10_sounds 161 = .ok (.aload_n 0, 1) := by decide +kernel
theorem dX10_sounds_162 : decode cX10_sounds 162 = .ok (.getfield 42, 3) := by decide +kernel
theorem dX10_sounds_165 : decode cX10_sounds 165 = .ok (.iload 10, 2) := by decide +kernel
theorem dX10_sounds_167 : decode cX10_sounds 167 = .ok (.iaload, 1) := by decide +kernel
theorem dX10_sounds_168 : decode cX10_sounds 168 = .ok (.iload 9, 2) := by decide +kernel
theorem dX10_sounds_170 : decode cX10_sounds 170 = .ok (.if_icmp .le 13, 3) := by decide +kernel
theorem dX10_sounds_173 : decode cX10_sounds 173 = .ok (.aload_n 0, 1) := by decide +kernel
theorem dX10_sounds_174 : decode cX10_sounds 174 = .ok (.getfield 42, 3) := by decide +kernel
theorem dX10_sounds_177 : decode cX10_sounds 177 = .ok (.iload 10, 2) := by decide +kernel
theorem dX10_sounds_179 : decode cX10_sounds 179 = .ok (.iaload, 1) := by decide +kernel
theorem dX10_sounds_180 : decode cX10_sounds 180 = .ok (.goto 5, 3) := by decide +kernel
theorem dX10_sounds_183 : decode cX10_sounds 183 = .ok (.iload 9, 2) := by decide +kernel
theorem dX10_sounds_185 : decode cX10_sounds 185 = .ok (.istore 9, 2) := by decide +kernel
theorem dX10_sounds_187 : decode cX10_sounds 187 = .ok (.iinc 10 1, 3) := by decide +kernel
theorem dX10_sounds_190 : decode cX10_sounds 190 = .ok (.goto (-105), 3) := by decide +kernel
theorem dX10_sounds_193 : decode cX10_sounds 193 = .ok (.iload 5, 2) := by decide +kernel
theorem dX10_sounds_195 : decode cX10_sounds 195 = .ok (.ifCond .ne 8, 3) := by decide +kernel
theorem dX10_sounds_198 : decode cX10_sounds 198 = .ok (.iload 6, 2) := by decide +kernel
theorem dX10_sounds_200 : decode cX10_sounds 200 = .ok (.goto 27, 3) := by decide +kernel
theorem dX10_sounds_203 : decode cX10_sounds 203 = .ok (.iload 5, 2) := by decide +kernel
theorem dX10_sounds_205 : decode cX10_sounds 205 = .ok (.iconst 1, 1) := by decide +kernel
theorem dX10_sounds_206 : decode cX10_sounds 206 = .ok (.if_icmp .ne 8, 3) := by decide +kernel
theorem dX10_sounds_209 : decode cX10_sounds 209 = .ok (.iload 7, 2) := by decide +kernel
theorem dX10_sounds_211 : decode cX10_sounds 211 = .ok (.goto 16, 3) := by decide +kernel
theorem dX10_sounds_214 : decode cX10_sounds 214 = .ok (.iload 5, 2) := by decide +kernel
theorem dX10_sounds_216 : decode cX10_sounds 216 = .ok (.iconst 2, 1) := by decide +kernel
theorem dX10_sounds_217 : decode cX10_sounds 217 = .ok (.if_icmp .ne 8, 3) := by decide +kernel
theorem dX10_sounds_220 : decode cX10_sounds 220 = .ok (.iload 8, 2) := by decide +kernel
theorem dX10_sounds_222 : decode cX10_sounds 222 = .ok (.goto 5, 3) := by decide +kernel
theorem dX10_sounds_225 : decode cX10_sounds 225 = .ok (.iload 9, 2) := by decide +kernel
theorem dX10_sounds_227 : decode cX10_sounds 227 = .ok (.ireturn, 1) := by decide +kernel
theorem dX10_led_0 : decode cX10_led 0 = .ok (.aload_n 0, 1) := by decide +kernel
theorem dX10_led_1 : decode cX10_led 1 = .ok (.iload_n 1, 1) := by decide +kernel
theorem dX10_led_2 : decode cX10_led 2 = .ok (.invokevirtual 161, 3) := by decide +kernel
theorem dX10_led_5 : decode cX10_led 5 = .ok (.ifCond .ne 6, 3) := by decide +kernel
theorem dX10_led_8 : decode cX10_led 8 = .ok (.bipush (-2), 2) := by decide +kernel
theorem dX10_led_10 : decode cX10_led 10 = .ok (.ireturn, 1) := by decide +kernel
theorem dX10_led_11 : decode cX10_led 11 = .ok (.iload_n 2, 1) := by decide +kernel
theorem dX10_led_12 : decode cX10_led 12 = .ok (.invokestatic 210, 3) := by decide +kernel
theorem dX10_led_15 : decode cX10_led 15 = .ok (.ifCond .eq 21, 3) := by decide +kernel
theorem dX10_led_18 : decode cX10_led 18 = .ok (.iload 4, 2) := by decide +kernel
theorem dX10_led_20 : decode cX10_led 20 = .ok (.ifCond .lt 16, 3) := by decide +kernel
theorem dX10_led_23 : decode cX10_led 23 = .ok (.iload 5, 2) := by decide +kernel
theorem dX10_led_25 : decode cX10_led 25 = .ok (.i2l, 1) := by decide +kernel
theorem dX10_led_26 : decode cX10_led 26 = .ok (.lconst 0, 1) := by decide +kernel
theorem dX10_led_27 : decode cX10_led 27 = .ok (.ldc2_w 226, 3) := by decide +kernel
theorem dX10_led_30 : decode cX10_led 30 = .ok (.invokestatic 65, 3) := by decide +kernel
theorem dX10_led_33 : decode cX10_led 33 = .ok (.ifCond .ne 6, 3) := by decide +kernel
theorem dX10_led_36 : decode cX10_led 36 = .ok (.bipush (-3), 2) := by decide +kernel
theorem dX10_led_38 : decode cX10_led 38 = .ok (.ireturn, 1) := by decide +kernel
theorem dX10_led_39 : decode cX10_led 39 = .ok (.aload_n 0, 1) := by decide +kernel
theorem dX10_led_40 : decode cX10_led 40 = .ok (.iload_n 1, 1) := by decide +kernel
theorem dX10_led_41 : decode cX10_led 41 = .ok (.invokevirtual 164, 3) := by decide +kernel
theorem dX10_led_44 : decode cX10_led 44 = .ok (.ifCond .ne 6, 3) := by decide +kernel
theorem dX10_led_47 : decode cX10_led 47 = .ok (.bipush (-4), 2) := by decide +kernel
theorem dX10_led_49 : decode cX10_led 49 = .ok (.ireturn, 1) := by decide +kernel
theorem dX10_led_50 : decode cX10_led 50 = .ok (.aload_n 0, 1) := by decide +kernel
theorem dX10_led_51 : decode cX10_led 51 = .ok (.iload_n 1, 1) := by decide +kernel
theorem dX10_led_52 : decode cX10_led 52 = .ok (.iload_n 2, 1) := by decide +kernel
theorem dX10_led_53 : decode cX10_led 53 = .ok (.iload_n 3, 1) := by decide +kernel
theorem dX10_led_54 : decode cX10_led 54 = .ok (.invokevirtual 199, 3) := by decide +kernel
theorem dX10_led_57 : decode cX10_led 57 = .ok (.iconst 0, 1) := by decide +kernel
theorem dX10_led_58 : decode cX10_led 58 = .ok (.istore 6, 2) := by decide +kernel
theorem dX10_led_60 : decode cX10_led 60 = .ok (.iconst 1, 1) := by decide +kernel
theorem dX10_led_61 : decode cX10_led 61 = .ok (.istore 7, 2) := by decide +kernel
theorem dX10_led_63 : decode cX10_led 63 = .ok (.iload 7, 2) := by decide +kernel
theorem dX10_led_65 : decode cX10_led 65 = .ok (.bipush 61, 2) := by decide +kernel
theorem dX10_led_67 : decode cX10_led 67 = .ok (.if_icmp .ge 146, 3) := by decide +kernel
theorem dX10_led_70 : decode cX10_led 70 = .ok (.iconst 0, 1) := by decide +kernel
theorem dX10_led_71 : decode cX10_led 71 = .ok (.istore 8, 2) := by decide +kernel
theorem dX10_led_73 : decode cX10_led 73 = .ok (.iload 8, 2) := by decide +kernel
theorem dX10_led_75 : decode cX10_led 75 = .ok (.aload_n 0, 1) := by decide +kernel
theorem dX10_led_76 : decode cX10_led 76 = .ok (.getfield 185, 3) := by decide +kernel
theorem dX10_led_79 : decode cX10_led 79 = .ok (.if_icmp .ge 128, 3) := by decide +kernel
theorem dX10_led_82 : decode cX10_led 82 = .ok (.iconst 0, 1) := by decide +kernel
theorem dX10_led_83 : decode cX10_led 83 = .ok (.istore 9, 2) := by decide +kernel
theorem dX10_led_85 : decode cX10_led 85 = .ok (.iload 9, 2) := by decide +kernel
theorem dX10_led_87 : decode cX10_led 87 = .ok (.bipush 6, 2) := by decide +kernel
theorem dX10_led_89 : decode cX10_led 89 = .ok (.if_icmp .ge 112, 3) := by decide +kernel
theorem dX10_led_92 : decode cX10_led 92 = .ok (.aload_n 0, 1) := by decide +kernel
theorem dX10_led_93 : decode cX10_led 93 = .ok (.getfield 39, 3) := by decide +kernel
theorem dX10_led_96 : decode cX10_led 96 = .ok (.iload 8, 2) := by decide +kernel
theorem dX10_led_98 : decode cX10_led 98 = .ok (.iaload, 1) := by decide +kernel
theorem dX10_led_99 : decode cX10_led 99 = .ok (.iload 7, 2) := by decide +kernel
theorem dX10_led_101 : decode cX10_led 101 = .ok (.if_icmp .ne 100, 3) := by decide +kernel
theorem dX10_led_104 : decode cX10_led 104 = .ok (.aload_n 0, 1) := by decide +kernel
theorem dX10_led_105 : decode cX10_led 105 = .ok (.getfield 7, 3) := by decide +kernel
theorem dX10_led_108 : decode cX10_led 108 = .ok (.bipush 38, 2) := by decide +kernel
theorem dX10_led_110 : decode cX10_led 110 = .ok (.iload 9, 2) := by decide +kernel
theorem dX10_led_112 : decode cX10_led 112 = .ok (.iadd, 1) := by decide +kernel
theorem dX10_led_113 : decode cX10_led 113 = .ok (.iaload, 1) := by decide +kernel
theorem dX10_led_114 : decode cX10_led 114 = .ok (.aload_n 0, 1) := by decide +kernel
theorem dX10_led_115 : decode cX10_led 115 = .ok (.getfield 36, 3) := by decide +kernel
theorem dX10_led_118 : decode cX10_led 118 = .ok (.iload 8, 2) := by decide +kernel
theorem dX10_led_120 : decode cX10_led 120 = .ok (.iaload, 1) := by decide +kernel
theorem dX10_led_121 : decode cX10_led 121 = .ok (.if_icmp .ne 74, 3) := by decide +kernel
theorem dX10_led_124 : decode cX10_led 124 = .ok (.iload 6, 2) := by decide +kernel
theorem dX10_led_126 : decode cX10_led 126 = .ok (.iload 4, 2) := by decide +kernel
theorem dX10_led_128 : decode cX10_led 128 = .ok (.if_icmp .ne 64, 3) := by decide +kernel
theorem dX10_led_131 : decode cX10_led 131 = .ok (.iload 5, 2) := by decide +kernel
theorem dX10_led_133 : decode cX10_led 133 = .ok (.ifCond .ne 8, 3) := by decide +kernel
theorem dX10_led_136 : decode cX10_led 136 = .ok (.iload 9, 2) := by decide +kernel
theorem dX10_led_138 : decode cX10_led 138 = .ok (.goto 53, 3) := by decide +kernel
theorem dX10_led_141 : decode cX10_led 141 = .ok (.iload 5, 2) := by decide +kernel
theorem dX10_led_143 : decode cX10_led 143 = .ok (.iconst 1, 1) := by decide +kernel
theorem dX10_led_144 : decode cX10_led 144 = .ok (.if_icmp .ne 8, 3) := by decide +kernel
theorem dX10_led_147 : decode cX10_led 147 = .ok (.iload 7, 2) := by decide +kernel
theorem dX10_led_149 : decode cX10_led 149 = .ok (.goto 42, 3) := by decide +kernel
theorem dX10_led_152 : decode cX10_led 152 = .ok (.iload 5, 2) := by decide +kernel
theorem dX10_led_154 : decode cX10_led 154 = .ok (.iconst 2, 1) := by decide +kernel
theorem dX10_led_155 : decode cX10_led 155 = .ok (.if_icmp .ne 13, 3) := by decide +kernel
theorem dX10_led_158 : decode cX10_led 158 = .ok (.aload_n 0, 1) := by decide +kernel
theorem dX10_led_159 : decode cX10_led 159 = .ok (.getfield 42, 3) := by decide +kernel
theorem dX10_led_162 : decode cX10_led 162 = .ok (.iload 8, 2) := by decide +kernel
theorem dX10_led_164 : decode cX10_led 164 = .ok (.iaload, 1) := by decide +kernel
theorem dX10_led_165 : decode cX10_led 165 = .ok (.goto 26, 3) := by decide +kernel
theorem dX10_led_168 : decode cX10_led 168 = .ok (.iload 5, 2) := by decide +kernel
theorem dX10_led_170 : decode cX10_led 170 = .ok (.iconst 3, 1) := by decide +kernel
theorem dX10_led_171 : decode cX10_led 171 = .ok (.if_icmp .ne 13, 3) := by decide +kernel
theorem dX10_led_174 : decode cX10_led 174 = .ok (.aload_n 0, 1) := by decide +kernel
theorem dX10_led_175 : decode cX10_led 175 = .ok (.getfield 45, 3) := by decide +kernel
theorem dX10_led_178 : decode cX10_led 178 = .ok (.iload 8, 2) := by decide +kernel
theorem dX10_led_180 : decode cX10_led 180 = .ok (.iaload, 1) := by decide +kernel
theorem dX10_led_181 : decode cX10_led 181 = .ok (.goto 10, 3) := by decide +kernel
theorem dX10_led_184 : decode cX10_led 184 = .ok (.aload_n 0, 1) := by decide +kernel
theorem dX10_led_185 : decode cX10_led 185 = .ok (.getfield 48, 3) := by decide +kernel
theorem dX10_led_188 : decode cX10_led 188 = .ok (.iload 8, 2) := by decide +kernel
theorem dX10_led_190 : decode cX10_led 190 = .ok (.iaload, 1) := by decide +kernel
theorem dX10_led_191 : decode cX10_led 191 = .ok (.ireturn, 1) := by decide +kernel
theorem dX10_led_192 : decode cX10_led 192 = .ok (.iinc 6 1, 3) := by decide +kernel
theorem dX10_led_195 : decode cX10_led 195 = .ok (.iinc 9 1, 3) := by decide +kernel
theorem dX10_led_198 : decode cX10_led 198 = .ok (.goto (-113), 3) := by decide +kernel
theorem dX10_led_201 : decode cX10_led 201 = .ok (.iinc 8 1, 3) := by decide +kernel
theorem dX10_led_204 : decode cX10_led 204 = .ok (.goto (-131), 3) := by decide +kernel
theorem dX10_led_207 : decode cX10_led 207 = .ok (.iinc 7 1, 3) := by decide +kernel
theorem dX10_led_210 : decode cX10_led 210 = .ok (.goto (-147), 3) := by decide +kernel
theorem dX10_led_213 : decode cX10_led 213 = .ok (.iconst (-1), 1) := by decide +kernel
theorem dX10_led_214 : decode cX10_led 214 = .ok (.ireturn, 1) := by decide +kernel
theorem dX10_whisper_0 : decode cX10_whisper 0 = .ok (.aload_n 0, 1) := by decide +kernel
theorem dX10_whisper_1 : decode cX10_whisper 1 = .ok (.iload_n 1, 1) := by decide +kernel
theorem dX10_whisper_2 : decode cX10_whisper 2 = .ok (.invokevirtual 161, 3) := by decide +kernel
theorem dX10_whisper_5 : decode cX10_whisper 5 = .ok (.ifCond .ne 6, 3) := by decide +kernel
theorem dX10_whisper_8 : decode cX10_whisper 8 = .ok (.bipush (-2), 2) := by decide +kernel
theorem dX10_whisper_10 : decode cX10_whisper 10 = .ok (.ireturn, 1) := by decide +kernel
theorem dX10_whisper_11 : decode cX10_whisper 11 = .ok (.iload_n 2, 1) := by decide +kernel
theorem dX10_whisper_12 : decode cX10_whisper 12 = .ok (.invokestatic 210, 3) := by decide +kernel
theorem dX10_whisper_15 : decode cX10_whisper 15 = .ok (.ifCond .ne 6, 3) := by decide +kernel
theorem dX10_whisper_18 : decode cX10_whisper 18 = .ok (.bipush (-3), 2) := by decide +kernel
theorem dX10_whisper_20 : decode cX10_whisper 20 = .ok (.ireturn, 1) := by decide +kernel
theorem dX10_whisper_21 : decode cX10_whisper 21 = .ok (.aload_n 0, 1) := by decide +kernel
theorem dX10_whisper_22 : decode cX10_whisper 22 = .ok (.iload_n 1, 1) := by decide +kernel
theorem dX10_whisper_23 : decode cX10_whisper 23 = .ok (.invokevirtual 164, 3) := by decide +kernel
theorem dX10_whisper_26 : decode cX10_whisper 26 = .ok (.ifCond .ne 6, 3) := by decide +kernel
theorem dX10_whisper_29 : decode cX10_whisper 29 = .ok (.bipush (-4), 2) := by decide +kernel
theorem dX10_whisper_31 : decode cX10_whisper 31 = .ok (.ireturn, 1) := by decide +kernel
theorem dX10_whisper_32 : decode cX10_whisper 32 = .ok (.aload_n 0, 1) := by decide +kernel
theorem dX10_whisper_33 : decode cX10_whisper 33 = .ok (.iload_n 1, 1) := by decide +kernel
theorem dX10_whisper_34 : decode cX10_whisper 34 = .ok (.iload_n 2, 1) := by decide +kernel
theorem dX10_whisper_35 : decode cX10_whisper 35 = .ok (.iload_n 3, 1) := by decide +kernel
theorem dX10_whisper_36 : decode cX10_whisper 36 = .ok (.invokevirtual 199, 3) := by decide +kernel
theorem dX10_whisper_39 : decode cX10_whisper 39 = .ok (.aload_n 0, 1) := by decide +kernel
theorem dX10_whisper_40 : decode cX10_whisper 40 = .ok (.iload_n 1, 1) := by decide +kernel
theorem dX10_whisper_41 : decode cX10_whisper 41 = .ok (.invokevirtual 167, 3) := by decide +kernel
theorem dX10_whisper_44 : decode cX10_whisper 44 = .ok (.istore 4, 2) := by decide +kernel
theorem dX10_whisper_46 : decode cX10_whisper 46 = .ok (.iconst 0, 1) := by decide +kernel
theorem dX10_whisper_47 : decode cX10_whisper 47 = .ok (.istore 5, 2) := by decide +kernel
theorem dX10_whisper_49 : decode cX10_whisper 49 = .ok (.iload 5, 2) := by decide +kernel
theorem dX10_whisper_51 : decode cX10_whisper 51 = .ok (.aload_n 0, 1) := by decide +kernel
theorem dX10_whisper_52 : decode cX10_whisper 52 = .ok (.getfield 185, 3) := by decide +kernel
theorem dX10_whisper_55 : decode cX10_whisper 55 = .ok (.if_icmp .ge 25, 3) := by decide +kernel
theorem dX10_whisper_58 : decode cX10_whisper 58 = .ok (.iload 4, 2) := by decide +kernel
theorem dX10_whisper_60 : decode cX10_whisper 60 = .ok (.aload_n 0, 1) := by decide +kernel
theorem dX10_whisper_61 : decode cX10_whisper 61 = .ok (.aload_n 0, 1) := by decide +kernel
theorem dX10_whisper_62 : decode cX10_whisper 62 = .ok (.getfield 36, 3) := by decide +kernel
theorem dX10_whisper_65 : decode cX10_whisper 65 = .ok (.iload 5, 2) := by decide +kernel
theorem dX10_whisper_67 : decode cX10_whisper 67 = .ok (.iaload, 1) := by decide +kernel
theorem dX10_whisper_68 : decode cX10_whisper 68 = .ok (.invokevirtual 167, 3) := by decide +kernel
theorem dX10_whisper_71 : decode cX10_whisper 71 = .ok (.ior, 1) := by decide +kernel
theorem dX10_whisper_72 : decode cX10_whisper 72 = .ok (.istore 4, 2) := by decide +kernel
theorem dX10_whisper_74 : decode cX10_whisper 74 = .ok (.iinc 5 1, 3) := by decide +kernel
theorem dX10_whisper_77 : decode cX10_whisper 77 = .ok (.goto (-28), 3) := by decide +kernel
theorem dX10_whisper_80 : decode cX10_whisper 80 = .ok (.iload 4, 2) := by decide +kernel
theorem dX10_whisper_82 : decode cX10_whisper 82 = .ok (.ireturn, 1) := by decide +kernel
theorem dX10_owedBy_0 : decode cX10_owedBy 0 = .ok (.aload_n 0, 1) := by decide +kernel
theorem dX10_owedBy_1 : decode cX10_owedBy 1 = .ok (.getfield 7, 3) := by decide +kernel
theorem dX10_owedBy_4 : decode cX10_owedBy 4 = .ok (.bipush 44, 2) := by decide +kernel
theorem dX10_owedBy_6 : decode cX10_owedBy 6 = .ok (.bipush 6, 2) := by decide +kernel
theorem dX10_owedBy_8 : decode cX10_owedBy 8 = .ok (.iload_n 1, 1) := by decide +kernel
theorem dX10_owedBy_9 : decode cX10_owedBy 9 = .ok (.imul, 1) := by decide +kernel
theorem dX10_owedBy_10 : decode cX10_owedBy 10 = .ok (.iadd, 1) := by decide +kernel
theorem dX10_owedBy_11 : decode cX10_owedBy 11 = .ok (.iload_n 2, 1) := by decide +kernel
theorem dX10_owedBy_12 : decode cX10_owedBy 12 = .ok (.iadd, 1) := by decide +kernel
theorem dX10_owedBy_13 : decode cX10_owedBy 13 = .ok (.iaload, 1) := by decide +kernel
theorem dX10_owedBy_14 : decode cX10_owedBy 14 = .ok (.aload_n 0, 1) := by decide +kernel
theorem dX10_owedBy_15 : decode cX10_owedBy 15 = .ok (.getfield 7, 3) := by decide +kernel
theorem dX10_owedBy_18 : decode cX10_owedBy 18 = .ok (.bipush 44, 2) := by decide +kernel
theorem dX10_owedBy_20 : decode cX10_owedBy 20 = .ok (.bipush 6, 2) := by decide +kernel
theorem dX10_owedBy_22 : decode cX10_owedBy 22 = .ok (.iload_n 2, 1) := by decide +kernel
theorem dX10_owedBy_23 : decode cX10_owedBy 23 = .ok (.imul, 1) := by decide +kernel
theorem dX10_owedBy_24 : decode cX10_owedBy 24 = .ok (.iadd, 1) := by decide +kernel
theorem dX10_owedBy_25 : decode cX10_owedBy 25 = .ok (.iload_n 1, 1) := by decide +kernel
theorem dX10_owedBy_26 : decode cX10_owedBy 26 = .ok (.iadd, 1) := by decide +kernel
theorem dX10_owedBy_27 : decode cX10_owedBy 27 = .ok (.iaload, 1) := by decide +kernel
theorem dX10_owedBy_28 : decode cX10_owedBy 28 = .ok (.isub, 1) := by decide +kernel
theorem dX10_owedBy_29 : decode cX10_owedBy 29 = .ok (.ireturn, 1) := by decide +kernel
theorem dX10_owed_0 : decode cX10_owed 0 = .ok (.iload_n 1, 1) := by decide +kernel
theorem dX10_owed_1 : decode cX10_owed 1 = .ok (.invokestatic 170, 3) := by decide +kernel
theorem dX10_owed_4 : decode cX10_owed 4 = .ok (.ifCond .eq 10, 3) := by decide +kernel
theorem dX10_owed_7 : decode cX10_owed 7 = .ok (.iload_n 2, 1) := by decide +kernel
theorem dX10_owed_8 : decode cX10_owed 8 = .ok (.invokestatic 170, 3) := by decide +kernel
theorem dX10_owed_11 : decode cX10_owed 11 = .ok (.ifCond .ne 6, 3) := by decide +kernel
theorem dX10_owed_14 : decode cX10_owed 14 = .ok (.bipush (-2), 2) := by decide +kernel
theorem dX10_owed_16 : decode cX10_owed 16 = .ok (.ireturn, 1) := by decide +kernel
theorem dX10_owed_17 : decode cX10_owed 17 = .ok (.iload_n 1, 1) := by decide +kernel
theorem dX10_owed_18 : decode cX10_owed 18 = .ok (.iload_n 2, 1) := by decide +kernel
theorem dX10_owed_19 : decode cX10_owed 19 = .ok (.if_icmp .ne 8, 3) := by decide +kernel
theorem dX10_owed_22 : decode cX10_owed 22 = .ok (.bipush (-3), 2) := by decide +kernel
theorem dX10_owed_24 : decode cX10_owed 24 = .ok (.goto 12, 3) := by decide +kernel
theorem dX10_owed_27 : decode cX10_owed 27 = .ok (.aload_n 0, 1) := by decide +kernel
theorem dX10_owed_28 : decode cX10_owed 28 = .ok (.iload_n 1, 1) := by decide +kernel
theorem dX10_owed_29 : decode cX10_owed 29 = .ok (.iload_n 2, 1) := by decide +kernel
theorem dX10_owed_30 : decode cX10_owed 30 = .ok (.invokevirtual 228, 3) := by decide +kernel
theorem dX10_owed_33 : decode cX10_owed 33 = .ok (.ldc 176, 2) := by decide +kernel
theorem dX10_owed_35 : decode cX10_owed 35 = .ok (.iadd, 1) := by decide +kernel
theorem dX10_owed_36 : decode cX10_owed 36 = .ok (.ireturn, 1) := by decide +kernel
theorem dX10_pay_0 : decode cX10_pay 0 = .ok (.iload_n 1, 1) := by decide +kernel
theorem dX10_pay_1 : decode cX10_pay 1 = .ok (.invokestatic 170, 3) := by decide +kernel
theorem dX10_pay_4 : decode cX10_pay 4 = .ok (.ifCond .eq 10, 3) := by decide +kernel
theorem dX10_pay_7 : decode cX10_pay 7 = .ok (.iload_n 2, 1) := by decide +kernel
theorem dX10_pay_8 : decode cX10_pay 8 = .ok (.invokestatic 170, 3) := by decide +kernel
theorem dX10_pay_11 : decode cX10_pay 11 = .ok (.ifCond .ne 6, 3) := by decide +kernel
theorem dX10_pay_14 : decode cX10_pay 14 = .ok (.bipush (-2), 2) := by decide +kernel
theorem dX10_pay_16 : decode cX10_pay 16 = .ok (.ireturn, 1) := by decide +kernel
theorem dX10_pay_17 : decode cX10_pay 17 = .ok (.iload_n 1, 1) := by decide +kernel
theorem dX10_pay_18 : decode cX10_pay 18 = .ok (.iload_n 2, 1) := by decide +kernel
theorem dX10_pay_19 : decode cX10_pay 19 = .ok (.if_icmp .eq 15, 3) := by decide +kernel
theorem dX10_pay_22 : decode cX10_pay 22 = .ok (.iload_n 3, 1) := by decide +kernel
theorem dX10_pay_23 : decode cX10_pay 23 = .ok (.i2l, 1) := by decide +kernel
theorem dX10_pay_24 : decode cX10_pay 24 = .ok (.lconst 1, 1) := by decide +kernel
theorem dX10_pay_25 : decode cX10_pay 25 = .ok (.ldc2_w 231, 3) := by decide +kernel
theorem dX10_pay_28 : decode cX10_pay 28 = .ok (.invokestatic 65, 3) := by decide +kernel
theorem dX10_pay_31 : decode cX10_pay 31 = .ok (.ifCond .ne 6, 3) := by decide +kernel
theorem dX10_pay_34 : decode cX10_pay 34 = .ok (.bipush (-3), 2) := by decide +kernel
theorem dX10_pay_36 : decode cX10_pay 36 = .ok (.ireturn, 1) := by decide +kernel
theorem dX10_pay_37 : decode cX10_pay 37 = .ok (.aload_n 0, 1) := by decide +kernel
theorem dX10_pay_38 : decode cX10_pay 38 = .ok (.iload_n 1, 1) := by decide +kernel
theorem dX10_pay_39 : decode cX10_pay 39 = .ok (.iload_n 2, 1) := by decide +kernel
theorem dX10_pay_40 : decode cX10_pay 40 = .ok (.invokevirtual 228, 3) := by decide +kernel
theorem dX10_pay_43 : decode cX10_pay 43 = .ok (.iload_n 3, 1) := by decide +kernel
theorem dX10_pay_44 : decode cX10_pay 44 = .ok (.if_icmp .ge 6, 3) := by decide +kernel
theorem dX10_pay_47 : decode cX10_pay 47 = .ok (.bipush (-4), 2) := by decide +kernel
theorem dX10_pay_49 : decode cX10_pay 49 = .ok (.ireturn, 1) := by decide +kernel
theorem dX10_pay_50 : decode cX10_pay 50 = .ok (.aload_n 0, 1) := by decide +kernel
theorem dX10_pay_51 : decode cX10_pay 51 = .ok (.getfield 7, 3) := by decide +kernel
theorem dX10_pay_54 : decode cX10_pay 54 = .ok (.bipush 44, 2) := by decide +kernel
theorem dX10_pay_56 : decode cX10_pay 56 = .ok (.bipush 6, 2) := by decide +kernel
theorem dX10_pay_58 : decode cX10_pay 58 = .ok (.iload_n 1, 1) := by decide +kernel
theorem dX10_pay_59 : decode cX10_pay 59 = .ok (.imul, 1) := by decide +kernel
theorem dX10_pay_60 : decode cX10_pay 60 = .ok (.iadd, 1) := by decide +kernel
theorem dX10_pay_61 : decode cX10_pay 61 = .ok (.iload_n 2, 1) := by decide +kernel
theorem dX10_pay_62 : decode cX10_pay 62 = .ok (.iadd, 1) := by decide +kernel
theorem dX10_pay_63 : decode cX10_pay 63 = .ok (.dup2, 1) := by decide +kernel
theorem dX10_pay_64 : decode cX10_pay 64 = .ok (.iaload, 1) := by decide +kernel
theorem dX10_pay_65 : decode cX10_pay 65 = .ok (.iload_n 3, 1) := by decide +kernel
theorem dX10_pay_66 : decode cX10_pay 66 = .ok (.isub, 1) := by decide +kernel
theorem dX10_pay_67 : decode cX10_pay 67 = .ok (.iastore, 1) := by decide +kernel
theorem dX10_pay_68 : decode cX10_pay 68 = .ok (.aload_n 0, 1) := by decide +kernel
theorem dX10_pay_69 : decode cX10_pay 69 = .ok (.iload_n 1, 1) := by decide +kernel
theorem dX10_pay_70 : decode cX10_pay 70 = .ok (.iload_n 2, 1) := by decide +kernel
theorem dX10_pay_71 : decode cX10_pay 71 = .ok (.invokevirtual 228, 3) := by decide +kernel
theorem dX10_pay_74 : decode cX10_pay 74 = .ok (.ldc 176, 2) := by decide +kernel
theorem dX10_pay_76 : decode cX10_pay 76 = .ok (.iadd, 1) := by decide +kernel
theorem dX10_pay_77 : decode cX10_pay 77 = .ok (.ireturn, 1) := by decide +kernel
theorem dX10_settled_0 : decode cX10_settled 0 = .ok (.iconst 0, 1) := by decide +kernel
theorem dX10_settled_1 : decode cX10_settled 1 = .ok (.istore_n 1, 1) := by decide +kernel
theorem dX10_settled_2 : decode cX10_settled 2 = .ok (.iconst 0, 1) := by decide +kernel
theorem dX10_settled_3 : decode cX10_settled 3 = .ok (.istore_n 2, 1) := by decide +kernel
theorem dX10_settled_4 : decode cX10_settled 4 = .ok (.iload_n 2, 1) := by decide +kernel
theorem dX10_settled_5 : decode cX10_settled 5 = .ok (.bipush 64, 2) := by decide +kernel
theorem dX10_settled_7 : decode cX10_settled 7 = .ok (.if_icmp .ge 101, 3) := by decide +kernel
theorem dX10_settled_10 : decode cX10_settled 10 = .ok (.iconst 0, 1) := by decide +kernel
theorem dX10_settled_11 : decode cX10_settled 11 = .ok (.istore_n 3, 1) := by decide +kernel
theorem dX10_settled_12 : decode cX10_settled 12 = .ok (.iconst 0, 1) := by decide +kernel
theorem dX10_settled_13 : decode cX10_settled 13 = .ok (.istore 4, 2) := by decide +kernel
theorem dX10_settled_15 : decode cX10_settled 15 = .ok (.iconst 0, 1) := by decide +kernel
theorem dX10_settled_16 : decode cX10_settled 16 = .ok (.istore 5, 2) := by decide +kernel
theorem dX10_settled_18 : decode cX10_settled 18 = .ok (.iload 5, 2) := by decide +kernel
theorem dX10_settled_20 : decode cX10_settled 20 = .ok (.bipush 6, 2) := by decide +kernel
theorem dX10_settled_22 : decode cX10_settled 22 = .ok (.if_icmp .ge 58, 3) := by decide +kernel
theorem dX10_settled_25 : decode cX10_settled 25 = .ok (.iload_n 2, 1) := by decide +kernel
theorem dX10_settled_26 : decode cX10_settled 26 = .ok (.iload 5, 2) := by decide +kernel
theorem dX10_settled_28 : decode cX10_settled 28 = .ok (.invokestatic 192, 3) := by decide +kernel
theorem dX10_settled_31 : decode cX10_settled 31 = .ok (.ifCond .eq 43, 3) := by decide +kernel
theorem dX10_settled_34 : decode cX10_settled 34 = .ok (.iload_n 3, 1) := by decide +kernel
theorem dX10_settled_35 : decode cX10_settled 35 = .ok (.aload_n 0, 1) := by decide +kernel
theorem dX10_settled_36 : decode cX10_settled 36 = .ok (.iload 5, 2) := by decide +kernel
theorem dX10_settled_38 : decode cX10_settled 38 = .ok (.invokevirtual 173, 3) := by decide +kernel
theorem dX10_settled_41 : decode cX10_settled 41 = .ok (.iadd, 1) := by decide +kernel
theorem dX10_settled_42 : decode cX10_settled 42 = .ok (.istore_n 3, 1) := by decide +kernel
theorem dX10_settled_43 : decode cX10_settled 43 = .ok (.aload_n 0, 1) := by decide +kernel
theorem dX10_settled_44 : decode cX10_settled 44 = .ok (.getfield 51, 3) := by decide +kernel
theorem dX10_settled_47 : decode cX10_settled 47 = .ok (.iload_n 2, 1) := by decide +kernel
theorem dX10_settled_48 : decode cX10_settled 48 = .ok (.iconst 1, 1) := by decide +kernel
theorem dX10_settled_49 : decode cX10_settled 49 = .ok (.iload 5, 2) := by decide +kernel
theorem dX10_settled_51 : decode cX10_settled 51 = .ok (.ishl, 1) := by decide +kernel
theorem dX10_settled_52 : decode cX10_settled 52 = .ok (.iconst (-1), 1) := by decide +kernel
theorem dX10_settled_53 : decode cX10_settled 53 = .ok (.ixor, 1) := by decide +kernel
theorem dX10_settled_54 : decode cX10_settled 54 = .ok (.iand, 1) := by decide +kernel
theorem dX10_settled_55 : decode cX10_settled 55 = .ok (.iaload, 1) := by decide +kernel
theorem dX10_settled_56 : decode cX10_settled 56 = .ok (.istore 6, 2) := by decide +kernel
theorem dX10_settled_58 : decode cX10_settled 58 = .ok (.iload 6, 2) := by decide +kernel
theorem dX10_settled_60 : decode cX10_settled 60 = .ok (.iload 4, 2) := by decide +kernel
theorem dX10_settled_62 : decode cX10_settled 62 = .ok (.if_icmp .le 8, 3) := by decide +kernel
theorem dX10_settled_65 : decode cX10_settled 65 = .ok (.iload 6, 2) := by decide +kernel
theorem dX10_settled_67 : decode cX10_settled 67 = .ok (.goto 5, 3) := by decide +kernel
theorem dX10_settled_70 : decode cX10_settled 70 = .ok (.iload 4, 2) := by decide +kernel
theorem dX10_settled_72 : decode cX10_settled 72 = .ok (.istore 4, 2) := by decide +kernel
theorem dX10_settled_74 : decode cX10_settled 74 = .ok (.iinc 5 1, 3) := by decide +kernel
theorem dX10_settled_77 : decode cX10_settled 77 = .ok (.goto (-59), 3) := by decide +kernel
theorem dX10_settled_80 : decode cX10_settled 80 = .ok (.aload_n 0, 1) := by decide +kernel
theorem dX10_settled_81 : decode cX10_settled 81 = .ok (.getfield 51, 3) := by decide +kernel
theorem dX10_settled_84 : decode cX10_settled 84 = .ok (.iload_n 2, 1) := by decide +kernel
theorem dX10_settled_85 : decode cX10_settled 85 = .ok (.iload 4, 2) := by decide +kernel
theorem dX10_settled_87 : decode cX10_settled 87 = .ok (.iload_n 2, 1) := by decide +kernel
theorem dX10_settled_88 : decode cX10_settled 88 = .ok (.ifCond .le 11, 3) := by decide +kernel
theorem dX10_settled_91 : decode cX10_settled 91 = .ok (.iload_n 3, 1) := by decide +kernel
theorem dX10_settled_92 : decode cX10_settled 92 = .ok (.ifCond .ne 7, 3) := by decide +kernel
theorem dX10_settled_95 : decode cX10_settled 95 = .ok (.iconst 1, 1) := by decide +kernel
theorem dX10_settled_96 : decode cX10_settled 96 = .ok (.goto 4, 3) := by decide +kernel
theorem dX10_settled_99 : decode cX10_settled 99 = .ok (.iconst 0, 1) := by decide +kernel
theorem dX10_settled_100 : decode cX10_settled 100 = .ok (.iadd, 1) := by decide +kernel
theorem dX10_settled_101 : decode cX10_settled 101 = .ok (.iastore, 1) := by decide +kernel
theorem dX10_settled_102 : decode cX10_settled 102 = .ok (.iinc 2 1, 3) := by decide +kernel
theorem dX10_settled_105 : decode cX10_settled 105 = .ok (.goto (-101), 3) := by decide +kernel
theorem dX10_settled_108 : decode cX10_settled 108 = .ok (.iconst 0, 1) := by decide +kernel
theorem dX10_settled_109 : decode cX10_settled 109 = .ok (.istore_n 2, 1) := by decide +kernel
theorem dX10_settled_110 : decode cX10_settled 110 = .ok (.iload_n 2, 1) := by decide +kernel
theorem dX10_settled_111 : decode cX10_settled 111 = .ok (.bipush 6, 2) := by decide +kernel
theorem dX10_settled_113 : decode cX10_settled 113 = .ok (.if_icmp .ge 25, 3) := by decide +kernel
theorem dX10_settled_116 : decode cX10_settled 116 = .ok (.iload_n 1, 1) := by decide +kernel
theorem dX10_settled_117 : decode cX10_settled 117 = .ok (.aload_n 0, 1) := by decide +kernel
theorem dX10_settled_118 : decode cX10_settled 118 = .ok (.iload_n 2, 1) := by decide +kernel
theorem dX10_settled_119 : decode cX10_settled 119 = .ok (.invokevirtual 173, 3) := by decide +kernel
theorem dX10_settled_122 : decode cX10_settled 122 = .ok (.ifCond .eq 7, 3) := by decide +kernel
theorem dX10_settled_125 : decode cX10_settled 125 = .ok (.iconst 1, 1) := by decide +kernel
theorem dX10_settled_126 : decode cX10_settled 126 = .ok (.goto 4, 3) := by decide +kernel
theorem dX10_settled_129 : decode cX10_settled 129 = .ok (.iconst 0, 1) := by decide +kernel
theorem dX10_settled_130 : decode cX10_settled 130 = .ok (.iadd, 1) := by decide +kernel
theorem dX10_settled_131 : decode cX10_settled 131 = .ok (.istore_n 1, 1) := by decide +kernel
theorem dX10_settled_132 : decode cX10_settled 132 = .ok (.iinc 2 1, 3) := by decide +kernel
theorem dX10_settled_135 : decode cX10_settled 135 = .ok (.goto (-25), 3) := by decide +kernel
theorem dX10_settled_138 : decode cX10_settled 138 = .ok (.iload_n 1, 1) := by decide +kernel
theorem dX10_settled_139 : decode cX10_settled 139 = .ok (.ifCond .ne 7, 3) := by decide +kernel
theorem dX10_settled_142 : decode cX10_settled 142 = .ok (.iconst 0, 1) := by decide +kernel
theorem dX10_settled_143 : decode cX10_settled 143 = .ok (.goto 13, 3) := by decide +kernel
theorem dX10_settled_146 : decode cX10_settled 146 = .ok (.bipush 6, 2) := by decide +kernel
theorem dX10_settled_148 : decode cX10_settled 148 = .ok (.aload_n 0, 1) := by decide +kernel
theorem dX10_settled_149 : decode cX10_settled 149 = .ok (.getfield 51, 3) := by decide +kernel
theorem dX10_settled_152 : decode cX10_settled 152 = .ok (.bipush 63, 2) := by decide +kernel
theorem dX10_settled_154 : decode cX10_settled 154 = .ok (.iaload, 1) := by decide +kernel
theorem dX10_settled_155 : decode cX10_settled 155 = .ok (.isub, 1) := by decide +kernel
theorem dX10_settled_156 : decode cX10_settled 156 = .ok (.ireturn, 1) := by decide +kernel
theorem dX10_stand_0 : decode cX10_stand 0 = .ok (.aload_n 0, 1) := by decide +kernel
theorem dX10_stand_1 : decode cX10_stand 1 = .ok (.iload_n 1, 1) := by decide +kernel
theorem dX10_stand_2 : decode cX10_stand 2 = .ok (.iload_n 2, 1) := by decide +kernel
theorem dX10_stand_3 : decode cX10_stand 3 = .ok (.iload 4, 2) := by decide +kernel
theorem dX10_stand_5 : decode cX10_stand 5 = .ok (.iload 5, 2) := by decide +kernel
theorem dX10_stand_7 : decode cX10_stand 7 = .ok (.i2l, 1) := by decide +kernel
theorem dX10_stand_8 : decode cX10_stand 8 = .ok (.lconst 0, 1) := by decide +kernel
theorem dX10_stand_9 : decode cX10_stand 9 = .ok (.lconst 1, 1) := by decide +kernel
theorem dX10_stand_10 : decode cX10_stand 10 = .ok (.invokestatic 65, 3) := by decide +kernel
theorem dX10_stand_13 : decode cX10_stand 13 = .ok (.invokevirtual 216, 3) := by decide +kernel
theorem dX10_stand_16 : decode cX10_stand 16 = .ok (.istore 6, 2) := by decide +kernel
theorem dX10_stand_18 : decode cX10_stand 18 = .ok (.iload 6, 2) := by decide +kernel
theorem dX10_stand_20 : decode cX10_stand 20 = .ok (.ifCond .ge 6, 3) := by decide +kernel
theorem dX10_stand_23 : decode cX10_stand 23 = .ok (.iload 6, 2) := by decide +kernel
theorem dX10_stand_25 : decode cX10_stand 25 = .ok (.ireturn, 1) := by decide +kernel
theorem dX10_stand_26 : decode cX10_stand 26 = .ok (.iconst (-1), 1) := by decide +kernel
theorem dX10_stand_27 : decode cX10_stand 27 = .ok (.istore 7, 2) := by decide +kernel
theorem dX10_stand_29 : decode cX10_stand 29 = .ok (.ldc 233, 2) := by decide +kernel
theorem dX10_stand_31 : decode cX10_stand 31 = .ok (.istore 8, 2) := by decide +kernel
theorem dX10_stand_33 : decode cX10_stand 33 = .ok (.iconst 0, 1) := by decide +kernel
theorem dX10_stand_34 : decode cX10_stand 34 = .ok (.istore 9, 2) := by decide +kernel
theorem dX10_stand_36 : decode cX10_stand 36 = .ok (.iload 9, 2) := by decide +kernel
theorem dX10_stand_38 : decode cX10_stand 38 = .ok (.aload_n 0, 1) := by decide +kernel
theorem dX10_stand_39 : decode cX10_stand 39 = .ok (.invokevirtual 156, 3) := by decide +kernel
theorem dX10_stand_42 : decode cX10_stand 42 = .ok (.if_icmp .ge 63, 3) := by decide +kernel
theorem dX10_stand_45 : decode cX10_stand 45 = .ok (.aload_n 0, 1) := by decide +kernel
theorem dX10_stand_46 : decode cX10_stand 46 = .ok (.iload 9, 2) := by decide +kernel
theorem dX10_stand_48 : decode cX10_stand 48 = .ok (.invokevirtual 164, 3) := by decide +kernel
theorem dX10_stand_51 : decode cX10_stand 51 = .ok (.ifCond .eq 48, 3) := by decide +kernel
theorem dX10_stand_54 : decode cX10_stand 54 = .ok (.aload_n 0, 1) := by decide +kernel
theorem dX10_stand_55 : decode cX10_stand 55 = .ok (.iload_n 1, 1) := by decide +kernel
theorem dX10_stand_56 : decode cX10_stand 56 = .ok (.iload 9, 2) := by decide +kernel
theorem dX10_stand_58 : decode cX10_stand 58 = .ok (.iload_n 2, 1) := by decide +kernel
theorem dX10_stand_59 : decode cX10_stand 59 = .ok (.iload_n 3, 1) := by decide +kernel
theorem dX10_stand_60 : decode cX10_stand 60 = .ok (.iload 4, 2) := by decide +kernel
theorem dX10_stand_62 : decode cX10_stand 62 = .ok (.invokevirtual 220, 3) := by decide +kernel
theorem dX10_stand_65 : decode cX10_stand 65 = .ok (.istore 10, 2) := by decide +kernel
theorem dX10_stand_67 : decode cX10_stand 67 = .ok (.iload 10, 2) := by decide +kernel
theorem dX10_stand_69 : decode cX10_stand 69 = .ok (.iload 8, 2) := by decide +kernel
theorem dX10_stand_71 : decode cX10_stand 71 = .ok (.if_icmp .ge 8, 3) := by decide +kernel
theorem dX10_stand_74 : decode cX10_stand 74 = .ok (.iload 9, 2) := by decide +kernel
theorem dX10_stand_76 : decode cX10_stand 76 = .ok (.goto 5, 3) := by decide +kernel
theorem dX10_stand_79 : decode cX10_stand 79 = .ok (.iload 7, 2) := by decide +kernel
theorem dX10_stand_81 : decode cX10_stand 81 = .ok (.istore 7, 2) := by decide +kernel
theorem dX10_stand_83 : decode cX10_stand 83 = .ok (.iload 10, 2) := by decide +kernel
theorem dX10_stand_85 : decode cX10_stand 85 = .ok (.iload 8, 2) := by decide +kernel
theorem dX10_stand_87 : decode cX10_stand 87 = .ok (.if_icmp .ge 8, 3) := by decide +kernel
theorem dX10_stand_90 : decode cX10_stand 90 = .ok (.iload 10, 2) := by decide +kernel
theorem dX10_stand_92 : decode cX10_stand 92 = .ok (.goto 5, 3) := by decide +kernel
theorem dX10_stand_95 : decode cX10_stand 95 = .ok (.iload 8, 2) := by decide +kernel
theorem dX10_stand_97 : decode cX10_stand 97 = .ok (.istore 8, 2) := by decide +kernel
theorem dX10_stand_99 : decode cX10_stand 99 = .ok (.iinc 9 1, 3) := by decide +kernel
theorem dX10_stand_102 : decode cX10_stand 102 = .ok (.goto (-66), 3) := by decide +kernel
theorem dX10_stand_105 : decode cX10_stand 105 = .ok (.iload 5, 2) := by decide +kernel
theorem dX10_stand_107 : decode cX10_stand 107 = .ok (.ifCond .ne 8, 3) := by decide +kernel
theorem dX10_stand_110 : decode cX10_stand 110 = .ok (.iload 7, 2) := by decide +kernel
theorem dX10_stand_112 : decode cX10_stand 112 = .ok (.goto 5, 3) := by decide +kernel
theorem dX10_stand_115 : decode cX10_stand 115 = .ok (.iload 8, 2) := by decide +kernel
theorem dX10_stand_117 : decode cX10_stand 117 = .ok (.ireturn, 1) := by decide +kernel
theorem dX10_fall_0 : decode cX10_fall 0 = .ok (.aload_n 0, 1) := by decide +kernel
theorem dX10_fall_1 : decode cX10_fall 1 = .ok (.iload_n 1, 1) := by decide +kernel
theorem dX10_fall_2 : decode cX10_fall 2 = .ok (.invokevirtual 161, 3) := by decide +kernel
theorem dX10_fall_5 : decode cX10_fall 5 = .ok (.ifCond .ne 6, 3) := by decide +kernel
theorem dX10_fall_8 : decode cX10_fall 8 = .ok (.bipush (-2), 2) := by decide +kernel
theorem dX10_fall_10 : decode cX10_fall 10 = .ok (.ireturn, 1) := by decide +kernel
theorem dX10_fall_11 : decode cX10_fall 11 = .ok (.aload_n 0, 1) := by decide +kernel
theorem dX10_fall_12 : decode cX10_fall 12 = .ok (.iload_n 1, 1) := by decide +kernel
theorem dX10_fall_13 : decode cX10_fall 13 = .ok (.invokevirtual 164, 3) := by decide +kernel
theorem dX10_fall_16 : decode cX10_fall 16 = .ok (.istore_n 2, 1) := by decide +kernel
theorem dX10_fall_17 : decode cX10_fall 17 = .ok (.aload_n 0, 1) := by decide +kernel
theorem dX10_fall_18 : decode cX10_fall 18 = .ok (.getfield 7, 3) := by decide +kernel
theorem dX10_fall_21 : decode cX10_fall 21 = .ok (.iconst 2, 1) := by decide +kernel
theorem dX10_fall_22 : decode cX10_fall 22 = .ok (.iload_n 1, 1) := by decide +kernel
theorem dX10_fall_23 : decode cX10_fall 23 = .ok (.iadd, 1) := by decide +kernel
theorem dX10_fall_24 : decode cX10_fall 24 = .ok (.iload_n 2, 1) := by decide +kernel
theorem dX10_fall_25 : decode cX10_fall 25 = .ok (.ifCond .eq 7, 3) := by decide +kernel
theorem dX10_fall_28 : decode cX10_fall 28 = .ok (.iconst 0, 1) := by decide +kernel
theorem dX10_fall_29 : decode cX10_fall 29 = .ok (.goto 4, 3) := by decide +kernel
theorem dX10_fall_32 : decode cX10_fall 32 = .ok (.iconst (-1), 1) := by decide +kernel
theorem dX10_fall_33 : decode cX10_fall 33 = .ok (.iastore, 1) := by decide +kernel
theorem dX10_fall_34 : decode cX10_fall 34 = .ok (.iload_n 2, 1) := by decide +kernel
theorem dX10_fall_35 : decode cX10_fall 35 = .ok (.ifCond .eq 8, 3) := by decide +kernel
theorem dX10_fall_38 : decode cX10_fall 38 = .ok (.aload_n 0, 1) := by decide +kernel
theorem dX10_fall_39 : decode cX10_fall 39 = .ok (.iload_n 1, 1) := by decide +kernel
theorem dX10_fall_40 : decode cX10_fall 40 = .ok (.invokevirtual 143, 3) := by decide +kernel
theorem dX10_fall_43 : decode cX10_fall 43 = .ok (.iload_n 2, 1) := by decide +kernel
theorem dX10_fall_44 : decode cX10_fall 44 = .ok (.ifCond .eq 7, 3) := by decide +kernel
theorem dX10_fall_47 : decode cX10_fall 47 = .ok (.iconst 1, 1) := by decide +kernel
theorem dX10_fall_48 : decode cX10_fall 48 = .ok (.goto 4, 3) := by decide +kernel
theorem dX10_fall_51 : decode cX10_fall 51 = .ok (.iconst 0, 1) := by decide +kernel
theorem dX10_fall_52 : decode cX10_fall 52 = .ok (.ireturn, 1) := by decide +kernel
theorem dX10_codeOf_0 : decode cX10_codeOf 0 = .ok (.aload_n 0, 1) := by decide +kernel
theorem dX10_codeOf_1 : decode cX10_codeOf 1 = .ok (.getfield 36, 3) := by decide +kernel
theorem dX10_codeOf_4 : decode cX10_codeOf 4 = .ok (.iload_n 1, 1) := by decide +kernel
theorem dX10_codeOf_5 : decode cX10_codeOf 5 = .ok (.iaload, 1) := by decide +kernel
theorem dX10_codeOf_6 : decode cX10_codeOf 6 = .ok (.bipush 64, 2) := by decide +kernel
theorem dX10_codeOf_8 : decode cX10_codeOf 8 = .ok (.imul, 1) := by decide +kernel
theorem dX10_codeOf_9 : decode cX10_codeOf 9 = .ok (.aload_n 0, 1) := by decide +kernel
theorem dX10_codeOf_10 : decode cX10_codeOf 10 = .ok (.getfield 39, 3) := by decide +kernel
theorem dX10_codeOf_13 : decode cX10_codeOf 13 = .ok (.iload_n 1, 1) := by decide +kernel
theorem dX10_codeOf_14 : decode cX10_codeOf 14 = .ok (.iaload, 1) := by decide +kernel
theorem dX10_codeOf_15 : decode cX10_codeOf 15 = .ok (.iadd, 1) := by decide +kernel
theorem dX10_codeOf_16 : decode cX10_codeOf 16 = .ok (.sipush 128, 3) := by decide +kernel
theorem dX10_codeOf_19 : decode cX10_codeOf 19 = .ok (.imul, 1) := by decide +kernel
theorem dX10_codeOf_20 : decode cX10_codeOf 20 = .ok (.aload_n 0, 1) := by decide +kernel
theorem dX10_codeOf_21 : decode cX10_codeOf 21 = .ok (.getfield 42, 3) := by decide +kernel
theorem dX10_codeOf_24 : decode cX10_codeOf 24 = .ok (.iload_n 1, 1) := by decide +kernel
theorem dX10_codeOf_25 : decode cX10_codeOf 25 = .ok (.iaload, 1) := by decide +kernel
theorem dX10_codeOf_26 : decode cX10_codeOf 26 = .ok (.iadd, 1) := by decide +kernel
theorem dX10_codeOf_27 : decode cX10_codeOf 27 = .ok (.bipush 64, 2) := by decide +kernel
theorem dX10_codeOf_29 : decode cX10_codeOf 29 = .ok (.imul, 1) := by decide +kernel
theorem dX10_codeOf_30 : decode cX10_codeOf 30 = .ok (.aload_n 0, 1) := by decide +kernel
theorem dX10_codeOf_31 : decode cX10_codeOf 31 = .ok (.getfield 45, 3) := by decide +kernel
theorem dX10_codeOf_34 : decode cX10_codeOf 34 = .ok (.iload_n 1, 1) := by decide +kernel
theorem dX10_codeOf_35 : decode cX10_codeOf 35 = .ok (.iaload, 1) := by decide +kernel
theorem dX10_codeOf_36 : decode cX10_codeOf 36 = .ok (.iadd, 1) := by decide +kernel
theorem dX10_codeOf_37 : decode cX10_codeOf 37 = .ok (.ireturn, 1) := by decide +kernel
theorem dX10_sameOf_0 : decode cX10_sameOf 0 = .ok (.iconst 0, 1) := by decide +kernel
theorem dX10_sameOf_1 : decode cX10_sameOf 1 = .ok (.istore_n 2, 1) := by decide +kernel
theorem dX10_sameOf_2 : decode cX10_sameOf 2 = .ok (.iconst 0, 1) := by decide +kernel
theorem dX10_sameOf_3 : decode cX10_sameOf 3 = .ok (.istore_n 3, 1) := by decide +kernel
theorem dX10_sameOf_4 : decode cX10_sameOf 4 = .ok (.iconst 0, 1) := by decide +kernel
theorem dX10_sameOf_5 : decode cX10_sameOf 5 = .ok (.istore 4, 2) := by decide +kernel
theorem dX10_sameOf_7 : decode cX10_sameOf 7 = .ok (.iload 4, 2) := by decide +kernel
theorem dX10_sameOf_9 : decode cX10_sameOf 9 = .ok (.aload_n 0, 1) := by decide +kernel
theorem dX10_sameOf_10 : decode cX10_sameOf 10 = .ok (.getfield 234, 3) := by decide +kernel
theorem dX10_sameOf_13 : decode cX10_sameOf 13 = .ok (.if_icmp .ge 28, 3) := by decide +kernel
theorem dX10_sameOf_16 : decode cX10_sameOf 16 = .ok (.iload_n 2, 1) := by decide +kernel
theorem dX10_sameOf_17 : decode cX10_sameOf 17 = .ok (.aload_n 0, 1) := by decide +kernel
theorem dX10_sameOf_18 : decode cX10_sameOf 18 = .ok (.getfield 54, 3) := by decide +kernel
theorem dX10_sameOf_21 : decode cX10_sameOf 21 = .ok (.iload 4, 2) := by decide +kernel
theorem dX10_sameOf_23 : decode cX10_sameOf 23 = .ok (.iaload, 1) := by decide +kernel
theorem dX10_sameOf_24 : decode cX10_sameOf 24 = .ok (.iload_n 1, 1) := by decide +kernel
theorem dX10_sameOf_25 : decode cX10_sameOf 25 = .ok (.if_icmp .ne 7, 3) := by decide +kernel
theorem dX10_sameOf_28 : decode cX10_sameOf 28 = .ok (.iconst 1, 1) := by decide +kernel
theorem dX10_sameOf_29 : decode cX10_sameOf 29 = .ok (.goto 4, 3) := by decide +kernel
theorem dX10_sameOf_32 : decode cX10_sameOf 32 = .ok (.iconst 0, 1) := by decide +kernel
theorem dX10_sameOf_33 : decode cX10_sameOf 33 = .ok (.iadd, 1) := by decide +kernel
theorem dX10_sameOf_34 : decode cX10_sameOf 34 = .ok (.istore_n 2, 1) := by decide +kernel
theorem dX10_sameOf_35 : decode cX10_sameOf 35 = .ok (.iinc 4 1, 3) := by decide +kernel
theorem dX10_sameOf_38 : decode cX10_sameOf 38 = .ok (.goto (-31), 3) := by decide +kernel
theorem dX10_sameOf_41 : decode cX10_sameOf 41 = .ok (.iconst 0, 1) := by decide +kernel
theorem dX10_sameOf_42 : decode cX10_sameOf 42 = .ok (.istore 4, 2) := by decide +kernel
theorem dX10_sameOf_44 : decode cX10_sameOf 44 = .ok (.iload 4, 2) := by decide +kernel
theorem dX10_sameOf_46 : decode cX10_sameOf 46 = .ok (.aload_n 0, 1) := by decide +kernel
theorem dX10_sameOf_47 : decode cX10_sameOf 47 = .ok (.getfield 185, 3) := by decide +kernel
theorem dX10_sameOf_50 : decode cX10_sameOf 50 = .ok (.if_icmp .ge 27, 3) := by decide +kernel
theorem dX10_sameOf_53 : decode cX10_sameOf 53 = .ok (.iload_n 3, 1) := by decide +kernel
theorem dX10_sameOf_54 : decode cX10_sameOf 54 = .ok (.aload_n 0, 1) := by decide +kernel
theorem dX10_sameOf_55 : decode cX10_sameOf 55 = .ok (.iload 4, 2) := by decide +kernel
theorem dX10_sameOf_57 : decode cX10_sameOf 57 = .ok (.invokevirtual 237, 3) := by decide +kernel
theorem dX10_sameOf_60 : decode cX10_sameOf 60 = .ok (.iload_n 1, 1) := by decide +kernel
theorem dX10_sameOf_61 : decode cX10_sameOf 61 = .ok (.if_icmp .ne 7, 3) := by decide +kernel
