theorem dX10_sameOf_64 : decode cX10_sameOf 64 = .ok (.iconst 1, 1) := by decide +kernel
theorem dX10_sameOf_65 : decode cX10_sameOf 65 = .ok (.goto 4, 3) := by decide +kernel
theorem dX10_sameOf_68 : decode cX10_sameOf 68 = .ok (.iconst 0, 1) := by decide +kernel
theorem dX10_sameOf_69 : decode cX10_sameOf 69 = .ok (.iadd, 1) := by decide +kernel
theorem dX10_sameOf_70 : decode cX10_sameOf 70 = .ok (.istore_n 3, 1) := by decide +kernel
theorem dX10_sameOf_71 : decode cX10_sameOf 71 = .ok (.iinc 4 1, 3) := by decide +kernel
theorem dX10_sameOf_74 : decode cX10_sameOf 74 = .ok (.goto (-30), 3) := by decide +kernel
theorem dX10_sameOf_77 : decode cX10_sameOf 77 = .ok (.iload_n 2, 1) := by decide +kernel
theorem dX10_sameOf_78 : decode cX10_sameOf 78 = .ok (.iload_n 3, 1) := by decide +kernel
theorem dX10_sameOf_79 : decode cX10_sameOf 79 = .ok (.if_icmp .ne 7, 3) := by decide +kernel
theorem dX10_sameOf_82 : decode cX10_sameOf 82 = .ok (.iconst 1, 1) := by decide +kernel
theorem dX10_sameOf_83 : decode cX10_sameOf 83 = .ok (.goto 4, 3) := by decide +kernel
theorem dX10_sameOf_86 : decode cX10_sameOf 86 = .ok (.iconst 0, 1) := by decide +kernel
theorem dX10_sameOf_87 : decode cX10_sameOf 87 = .ok (.ireturn, 1) := by decide +kernel
theorem dX10_sameAt_0 : decode cX10_sameAt 0 = .ok (.iconst 1, 1) := by decide +kernel
theorem dX10_sameAt_1 : decode cX10_sameAt 1 = .ok (.istore_n 2, 1) := by decide +kernel
theorem dX10_sameAt_2 : decode cX10_sameAt 2 = .ok (.iconst 0, 1) := by decide +kernel
theorem dX10_sameAt_3 : decode cX10_sameAt 3 = .ok (.istore_n 3, 1) := by decide +kernel
theorem dX10_sameAt_4 : decode cX10_sameAt 4 = .ok (.iload_n 3, 1) := by decide +kernel
theorem dX10_sameAt_5 : decode cX10_sameAt 5 = .ok (.aload_n 0, 1) := by decide +kernel
theorem dX10_sameAt_6 : decode cX10_sameAt 6 = .ok (.getfield 234, 3) := by decide +kernel
theorem dX10_sameAt_9 : decode cX10_sameAt 9 = .ok (.if_icmp .ge 45, 3) := by decide +kernel
theorem dX10_sameAt_12 : decode cX10_sameAt 12 = .ok (.iload_n 2, 1) := by decide +kernel
theorem dX10_sameAt_13 : decode cX10_sameAt 13 = .ok (.ifCond .eq 33, 3) := by decide +kernel
theorem dX10_sameAt_16 : decode cX10_sameAt 16 = .ok (.aload_n 0, 1) := by decide +kernel
theorem dX10_sameAt_17 : decode cX10_sameAt 17 = .ok (.getfield 54, 3) := by decide +kernel
theorem dX10_sameAt_20 : decode cX10_sameAt 20 = .ok (.iload_n 3, 1) := by decide +kernel
theorem dX10_sameAt_21 : decode cX10_sameAt 21 = .ok (.iaload, 1) := by decide +kernel
theorem dX10_sameAt_22 : decode cX10_sameAt 22 = .ok (.ldc 240, 2) := by decide +kernel
theorem dX10_sameAt_24 : decode cX10_sameAt 24 = .ok (.idiv, 1) := by decide +kernel
theorem dX10_sameAt_25 : decode cX10_sameAt 25 = .ok (.iload_n 1, 1) := by decide +kernel
theorem dX10_sameAt_26 : decode cX10_sameAt 26 = .ok (.if_icmp .ne 16, 3) := by decide +kernel
theorem dX10_sameAt_29 : decode cX10_sameAt 29 = .ok (.aload_n 0, 1) := by decide +kernel
theorem dX10_sameAt_30 : decode cX10_sameAt 30 = .ok (.aload_n 0, 1) := by decide +kernel
theorem dX10_sameAt_31 : decode cX10_sameAt 31 = .ok (.getfield 54, 3) := by decide +kernel
theorem dX10_sameAt_34 : decode cX10_sameAt 34 = .ok (.iload_n 3, 1) := by decide +kernel
theorem dX10_sameAt_35 : decode cX10_sameAt 35 = .ok (.iaload, 1) := by decide +kernel
theorem dX10_sameAt_36 : decode cX10_sameAt 36 = .ok (.invokevirtual 241, 3) := by decide +kernel
theorem dX10_sameAt_39 : decode cX10_sameAt 39 = .ok (.ifCond .eq 7, 3) := by decide +kernel
theorem dX10_sameAt_42 : decode cX10_sameAt 42 = .ok (.iconst 1, 1) := by decide +kernel
theorem dX10_sameAt_43 : decode cX10_sameAt 43 = .ok (.goto 4, 3) := by decide +kernel
theorem dX10_sameAt_46 : decode cX10_sameAt 46 = .ok (.iconst 0, 1) := by decide +kernel
theorem dX10_sameAt_47 : decode cX10_sameAt 47 = .ok (.istore_n 2, 1) := by decide +kernel
theorem dX10_sameAt_48 : decode cX10_sameAt 48 = .ok (.iinc 3 1, 3) := by decide +kernel
theorem dX10_sameAt_51 : decode cX10_sameAt 51 = .ok (.goto (-47), 3) := by decide +kernel
theorem dX10_sameAt_54 : decode cX10_sameAt 54 = .ok (.iconst 0, 1) := by decide +kernel
theorem dX10_sameAt_55 : decode cX10_sameAt 55 = .ok (.istore_n 3, 1) := by decide +kernel
theorem dX10_sameAt_56 : decode cX10_sameAt 56 = .ok (.iload_n 3, 1) := by decide +kernel
theorem dX10_sameAt_57 : decode cX10_sameAt 57 = .ok (.aload_n 0, 1) := by decide +kernel
theorem dX10_sameAt_58 : decode cX10_sameAt 58 = .ok (.getfield 185, 3) := by decide +kernel
theorem dX10_sameAt_61 : decode cX10_sameAt 61 = .ok (.if_icmp .ge 41, 3) := by decide +kernel
theorem dX10_sameAt_64 : decode cX10_sameAt 64 = .ok (.iload_n 2, 1) := by decide +kernel
theorem dX10_sameAt_65 : decode cX10_sameAt 65 = .ok (.ifCond .eq 29, 3) := by decide +kernel
theorem dX10_sameAt_68 : decode cX10_sameAt 68 = .ok (.aload_n 0, 1) := by decide +kernel
theorem dX10_sameAt_69 : decode cX10_sameAt 69 = .ok (.getfield 36, 3) := by decide +kernel
theorem dX10_sameAt_72 : decode cX10_sameAt 72 = .ok (.iload_n 3, 1) := by decide +kernel
theorem dX10_sameAt_73 : decode cX10_sameAt 73 = .ok (.iaload, 1) := by decide +kernel
theorem dX10_sameAt_74 : decode cX10_sameAt 74 = .ok (.iload_n 1, 1) := by decide +kernel
theorem dX10_sameAt_75 : decode cX10_sameAt 75 = .ok (.if_icmp .ne 15, 3) := by decide +kernel
theorem dX10_sameAt_78 : decode cX10_sameAt 78 = .ok (.aload_n 0, 1) := by decide +kernel
theorem dX10_sameAt_79 : decode cX10_sameAt 79 = .ok (.aload_n 0, 1) := by decide +kernel
theorem dX10_sameAt_80 : decode cX10_sameAt 80 = .ok (.iload_n 3, 1) := by decide +kernel
theorem dX10_sameAt_81 : decode cX10_sameAt 81 = .ok (.invokevirtual 237, 3) := by decide +kernel
theorem dX10_sameAt_84 : decode cX10_sameAt 84 = .ok (.invokevirtual 241, 3) := by decide +kernel
theorem dX10_sameAt_87 : decode cX10_sameAt 87 = .ok (.ifCond .eq 7, 3) := by decide +kernel
theorem dX10_sameAt_90 : decode cX10_sameAt 90 = .ok (.iconst 1, 1) := by decide +kernel
theorem dX10_sameAt_91 : decode cX10_sameAt 91 = .ok (.goto 4, 3) := by decide +kernel
theorem dX10_sameAt_94 : decode cX10_sameAt 94 = .ok (.iconst 0, 1) := by decide +kernel
theorem dX10_sameAt_95 : decode cX10_sameAt 95 = .ok (.istore_n 2, 1) := by decide +kernel
theorem dX10_sameAt_96 : decode cX10_sameAt 96 = .ok (.iinc 3 1, 3) := by decide +kernel
theorem dX10_sameAt_99 : decode cX10_sameAt 99 = .ok (.goto (-43), 3) := by decide +kernel
theorem dX10_sameAt_102 : decode cX10_sameAt 102 = .ok (.iload_n 2, 1) := by decide +kernel
theorem dX10_sameAt_103 : decode cX10_sameAt 103 = .ok (.ireturn, 1) := by decide +kernel
theorem dX10_changed_0 : decode cX10_changed 0 = .ok (.aload_n 0, 1) := by decide +kernel
theorem dX10_changed_1 : decode cX10_changed 1 = .ok (.iload_n 1, 1) := by decide +kernel
theorem dX10_changed_2 : decode cX10_changed 2 = .ok (.invokevirtual 161, 3) := by decide +kernel
theorem dX10_changed_5 : decode cX10_changed 5 = .ok (.ifCond .eq 11, 3) := by decide +kernel
theorem dX10_changed_8 : decode cX10_changed 8 = .ok (.aload_n 0, 1) := by decide +kernel
theorem dX10_changed_9 : decode cX10_changed 9 = .ok (.iload_n 2, 1) := by decide +kernel
theorem dX10_changed_10 : decode cX10_changed 10 = .ok (.invokevirtual 161, 3) := by decide +kernel
theorem dX10_changed_13 : decode cX10_changed 13 = .ok (.ifCond .ne 6, 3) := by decide +kernel
theorem dX10_changed_16 : decode cX10_changed 16 = .ok (.bipush (-2), 2) := by decide +kernel
theorem dX10_changed_18 : decode cX10_changed 18 = .ok (.ireturn, 1) := by decide +kernel
theorem dX10_changed_19 : decode cX10_changed 19 = .ok (.iload_n 3, 1) := by decide +kernel
theorem dX10_changed_20 : decode cX10_changed 20 = .ok (.invokestatic 210, 3) := by decide +kernel
theorem dX10_changed_23 : decode cX10_changed 23 = .ok (.ifCond .eq 8, 3) := by decide +kernel
theorem dX10_changed_26 : decode cX10_changed 26 = .ok (.iload_n 1, 1) := by decide +kernel
theorem dX10_changed_27 : decode cX10_changed 27 = .ok (.iload_n 2, 1) := by decide +kernel
theorem dX10_changed_28 : decode cX10_changed 28 = .ok (.if_icmp .ne 6, 3) := by decide +kernel
theorem dX10_changed_31 : decode cX10_changed 31 = .ok (.bipush (-3), 2) := by decide +kernel
theorem dX10_changed_33 : decode cX10_changed 33 = .ok (.ireturn, 1) := by decide +kernel
theorem dX10_changed_34 : decode cX10_changed 34 = .ok (.aload_n 0, 1) := by decide +kernel
theorem dX10_changed_35 : decode cX10_changed 35 = .ok (.iload_n 2, 1) := by decide +kernel
theorem dX10_changed_36 : decode cX10_changed 36 = .ok (.invokevirtual 164, 3) := by decide +kernel
theorem dX10_changed_39 : decode cX10_changed 39 = .ok (.ifCond .ne 6, 3) := by decide +kernel
theorem dX10_changed_42 : decode cX10_changed 42 = .ok (.bipush (-4), 2) := by decide +kernel
theorem dX10_changed_44 : decode cX10_changed 44 = .ok (.ireturn, 1) := by decide +kernel
theorem dX10_changed_45 : decode cX10_changed 45 = .ok (.aload_n 0, 1) := by decide +kernel
theorem dX10_changed_46 : decode cX10_changed 46 = .ok (.iload_n 2, 1) := by decide +kernel
theorem dX10_changed_47 : decode cX10_changed 47 = .ok (.iload_n 3, 1) := by decide +kernel
theorem dX10_changed_48 : decode cX10_changed 48 = .ok (.iload 4, 2) := by decide +kernel
theorem dX10_changed_50 : decode cX10_changed 50 = .ok (.invokevirtual 199, 3) := by decide +kernel
theorem dX10_changed_53 : decode cX10_changed 53 = .ok (.aload_n 0, 1) := by decide +kernel
theorem dX10_changed_54 : decode cX10_changed 54 = .ok (.aload_n 0, 1) := by decide +kernel
theorem dX10_changed_55 : decode cX10_changed 55 = .ok (.getfield 185, 3) := by decide +kernel
theorem dX10_changed_58 : decode cX10_changed 58 = .ok (.putfield 234, 3) := by decide +kernel
theorem dX10_changed_61 : decode cX10_changed 61 = .ok (.iconst 0, 1) := by decide +kernel
theorem dX10_changed_62 : decode cX10_changed 62 = .ok (.istore 5, 2) := by decide +kernel
theorem dX10_changed_64 : decode cX10_changed 64 = .ok (.iload 5, 2) := by decide +kernel
theorem dX10_changed_66 : decode cX10_changed 66 = .ok (.aload_n 0, 1) := by decide +kernel
theorem dX10_changed_67 : decode cX10_changed 67 = .ok (.getfield 185, 3) := by decide +kernel
theorem dX10_changed_70 : decode cX10_changed 70 = .ok (.if_icmp .ge 22, 3) := by decide +kernel
theorem dX10_changed_73 : decode cX10_changed 73 = .ok (.aload_n 0, 1) := by decide +kernel
theorem dX10_changed_74 : decode cX10_changed 74 = .ok (.getfield 54, 3) := by decide +kernel
theorem dX10_changed_77 : decode cX10_changed 77 = .ok (.iload 5, 2) := by decide +kernel
theorem dX10_changed_79 : decode cX10_changed 79 = .ok (.aload_n 0, 1) := by decide +kernel
theorem dX10_changed_80 : decode cX10_changed 80 = .ok (.iload 5, 2) := by decide +kernel
theorem dX10_changed_82 : decode cX10_changed 82 = .ok (.invokevirtual 237, 3) := by decide +kernel
theorem dX10_changed_85 : decode cX10_changed 85 = .ok (.iastore, 1) := by decide +kernel
theorem dX10_changed_86 : decode cX10_changed 86 = .ok (.iinc 5 1, 3) := by decide +kernel
theorem dX10_changed_89 : decode cX10_changed 89 = .ok (.goto (-25), 3) := by decide +kernel
theorem dX10_changed_92 : decode cX10_changed 92 = .ok (.aload_n 0, 1) := by decide +kernel
theorem dX10_changed_93 : decode cX10_changed 93 = .ok (.getfield 7, 3) := by decide +kernel
theorem dX10_changed_96 : decode cX10_changed 96 = .ok (.iconst 2, 1) := by decide +kernel
theorem dX10_changed_97 : decode cX10_changed 97 = .ok (.iload_n 1, 1) := by decide +kernel
theorem dX10_changed_98 : decode cX10_changed 98 = .ok (.iadd, 1) := by decide +kernel
theorem dX10_changed_99 : decode cX10_changed 99 = .ok (.iaload, 1) := by decide +kernel
theorem dX10_changed_100 : decode cX10_changed 100 = .ok (.istore 5, 2) := by decide +kernel
theorem dX10_changed_102 : decode cX10_changed 102 = .ok (.aload_n 0, 1) := by decide +kernel
theorem dX10_changed_103 : decode cX10_changed 103 = .ok (.getfield 7, 3) := by decide +kernel
theorem dX10_changed_106 : decode cX10_changed 106 = .ok (.iconst 2, 1) := by decide +kernel
theorem dX10_changed_107 : decode cX10_changed 107 = .ok (.iload_n 1, 1) := by decide +kernel
theorem dX10_changed_108 : decode cX10_changed 108 = .ok (.iadd, 1) := by decide +kernel
theorem dX10_changed_109 : decode cX10_changed 109 = .ok (.iload 5, 2) := by decide +kernel
theorem dX10_changed_111 : decode cX10_changed 111 = .ok (.iconst (-1), 1) := by decide +kernel
theorem dX10_changed_112 : decode cX10_changed 112 = .ok (.if_icmp .ne 7, 3) := by decide +kernel
theorem dX10_changed_115 : decode cX10_changed 115 = .ok (.iconst 0, 1) := by decide +kernel
theorem dX10_changed_116 : decode cX10_changed 116 = .ok (.goto 4, 3) := by decide +kernel
theorem dX10_changed_119 : decode cX10_changed 119 = .ok (.iconst (-1), 1) := by decide +kernel
theorem dX10_changed_120 : decode cX10_changed 120 = .ok (.iastore, 1) := by decide +kernel
theorem dX10_changed_121 : decode cX10_changed 121 = .ok (.aload_n 0, 1) := by decide +kernel
theorem dX10_changed_122 : decode cX10_changed 122 = .ok (.iload_n 2, 1) := by decide +kernel
theorem dX10_changed_123 : decode cX10_changed 123 = .ok (.iload_n 3, 1) := by decide +kernel
theorem dX10_changed_124 : decode cX10_changed 124 = .ok (.iload 4, 2) := by decide +kernel
theorem dX10_changed_126 : decode cX10_changed 126 = .ok (.invokevirtual 199, 3) := by decide +kernel
theorem dX10_changed_129 : decode cX10_changed 129 = .ok (.aload_n 0, 1) := by decide +kernel
theorem dX10_changed_130 : decode cX10_changed 130 = .ok (.getfield 7, 3) := by decide +kernel
theorem dX10_changed_133 : decode cX10_changed 133 = .ok (.iconst 2, 1) := by decide +kernel
theorem dX10_changed_134 : decode cX10_changed 134 = .ok (.iload_n 1, 1) := by decide +kernel
theorem dX10_changed_135 : decode cX10_changed 135 = .ok (.iadd, 1) := by decide +kernel
theorem dX10_changed_136 : decode cX10_changed 136 = .ok (.iload 5, 2) := by decide +kernel
theorem dX10_changed_138 : decode cX10_changed 138 = .ok (.iastore, 1) := by decide +kernel
theorem dX10_changed_139 : decode cX10_changed 139 = .ok (.iconst 0, 1) := by decide +kernel
theorem dX10_changed_140 : decode cX10_changed 140 = .ok (.istore 6, 2) := by decide +kernel
theorem dX10_changed_142 : decode cX10_changed 142 = .ok (.iconst 0, 1) := by decide +kernel
theorem dX10_changed_143 : decode cX10_changed 143 = .ok (.istore 7, 2) := by decide +kernel
theorem dX10_changed_145 : decode cX10_changed 145 = .ok (.iload 7, 2) := by decide +kernel
theorem dX10_changed_147 : decode cX10_changed 147 = .ok (.bipush 6, 2) := by decide +kernel
theorem dX10_changed_149 : decode cX10_changed 149 = .ok (.if_icmp .ge 55, 3) := by decide +kernel
theorem dX10_changed_152 : decode cX10_changed 152 = .ok (.aload_n 0, 1) := by decide +kernel
theorem dX10_changed_153 : decode cX10_changed 153 = .ok (.getfield 7, 3) := by decide +kernel
theorem dX10_changed_156 : decode cX10_changed 156 = .ok (.bipush 38, 2) := by decide +kernel
theorem dX10_changed_158 : decode cX10_changed 158 = .ok (.iload 7, 2) := by decide +kernel
theorem dX10_changed_160 : decode cX10_changed 160 = .ok (.iadd, 1) := by decide +kernel
theorem dX10_changed_161 : decode cX10_changed 161 = .ok (.iaload, 1) := by decide +kernel
theorem dX10_changed_162 : decode cX10_changed 162 = .ok (.istore 8, 2) := by decide +kernel
theorem dX10_changed_164 : decode cX10_changed 164 = .ok (.iload 6, 2) := by decide +kernel
theorem dX10_changed_166 : decode cX10_changed 166 = .ok (.iload 8, 2) := by decide +kernel
theorem dX10_changed_168 : decode cX10_changed 168 = .ok (.iconst (-1), 1) := by decide +kernel
theorem dX10_changed_169 : decode cX10_changed 169 = .ok (.if_icmp .eq 25, 3) := by decide +kernel
theorem dX10_changed_172 : decode cX10_changed 172 = .ok (.iload 8, 2) := by decide +kernel
theorem dX10_changed_174 : decode cX10_changed 174 = .ok (.iload_n 1, 1) := by decide +kernel
theorem dX10_changed_175 : decode cX10_changed 175 = .ok (.if_icmp .eq 19, 3) := by decide +kernel
theorem dX10_changed_178 : decode cX10_changed 178 = .ok (.aload_n 0, 1) := by decide +kernel
theorem dX10_changed_179 : decode cX10_changed 179 = .ok (.iload 8, 2) := by decide +kernel
theorem dX10_changed_181 : decode cX10_changed 181 = .ok (.invokevirtual 244, 3) := by decide +kernel
theorem dX10_changed_184 : decode cX10_changed 184 = .ok (.ifCond .ne 10, 3) := by decide +kernel
theorem dX10_changed_187 : decode cX10_changed 187 = .ok (.iconst 1, 1) := by decide +kernel
theorem dX10_changed_188 : decode cX10_changed 188 = .ok (.iload 7, 2) := by decide +kernel
theorem dX10_changed_190 : decode cX10_changed 190 = .ok (.ishl, 1) := by decide +kernel
theorem dX10_changed_191 : decode cX10_changed 191 = .ok (.goto 4, 3) := by decide +kernel
theorem dX10_changed_194 : decode cX10_changed 194 = .ok (.iconst 0, 1) := by decide +kernel
theorem dX10_changed_195 : decode cX10_changed 195 = .ok (.ior, 1) := by decide +kernel
theorem dX10_changed_196 : decode cX10_changed 196 = .ok (.istore 6, 2) := by decide +kernel
theorem dX10_changed_198 : decode cX10_changed 198 = .ok (.iinc 7 1, 3) := by decide +kernel
theorem dX10_changed_201 : decode cX10_changed 201 = .ok (.goto (-56), 3) := by decide +kernel
theorem dX10_changed_204 : decode cX10_changed 204 = .ok (.iload 6, 2) := by decide +kernel
theorem dX10_changed_206 : decode cX10_changed 206 = .ok (.ireturn, 1) := by decide +kernel
theorem dX10_note_0 : decode cX10_note 0 = .ok (.iload_n 1, 1) := by decide +kernel
theorem dX10_note_1 : decode cX10_note 1 = .ok (.invokestatic 170, 3) := by decide +kernel
theorem dX10_note_4 : decode cX10_note 4 = .ok (.ifCond .ne 6, 3) := by decide +kernel
theorem dX10_note_7 : decode cX10_note 7 = .ok (.bipush (-2), 2) := by decide +kernel
theorem dX10_note_9 : decode cX10_note 9 = .ok (.ireturn, 1) := by decide +kernel
theorem dX10_note_10 : decode cX10_note 10 = .ok (.iload_n 2, 1) := by decide +kernel
theorem dX10_note_11 : decode cX10_note 11 = .ok (.i2l, 1) := by decide +kernel
theorem dX10_note_12 : decode cX10_note 12 = .ok (.lconst 0, 1) := by decide +kernel
theorem dX10_note_13 : decode cX10_note 13 = .ok (.ldc2_w 206, 3) := by decide +kernel
theorem dX10_note_16 : decode cX10_note 16 = .ok (.invokestatic 65, 3) := by decide +kernel
theorem dX10_note_19 : decode cX10_note 19 = .ok (.ifCond .ne 6, 3) := by decide +kernel
theorem dX10_note_22 : decode cX10_note 22 = .ok (.bipush (-3), 2) := by decide +kernel
theorem dX10_note_24 : decode cX10_note 24 = .ok (.ireturn, 1) := by decide +kernel
theorem dX10_note_25 : decode cX10_note 25 = .ok (.aload_n 0, 1) := by decide +kernel
theorem dX10_note_26 : decode cX10_note 26 = .ok (.getfield 7, 3) := by decide +kernel
theorem dX10_note_29 : decode cX10_note 29 = .ok (.sipush 161, 3) := by decide +kernel
theorem dX10_note_32 : decode cX10_note 32 = .ok (.iaload, 1) := by decide +kernel
theorem dX10_note_33 : decode cX10_note 33 = .ok (.bipush 12, 2) := by decide +kernel
theorem dX10_note_35 : decode cX10_note 35 = .ok (.if_icmp .ne 6, 3) := by decide +kernel
theorem dX10_note_38 : decode cX10_note 38 = .ok (.bipush (-5), 2) := by decide +kernel
theorem dX10_note_40 : decode cX10_note 40 = .ok (.ireturn, 1) := by decide +kernel
theorem dX10_note_41 : decode cX10_note 41 = .ok (.aload_n 0, 1) := by decide +kernel
theorem dX10_note_42 : decode cX10_note 42 = .ok (.getfield 7, 3) := by decide +kernel
theorem dX10_note_45 : decode cX10_note 45 = .ok (.sipush 162, 3) := by decide +kernel
theorem dX10_note_48 : decode cX10_note 48 = .ok (.iconst 2, 1) := by decide +kernel
theorem dX10_note_49 : decode cX10_note 49 = .ok (.aload_n 0, 1) := by decide +kernel
theorem dX10_note_50 : decode cX10_note 50 = .ok (.getfield 7, 3) := by decide +kernel
theorem dX10_note_53 : decode cX10_note 53 = .ok (.sipush 161, 3) := by decide +kernel
theorem dX10_note_56 : decode cX10_note 56 = .ok (.iaload, 1) := by decide +kernel
theorem dX10_note_57 : decode cX10_note 57 = .ok (.imul, 1) := by decide +kernel
theorem dX10_note_58 : decode cX10_note 58 = .ok (.iadd, 1) := by decide +kernel
theorem dX10_note_59 : decode cX10_note 59 = .ok (.iload_n 1, 1) := by decide +kernel
theorem dX10_note_60 : decode cX10_note 60 = .ok (.iastore, 1) := by decide +kernel
theorem dX10_note_61 : decode cX10_note 61 = .ok (.aload_n 0, 1) := by decide +kernel
theorem dX10_note_62 : decode cX10_note 62 = .ok (.getfield 7, 3) := by decide +kernel
theorem dX10_note_65 : decode cX10_note 65 = .ok (.sipush 162, 3) := by decide +kernel
theorem dX10_note_68 : decode cX10_note 68 = .ok (.iconst 2, 1) := by decide +kernel
theorem dX10_note_69 : decode cX10_note 69 = .ok (.aload_n 0, 1) := by decide +kernel
theorem dX10_note_70 : decode cX10_note 70 = .ok (.getfield 7, 3) := by decide +kernel
theorem dX10_note_73 : decode cX10_note 73 = .ok (.sipush 161, 3) := by decide +kernel
theorem dX10_note_76 : decode cX10_note 76 = .ok (.iaload, 1) := by decide +kernel
theorem dX10_note_77 : decode cX10_note 77 = .ok (.imul, 1) := by decide +kernel
theorem dX10_note_78 : decode cX10_note 78 = .ok (.iadd, 1) := by decide +kernel
theorem dX10_note_79 : decode cX10_note 79 = .ok (.iconst 1, 1) := by decide +kernel
theorem dX10_note_80 : decode cX10_note 80 = .ok (.iadd, 1) := by decide +kernel
theorem dX10_note_81 : decode cX10_note 81 = .ok (.iload_n 2, 1) := by decide +kernel
theorem dX10_note_82 : decode cX10_note 82 = .ok (.iastore, 1) := by decide +kernel
theorem dX10_note_83 : decode cX10_note 83 = .ok (.aload_n 0, 1) := by decide +kernel
theorem dX10_note_84 : decode cX10_note 84 = .ok (.getfield 7, 3) := by decide +kernel
theorem dX10_note_87 : decode cX10_note 87 = .ok (.sipush 161, 3) := by decide +kernel
theorem dX10_note_90 : decode cX10_note 90 = .ok (.dup2, 1) := by decide +kernel
theorem dX10_note_91 : decode cX10_note 91 = .ok (.iaload, 1) := by decide +kernel
theorem dX10_note_92 : decode cX10_note 92 = .ok (.iconst 1, 1) := by decide +kernel
theorem dX10_note_93 : decode cX10_note 93 = .ok (.iadd, 1) := by decide +kernel
theorem dX10_note_94 : decode cX10_note 94 = .ok (.iastore, 1) := by decide +kernel
theorem dX10_note_95 : decode cX10_note 95 = .ok (.aload_n 0, 1) := by decide +kernel
theorem dX10_note_96 : decode cX10_note 96 = .ok (.getfield 7, 3) := by decide +kernel
theorem dX10_note_99 : decode cX10_note 99 = .ok (.sipush 161, 3) := by decide +kernel
theorem dX10_note_102 : decode cX10_note 102 = .ok (.iaload, 1) := by decide +kernel
theorem dX10_note_103 : decode cX10_note 103 = .ok (.ireturn, 1) := by decide +kernel
theorem dX10_forget_0 : decode cX10_forget 0 = .ok (.aload_n 0, 1) := by decide +kernel
theorem dX10_forget_1 : decode cX10_forget 1 = .ok (.getfield 7, 3) := by decide +kernel
theorem dX10_forget_4 : decode cX10_forget 4 = .ok (.sipush 161, 3) := by decide +kernel
theorem dX10_forget_7 : decode cX10_forget 7 = .ok (.iaload, 1) := by decide +kernel
theorem dX10_forget_8 : decode cX10_forget 8 = .ok (.istore_n 1, 1) := by decide +kernel
theorem dX10_forget_9 : decode cX10_forget 9 = .ok (.aload_n 0, 1) := by decide +kernel
theorem dX10_forget_10 : decode cX10_forget 10 = .ok (.getfield 7, 3) := by decide +kernel
theorem dX10_forget_13 : decode cX10_forget 13 = .ok (.sipush 161, 3) := by decide +kernel
theorem dX10_forget_16 : decode cX10_forget 16 = .ok (.iconst 0, 1) := by decide +kernel
theorem dX10_forget_17 : decode cX10_forget 17 = .ok (.iastore, 1) := by decide +kernel
theorem dX10_forget_18 : decode cX10_forget 18 = .ok (.iload_n 1, 1) := by decide +kernel
theorem dX10_forget_19 : decode cX10_forget 19 = .ok (.ireturn, 1) := by decide +kernel
theorem dX10_isHeard_0 : decode cX10_isHeard 0 = .ok (.iconst 0, 1) := by decide +kernel
theorem dX10_isHeard_1 : decode cX10_isHeard 1 = .ok (.istore_n 3, 1) := by decide +kernel
theorem dX10_isHeard_2 : decode cX10_isHeard 2 = .ok (.iconst 0, 1) := by decide +kernel
theorem dX10_isHeard_3 : decode cX10_isHeard 3 = .ok (.istore 4, 2) := by decide +kernel
theorem dX10_isHeard_5 : decode cX10_isHeard 5 = .ok (.iload 4, 2) := by decide +kernel
theorem dX10_isHeard_7 : decode cX10_isHeard 7 = .ok (.aload_n 0, 1) := by decide +kernel
theorem dX10_isHeard_8 : decode cX10_isHeard 8 = .ok (.getfield 185, 3) := by decide +kernel
theorem dX10_isHeard_11 : decode cX10_isHeard 11 = .ok (.if_icmp .ge 41, 3) := by decide +kernel
theorem dX10_isHeard_14 : decode cX10_isHeard 14 = .ok (.iload_n 3, 1) := by decide +kernel
theorem dX10_isHeard_15 : decode cX10_isHeard 15 = .ok (.ifCond .ne 25, 3) := by decide +kernel
theorem dX10_isHeard_18 : decode cX10_isHeard 18 = .ok (.aload_n 0, 1) := by decide +kernel
theorem dX10_isHeard_19 : decode cX10_isHeard 19 = .ok (.getfield 36, 3) := by decide +kernel
theorem dX10_isHeard_22 : decode cX10_isHeard 22 = .ok (.iload 4, 2) := by decide +kernel
theorem dX10_isHeard_24 : decode cX10_isHeard 24 = .ok (.iaload, 1) := by decide +kernel
theorem dX10_isHeard_25 : decode cX10_isHeard 25 = .ok (.iload_n 1, 1) := by decide +kernel
theorem dX10_isHeard_26 : decode cX10_isHeard 26 = .ok (.if_icmp .ne 18, 3) := by decide +kernel
theorem dX10_isHeard_29 : decode cX10_isHeard 29 = .ok (.aload_n 0, 1) := by decide +kernel
theorem dX10_isHeard_30 : decode cX10_isHeard 30 = .ok (.getfield 39, 3) := by decide +kernel
theorem dX10_isHeard_33 : decode cX10_isHeard 33 = .ok (.iload 4, 2) := by decide +kernel
theorem dX10_isHeard_35 : decode cX10_isHeard 35 = .ok (.iaload, 1) := by decide +kernel
theorem dX10_isHeard_36 : decode cX10_isHeard 36 = .ok (.iload_n 2, 1) := by decide +kernel
theorem dX10_isHeard_37 : decode cX10_isHeard 37 = .ok (.if_icmp .ne 7, 3) := by decide +kernel
theorem dX10_isHeard_40 : decode cX10_isHeard 40 = .ok (.iconst 1, 1) := by decide +kernel
theorem dX10_isHeard_41 : decode cX10_isHeard 41 = .ok (.goto 4, 3) := by decide +kernel
theorem dX10_isHeard_44 : decode cX10_isHeard 44 = .ok (.iconst 0, 1) := by decide +kernel
theorem dX10_isHeard_45 : decode cX10_isHeard 45 = .ok (.istore_n 3, 1) := by decide +kernel
theorem dX10_isHeard_46 : decode cX10_isHeard 46 = .ok (.iinc 4 1, 3) := by decide +kernel
theorem dX10_isHeard_49 : decode cX10_isHeard 49 = .ok (.goto (-44), 3) := by decide +kernel
theorem dX10_isHeard_52 : decode cX10_isHeard 52 = .ok (.iload_n 3, 1) := by decide +kernel
theorem dX10_isHeard_53 : decode cX10_isHeard 53 = .ok (.ireturn, 1) := by decide +kernel
theorem dX10_minutesOf_0 : decode cX10_minutesOf 0 = .ok (.aload_n 0, 1) := by decide +kernel
theorem dX10_minutesOf_1 : decode cX10_minutesOf 1 = .ok (.getfield 7, 3) := by decide +kernel
theorem dX10_minutesOf_4 : decode cX10_minutesOf 4 = .ok (.bipush 38, 2) := by decide +kernel
theorem dX10_minutesOf_6 : decode cX10_minutesOf 6 = .ok (.iload_n 1, 1) := by decide +kernel
theorem dX10_minutesOf_7 : decode cX10_minutesOf 7 = .ok (.iadd, 1) := by decide +kernel
theorem dX10_minutesOf_8 : decode cX10_minutesOf 8 = .ok (.iaload, 1) := by decide +kernel
theorem dX10_minutesOf_9 : decode cX10_minutesOf 9 = .ok (.iconst (-1), 1) := by decide +kernel
theorem dX10_minutesOf_10 : decode cX10_minutesOf 10 = .ok (.if_icmp .ne 5, 3) := by decide +kernel
theorem dX10_minutesOf_13 : decode cX10_minutesOf 13 = .ok (.iconst 0, 1) := by decide +kernel
theorem dX10_minutesOf_14 : decode cX10_minutesOf 14 = .ok (.ireturn, 1) := by decide +kernel
theorem dX10_minutesOf_15 : decode cX10_minutesOf 15 = .ok (.aload_n 0, 1) := by decide +kernel
theorem dX10_minutesOf_16 : decode cX10_minutesOf 16 = .ok (.aload_n 0, 1) := by decide +kernel
theorem dX10_minutesOf_17 : decode cX10_minutesOf 17 = .ok (.getfield 7, 3) := by decide +kernel
theorem dX10_minutesOf_20 : decode cX10_minutesOf 20 = .ok (.bipush 38, 2) := by decide +kernel
theorem dX10_minutesOf_22 : decode cX10_minutesOf 22 = .ok (.iload_n 1, 1) := by decide +kernel
theorem dX10_minutesOf_23 : decode cX10_minutesOf 23 = .ok (.iadd, 1) := by decide +kernel
theorem dX10_minutesOf_24 : decode cX10_minutesOf 24 = .ok (.iaload, 1) := by decide +kernel
theorem dX10_minutesOf_25 : decode cX10_minutesOf 25 = .ok (.iload_n 2, 1) := by decide +kernel
theorem dX10_minutesOf_26 : decode cX10_minutesOf 26 = .ok (.iload_n 3, 1) := by decide +kernel
theorem dX10_minutesOf_27 : decode cX10_minutesOf 27 = .ok (.invokevirtual 199, 3) := by decide +kernel
theorem dX10_minutesOf_30 : decode cX10_minutesOf 30 = .ok (.iconst 0, 1) := by decide +kernel
theorem dX10_minutesOf_31 : decode cX10_minutesOf 31 = .ok (.istore 4, 2) := by decide +kernel
theorem dX10_minutesOf_33 : decode cX10_minutesOf 33 = .ok (.iconst 0, 1) := by decide +kernel
theorem dX10_minutesOf_34 : decode cX10_minutesOf 34 = .ok (.istore 5, 2) := by decide +kernel
theorem dX10_minutesOf_36 : decode cX10_minutesOf 36 = .ok (.iload 5, 2) := by decide +kernel
theorem dX10_minutesOf_38 : decode cX10_minutesOf 38 = .ok (.bipush 100, 2) := by decide +kernel
theorem dX10_minutesOf_40 : decode cX10_minutesOf 40 = .ok (.if_icmp .ge 131, 3) := by decide +kernel
theorem dX10_minutesOf_43 : decode cX10_minutesOf 43 = .ok (.iconst 1, 1) := by decide +kernel
theorem dX10_minutesOf_44 : decode cX10_minutesOf 44 = .ok (.istore 6, 2) := by decide +kernel
theorem dX10_minutesOf_46 : decode cX10_minutesOf 46 = .ok (.iconst 0, 1) := by decide +kernel
theorem dX10_minutesOf_47 : decode cX10_minutesOf 47 = .ok (.istore 7, 2) := by decide +kernel
theorem dX10_minutesOf_49 : decode cX10_minutesOf 49 = .ok (.iload 7, 2) := by decide +kernel
theorem dX10_minutesOf_51 : decode cX10_minutesOf 51 = .ok (.aload_n 0, 1) := by decide +kernel
theorem dX10_minutesOf_52 : decode cX10_minutesOf 52 = .ok (.getfield 7, 3) := by decide +kernel
theorem dX10_minutesOf_55 : decode cX10_minutesOf 55 = .ok (.sipush 161, 3) := by decide +kernel
theorem dX10_minutesOf_58 : decode cX10_minutesOf 58 = .ok (.iaload, 1) := by decide +kernel
theorem dX10_minutesOf_59 : decode cX10_minutesOf 59 = .ok (.if_icmp .ge 91, 3) := by decide +kernel
theorem dX10_minutesOf_62 : decode cX10_minutesOf 62 = .ok (.iload 6, 2) := by decide +kernel
theorem dX10_minutesOf_64 : decode cX10_minutesOf 64 = .ok (.ifCond .eq 86, 3) := by decide +kernel
theorem dX10_minutesOf_67 : decode cX10_minutesOf 67 = .ok (.aload_n 0, 1) := by decide +kernel
theorem dX10_minutesOf_68 : decode cX10_minutesOf 68 = .ok (.getfield 7, 3) := by decide +kernel
theorem dX10_minutesOf_71 : decode cX10_minutesOf 71 = .ok (.sipush 162, 3) := by decide +kernel
theorem dX10_minutesOf_74 : decode cX10_minutesOf 74 = .ok (.iconst 2, 1) := by decide +kernel
theorem dX10_minutesOf_75 : decode cX10_minutesOf 75 = .ok (.iload 7, 2) := by decide +kernel
theorem dX10_minutesOf_77 : decode cX10_minutesOf 77 = .ok (.imul, 1) := by decide +kernel
theorem dX10_minutesOf_78 : decode cX10_minutesOf 78 = .ok (.iadd, 1) := by decide +kernel
theorem dX10_minutesOf_79 : decode cX10_minutesOf 79 = .ok (.iaload, 1) := by decide +kernel
theorem dX10_minutesOf_80 : decode cX10_minutesOf 80 = .ok (.istore 8, 2) := by decide +kernel
theorem dX10_minutesOf_82 : decode cX10_minutesOf 82 = .ok (.iload 8, 2) := by decide +kernel
theorem dX10_minutesOf_84 : decode cX10_minutesOf 84 = .ok (.iload_n 1, 1) := by decide +kernel
theorem dX10_minutesOf_85 : decode cX10_minutesOf 85 = .ok (.if_icmp .eq 56, 3) := by decide +kernel
theorem dX10_minutesOf_88 : decode cX10_minutesOf 88 = .ok (.aload_n 0, 1) := by decide +kernel
theorem dX10_minutesOf_89 : decode cX10_minutesOf 89 = .ok (.getfield 7, 3) := by decide +kernel
theorem dX10_minutesOf_92 : decode cX10_minutesOf 92 = .ok (.bipush 38, 2) := by decide +kernel
theorem dX10_minutesOf_94 : decode cX10_minutesOf 94 = .ok (.iload 8, 2) := by decide +kernel
theorem dX10_minutesOf_96 : decode cX10_minutesOf 96 = .ok (.iadd, 1) := by decide +kernel
theorem dX10_minutesOf_97 : decode cX10_minutesOf 97 = .ok (.iaload, 1) := by decide +kernel
theorem dX10_minutesOf_98 : decode cX10_minutesOf 98 = .ok (.iconst (-1), 1) := by decide +kernel
theorem dX10_minutesOf_99 : decode cX10_minutesOf 99 = .ok (.if_icmp .eq 42, 3) := by decide +kernel
theorem dX10_minutesOf_102 : decode cX10_minutesOf 102 = .ok (.aload_n 0, 1) := by decide +kernel
theorem dX10_minutesOf_103 : decode cX10_minutesOf 103 = .ok (.aload_n 0, 1) := by decide +kernel
theorem dX10_minutesOf_104 : decode cX10_minutesOf 104 = .ok (.getfield 7, 3) := by decide +kernel
theorem dX10_minutesOf_107 : decode cX10_minutesOf 107 = .ok (.bipush 38, 2) := by decide +kernel
theorem dX10_minutesOf_109 : decode cX10_minutesOf 109 = .ok (.iload 8, 2) := by decide +kernel
theorem dX10_minutesOf_111 : decode cX10_minutesOf 111 = .ok (.iadd, 1) := by decide +kernel
theorem dX10_minutesOf_112 : decode cX10_minutesOf 112 = .ok (.iaload, 1) := by decide +kernel
theorem dX10_minutesOf_113 : decode cX10_minutesOf 113 = .ok (.aload_n 0, 1) := by decide +kernel
theorem dX10_minutesOf_114 : decode cX10_minutesOf 114 = .ok (.getfield 7, 3) := by decide +kernel
theorem dX10_minutesOf_117 : decode cX10_minutesOf 117 = .ok (.sipush 162, 3) := by decide +kernel
theorem dX10_minutesOf_120 : decode cX10_minutesOf 120 = .ok (.iconst 2, 1) := by decide +kernel
theorem dX10_minutesOf_121 : decode cX10_minutesOf 121 = .ok (.iload 7, 2) := by decide +kernel
theorem dX10_minutesOf_123 : decode cX10_minutesOf 123 = .ok (.imul, 1) := by decide +kernel
theorem dX10_minutesOf_124 : decode cX10_minutesOf 124 = .ok (.iadd, 1) := by decide +kernel
theorem dX10_minutesOf_125 : decode cX10_minutesOf 125 = .ok (.iconst 1, 1) := by decide +kernel
theorem dX10_minutesOf_126 : decode cX10_minutesOf 126 = .ok (.iadd, 1) := by decide +kernel
theorem dX10_minutesOf_127 : decode cX10_minutesOf 127 = .ok (.iaload, 1) := by decide +kernel
theorem dX10_minutesOf_128 : decode cX10_minutesOf 128 = .ok (.iload 5, 2) := by decide +kernel
theorem dX10_minutesOf_130 : decode cX10_minutesOf 130 = .ok (.isub, 1) := by decide +kernel
theorem dX10_minutesOf_131 : decode cX10_minutesOf 131 = .ok (.invokevirtual 247, 3) := by decide +kernel
theorem dX10_minutesOf_134 : decode cX10_minutesOf 134 = .ok (.ifCond .eq 7, 3) := by decide +kernel
theorem dX10_minutesOf_137 : decode cX10_minutesOf 137 = .ok (.iconst 1, 1) := by decide +kernel
theorem dX10_minutesOf_138 : decode cX10_minutesOf 138 = .ok (.goto 4, 3) := by decide +kernel
theorem dX10_minutesOf_141 : decode cX10_minutesOf 141 = .ok (.iconst 0, 1) := by decide +kernel
theorem dX10_minutesOf_142 : decode cX10_minutesOf 142 = .ok (.istore 6, 2) := by decide +kernel
theorem dX10_minutesOf_144 : decode cX10_minutesOf 144 = .ok (.iinc 7 1, 3) := by decide +kernel
theorem dX10_minutesOf_147 : decode cX10_minutesOf 147 = .ok (.goto (-98), 3) := by decide +kernel
theorem dX10_minutesOf_150 : decode cX10_minutesOf 150 = .ok (.iload 4, 2) := by decide +kernel
theorem dX10_minutesOf_152 : decode cX10_minutesOf 152 = .ok (.iload 6, 2) := by decide +kernel
theorem dX10_minutesOf_154 : decode cX10_minutesOf 154 = .ok (.ifCond .eq 7, 3) := by decide +kernel
theorem dX10_minutesOf_157 : decode cX10_minutesOf 157 = .ok (.iconst 1, 1) := by decide +kernel
theorem dX10_minutesOf_158 : decode cX10_minutesOf 158 = .ok (.goto 4, 3) := by decide +kernel
theorem dX10_minutesOf_161 : decode cX10_minutesOf 161 = .ok (.iconst 0, 1) := by decide +kernel
theorem dX10_minutesOf_162 : decode cX10_minutesOf 162 = .ok (.iadd, 1) := by decide +kernel
theorem dX10_minutesOf_163 : decode cX10_minutesOf 163 = .ok (.istore 4, 2) := by decide +kernel
theorem dX10_minutesOf_165 : decode cX10_minutesOf 165 = .ok (.iinc 5 1, 3) := by decide +kernel
theorem dX10_minutesOf_168 : decode cX10_minutesOf 168 = .ok (.goto (-132), 3) := by decide +kernel
theorem dX10_minutesOf_171 : decode cX10_minutesOf 171 = .ok (.iload 4, 2) := by decide +kernel
theorem dX10_minutesOf_173 : decode cX10_minutesOf 173 = .ok (.ireturn, 1) := by decide +kernel
theorem dX10_divisor_0 : decode cX10_divisor 0 = .ok (.iload_n 0, 1) := by decide +kernel
theorem dX10_divisor_1 : decode cX10_divisor 1 = .ok (.istore_n 2, 1) := by decide +kernel
theorem dX10_divisor_2 : decode cX10_divisor 2 = .ok (.iload_n 1, 1) := by decide +kernel
theorem dX10_divisor_3 : decode cX10_divisor 3 = .ok (.istore_n 3, 1) := by decide +kernel
theorem dX10_divisor_4 : decode cX10_divisor 4 = .ok (.iload_n 3, 1) := by decide +kernel
theorem dX10_divisor_5 : decode cX10_divisor 5 = .ok (.ifCond .eq 16, 3) := by decide +kernel
theorem dX10_divisor_8 : decode cX10_divisor 8 = .ok (.iload_n 2, 1) := by decide +kernel
theorem dX10_divisor_9 : decode cX10_divisor 9 = .ok (.iload_n 3, 1) := by decide +kernel
theorem dX10_divisor_10 : decode cX10_divisor 10 = .ok (.irem, 1) := by decide +kernel
theorem dX10_divisor_11 : decode cX10_divisor 11 = .ok (.istore 4, 2) := by decide +kernel
theorem dX10_divisor_13 : decode cX10_divisor 13 = .ok (.iload_n 3, 1) := by decide +kernel
theorem dX10_divisor_14 : decode cX10_divisor 14 = .ok (.istore_n 2, 1) := by decide +kernel
theorem dX10_divisor_15 : decode cX10_divisor 15 = .ok (.iload 4, 2) := by decide +kernel
theorem dX10_divisor_17 : decode cX10_divisor 17 = .ok (.istore_n 3, 1) := by decide +kernel
theorem dX10_divisor_18 : decode cX10_divisor 18 = .ok (.goto (-14), 3) := by decide +kernel
theorem dX10_divisor_21 : decode cX10_divisor 21 = .ok (.iload_n 2, 1) := by decide +kernel
theorem dX10_divisor_22 : decode cX10_divisor 22 = .ok (.ireturn, 1) := by decide +kernel
theorem dX10_who_0 : decode cX10_who 0 = .ok (.aload_n 0, 1) := by decide +kernel
theorem dX10_who_1 : decode cX10_who 1 = .ok (.iload_n 1, 1) := by decide +kernel
theorem dX10_who_2 : decode cX10_who 2 = .ok (.iload_n 2, 1) := by decide +kernel
theorem dX10_who_3 : decode cX10_who 3 = .ok (.iconst 0, 1) := by decide +kernel
theorem dX10_who_4 : decode cX10_who 4 = .ok (.iload 4, 2) := by decide +kernel
theorem dX10_who_6 : decode cX10_who 6 = .ok (.i2l, 1) := by decide +kernel
theorem dX10_who_7 : decode cX10_who 7 = .ok (.lconst 0, 1) := by decide +kernel
theorem dX10_who_8 : decode cX10_who 8 = .ok (.ldc2_w 180, 3) := by decide +kernel
theorem dX10_who_11 : decode cX10_who 11 = .ok (.invokestatic 65, 3) := by decide +kernel
theorem dX10_who_14 : decode cX10_who 14 = .ok (.invokevirtual 216, 3) := by decide +kernel
theorem dX10_who_17 : decode cX10_who 17 = .ok (.istore 5, 2) := by decide +kernel
theorem dX10_who_19 : decode cX10_who 19 = .ok (.iload 5, 2) := by decide +kernel
theorem dX10_who_21 : decode cX10_who 21 = .ok (.ifCond .ge 6, 3) := by decide +kernel
theorem dX10_who_24 : decode cX10_who 24 = .ok (.iload 5, 2) := by decide +kernel
theorem dX10_who_26 : decode cX10_who 26 = .ok (.ireturn, 1) := by decide +kernel
theorem dX10_who_27 : decode cX10_who 27 = .ok (.iconst 0, 1) := by decide +kernel
theorem dX10_who_28 : decode cX10_who 28 = .ok (.istore 6, 2) := by decide +kernel
theorem dX10_who_30 : decode cX10_who 30 = .ok (.iconst 0, 1) := by decide +kernel
theorem dX10_who_31 : decode cX10_who 31 = .ok (.istore 7, 2) := by decide +kernel
theorem dX10_who_33 : decode cX10_who 33 = .ok (.iconst 0, 1) := by decide +kernel
theorem dX10_who_34 : decode cX10_who 34 = .ok (.istore 8, 2) := by decide +kernel
theorem dX10_who_36 : decode cX10_who 36 = .ok (.iload 8, 2) := by decide +kernel
theorem dX10_who_38 : decode cX10_who 38 = .ok (.bipush 6, 2) := by decide +kernel
theorem dX10_who_40 : decode cX10_who 40 = .ok (.if_icmp .ge 41, 3) := by decide +kernel
theorem dX10_who_43 : decode cX10_who 43 = .ok (.aload_n 0, 1) := by decide +kernel
theorem dX10_who_44 : decode cX10_who 44 = .ok (.iload 8, 2) := by decide +kernel
theorem dX10_who_46 : decode cX10_who 46 = .ok (.iload_n 2, 1) := by decide +kernel
theorem dX10_who_47 : decode cX10_who 47 = .ok (.iload_n 3, 1) := by decide +kernel
theorem dX10_who_48 : decode cX10_who 48 = .ok (.invokevirtual 250, 3) := by decide +kernel
theorem dX10_who_51 : decode cX10_who 51 = .ok (.istore 9, 2) := by decide +kernel
theorem dX10_who_53 : decode cX10_who 53 = .ok (.iload 8, 2) := by decide +kernel
theorem dX10_who_55 : decode cX10_who 55 = .ok (.iload_n 1, 1) := by decide +kernel
theorem dX10_who_56 : decode cX10_who 56 = .ok (.if_icmp .ne 8, 3) := by decide +kernel
theorem dX10_who_59 : decode cX10_who 59 = .ok (.iload 9, 2) := by decide +kernel
theorem dX10_who_61 : decode cX10_who 61 = .ok (.goto 5, 3) := by decide +kernel
theorem dX10_who_64 : decode cX10_who 64 = .ok (.iload 6, 2) := by decide +kernel
theorem dX10_who_66 : decode cX10_who 66 = .ok (.istore 6, 2) := by decide +kernel
theorem dX10_who_68 : decode cX10_who 68 = .ok (.iload 7, 2) := by decide +kernel
theorem dX10_who_70 : decode cX10_who 70 = .ok (.iload 9, 2) := by decide +kernel
theorem dX10_who_72 : decode cX10_who 72 = .ok (.iadd, 1) := by decide +kernel
theorem dX10_who_73 : decode cX10_who 73 = .ok (.istore 7, 2) := by decide +kernel
theorem dX10_who_75 : decode cX10_who 75 = .ok (.iinc 8 1, 3) := by decide +kernel
theorem dX10_who_78 : decode cX10_who 78 = .ok (.goto (-42), 3) := by decide +kernel
theorem dX10_who_81 : decode cX10_who 81 = .ok (.iload 4, 2) := by decide +kernel
theorem dX10_who_83 : decode cX10_who 83 = .ok (.iconst 2, 1) := by decide +kernel
theorem dX10_who_84 : decode cX10_who 84 = .ok (.if_icmp .eq 8, 3) := by decide +kernel
theorem dX10_who_87 : decode cX10_who 87 = .ok (.iload 7, 2) := by decide +kernel
theorem dX10_who_89 : decode cX10_who 89 = .ok (.ifCond .ne 17, 3) := by decide +kernel
theorem dX10_who_92 : decode cX10_who 92 = .ok (.iload 4, 2) := by decide +kernel
theorem dX10_who_94 : decode cX10_who 94 = .ok (.iconst 2, 1) := by decide +kernel
theorem dX10_who_95 : decode cX10_who 95 = .ok (.if_icmp .ne 8, 3) := by decide +kernel
theorem dX10_who_98 : decode cX10_who 98 = .ok (.iload 6, 2) := by decide +kernel
theorem dX10_who_100 : decode cX10_who 100 = .ok (.goto 5, 3) := by decide +kernel
theorem dX10_who_103 : decode cX10_who 103 = .ok (.bipush (-4), 2) := by decide +kernel
theorem dX10_who_105 : decode cX10_who 105 = .ok (.ireturn, 1) := by decide +kernel
theorem dX10_who_106 : decode cX10_who 106 = .ok (.iload 6, 2) := by decide +kernel
theorem dX10_who_108 : decode cX10_who 108 = .ok (.iload 7, 2) := by decide +kernel
theorem dX10_who_110 : decode cX10_who 110 = .ok (.invokestatic 254, 3) := by decide +kernel
theorem dX10_who_113 : decode cX10_who 113 = .ok (.istore 8, 2) := by decide +kernel
theorem dX10_who_115 : decode cX10_who 115 = .ok (.iload 4, 2) := by decide +kernel
theorem dX10_who_117 : decode cX10_who 117 = .ok (.ifCond .ne 11, 3) := by decide +kernel
theorem dX10_who_120 : decode cX10_who 120 = .ok (.iload 6, 2) := by decide +kernel
theorem dX10_who_122 : decode cX10_who 122 = .ok (.iload 8, 2) := by decide +kernel
theorem dX10_who_124 : decode cX10_who 124 = .ok (.idiv, 1) := by decide +kernel
theorem dX10_who_125 : decode cX10_who 125 = .ok (.goto 8, 3) := by decide +kernel
theorem dX10_who_128 : decode cX10_who 128 = .ok (.iload 7, 2) := by decide +kernel
theorem dX10_who_130 : decode cX10_who 130 = .ok (.iload 8, 2) := by decide +kernel
theorem dX10_who_132 : decode cX10_who 132 = .ok (.idiv, 1) := by decide +kernel
theorem dX10_who_133 : decode cX10_who 133 = .ok (.ireturn, 1) := by decide +kernel
theorem dX10_living_0 : decode cX10_living 0 = .ok (.iload_n 1, 1) := by decide +kernel
theorem dX10_living_1 : decode cX10_living 1 = .ok (.i2l, 1) := by decide +kernel
theorem dX10_living_2 : decode cX10_living 2 = .ok (.lconst 0, 1) := by decide +kernel
theorem dX10_living_3 : decode cX10_living 3 = .ok (.lconst 1, 1) := by decide +kernel
theorem dX10_living_4 : decode cX10_living 4 = .ok (.invokestatic 65, 3) := by decide +kernel
theorem dX10_living_7 : decode cX10_living 7 = .ok (.ifCond .ne 6, 3) := by decide +kernel
theorem dX10_living_10 : decode cX10_living 10 = .ok (.bipush (-3), 2) := by decide +kernel
theorem dX10_living_12 : decode cX10_living 12 = .ok (.ireturn, 1) := by decide +kernel
theorem dX10_living_13 : decode cX10_living 13 = .ok (.iconst 0, 1) := by decide +kernel
theorem dX10_living_14 : decode cX10_living 14 = .ok (.istore_n 2, 1) := by decide +kernel
theorem dX10_living_15 : decode cX10_living 15 = .ok (.iload_n 2, 1) := by decide +kernel
theorem dX10_living_16 : decode cX10_living 16 = .ok (.bipush 36, 2) := by decide +kernel
theorem dX10_living_18 : decode cX10_living 18 = .ok (.if_icmp .ge 16, 3) := by decide +kernel
theorem dX10_living_21 : decode cX10_living 21 = .ok (.aload_n 0, 1) := by decide +kernel
theorem dX10_living_22 : decode cX10_living 22 = .ok (.getfield 57, 3) := by decide +kernel
theorem dX10_living_25 : decode cX10_living 25 = .ok (.iload_n 2, 1) := by decide +kernel
theorem dX10_living_26 : decode cX10_living 26 = .ok (.iconst 0, 1) := by decide +kernel
theorem dX10_living_27 : decode cX10_living 27 = .ok (.iastore, 1) := by decide +kernel
theorem dX10_living_28 : decode cX10_living 28 = .ok (.iinc 2 1, 3) := by decide +kernel
theorem dX10_living_31 : decode cX10_living 31 = .ok (.goto (-16), 3) := by decide +kernel
theorem dX10_living_34 : decode cX10_living 34 = .ok (.iconst 0, 1) := by decide +kernel
theorem dX10_living_35 : decode cX10_living 35 = .ok (.istore_n 2, 1) := by decide +kernel
theorem dX10_living_36 : decode cX10_living 36 = .ok (.iload_n 2, 1) := by decide +kernel
theorem dX10_living_37 : decode cX10_living 37 = .ok (.aload_n 0, 1) := by decide +kernel
theorem dX10_living_38 : decode cX10_living 38 = .ok (.getfield 7, 3) := by decide +kernel
theorem dX10_living_41 : decode cX10_living 41 = .ok (.bipush 80, 2) := by decide +kernel
theorem dX10_living_43 : decode cX10_living 43 = .ok (.iaload, 1) := by decide +kernel
theorem dX10_living_44 : decode cX10_living 44 = .ok (.if_icmp .ge 111, 3) := by decide +kernel
theorem dX10_living_47 : decode cX10_living 47 = .ok (.bipush 81, 2) := by decide +kernel
theorem dX10_living_49 : decode cX10_living 49 = .ok (.iconst 4, 1) := by decide +kernel
theorem dX10_living_50 : decode cX10_living 50 = .ok (.iload_n 2, 1) := by decide +kernel
theorem dX10_living_51 : decode cX10_living 51 = .ok (.imul, 1) := by decide +kernel
theorem dX10_living_52 : decode cX10_living 52 = .ok (.iadd, 1) := by decide +kernel
theorem dX10_living_53 : decode cX10_living 53 = .ok (.istore_n 3, 1) := by decide +kernel
theorem dX10_living_54 : decode cX10_living 54 = .ok (.aload_n 0, 1) := by decide +kernel
theorem dX10_living_55 : decode cX10_living 55 = .ok (.getfield 7, 3) := by decide +kernel
theorem dX10_living_58 : decode cX10_living 58 = .ok (.bipush 38, 2) := by decide +kernel
theorem dX10_living_60 : decode cX10_living 60 = .ok (.aload_n 0, 1) := by decide +kernel
theorem dX10_living_61 : decode cX10_living 61 = .ok (.getfield 7, 3) := by decide +kernel
theorem dX10_living_64 : decode cX10_living 64 = .ok (.iload_n 3, 1) := by decide +kernel
theorem dX10_living_65 : decode cX10_living 65 = .ok (.iaload, 1) := by decide +kernel
theorem dX10_living_66 : decode cX10_living 66 = .ok (.iadd, 1) := by decide +kernel
theorem dX10_living_67 : decode cX10_living 67 = .ok (.iaload, 1) := by decide +kernel
theorem dX10_living_68 : decode cX10_living 68 = .ok (.istore 4, 2) := by decide +kernel
theorem dX10_living_70 : decode cX10_living 70 = .ok (.iload 4, 2) := by decide +kernel
theorem dX10_living_72 : decode cX10_living 72 = .ok (.iconst (-1), 1) := by decide +kernel
theorem dX10_living_73 : decode cX10_living 73 = .ok (.if_icmp .eq 76, 3) := by decide +kernel
theorem dX10_living_76 : decode cX10_living 76 = .ok (.aload_n 0, 1) := by decide +kernel
theorem dX10_living_77 : decode cX10_living 77 = .ok (.iload 4, 2) := by decide +kernel
theorem dX10_living_79 : decode cX10_living 79 = .ok (.aload_n 0, 1) := by decide +kernel
theorem dX10_living_80 : decode cX10_living 80 = .ok (.getfield 7, 3) := by decide +kernel
theorem dX10_living_83 : decode cX10_living 83 = .ok (.iload_n 3, 1) := by decide +kernel
theorem dX10_living_84 : decode cX10_living 84 = .ok (.iconst 1, 1) := by decide +kernel
theorem dX10_living_85 : decode cX10_living 85 = .ok (.iadd, 1) := by decide +kernel
theorem dX10_living_86 : decode cX10_living 86 = .ok (.iaload, 1) := by decide +kernel
theorem dX10_living_87 : decode cX10_living 87 = .ok (.aload_n 0, 1) := by decide +kernel
theorem dX10_living_88 : decode cX10_living 88 = .ok (.getfield 7, 3) := by decide +kernel
theorem dX10_living_91 : decode cX10_living 91 = .ok (.iload_n 3, 1) := by decide +kernel
theorem dX10_living_92 : decode cX10_living 92 = .ok (.iconst 2, 1) := by decide +kernel
theorem dX10_living_93 : decode cX10_living 93 = .ok (.iadd, 1) := by decide +kernel
theorem dX10_living_94 : decode cX10_living 94 = .ok (.iaload, 1) := by decide +kernel
theorem dX10_living_95 : decode cX10_living 95 = .ok (.iconst 1, 1) := by decide +kernel
theorem dX10_living_96 : decode cX10_living 96 = .ok (.if_icmp .ne 7, 3) := by decide +kernel
theorem dX10_living_99 : decode cX10_living 99 = .ok (.iconst 1, 1) := by decide +kernel
theorem dX10_living_100 : decode cX10_living 100 = .ok (.goto 4, 3) := by decide +kernel
theorem dX10_living_103 : decode cX10_living 103 = .ok (.iconst 0, 1) := by decide +kernel
theorem dX10_living_104 : decode cX10_living 104 = .ok (.invokevirtual 199, 3) := by decide +kernel
theorem dX10_living_107 : decode cX10_living 107 = .ok (.iconst 0, 1) := by decide +kernel
theorem dX10_living_108 : decode cX10_living 108 = .ok (.istore 5, 2) := by decide +kernel
theorem dX10_living_110 : decode cX10_living 110 = .ok (.iload 5, 2) := by decide +kernel
theorem dX10_living_112 : decode cX10_living 112 = .ok (.aload_n 0, 1) := by decide +kernel
theorem dX10_living_113 : decode cX10_living 113 = .ok (.invokevirtual 156, 3) := by decide +kernel
theorem dX10_living_116 : decode cX10_living 116 = .ok (.if_icmp .ge 33, 3) := by decide +kernel
theorem dX10_living_119 : decode cX10_living 119 = .ok (.aload_n 0, 1) := by decide +kernel
theorem dX10_living_120 : decode cX10_living 120 = .ok (.getfield 57, 3) := by decide +kernel
theorem dX10_living_123 : decode cX10_living 123 = .ok (.iload 5, 2) := by decide +kernel
theorem dX10_living_125 : decode cX10_living 125 = .ok (.dup2, 1) := by decide +kernel
theorem dX10_living_126 : decode cX10_living 126 = .ok (.iaload, 1) := by decide +kernel
theorem dX10_living_127 : decode cX10_living 127 = .ok (.aload_n 0, 1) := by decide +kernel
theorem dX10_living_128 : decode cX10_living 128 = .ok (.iload 5, 2) := by decide +kernel
theorem dX10_living_130 : decode cX10_living 130 = .ok (.aload_n 0, 1) := by decide +kernel
theorem dX10_living_131 : decode cX10_living 131 = .ok (.getfield 7, 3) := by decide +kernel
theorem dX10_living_134 : decode cX10_living 134 = .ok (.iload_n 3, 1) := by decide +kernel
theorem dX10_living_135 : decode cX10_living 135 = .ok (.iconst 3, 1) := by decide +kernel
theorem dX10_living_136 : decode cX10_living 136 = .ok (.iadd, 1) := by decide +kernel
theorem dX10_living_137 : decode cX10_living 137 = .ok (.iaload, 1) := by decide +kernel
theorem dX10_living_138 : decode cX10_living 138 = .ok (.invokevirtual 203, 3) := by decide +kernel
theorem dX10_living_141 : decode cX10_living 141 = .ok (.iadd, 1) := by decide +kernel
theorem dX10_living_142 : decode cX10_living 142 = .ok (.iastore, 1) := by decide +kernel
theorem dX10_living_143 : decode cX10_living 143 = .ok (.iinc 5 1, 3) := by decide +kernel
theorem dX10_living_146 : decode cX10_living 146 = .ok (.goto (-36), 3) := by decide +kernel
theorem dX10_living_149 : decode cX10_living 149 = .ok (.iinc 2 1, 3) := by decide +kernel
theorem dX10_living_152 : decode cX10_living 152 = .ok (.goto (-116), 3) := by decide +kernel
theorem dX10_living_155 : decode cX10_living 155 = .ok (.iconst (-1), 1) := by decide +kernel
theorem dX10_living_156 : decode cX10_living 156 = .ok (.istore_n 2, 1) := by decide +kernel
theorem dX10_living_157 : decode cX10_living 157 = .ok (.iconst 0, 1) := by decide +kernel
theorem dX10_living_158 : decode cX10_living 158 = .ok (.istore_n 3, 1) := by decide +kernel
theorem dX10_living_159 : decode cX10_living 159 = .ok (.iload_n 3, 1) := by decide +kernel
theorem dX10_living_160 : decode cX10_living 160 = .ok (.aload_n 0, 1) := by decide +kernel
theorem dX10_living_161 : decode cX10_living 161 = .ok (.invokevirtual 156, 3) := by decide +kernel
theorem dX10_living_164 : decode cX10_living 164 = .ok (.if_icmp .ge 43, 3) := by decide +kernel
theorem dX10_living_167 : decode cX10_living 167 = .ok (.aload_n 0, 1) := by decide +kernel
theorem dX10_living_168 : decode cX10_living 168 = .ok (.iload_n 3, 1) := by decide +kernel
theorem dX10_living_169 : decode cX10_living 169 = .ok (.invokevirtual 164, 3) := by decide +kernel
theorem dX10_living_172 : decode cX10_living 172 = .ok (.ifCond .eq 27, 3) := by decide +kernel
theorem dX10_living_175 : decode cX10_living 175 = .ok (.iload_n 2, 1) := by decide +kernel
theorem dX10_living_176 : decode cX10_living 176 = .ok (.iconst (-1), 1) := by decide +kernel
theorem dX10_living_177 : decode cX10_living 177 = .ok (.if_icmp .eq 18, 3) := by decide +kernel
theorem dX10_living_180 : decode cX10_living 180 = .ok (.aload_n 0, 1) := by decide +kernel
theorem dX10_living_181 : decode cX10_living 181 = .ok (.getfield 57, 3) := by decide +kernel
theorem dX10_living_184 : decode cX10_living 184 = .ok (.iload_n 3, 1) := by decide +kernel
theorem dX10_living_185 : decode cX10_living 185 = .ok (.iaload, 1) := by decide +kernel
theorem dX10_living_186 : decode cX10_living 186 = .ok (.aload_n 0, 1) := by decide +kernel
theorem dX10_living_187 : decode cX10_living 187 = .ok (.getfield 57, 3) := by decide +kernel
theorem dX10_living_190 : decode cX10_living 190 = .ok (.iload_n 2, 1) := by decide +kernel
theorem dX10_living_191 : decode cX10_living 191 = .ok (.iaload, 1) := by decide +kernel
theorem dX10_living_192 : decode cX10_living 192 = .ok (.if_icmp .le 7, 3) := by decide +kernel
theorem dX10_living_195 : decode cX10_living 195 = .ok (.iload_n 3, 1) := by decide +kernel
theorem dX10_living_196 : decode cX10_living 196 = .ok (.goto 4, 3) := by decide +kernel
theorem dX10_living_199 : decode cX10_living 199 = .ok (.iload_n 2, 1) := by decide +kernel
theorem dX10_living_200 : decode cX10_living 200 = .ok (.istore_n 2, 1) := by decide +kernel
theorem dX10_living_201 : decode cX10_living 201 = .ok (.iinc 3 1, 3) := by decide +kernel
theorem dX10_living_204 : decode cX10_living 204 = .ok (.goto (-45), 3) := by decide +kernel
theorem dX10_living_207 : decode cX10_living 207 = .ok (.iload_n 2, 1) := by decide +kernel
theorem dX10_living_208 : decode cX10_living 208 = .ok (.iconst (-1), 1) := by decide +kernel
theorem dX10_living_209 : decode cX10_living 209 = .ok (.if_icmp .eq 7, 3) := by decide +kernel
theorem dX10_living_212 : decode cX10_living 212 = .ok (.iload_n 1, 1) := by decide +kernel
theorem dX10_living_213 : decode cX10_living 213 = .ok (.ifCond .ne 7, 3) := by decide +kernel
theorem dX10_living_216 : decode cX10_living 216 = .ok (.iload_n 2, 1) := by decide +kernel
theorem dX10_living_217 : decode cX10_living 217 = .ok (.goto 9, 3) := by decide +kernel
theorem dX10_living_220 : decode cX10_living 220 = .ok (.aload_n 0, 1) := by decide +kernel
theorem dX10_living_221 : decode cX10_living 221 = .ok (.getfield 57, 3) := by decide +kernel
theorem dX10_living_224 : decode cX10_living 224 = .ok (.iload_n 2, 1) := by decide +kernel
theorem dX10_living_225 : decode cX10_living 225 = .ok (.iaload, 1) := by decide +kernel
theorem dX10_living_226 : decode cX10_living 226 = .ok (.ireturn, 1) := by decide +kernel
theorem dX10_fineTo_0 : decode cX10_fineTo 0 = .ok (.aload_n 0, 1) := by decide +kernel
theorem dX10_fineTo_1 : decode cX10_fineTo 1 = .ok (.iload_n 1, 1) := by decide +kernel
theorem dX10_fineTo_2 : decode cX10_fineTo 2 = .ok (.iload_n 3, 1) := by decide +kernel
theorem dX10_fineTo_3 : decode cX10_fineTo 3 = .ok (.iload 4, 2) := by decide +kernel
theorem dX10_fineTo_5 : decode cX10_fineTo 5 = .ok (.invokevirtual 199, 3) := by decide +kernel
theorem dX10_fineTo_8 : decode cX10_fineTo 8 = .ok (.aload_n 0, 1) := by decide +kernel
theorem dX10_fineTo_9 : decode cX10_fineTo 9 = .ok (.iload_n 2, 1) := by decide +kernel
theorem dX10_fineTo_10 : decode cX10_fineTo 10 = .ok (.iload 5, 2) := by decide +kernel
theorem dX10_fineTo_12 : decode cX10_fineTo 12 = .ok (.invokevirtual 203, 3) := by decide +kernel
theorem dX10_fineTo_15 : decode cX10_fineTo 15 = .ok (.ireturn, 1) := by decide +kernel
theorem dX10_cancel_0 : decode cX10_cancel 0 = .ok (.iload_n 1, 1) := by decide +kernel
theorem dX10_cancel_1 : decode cX10_cancel 1 = .ok (.invokestatic 170, 3) := by decide +kernel
theorem dX10_cancel_4 : decode cX10_cancel 4 = .ok (.ifCond .eq 10, 3) := by decide +kernel
theorem dX10_cancel_7 : decode cX10_cancel 7 = .ok (.iload_n 2, 1) := by decide +kernel
theorem dX10_cancel_8 : decode cX10_cancel 8 = .ok (.invokestatic 170, 3) := by decide +kernel
theorem dX10_cancel_11 : decode cX10_cancel 11 = .ok (.ifCond .ne 6, 3) := by decide +kernel
theorem dX10_cancel_14 : decode cX10_cancel 14 = .ok (.bipush (-2), 2) := by decide +kernel
theorem dX10_cancel_16 : decode cX10_cancel 16 = .ok (.ireturn, 1) := by decide +kernel
theorem dX10_cancel_17 : decode cX10_cancel 17 = .ok (.iload_n 1, 1) := by decide +kernel
theorem dX10_cancel_18 : decode cX10_cancel 18 = .ok (.iload_n 2, 1) := by decide +kernel
theorem dX10_cancel_19 : decode cX10_cancel 19 = .ok (.if_icmp .eq 24, 3) := by decide +kernel
theorem dX10_cancel_22 : decode cX10_cancel 22 = .ok (.iload 4, 2) := by decide +kernel
theorem dX10_cancel_24 : decode cX10_cancel 24 = .ok (.invokestatic 213, 3) := by decide +kernel
theorem dX10_cancel_27 : decode cX10_cancel 27 = .ok (.ifCond .eq 16, 3) := by decide +kernel
theorem dX10_cancel_30 : decode cX10_cancel 30 = .ok (.iload 5, 2) := by decide +kernel
theorem dX10_cancel_32 : decode cX10_cancel 32 = .ok (.i2l, 1) := by decide +kernel
theorem dX10_cancel_33 : decode cX10_cancel 33 = .ok (.lconst 0, 1) := by decide +kernel
theorem dX10_cancel_34 : decode cX10_cancel 34 = .ok (.ldc2_w 180, 3) := by decide +kernel
theorem dX10_cancel_37 : decode cX10_cancel 37 = .ok (.invokestatic 65, 3) := by decide +kernel
theorem dX10_cancel_40 : decode cX10_cancel 40 = .ok (.ifCond .ne 6, 3) := by decide +kernel
theorem dX10_cancel_43 : decode cX10_cancel 43 = .ok (.bipush (-3), 2) := by decide +kernel
theorem dX10_cancel_45 : decode cX10_cancel 45 = .ok (.ireturn, 1) := by decide +kernel
theorem dX10_cancel_46 : decode cX10_cancel 46 = .ok (.aload_n 0, 1) := by decide +kernel
theorem dX10_cancel_47 : decode cX10_cancel 47 = .ok (.getfield 7, 3) := by decide +kernel
theorem dX10_cancel_50 : decode cX10_cancel 50 = .ok (.bipush 38, 2) := by decide +kernel
theorem dX10_cancel_52 : decode cX10_cancel 52 = .ok (.iload_n 1, 1) := by decide +kernel
theorem dX10_cancel_53 : decode cX10_cancel 53 = .ok (.iadd, 1) := by decide +kernel
theorem dX10_cancel_54 : decode cX10_cancel 54 = .ok (.iaload, 1) := by decide +kernel
theorem dX10_cancel_55 : decode cX10_cancel 55 = .ok (.istore 6, 2) := by decide +kernel
theorem dX10_cancel_57 : decode cX10_cancel 57 = .ok (.aload_n 0, 1) := by decide +kernel
theorem dX10_cancel_58 : decode cX10_cancel 58 = .ok (.getfield 7, 3) := by decide +kernel
theorem dX10_cancel_61 : decode cX10_cancel 61 = .ok (.bipush 38, 2) := by decide +kernel
theorem dX10_cancel_63 : decode cX10_cancel 63 = .ok (.iload_n 2, 1) := by decide +kernel
theorem dX10_cancel_64 : decode cX10_cancel 64 = .ok (.iadd, 1) := by decide +kernel
theorem dX10_cancel_65 : decode cX10_cancel 65 = .ok (.iaload, 1) := by decide +kernel
theorem dX10_cancel_66 : decode cX10_cancel 66 = .ok (.istore 7, 2) := by decide +kernel
theorem dX10_cancel_68 : decode cX10_cancel 68 = .ok (.iload 6, 2) := by decide +kernel
theorem dX10_cancel_70 : decode cX10_cancel 70 = .ok (.iconst (-1), 1) := by decide +kernel
theorem dX10_cancel_71 : decode cX10_cancel 71 = .ok (.if_icmp .eq 9, 3) := by decide +kernel
theorem dX10_cancel_74 : decode cX10_cancel 74 = .ok (.iload 7, 2) := by decide +kernel
theorem dX10_cancel_76 : decode cX10_cancel 76 = .ok (.iconst (-1), 1) := by decide +kernel
theorem dX10_cancel_77 : decode cX10_cancel 77 = .ok (.if_icmp .ne 6, 3) := by decide +kernel
theorem dX10_cancel_80 : decode cX10_cancel 80 = .ok (.bipush (-4), 2) := by decide +kernel
theorem dX10_cancel_82 : decode cX10_cancel 82 = .ok (.ireturn, 1) := by decide +kernel
theorem dX10_cancel_83 : decode cX10_cancel 83 = .ok (.iconst 1, 1) := by decide +kernel
theorem dX10_cancel_84 : decode cX10_cancel 84 = .ok (.istore 8, 2) := by decide +kernel
theorem dX10_cancel_86 : decode cX10_cancel 86 = .ok (.iload 8, 2) := by decide +kernel
theorem dX10_cancel_88 : decode cX10_cancel 88 = .ok (.bipush 41, 2) := by decide +kernel
theorem dX10_cancel_90 : decode cX10_cancel 90 = .ok (.if_icmp .ge 29, 3) := by decide +kernel
theorem dX10_cancel_93 : decode cX10_cancel 93 = .ok (.aload_n 0, 1) := by decide +kernel
theorem dX10_cancel_94 : decode cX10_cancel 94 = .ok (.getfield 60, 3) := by decide +kernel
theorem dX10_cancel_97 : decode cX10_cancel 97 = .ok (.iload 8, 2) := by decide +kernel
theorem dX10_cancel_99 : decode cX10_cancel 99 = .ok (.aload_n 0, 1) := by decide +kernel
theorem dX10_cancel_100 : decode cX10_cancel 100 = .ok (.iload 7, 2) := by decide +kernel
theorem dX10_cancel_102 : decode cX10_cancel 102 = .ok (.iload 6, 2) := by decide +kernel
theorem dX10_cancel_104 : decode cX10_cancel 104 = .ok (.iload 8, 2) := by decide +kernel
theorem dX10_cancel_106 : decode cX10_cancel 106 = .ok (.iload_n 3, 1) := by decide +kernel
theorem dX10_cancel_107 : decode cX10_cancel 107 = .ok (.iload 4, 2) := by decide +kernel
theorem dX10_cancel_109 : decode cX10_cancel 109 = .ok (.invokevirtual 257, 3) := by decide +kernel
theorem dX10_cancel_112 : decode cX10_cancel 112 = .ok (.iastore, 1) := by decide +kernel
theorem dX10_cancel_113 : decode cX10_cancel 113 = .ok (.iinc 8 1, 3) := by decide +kernel
theorem dX10_cancel_116 : decode cX10_cancel 116 = .ok (.goto (-30), 3) := by decide +kernel
theorem dX10_cancel_119 : decode cX10_cancel 119 = .ok (.iconst 1, 1) := by decide +kernel
theorem dX10_cancel_120 : decode cX10_cancel 120 = .ok (.istore 8, 2) := by decide +kernel
theorem dX10_cancel_122 : decode cX10_cancel 122 = .ok (.iload 8, 2) := by decide +kernel
theorem dX10_cancel_124 : decode cX10_cancel 124 = .ok (.bipush 41, 2) := by decide +kernel
theorem dX10_cancel_126 : decode cX10_cancel 126 = .ok (.if_icmp .ge 81, 3) := by decide +kernel
theorem dX10_cancel_129 : decode cX10_cancel 129 = .ok (.aload_n 0, 1) := by decide +kernel
theorem dX10_cancel_130 : decode cX10_cancel 130 = .ok (.iload 6, 2) := by decide +kernel
theorem dX10_cancel_132 : decode cX10_cancel 132 = .ok (.iload 7, 2) := by decide +kernel
theorem dX10_cancel_134 : decode cX10_cancel 134 = .ok (.iload 8, 2) := by decide +kernel
theorem dX10_cancel_136 : decode cX10_cancel 136 = .ok (.iload_n 3, 1) := by decide +kernel
theorem dX10_cancel_137 : decode cX10_cancel 137 = .ok (.iload 4, 2) := by decide +kernel
theorem dX10_cancel_139 : decode cX10_cancel 139 = .ok (.invokevirtual 257, 3) := by decide +kernel
theorem dX10_cancel_142 : decode cX10_cancel 142 = .ok (.istore 9, 2) := by decide +kernel
theorem dX10_cancel_144 : decode cX10_cancel 144 = .ok (.iconst 1, 1) := by decide +kernel
theorem dX10_cancel_145 : decode cX10_cancel 145 = .ok (.istore 10, 2) := by decide +kernel
theorem dX10_cancel_147 : decode cX10_cancel 147 = .ok (.iload 10, 2) := by decide +kernel
theorem dX10_cancel_149 : decode cX10_cancel 149 = .ok (.bipush 41, 2) := by decide +kernel
theorem dX10_cancel_151 : decode cX10_cancel 151 = .ok (.if_icmp .ge 50, 3) := by decide +kernel
theorem dX10_cancel_154 : decode cX10_cancel 154 = .ok (.iload 9, 2) := by decide +kernel
theorem dX10_cancel_156 : decode cX10_cancel 156 = .ok (.ifCond .le 45, 3) := by decide +kernel
theorem dX10_cancel_159 : decode cX10_cancel 159 = .ok (.aload_n 0, 1) := by decide +kernel
theorem dX10_cancel_160 : decode cX10_cancel 160 = .ok (.getfield 60, 3) := by decide +kernel
theorem dX10_cancel_163 : decode cX10_cancel 163 = .ok (.iload 10, 2) := by decide +kernel
theorem dX10_cancel_165 : decode cX10_cancel 165 = .ok (.iaload, 1) := by decide +kernel
theorem dX10_cancel_166 : decode cX10_cancel 166 = .ok (.iload 9, 2) := by decide +kernel
theorem dX10_cancel_168 : decode cX10_cancel 168 = .ok (.if_icmp .ne 27, 3) := by decide +kernel
theorem dX10_cancel_171 : decode cX10_cancel 171 = .ok (.iload 5, 2) := by decide +kernel
theorem dX10_cancel_173 : decode cX10_cancel 173 = .ok (.ifCond .ne 8, 3) := by decide +kernel
theorem dX10_cancel_176 : decode cX10_cancel 176 = .ok (.iload 8, 2) := by decide +kernel
theorem dX10_cancel_178 : decode cX10_cancel 178 = .ok (.goto 16, 3) := by decide +kernel
theorem dX10_cancel_181 : decode cX10_cancel 181 = .ok (.iload 5, 2) := by decide +kernel
theorem dX10_cancel_183 : decode cX10_cancel 183 = .ok (.iconst 1, 1) := by decide +kernel
theorem dX10_cancel_184 : decode cX10_cancel 184 = .ok (.if_icmp .ne 8, 3) := by decide +kernel
theorem dX10_cancel_187 : decode cX10_cancel 187 = .ok (.iload 10, 2) := by decide +kernel
theorem dX10_cancel_189 : decode cX10_cancel 189 = .ok (.goto 5, 3) := by decide +kernel
theorem dX10_cancel_192 : decode cX10_cancel 192 = .ok (.iload 9, 2) := by decide +kernel
theorem dX10_cancel_194 : decode cX10_cancel 194 = .ok (.ireturn, 1) := by decide +kernel
theorem dX10_cancel_195 : decode cX10_cancel 195 = .ok (.iinc 10 1, 3) := by decide +kernel
theorem dX10_cancel_198 : decode cX10_cancel 198 = .ok (.goto (-51), 3) := by decide +kernel
theorem dX10_cancel_201 : decode cX10_cancel 201 = .ok (.iinc 8 1, 3) := by decide +kernel
theorem dX10_cancel_204 : decode cX10_cancel 204 = .ok (.goto (-82), 3) := by decide +kernel
theorem dX10_cancel_207 : decode cX10_cancel 207 = .ok (.iconst (-1), 1) := by decide +kernel
theorem dX10_cancel_208 : decode cX10_cancel 208 = .ok (.ireturn, 1) := by decide +kernel
theorem dX10_copy_0 : decode cX10_copy 0 = .ok (.iconst 0, 1) := by decide +kernel
theorem dX10_copy_1 : decode cX10_copy 1 = .ok (.istore_n 3, 1) := by decide +kernel
theorem dX10_copy_2 : decode cX10_copy 2 = .ok (.iload_n 3, 1) := by decide +kernel
theorem dX10_copy_3 : decode cX10_copy 3 = .ok (.sipush 186, 3) := by decide +kernel
theorem dX10_copy_6 : decode cX10_copy 6 = .ok (.if_icmp .ge 33, 3) := by decide +kernel
theorem dX10_copy_9 : decode cX10_copy 9 = .ok (.aload_n 0, 1) := by decide +kernel
theorem dX10_copy_10 : decode cX10_copy 10 = .ok (.getfield 7, 3) := by decide +kernel
theorem dX10_copy_13 : decode cX10_copy 13 = .ok (.sipush 186, 3) := by decide +kernel
theorem dX10_copy_16 : decode cX10_copy 16 = .ok (.iload_n 2, 1) := by decide +kernel
theorem dX10_copy_17 : decode cX10_copy 17 = .ok (.imul, 1) := by decide +kernel
theorem dX10_copy_18 : decode cX10_copy 18 = .ok (.iload_n 3, 1) := by decide +kernel
theorem dX10_copy_19 : decode cX10_copy 19 = .ok (.iadd, 1) := by decide +kernel
theorem dX10_copy_20 : decode cX10_copy 20 = .ok (.aload_n 0, 1) := by decide +kernel
theorem dX10_copy_21 : decode cX10_copy 21 = .ok (.getfield 7, 3) := by decide +kernel
theorem dX10_copy_24 : decode cX10_copy 24 = .ok (.sipush 186, 3) := by decide +kernel
theorem dX10_copy_27 : decode cX10_copy 27 = .ok (.iload_n 1, 1) := by decide +kernel
theorem dX10_copy_28 : decode cX10_copy 28 = .ok (.imul, 1) := by decide +kernel
theorem dX10_copy_29 : decode cX10_copy 29 = .ok (.iload_n 3, 1) := by decide +kernel
theorem dX10_copy_30 : decode cX10_copy 30 = .ok (.iadd, 1) := by decide +kernel
theorem dX10_copy_31 : decode cX10_copy 31 = .ok (.iaload, 1) := by decide +kernel
theorem dX10_copy_32 : decode cX10_copy 32 = .ok (.iastore, 1) := by decide +kernel
theorem dX10_copy_33 : decode cX10_copy 33 = .ok (.iinc 3 1, 3) := by decide +kernel
theorem dX10_copy_36 : decode cX10_copy 36 = .ok (.goto (-34), 3) := by decide +kernel
theorem dX10_copy_39 : decode cX10_copy 39 = .ok (.return_, 1) := by decide +kernel
theorem dX10_keep_0 : decode cX10_keep 0 = .ok (.iload_n 1, 1) := by decide +kernel
theorem dX10_keep_1 : decode cX10_keep 1 = .ok (.i2l, 1) := by decide +kernel
theorem dX10_keep_2 : decode cX10_keep 2 = .ok (.lconst 0, 1) := by decide +kernel
theorem dX10_keep_3 : decode cX10_keep 3 = .ok (.lconst 1, 1) := by decide +kernel
theorem dX10_keep_4 : decode cX10_keep 4 = .ok (.invokestatic 65, 3) := by decide +kernel
theorem dX10_keep_7 : decode cX10_keep 7 = .ok (.ifCond .ne 6, 3) := by decide +kernel
theorem dX10_keep_10 : decode cX10_keep 10 = .ok (.bipush (-2), 2) := by decide +kernel
theorem dX10_keep_12 : decode cX10_keep 12 = .ok (.ireturn, 1) := by decide +kernel
theorem dX10_keep_13 : decode cX10_keep 13 = .ok (.aload_n 0, 1) := by decide +kernel
theorem dX10_keep_14 : decode cX10_keep 14 = .ok (.iconst 0, 1) := by decide +kernel
theorem dX10_keep_15 : decode cX10_keep 15 = .ok (.iconst 1, 1) := by decide +kernel
theorem dX10_keep_16 : decode cX10_keep 16 = .ok (.iload_n 1, 1) := by decide +kernel
theorem dX10_keep_17 : decode cX10_keep 17 = .ok (.iadd, 1) := by decide +kernel
theorem dX10_keep_18 : decode cX10_keep 18 = .ok (.invokevirtual 260, 3) := by decide +kernel
theorem dX10_keep_21 : decode cX10_keep 21 = .ok (.aload_n 0, 1) := by decide +kernel
theorem dX10_keep_22 : decode cX10_keep 22 = .ok (.getfield 13, 3) := by decide +kernel
theorem dX10_keep_25 : decode cX10_keep 25 = .ok (.iload_n 1, 1) := by decide +kernel
theorem dX10_keep_26 : decode cX10_keep 26 = .ok (.iconst 1, 1) := by decide +kernel
theorem dX10_keep_27 : decode cX10_keep 27 = .ok (.bastore, 1) := by decide +kernel
theorem dX10_keep_28 : decode cX10_keep 28 = .ok (.aload_n 0, 1) := by decide +kernel
theorem dX10_keep_29 : decode cX10_keep 29 = .ok (.getfield 7, 3) := by decide +kernel
theorem dX10_keep_32 : decode cX10_keep 32 = .ok (.bipush 80, 2) := by decide +kernel
theorem dX10_keep_34 : decode cX10_keep 34 = .ok (.iaload, 1) := by decide +kernel
theorem dX10_keep_35 : decode cX10_keep 35 = .ok (.ireturn, 1) := by decide +kernel
theorem dX10_back_0 : decode cX10_back 0 = .ok (.iload_n 1, 1) := by decide +kernel
theorem dX10_back_1 : decode cX10_back 1 = .ok (.i2l, 1) := by decide +kernel
theorem dX10_back_2 : decode cX10_back 2 = .ok (.lconst 0, 1) := by decide +kernel
theorem dX10_back_3 : decode cX10_back 3 = .ok (.lconst 1, 1) := by decide +kernel
theorem dX10_back_4 : decode cX10_back 4 = .ok (.invokestatic 65, 3) := by decide +kernel
theorem dX10_back_7 : decode cX10_back 7 = .ok (.ifCond .ne 6, 3) := by decide +kernel
theorem dX10_back_10 : decode cX10_back 10 = .ok (.bipush (-2), 2) := by decide +kernel
theorem dX10_back_12 : decode cX10_back 12 = .ok (.ireturn, 1) := by decide +kernel
theorem dX10_back_13 : decode cX10_back 13 = .ok (.aload_n 0, 1) := by decide +kernel
theorem dX10_back_14 : decode cX10_back 14 = .ok (.getfield 13, 3) := by decide +kernel
theorem dX10_back_17 : decode cX10_back 17 = .ok (.iload_n 1, 1) := by decide +kernel
theorem dX10_back_18 : decode cX10_back 18 = .ok (.baload, 1) := by decide +kernel
theorem dX10_back_19 : decode cX10_back 19 = .ok (.ifCond .ne 6, 3) := by decide +kernel
theorem dX10_back_22 : decode cX10_back 22 = .ok (.bipush (-4), 2) := by decide +kernel
theorem dX10_back_24 : decode cX10_back 24 = .ok (.ireturn, 1) := by decide +kernel
theorem dX10_back_25 : decode cX10_back 25 = .ok (.aload_n 0, 1) := by decide +kernel
theorem dX10_back_26 : decode cX10_back 26 = .ok (.iconst 1, 1) := by decide +kernel
theorem dX10_back_27 : decode cX10_back 27 = .ok (.iload_n 1, 1) := by decide +kernel
theorem dX10_back_28 : decode cX10_back 28 = .ok (.iadd, 1) := by decide +kernel
theorem dX10_back_29 : decode cX10_back 29 = .ok (.iconst 0, 1) := by decide +kernel
theorem dX10_back_30 : decode cX10_back 30 = .ok (.invokevirtual 260, 3) := by decide +kernel
theorem dX10_back_33 : decode cX10_back 33 = .ok (.aload_n 0, 1) := by decide +kernel
theorem dX10_back_34 : decode cX10_back 34 = .ok (.getfield 7, 3) := by decide +kernel
theorem dX10_back_37 : decode cX10_back 37 = .ok (.bipush 80, 2) := by decide +kernel
theorem dX10_back_39 : decode cX10_back 39 = .ok (.iaload, 1) := by decide +kernel
theorem dX10_back_40 : decode cX10_back 40 = .ok (.ireturn, 1) := by decide +kernel
theorem dX10_count_0 : decode cX10_count 0 = .ok (.iconst 0, 1) := by decide +kernel
theorem dX10_count_1 : decode cX10_count 1 = .ok (.istore_n 2, 1) := by decide +kernel
theorem dX10_count_2 : decode cX10_count 2 = .ok (.iconst 0, 1) := by decide +kernel
theorem dX10_count_3 : decode cX10_count 3 = .ok (.istore_n 3, 1) := by decide +kernel
theorem dX10_count_4 : decode cX10_count 4 = .ok (.iload_n 3, 1) := by decide +kernel
theorem dX10_count_5 : decode cX10_count 5 = .ok (.aload_n 0, 1) := by decide +kernel
theorem dX10_count_6 : decode cX10_count 6 = .ok (.invokevirtual 156, 3) := by decide +kernel
theorem dX10_count_9 : decode cX10_count 9 = .ok (.if_icmp .ge 25, 3) := by decide +kernel
theorem dX10_count_12 : decode cX10_count 12 = .ok (.iload_n 2, 1) := by decide +kernel
theorem dX10_count_13 : decode cX10_count 13 = .ok (.aload_n 0, 1) := by decide +kernel
theorem dX10_count_14 : decode cX10_count 14 = .ok (.iload_n 3, 1) := by decide +kernel
theorem dX10_count_15 : decode cX10_count 15 = .ok (.invokevirtual 164, 3) := by decide +kernel
theorem dX10_count_18 : decode cX10_count 18 = .ok (.ifCond .eq 7, 3) := by decide +kernel
theorem dX10_count_21 : decode cX10_count 21 = .ok (.iconst 0, 1) := by decide +kernel
theorem dX10_count_22 : decode cX10_count 22 = .ok (.goto 4, 3) := by decide +kernel
theorem dX10_count_25 : decode cX10_count 25 = .ok (.iconst 1, 1) := by decide +kernel
theorem dX10_count_26 : decode cX10_count 26 = .ok (.iadd, 1) := by decide +kernel
theorem dX10_count_27 : decode cX10_count 27 = .ok (.istore_n 2, 1) := by decide +kernel
theorem dX10_count_28 : decode cX10_count 28 = .ok (.iinc 3 1, 3) := by decide +kernel
theorem dX10_count_31 : decode cX10_count 31 = .ok (.goto (-27), 3) := by decide +kernel
theorem dX10_count_34 : decode cX10_count 34 = .ok (.iload_n 1, 1) := by decide +kernel
theorem dX10_count_35 : decode cX10_count 35 = .ok (.tableswitch 126 0 10 #[57, 64, 71, 73, 84, 89, 97, 106, 111, 116, 121], 57) := by decide +kernel
theorem dX10_count_92 : decode cX10_count 92 = .ok (.aload_n 0, 1) := by decide +kernel
theorem dX10_count_93 : decode cX10_count 93 = .ok (.getfield 7, 3) := by decide +kernel
theorem dX10_count_96 : decode cX10_count 96 = .ok (.iconst 0, 1) := by decide +kernel
theorem dX10_count_97 : decode cX10_count 97 = .ok (.iaload, 1) := by decide +kernel
theorem dX10_count_98 : decode cX10_count 98 = .ok (.ireturn, 1) := by decide +kernel
theorem dX10_count_99 : decode cX10_count 99 = .ok (.aload_n 0, 1) := by decide +kernel
theorem dX10_count_100 : decode cX10_count 100 = .ok (.getfield 7, 3) := by decide +kernel
theorem dX10_count_103 : decode cX10_count 103 = .ok (.iconst 1, 1) := by decide +kernel
theorem dX10_count_104 : decode cX10_count 104 = .ok (.iaload, 1) := by decide +kernel
theorem dX10_count_105 : decode cX10_count 105 = .ok (.ireturn, 1) := by decide +kernel
theorem dX10_count_106 : decode cX10_count 106 = .ok (.iload_n 2, 1) := by decide +kernel
theorem dX10_count_107 : decode cX10_count 107 = .ok (.ireturn, 1) := by decide +kernel
theorem dX10_count_108 : decode cX10_count 108 = .ok (.bipush 63, 2) := by decide +kernel
theorem dX10_count_110 : decode cX10_count 110 = .ok (.aload_n 0, 1) := by decide +kernel
theorem dX10_count_111 : decode cX10_count 111 = .ok (.iconst (-1), 1) := by decide +kernel
theorem dX10_count_112 : decode cX10_count 112 = .ok (.invokevirtual 167, 3) := by decide +kernel
theorem dX10_count_115 : decode cX10_count 115 = .ok (.iconst (-1), 1) := by decide +kernel
theorem dX10_count_116 : decode cX10_count 116 = .ok (.ixor, 1) := by decide +kernel
theorem dX10_count_117 : decode cX10_count 117 = .ok (.iand, 1) := by decide +kernel
theorem dX10_count_118 : decode cX10_count 118 = .ok (.ireturn, 1) := by decide +kernel
theorem dX10_count_119 : decode cX10_count 119 = .ok (.aload_n 0, 1) := by decide +kernel
theorem dX10_count_120 : decode cX10_count 120 = .ok (.getfield 137, 3) := by decide +kernel
theorem dX10_count_123 : decode cX10_count 123 = .ok (.ireturn, 1) := by decide +kernel
theorem dX10_count_124 : decode cX10_count 124 = .ok (.aload_n 0, 1) := by decide +kernel
theorem dX10_count_125 : decode cX10_count 125 = .ok (.getfield 7, 3) := by decide +kernel
theorem dX10_count_128 : decode cX10_count 128 = .ok (.bipush 80, 2) := by decide +kernel
theorem dX10_count_130 : decode cX10_count 130 = .ok (.iaload, 1) := by decide +kernel
theorem dX10_count_131 : decode cX10_count 131 = .ok (.ireturn, 1) := by decide +kernel
theorem dX10_count_132 : decode cX10_count 132 = .ok (.aload_n 0, 1) := by decide +kernel
theorem dX10_count_133 : decode cX10_count 133 = .ok (.getfield 7, 3) := by decide +kernel
theorem dX10_count_136 : decode cX10_count 136 = .ok (.sipush 161, 3) := by decide +kernel
theorem dX10_count_139 : decode cX10_count 139 = .ok (.iaload, 1) := by decide +kernel
theorem dX10_count_140 : decode cX10_count 140 = .ok (.ireturn, 1) := by decide +kernel
theorem dX10_count_141 : decode cX10_count 141 = .ok (.aload_n 0, 1) := by decide +kernel
theorem dX10_count_142 : decode cX10_count 142 = .ok (.getfield 30, 3) := by decide +kernel
theorem dX10_count_145 : decode cX10_count 145 = .ok (.ireturn, 1) := by decide +kernel
theorem dX10_count_146 : decode cX10_count 146 = .ok (.aload_n 0, 1) := by decide +kernel
theorem dX10_count_147 : decode cX10_count 147 = .ok (.getfield 69, 3) := by decide +kernel
theorem dX10_count_150 : decode cX10_count 150 = .ok (.ireturn, 1) := by decide +kernel
theorem dX10_count_151 : decode cX10_count 151 = .ok (.aload_n 0, 1) := by decide +kernel
theorem dX10_count_152 : decode cX10_count 152 = .ok (.getfield 147, 3) := by decide +kernel
theorem dX10_count_155 : decode cX10_count 155 = .ok (.ireturn, 1) := by decide +kernel
theorem dX10_count_156 : decode cX10_count 156 = .ok (.aload_n 0, 1) := by decide +kernel
theorem dX10_count_157 : decode cX10_count 157 = .ok (.getfield 26, 3) := by decide +kernel
theorem dX10_count_160 : decode cX10_count 160 = .ok (.ireturn, 1) := by decide +kernel
theorem dX10_count_161 : decode cX10_count 161 = .ok (.bipush (-3), 2) := by decide +kernel
theorem dX10_count_163 : decode cX10_count 163 = .ok (.ireturn, 1) := by decide +kernel
theorem dJ6_bitCount_0f7a4_0 : decode cJ6_bitCount_0f7a4 0 = .ok (.iload_n 0, 1) := by decide +kernel
theorem dJ6_bitCount_0f7a4_1 : decode cJ6_bitCount_0f7a4 1 = .ok (.iload_n 0, 1) := by decide +kernel
theorem dJ6_bitCount_0f7a4_2 : decode cJ6_bitCount_0f7a4 2 = .ok (.iconst 1, 1) := by decide +kernel
theorem dJ6_bitCount_0f7a4_3 : decode cJ6_bitCount_0f7a4 3 = .ok (.iushr, 1) := by decide +kernel
theorem dJ6_bitCount_0f7a4_4 : decode cJ6_bitCount_0f7a4 4 = .ok (.ldc_w 265, 3) := by decide +kernel
theorem dJ6_bitCount_0f7a4_7 : decode cJ6_bitCount_0f7a4 7 = .ok (.iand, 1) := by decide +kernel
theorem dJ6_bitCount_0f7a4_8 : decode cJ6_bitCount_0f7a4 8 = .ok (.isub, 1) := by decide +kernel
theorem dJ6_bitCount_0f7a4_9 : decode cJ6_bitCount_0f7a4 9 = .ok (.istore_n 0, 1) := by decide +kernel
theorem dJ6_bitCount_0f7a4_10 : decode cJ6_bitCount_0f7a4 10 = .ok (.iload_n 0, 1) := by decide +kernel
theorem dJ6_bitCount_0f7a4_11 : decode cJ6_bitCount_0f7a4 11 = .ok (.ldc_w 266, 3) := by decide +kernel
theorem dJ6_bitCount_0f7a4_14 : decode cJ6_bitCount_0f7a4 14 = .ok (.iand, 1) := by decide +kernel
theorem dJ6_bitCount_0f7a4_15 : decode cJ6_bitCount_0f7a4 15 = .ok (.iload_n 0, 1) := by decide +kernel
theorem dJ6_bitCount_0f7a4_16 : decode cJ6_bitCount_0f7a4 16 = .ok (.iconst 2, 1) := by decide +kernel
theorem dJ6_bitCount_0f7a4_17 : decode cJ6_bitCount_0f7a4 17 = .ok (.iushr, 1) := by decide +kernel
theorem dJ6_bitCount_0f7a4_18 : decode cJ6_bitCount_0f7a4 18 = .ok (.ldc_w 266, 3) := by decide +kernel
theorem dJ6_bitCount_0f7a4_21 : decode cJ6_bitCount_0f7a4 21 = .ok (.iand, 1) := by decide +kernel
theorem dJ6_bitCount_0f7a4_22 : decode cJ6_bitCount_0f7a4 22 = .ok (.iadd, 1) := by decide +kernel
theorem dJ6_bitCount_0f7a4_23 : decode cJ6_bitCount_0f7a4 23 = .ok (.istore_n 0, 1) := by decide +kernel
theorem dJ6_bitCount_0f7a4_24 : decode cJ6_bitCount_0f7a4 24 = .ok (.iload_n 0, 1) := by decide +kernel
theorem dJ6_bitCount_0f7a4_25 : decode cJ6_bitCount_0f7a4 25 = .ok (.iload_n 0, 1) := by decide +kernel
theorem dJ6_bitCount_0f7a4_26 : decode cJ6_bitCount_0f7a4 26 = .ok (.iconst 4, 1) := by decide +kernel
theorem dJ6_bitCount_0f7a4_27 : decode cJ6_bitCount_0f7a4 27 = .ok (.iushr, 1) := by decide +kernel
theorem dJ6_bitCount_0f7a4_28 : decode cJ6_bitCount_0f7a4 28 = .ok (.iadd, 1) := by decide +kernel
theorem dJ6_bitCount_0f7a4_29 : decode cJ6_bitCount_0f7a4 29 = .ok (.ldc_w 267, 3) := by decide +kernel
theorem dJ6_bitCount_0f7a4_32 : decode cJ6_bitCount_0f7a4 32 = .ok (.iand, 1) := by decide +kernel
theorem dJ6_bitCount_0f7a4_33 : decode cJ6_bitCount_0f7a4 33 = .ok (.istore_n 0, 1) := by decide +kernel
theorem dJ6_bitCount_0f7a4_34 : decode cJ6_bitCount_0f7a4 34 = .ok (.iload_n 0, 1) := by decide +kernel
theorem dJ6_bitCount_0f7a4_35 : decode cJ6_bitCount_0f7a4 35 = .ok (.iload_n 0, 1) := by decide +kernel
theorem dJ6_bitCount_0f7a4_36 : decode cJ6_bitCount_0f7a4 36 = .ok (.bipush 8, 2) := by decide +kernel
theorem dJ6_bitCount_0f7a4_38 : decode cJ6_bitCount_0f7a4 38 = .ok (.iushr, 1) := by decide +kernel
theorem dJ6_bitCount_0f7a4_39 : decode cJ6_bitCount_0f7a4 39 = .ok (.iadd, 1) := by decide +kernel
theorem dJ6_bitCount_0f7a4_40 : decode cJ6_bitCount_0f7a4 40 = .ok (.istore_n 0, 1) := by decide +kernel
theorem dJ6_bitCount_0f7a4_41 : decode cJ6_bitCount_0f7a4 41 = .ok (.iload_n 0, 1) := by decide +kernel
theorem dJ6_bitCount_0f7a4_42 : decode cJ6_bitCount_0f7a4 42 = .ok (.iload_n 0, 1) := by decide +kernel
theorem dJ6_bitCount_0f7a4_43 : decode cJ6_bitCount_0f7a4 43 = .ok (.bipush 16, 2) := by decide +kernel
theorem dJ6_bitCount_0f7a4_45 : decode cJ6_bitCount_0f7a4 45 = .ok (.iushr, 1) := by decide +kernel
theorem dJ6_bitCount_0f7a4_46 : decode cJ6_bitCount_0f7a4 46 = .ok (.iadd, 1) := by decide +kernel
theorem dJ6_bitCount_0f7a4_47 : decode cJ6_bitCount_0f7a4 47 = .ok (.istore_n 0, 1) := by decide +kernel
theorem dJ6_bitCount_0f7a4_48 : decode cJ6_bitCount_0f7a4 48 = .ok (.iload_n 0, 1) := by decide +kernel
theorem dJ6_bitCount_0f7a4_49 : decode cJ6_bitCount_0f7a4 49 = .ok (.bipush 63, 2) := by decide +kernel
theorem dJ6_bitCount_0f7a4_51 : decode cJ6_bitCount_0f7a4 51 = .ok (.iand, 1) := by decide +kernel
theorem dJ6_bitCount_0f7a4_52 : decode cJ6_bitCount_0f7a4 52 = .ok (.ireturn, 1) := by decide +kernel
theorem dJ9_max_7cf53_0 : decode cJ9_max_7cf53 0 = .ok (.iload_n 0, 1) := by decide +kernel
theorem dJ9_max_7cf53_1 : decode cJ9_max_7cf53 1 = .ok (.iload_n 1, 1) := by decide +kernel
theorem dJ9_max_7cf53_2 : decode cJ9_max_7cf53 2 = .ok (.if_icmp .lt 7, 3) := by decide +kernel
theorem dJ9_max_7cf53_5 : decode cJ9_max_7cf53 5 = .ok (.iload_n 0, 1) := by decide +kernel
theorem dJ9_max_7cf53_6 : decode cJ9_max_7cf53 6 = .ok (.goto 4, 3) := by decide +kernel
theorem dJ9_max_7cf53_9 : decode cJ9_max_7cf53 9 = .ok (.iload_n 1, 1) := by decide +kernel
theorem dJ9_max_7cf53_10 : decode cJ9_max_7cf53 10 = .ok (.ireturn, 1) := by decide +kernel
theorem dJ9_min_7cf53_0 : decode cJ9_min_7cf53 0 = .ok (.iload_n 0, 1) := by decide +kernel
theorem dJ9_min_7cf53_1 : decode cJ9_min_7cf53 1 = .ok (.iload_n 1, 1) := by decide +kernel
theorem dJ9_min_7cf53_2 : decode cJ9_min_7cf53 2 = .ok (.if_icmp .gt 7, 3) := by decide +kernel
theorem dJ9_min_7cf53_5 : decode cJ9_min_7cf53 5 = .ok (.iload_n 0, 1) := by decide +kernel
theorem dJ9_min_7cf53_6 : decode cJ9_min_7cf53 6 = .ok (.goto 4, 3) := by decide +kernel
theorem dJ9_min_7cf53_9 : decode cJ9_min_7cf53 9 = .ok (.iload_n 1, 1) := by decide +kernel
theorem dJ9_min_7cf53_10 : decode cJ9_min_7cf53 10 = .ok (.ireturn, 1) := by decide +kernel
theorem dJ0_length_8abf5_0 : decode cJ0_length_8abf5 0 = .ok (.aload_n 0, 1) := by decide +kernel
theorem dJ0_length_8abf5_1 : decode cJ0_length_8abf5 1 = .ok (.getfield 9, 3) := by decide +kernel
theorem dJ0_length_8abf5_4 : decode cJ0_length_8abf5 4 = .ok (.arraylength, 1) := by decide +kernel
theorem dJ0_length_8abf5_5 : decode cJ0_length_8abf5 5 = .ok (.aload_n 0, 1) := by decide +kernel
theorem dJ0_length_8abf5_6 : decode cJ0_length_8abf5 6 = .ok (.invokevirtual 335, 3) := by decide +kernel
theorem dJ0_length_8abf5_9 : decode cJ0_length_8abf5 9 = .ok (.ishr, 1) := by decide +kernel
theorem dJ0_length_8abf5_10 : decode cJ0_length_8abf5 10 = .ok (.ireturn, 1) := by decide +kernel
theorem dJ0_charAt_5068e_0 : decode cJ0_charAt_5068e 0 = .ok (.aload_n 0, 1) := by decide +kernel
theorem dJ0_charAt_5068e_1 : decode cJ0_charAt_5068e 1 = .ok (.invokevirtual 492, 3) := by decide +kernel
theorem dJ0_charAt_5068e_4 : decode cJ0_charAt_5068e 4 = .ok (.ifCond .eq 12, 3) := by decide +kernel
theorem dJ0_charAt_5068e_7 : decode cJ0_charAt_5068e 7 = .ok (.aload_n 0, 1) := by decide +kernel
theorem dJ0_charAt_5068e_8 : decode cJ0_charAt_5068e 8 = .ok (.getfield 9, 3) := by decide +kernel
theorem dJ0_charAt_5068e_11 : decode cJ0_charAt_5068e 11 = .ok (.iload_n 1, 1) := by decide +kernel
theorem dJ0_charAt_5068e_12 : decode cJ0_charAt_5068e 12 = .ok (.invokestatic 495, 3) := by decide +kernel
theorem dJ0_charAt_5068e_15 : decode cJ0_charAt_5068e 15 = .ok (.ireturn, 1) := by decide +kernel
theorem dJ0_charAt_5068e_16 : decode cJ0_charAt_5068e 16 = .ok (.aload_n 0, 1) := by decide +kernel
theorem dJ0_charAt_5068e_17 : decode cJ0_charAt_5068e 17 = .ok (.getfield 9, 3) := by decide +kernel
theorem dJ0_charAt_5068e_20 : decode cJ0_charAt_5068e 20 = .ok (.iload_n 1, 1) := by decide +kernel
theorem dJ0_charAt_5068e_21 : decode cJ0_charAt_5068e 21 = .ok (.invokestatic 498, 3) := by decide +kernel
theorem dJ0_charAt_5068e_24 : decode cJ0_charAt_5068e 24 = .ok (.ireturn, 1) := by decide +kernel
theorem dJ0_coder_7d493_0 : decode cJ0_coder_7d493 0 = .ok (.getstatic 38, 3) := by decide +kernel
theorem dJ0_coder_7d493_3 : decode cJ0_coder_7d493 3 = .ok (.ifCond .eq 10, 3) := by decide +kernel
theorem dJ0_coder_7d493_6 : decode cJ0_coder_7d493 6 = .ok (.aload_n 0, 1) := by decide +kernel
theorem dJ0_coder_7d493_7 : decode cJ0_coder_7d493 7 = .ok (.getfield 15, 3) := by decide +kernel
theorem dJ0_coder_7d493_10 : decode cJ0_coder_7d493 10 = .ok (.goto 4, 3) := by decide +kernel
theorem dJ0_coder_7d493_13 : decode cJ0_coder_7d493 13 = .ok (.iconst 1, 1) := by decide +kernel
theorem dJ0_coder_7d493_14 : decode cJ0_coder_7d493 14 = .ok (.ireturn, 1) := by decide +kernel
theorem dJ0_isLatin1_aae02_0 : decode cJ0_isLatin1_aae02 0 = .ok (.getstatic 38, 3) := by decide +kernel
theorem dJ0_isLatin1_aae02_3 : decode cJ0_isLatin1_aae02 3 = .ok (.ifCond .eq 14, 3) := by decide +kernel
theorem dJ0_isLatin1_aae02_6 : decode cJ0_isLatin1_aae02 6 = .ok (.aload_n 0, 1) := by decide +kernel
theorem dJ0_isLatin1_aae02_7 : decode cJ0_isLatin1_aae02 7 = .ok (.getfield 15, 3) := by decide +kernel
theorem dJ0_isLatin1_aae02_10 : decode cJ0_isLatin1_aae02 10 = .ok (.ifCond .ne 7, 3) := by decide +kernel
theorem dJ0_isLatin1_aae02_13 : decode cJ0_isLatin1_aae02 13 = .ok (.iconst 1, 1) := by decide +kernel
theorem dJ0_isLatin1_aae02_14 : decode cJ0_isLatin1_aae02 14 = .ok (.goto 4, 3) := by decide +kernel
theorem dJ0_isLatin1_aae02_17 : decode cJ0_isLatin1_aae02 17 = .ok (.iconst 0, 1) := by decide +kernel
theorem dJ0_isLatin1_aae02_18 : decode cJ0_isLatin1_aae02 18 = .ok (.ireturn, 1) := by decide +kernel
theorem dJ0_checkIndex_df160_0 : decode cJ0_checkIndex_df160 0 = .ok (.iload_n 0, 1) := by decide +kernel
theorem dJ0_checkIndex_df160_1 : decode cJ0_checkIndex_df160 1 = .ok (.iload_n 1, 1) := by decide +kernel
theorem dJ0_checkIndex_df160_2 : decode cJ0_checkIndex_df160 2 = .ok (.getstatic 1053, 3) := by decide +kernel
theorem dJ0_checkIndex_df160_5 : decode cJ0_checkIndex_df160 5 = .ok (.invokestatic 1059, 3) := by decide +kernel
theorem dJ0_checkIndex_df160_8 : decode cJ0_checkIndex_df160 8 = .ok (.pop, 1) := by decide +kernel
theorem dJ0_checkIndex_df160_9 : decode cJ0_checkIndex_df160 9 = .ok (.return_, 1) := by decide +kernel
theorem dJ1_charAt_3b067_0 : decode cJ1_charAt_3b067 0 = .ok (.iload_n 1, 1) := by decide +kernel
theorem dJ1_charAt_3b067_1 : decode cJ1_charAt_3b067 1 = .ok (.aload_n 0, 1) := by decide +kernel
theorem dJ1_charAt_3b067_2 : decode cJ1_charAt_3b067 2 = .ok (.arraylength, 1) := by decide +kernel
theorem dJ1_charAt_3b067_3 : decode cJ1_charAt_3b067 3 = .ok (.invokestatic 9, 3) := by decide +kernel
theorem dJ1_charAt_3b067_6 : decode cJ1_charAt_3b067 6 = .ok (.aload_n 0, 1) := by decide +kernel
theorem dJ1_charAt_3b067_7 : decode cJ1_charAt_3b067 7 = .ok (.iload_n 1, 1) := by decide +kernel
theorem dJ1_charAt_3b067_8 : decode cJ1_charAt_3b067 8 = .ok (.baload, 1) := by decide +kernel
theorem dJ1_charAt_3b067_9 : decode cJ1_charAt_3b067 9 = .ok (.sipush 255, 3) := by decide +kernel
theorem dJ1_charAt_3b067_12 : decode cJ1_charAt_3b067 12 = .ok (.iand, 1) := by decide +kernel
theorem dJ1_charAt_3b067_13 : decode cJ1_charAt_3b067 13 = .ok (.i2c, 1) := by decide +kernel
theorem dJ1_charAt_3b067_14 : decode cJ1_charAt_3b067 14 = .ok (.ireturn, 1) := by decide +kernel
theorem dJ2_getChar_3b067_0 : decode cJ2_getChar_3b067 0 = .ok (.getstatic 44, 3) := by decide +kernel
theorem dJ2_getChar_3b067_3 : decode cJ2_getChar_3b067 3 = .ok (.ifCond .ne 25, 3) := by decide +kernel
theorem dJ2_getChar_3b067_6 : decode cJ2_getChar_3b067 6 = .ok (.iload_n 1, 1) := by decide +kernel
theorem dJ2_getChar_3b067_7 : decode cJ2_getChar_3b067 7 = .ok (.ifCond .lt 11, 3) := by decide +kernel
theorem dJ2_getChar_3b067_10 : decode cJ2_getChar_3b067 10 = .ok (.iload_n 1, 1) := by decide +kernel
theorem dJ2_getChar_3b067_11 : decode cJ2_getChar_3b067 11 = .ok (.aload_n 0, 1) := by decide +kernel
theorem dJ2_getChar_3b067_12 : decode cJ2_getChar_3b067 12 = .ok (.invokestatic 48, 3) := by decide +kernel
theorem dJ2_getChar_3b067_15 : decode cJ2_getChar_3b067 15 = .ok (.if_icmp .lt 13, 3) := by decide +kernel
theorem dJ2_getChar_3b067_18 : decode cJ2_getChar_3b067 18 = .ok (.new 52, 3) := by decide +kernel
theorem dJ2_getChar_3b067_21 : decode cJ2_getChar_3b067 21 = .ok (.dup, 1) := by decide +kernel
theorem dJ2_getChar_3b067_22 : decode cJ2_getChar_3b067 22 = .ok (.ldc 54, 2) := by decide +kernel
theorem dJ2_getChar_3b067_24 : decode cJ2_getChar_3b067 24 = .ok (.invokespecial 56, 3) := by decide +kernel
theorem dJ2_getChar_3b067_27 : decode cJ2_getChar_3b067 27 = .ok (.athrow, 1) := by decide +kernel
theorem dJ2_getChar_3b067_28 : decode cJ2_getChar_3b067 28 = .ok (.iload_n 1, 1) := by decide +kernel
theorem dJ2_getChar_3b067_29 : decode cJ2_getChar_3b067 29 = .ok (.iconst 1, 1) := by decide +kernel
theorem dJ2_getChar_3b067_30 : decode cJ2_getChar_3b067 30 = .ok (.ishl, 1) := by decide +kernel
theorem dJ2_getChar_3b067_31 : decode cJ2_getChar_3b067 31 = .ok (.istore_n 1, 1) := by decide +kernel
theorem dJ2_getChar_3b067_32 : decode cJ2_getChar_3b067 32 = .ok (.aload_n 0, 1) := by decide +kernel
theorem dJ2_getChar_3b067_33 : decode cJ2_getChar_3b067 33 = .ok (.iload_n 1, 1) := by decide +kernel
theorem dJ2_getChar_3b067_34 : decode cJ2_getChar_3b067 34 = .ok (.iinc 1 1, 3) := by decide +kernel
theorem dJ2_getChar_3b067_37 : decode cJ2_getChar_3b067 37 = .ok (.baload, 1) := by decide +kernel
theorem dJ2_getChar_3b067_38 : decode cJ2_getChar_3b067 38 = .ok (.sipush 255, 3) := by decide +kernel
theorem dJ2_getChar_3b067_41 : decode cJ2_getChar_3b067 41 = .ok (.iand, 1) := by decide +kernel
theorem dJ2_getChar_3b067_42 : decode cJ2_getChar_3b067 42 = .ok (.getstatic 59, 3) := by decide +kernel
theorem dJ2_getChar_3b067_45 : decode cJ2_getChar_3b067 45 = .ok (.ishl, 1) := by decide +kernel
theorem dJ2_getChar_3b067_46 : decode cJ2_getChar_3b067 46 = .ok (.aload_n 0, 1) := by decide +kernel
theorem dJ2_getChar_3b067_47 : decode cJ2_getChar_3b067 47 = .ok (.iload_n 1, 1) := by decide +kernel
theorem dJ2_getChar_3b067_48 : decode cJ2_getChar_3b067 48 = .ok (.baload, 1) := by decide +kernel
theorem dJ2_getChar_3b067_49 : decode cJ2_getChar_3b067 49 = .ok (.sipush 255, 3) := by decide +kernel
theorem dJ2_getChar_3b067_52 : decode cJ2_getChar_3b067 52 = .ok (.iand, 1) := by decide +kernel
theorem dJ2_getChar_3b067_53 : decode cJ2_getChar_3b067 53 = .ok (.getstatic 63, 3) := by decide +kernel
theorem dJ2_getChar_3b067_56 : decode cJ2_getChar_3b067 56 = .ok (.ishl, 1) := by decide +kernel
theorem dJ2_getChar_3b067_57 : decode cJ2_getChar_3b067 57 = .ok (.ior, 1) := by decide +kernel
theorem dJ2_getChar_3b067_58 : decode cJ2_getChar_3b067 58 = .ok (.i2c, 1) := by decide +kernel
theorem dJ2_getChar_3b067_59 : decode cJ2_getChar_3b067 59 = .ok (.ireturn, 1) := by decide +kernel
theorem dJ2_length_9d52b_0 : decode cJ2_length_9d52b 0 = .ok (.aload_n 0, 1) := by decide +kernel
theorem dJ2_length_9d52b_1 : decode cJ2_length_9d52b 1 = .ok (.arraylength, 1) := by decide +kernel
theorem dJ2_length_9d52b_2 : decode cJ2_length_9d52b 2 = .ok (.iconst 1, 1) := by decide +kernel
theorem dJ2_length_9d52b_3 : decode cJ2_length_9d52b 3 = .ok (.ishr, 1) := by decide +kernel
theorem dJ2_length_9d52b_4 : decode cJ2_length_9d52b 4 = .ok (.ireturn, 1) := by decide +kernel
theorem dJ2_charAt_3b067_0 : decode cJ2_charAt_3b067 0 = .ok (.iload_n 1, 1) := by decide +kernel
theorem dJ2_charAt_3b067_1 : decode cJ2_charAt_3b067 1 = .ok (.aload_n 0, 1) := by decide +kernel
theorem dJ2_charAt_3b067_2 : decode cJ2_charAt_3b067 2 = .ok (.invokestatic 67, 3) := by decide +kernel
theorem dJ2_charAt_3b067_5 : decode cJ2_charAt_3b067 5 = .ok (.aload_n 0, 1) := by decide +kernel
theorem dJ2_charAt_3b067_6 : decode cJ2_charAt_3b067 6 = .ok (.iload_n 1, 1) := by decide +kernel
theorem dJ2_charAt_3b067_7 : decode cJ2_charAt_3b067 7 = .ok (.invokestatic 71, 3) := by decide +kernel
theorem dJ2_charAt_3b067_10 : decode cJ2_charAt_3b067 10 = .ok (.ireturn, 1) := by decide +kernel
theorem dJ2_checkIndex_2214a_0 : decode cJ2_checkIndex_2214a 0 = .ok (.iload_n 0, 1) := by decide +kernel
theorem dJ2_checkIndex_2214a_1 : decode cJ2_checkIndex_2214a 1 = .ok (.aload_n 1, 1) := by decide +kernel
theorem dJ2_checkIndex_2214a_2 : decode cJ2_checkIndex_2214a 2 = .ok (.invokestatic 48, 3) := by decide +kernel
theorem dJ2_checkIndex_2214a_5 : decode cJ2_checkIndex_2214a 5 = .ok (.invokestatic 414, 3) := by decide +kernel
theorem dJ2_checkIndex_2214a_8 : decode cJ2_checkIndex_2214a 8 = .ok (.return_, 1) := by decide +kernel
theorem dJ7_fill_d0a16_0 : decode cJ7_fill_d0a16 0 = .ok (.iconst 0, 1) := by decide +kernel
theorem dJ7_fill_d0a16_1 : decode cJ7_fill_d0a16 1 = .ok (.istore_n 3, 1) := by decide +kernel
theorem dJ7_fill_d0a16_2 : decode cJ7_fill_d0a16 2 = .ok (.aload_n 0, 1) := by decide +kernel
theorem dJ7_fill_d0a16_3 : decode cJ7_fill_d0a16 3 = .ok (.arraylength, 1) := by decide +kernel
theorem dJ7_fill_d0a16_4 : decode cJ7_fill_d0a16 4 = .ok (.istore 4, 2) := by decide +kernel
theorem dJ7_fill_d0a16_6 : decode cJ7_fill_d0a16 6 = .ok (.iload_n 3, 1) := by decide +kernel
theorem dJ7_fill_d0a16_7 : decode cJ7_fill_d0a16 7 = .ok (.iload 4, 2) := by decide +kernel
theorem dJ7_fill_d0a16_9 : decode cJ7_fill_d0a16 9 = .ok (.if_icmp .ge 13, 3) := by decide +kernel
theorem dJ7_fill_d0a16_12 : decode cJ7_fill_d0a16 12 = .ok (.aload_n 0, 1) := by decide +kernel
theorem dJ7_fill_d0a16_13 : decode cJ7_fill_d0a16 13 = .ok (.iload_n 3, 1) := by decide +kernel
theorem dJ7_fill_d0a16_14 : decode cJ7_fill_d0a16 14 = .ok (.lload_n 1, 1) := by decide +kernel
theorem dJ7_fill_d0a16_15 : decode cJ7_fill_d0a16 15 = .ok (.lastore, 1) := by decide +kernel
theorem dJ7_fill_d0a16_16 : decode cJ7_fill_d0a16 16 = .ok (.iinc 3 1, 3) := by decide +kernel
theorem dJ7_fill_d0a16_19 : decode cJ7_fill_d0a16 19 = .ok (.goto (-13), 3) := by decide +kernel
theorem dJ7_fill_d0a16_22 : decode cJ7_fill_d0a16 22 = .ok (.return_, 1) := by decide +kernel
theorem dJ7_fill_53178_0 : decode cJ7_fill_53178 0 = .ok (.iconst 0, 1) := by decide +kernel
theorem dJ7_fill_53178_1 : decode cJ7_fill_53178 1 = .ok (.istore_n 2, 1) := by decide +kernel
theorem dJ7_fill_53178_2 : decode cJ7_fill_53178 2 = .ok (.aload_n 0, 1) := by decide +kernel
theorem dJ7_fill_53178_3 : decode cJ7_fill_53178 3 = .ok (.arraylength, 1) := by decide +kernel
theorem dJ7_fill_53178_4 : decode cJ7_fill_53178 4 = .ok (.istore_n 3, 1) := by decide +kernel
theorem dJ7_fill_53178_5 : decode cJ7_fill_53178 5 = .ok (.iload_n 2, 1) := by decide +kernel
theorem dJ7_fill_53178_6 : decode cJ7_fill_53178 6 = .ok (.iload_n 3, 1) := by decide +kernel
theorem dJ7_fill_53178_7 : decode cJ7_fill_53178 7 = .ok (.if_icmp .ge 13, 3) := by decide +kernel
theorem dJ7_fill_53178_10 : decode cJ7_fill_53178 10 = .ok (.aload_n 0, 1) := by decide +kernel
theorem dJ7_fill_53178_11 : decode cJ7_fill_53178 11 = .ok (.iload_n 2, 1) := by decide +kernel
theorem dJ7_fill_53178_12 : decode cJ7_fill_53178 12 = .ok (.iload_n 1, 1) := by decide +kernel
theorem dJ7_fill_53178_13 : decode cJ7_fill_53178 13 = .ok (.iastore, 1) := by decide +kernel
theorem dJ7_fill_53178_14 : decode cJ7_fill_53178 14 = .ok (.iinc 2 1, 3) := by decide +kernel
theorem dJ7_fill_53178_17 : decode cJ7_fill_53178 17 = .ok (.goto (-12), 3) := by decide +kernel
theorem dJ7_fill_53178_20 : decode cJ7_fill_53178 20 = .ok (.return_, 1) := by decide +kernel
theorem dJ3_checkIndex_8e157_0 : decode cJ3_checkIndex_8e157 0 = .ok (.iload_n 0, 1) := by decide +kernel
theorem dJ3_checkIndex_8e157_1 : decode cJ3_checkIndex_8e157 1 = .ok (.ifCond .lt 8, 3) := by decide +kernel
theorem dJ3_checkIndex_8e157_4 : decode cJ3_checkIndex_8e157 4 = .ok (.iload_n 0, 1) := by decide +kernel
theorem dJ3_checkIndex_8e157_5 : decode cJ3_checkIndex_8e157 5 = .ok (.iload_n 1, 1) := by decide +kernel
theorem dJ3_checkIndex_8e157_6 : decode cJ3_checkIndex_8e157 6 = .ok (.if_icmp .lt 10, 3) := by decide +kernel
theorem dJ3_checkIndex_8e157_9 : decode cJ3_checkIndex_8e157 9 = .ok (.aload_n 2, 1) := by decide +kernel
theorem dJ3_checkIndex_8e157_10 : decode cJ3_checkIndex_8e157 10 = .ok (.iload_n 0, 1) := by decide +kernel
theorem dJ3_checkIndex_8e157_11 : decode cJ3_checkIndex_8e157 11 = .ok (.iload_n 1, 1) := by decide +kernel
theorem dJ3_checkIndex_8e157_12 : decode cJ3_checkIndex_8e157 12 = .ok (.invokestatic 95, 3) := by decide +kernel
theorem dJ3_checkIndex_8e157_15 : decode cJ3_checkIndex_8e157 15 = .ok (.athrow, 1) := by decide +kernel
theorem dJ3_checkIndex_8e157_16 : decode cJ3_checkIndex_8e157 16 = .ok (.iload_n 0, 1) := by decide +kernel
theorem dJ3_checkIndex_8e157_17 : decode cJ3_checkIndex_8e157 17 = .ok (.ireturn, 1) := by decide +kernel
theorem dL_law_0 : decode cL_law 0 = .ok (.new 7, 3) := by decide +kernel
theorem dL_law_3 : decode cL_law 3 = .ok (.dup, 1) := by decide +kernel
theorem dL_law_4 : decode cL_law 4 = .ok (.invokespecial 9, 3) := by decide +kernel
theorem dL_law_7 : decode cL_law 7 = .ok (.astore_n 1, 1) := by decide +kernel
theorem dL_law_8 : decode cL_law 8 = .ok (.new 10, 3) := by decide +kernel
theorem dL_law_11 : decode cL_law 11 = .ok (.dup, 1) := by decide +kernel
theorem dL_law_12 : decode cL_law 12 = .ok (.invokespecial 12, 3) := by decide +kernel
theorem dL_law_15 : decode cL_law 15 = .ok (.astore_n 2, 1) := by decide +kernel
theorem dL_law_16 : decode cL_law 16 = .ok (.iconst 0, 1) := by decide +kernel
theorem dL_law_17 : decode cL_law 17 = .ok (.istore_n 3, 1) := by decide +kernel
theorem dL_law_18 : decode cL_law 18 = .ok (.iload_n 3, 1) := by decide +kernel
theorem dL_law_19 : decode cL_law 19 = .ok (.aload_n 0, 1) := by decide +kernel
theorem dL_law_20 : decode cL_law 20 = .ok (.arraylength, 1) := by decide +kernel
theorem dL_law_21 : decode cL_law 21 = .ok (.bipush 6, 2) := by decide +kernel
theorem dL_law_23 : decode cL_law 23 = .ok (.isub, 1) := by decide +kernel
theorem dL_law_24 : decode cL_law 24 = .ok (.if_icmp .gt 1236, 3) := by decide +kernel
theorem dL_law_27 : decode cL_law 27 = .ok (.aload_n 0, 1) := by decide +kernel
theorem dL_law_28 : decode cL_law 28 = .ok (.iload_n 3, 1) := by decide +kernel
theorem dL_law_29 : decode cL_law 29 = .ok (.iaload, 1) := by decide +kernel
theorem dL_law_30 : decode cL_law 30 = .ok (.bipush 31, 2) := by decide +kernel
theorem dL_law_32 : decode cL_law 32 = .ok (.iand, 1) := by decide +kernel
theorem dL_law_33 : decode cL_law 33 = .ok (.tableswitch 1221 0 25 #[119, 182, 195, 208, 221, 254, 287, 320, 389, 458, 537, 616, 675, 708, 751, 764, 843, 866, 935, 968, 981, 1050, 1073, 1152, 1175, 1198], 119) := by decide +kernel
theorem dL_law_152 : decode cL_law 152 = .ok (.aload_n 1, 1) := by decide +kernel
theorem dL_law_153 : decode cL_law 153 = .ok (.aload_n 0, 1) := by decide +kernel
theorem dL_law_154 : decode cL_law 154 = .ok (.iload_n 3, 1) := by decide +kernel
theorem dL_law_155 : decode cL_law 155 = .ok (.iconst 1, 1) := by decide +kernel
theorem dL_law_156 : decode cL_law 156 = .ok (.iadd, 1) := by decide +kernel
theorem dL_law_157 : decode cL_law 157 = .ok (.iaload, 1) := by decide +kernel
theorem dL_law_158 : decode cL_law 158 = .ok (.i2l, 1) := by decide +kernel
theorem dL_law_159 : decode cL_law 159 = .ok (.bipush 32, 2) := by decide +kernel
theorem dL_law_161 : decode cL_law 161 = .ok (.lshl, 1) := by decide +kernel
theorem dL_law_162 : decode cL_law 162 = .ok (.aload_n 0, 1) := by decide +kernel
theorem dL_law_163 : decode cL_law 163 = .ok (.iload_n 3, 1) := by decide +kernel
theorem dL_law_164 : decode cL_law 164 = .ok (.iconst 2, 1) := by decide +kernel
theorem dL_law_165 : decode cL_law 165 = .ok (.iadd, 1) := by decide +kernel
theorem dL_law_166 : decode cL_law 166 = .ok (.iaload, 1) := by decide +kernel
theorem dL_law_167 : decode cL_law 167 = .ok (.i2l, 1) := by decide +kernel
theorem dL_law_168 : decode cL_law 168 = .ok (.ldc2_w 13, 3) := by decide +kernel
theorem dL_law_171 : decode cL_law 171 = .ok (.land, 1) := by decide +kernel
theorem dL_law_172 : decode cL_law 172 = .ok (.lor, 1) := by decide +kernel
theorem dL_law_173 : decode cL_law 173 = .ok (.aload_n 0, 1) := by decide +kernel
theorem dL_law_174 : decode cL_law 174 = .ok (.iload_n 3, 1) := by decide +kernel
theorem dL_law_175 : decode cL_law 175 = .ok (.iconst 3, 1) := by decide +kernel
theorem dL_law_176 : decode cL_law 176 = .ok (.iadd, 1) := by decide +kernel
theorem dL_law_177 : decode cL_law 177 = .ok (.iaload, 1) := by decide +kernel
theorem dL_law_178 : decode cL_law 178 = .ok (.invokevirtual 15, 3) := by decide +kernel
theorem dL_law_181 : decode cL_law 181 = .ok (.aload_n 2, 1) := by decide +kernel
theorem dL_law_182 : decode cL_law 182 = .ok (.aload_n 0, 1) := by decide +kernel
theorem dL_law_183 : decode cL_law 183 = .ok (.iload_n 3, 1) := by decide +kernel
theorem dL_law_184 : decode cL_law 184 = .ok (.iconst 1, 1) := by decide +kernel
theorem dL_law_185 : decode cL_law 185 = .ok (.iadd, 1) := by decide +kernel
theorem dL_law_186 : decode cL_law 186 = .ok (.iaload, 1) := by decide +kernel
theorem dL_law_187 : decode cL_law 187 = .ok (.i2l, 1) := by decide +kernel
theorem dL_law_188 : decode cL_law 188 = .ok (.bipush 32, 2) := by decide +kernel
theorem dL_law_190 : decode cL_law 190 = .ok (.lshl, 1) := by decide +kernel
theorem dL_law_191 : decode cL_law 191 = .ok (.aload_n 0, 1) := by decide +kernel
theorem dL_law_192 : decode cL_law 192 = .ok (.iload_n 3, 1) := by decide +kernel
theorem dL_law_193 : decode cL_law 193 = .ok (.iconst 2, 1) := by decide +kernel
theorem dL_law_194 : decode cL_law 194 = .ok (.iadd, 1) := by decide +kernel
theorem dL_law_195 : decode cL_law 195 = .ok (.iaload, 1) := by decide +kernel
theorem dL_law_196 : decode cL_law 196 = .ok (.i2l, 1) := by decide +kernel
theorem dL_law_197 : decode cL_law 197 = .ok (.ldc2_w 13, 3) := by decide +kernel
theorem dL_law_200 : decode cL_law 200 = .ok (.land, 1) := by decide +kernel
theorem dL_law_201 : decode cL_law 201 = .ok (.lor, 1) := by decide +kernel
theorem dL_law_202 : decode cL_law 202 = .ok (.aload_n 0, 1) := by decide +kernel
theorem dL_law_203 : decode cL_law 203 = .ok (.iload_n 3, 1) := by decide +kernel
theorem dL_law_204 : decode cL_law 204 = .ok (.iconst 3, 1) := by decide +kernel
theorem dL_law_205 : decode cL_law 205 = .ok (.iadd, 1) := by decide +kernel
theorem dL_law_206 : decode cL_law 206 = .ok (.iaload, 1) := by decide +kernel
theorem dL_law_207 : decode cL_law 207 = .ok (.invokevirtual 19, 3) := by decide +kernel
theorem dL_law_210 : decode cL_law 210 = .ok (.if_icmp .eq 1044, 3) := by decide +kernel
theorem dL_law_213 : decode cL_law 213 = .ok (.iconst 0, 1) := by decide +kernel
theorem dL_law_214 : decode cL_law 214 = .ok (.ireturn, 1) := by decide +kernel
theorem dL_law_215 : decode cL_law 215 = .ok (.aload_n 1, 1) := by decide +kernel
theorem dL_law_216 : decode cL_law 216 = .ok (.invokevirtual 20, 3) := by decide +kernel
theorem dL_law_219 : decode cL_law 219 = .ok (.aload_n 2, 1) := by decide +kernel
theorem dL_law_220 : decode cL_law 220 = .ok (.invokevirtual 24, 3) := by decide +kernel
theorem dL_law_223 : decode cL_law 223 = .ok (.if_icmp .eq 1031, 3) := by decide +kernel
theorem dL_law_226 : decode cL_law 226 = .ok (.iconst 0, 1) := by decide +kernel
theorem dL_law_227 : decode cL_law 227 = .ok (.ireturn, 1) := by decide +kernel
theorem dL_law_228 : decode cL_law 228 = .ok (.aload_n 1, 1) := by decide +kernel
theorem dL_law_229 : decode cL_law 229 = .ok (.invokevirtual 25, 3) := by decide +kernel
theorem dL_law_232 : decode cL_law 232 = .ok (.aload_n 2, 1) := by decide +kernel
theorem dL_law_233 : decode cL_law 233 = .ok (.invokevirtual 28, 3) := by decide +kernel
theorem dL_law_236 : decode cL_law 236 = .ok (.if_icmp .eq 1018, 3) := by decide +kernel
theorem dL_law_239 : decode cL_law 239 = .ok (.iconst 0, 1) := by decide +kernel
theorem dL_law_240 : decode cL_law 240 = .ok (.ireturn, 1) := by decide +kernel
theorem dL_law_241 : decode cL_law 241 = .ok (.aload_n 1, 1) := by decide +kernel
theorem dL_law_242 : decode cL_law 242 = .ok (.invokevirtual 29, 3) := by decide +kernel
theorem dL_law_245 : decode cL_law 245 = .ok (.aload_n 2, 1) := by decide +kernel
theorem dL_law_246 : decode cL_law 246 = .ok (.invokevirtual 32, 3) := by decide +kernel
theorem dL_law_249 : decode cL_law 249 = .ok (.if_icmp .eq 1005, 3) := by decide +kernel
theorem dL_law_252 : decode cL_law 252 = .ok (.iconst 0, 1) := by decide +kernel
theorem dL_law_253 : decode cL_law 253 = .ok (.ireturn, 1) := by decide +kernel
theorem dL_law_254 : decode cL_law 254 = .ok (.aload_n 1, 1) := by decide +kernel
theorem dL_law_255 : decode cL_law 255 = .ok (.aload_n 0, 1) := by decide +kernel
theorem dL_law_256 : decode cL_law 256 = .ok (.iload_n 3, 1) := by decide +kernel
theorem dL_law_257 : decode cL_law 257 = .ok (.iconst 1, 1) := by decide +kernel
theorem dL_law_258 : decode cL_law 258 = .ok (.iadd, 1) := by decide +kernel
theorem dL_law_259 : decode cL_law 259 = .ok (.iaload, 1) := by decide +kernel
theorem dL_law_260 : decode cL_law 260 = .ok (.aload_n 0, 1) := by decide +kernel
theorem dL_law_261 : decode cL_law 261 = .ok (.iload_n 3, 1) := by decide +kernel
theorem dL_law_262 : decode cL_law 262 = .ok (.iconst 2, 1) := by decide +kernel
theorem dL_law_263 : decode cL_law 263 = .ok (.iadd, 1) := by decide +kernel
theorem dL_law_264 : decode cL_law 264 = .ok (.iaload, 1) := by decide +kernel
theorem dL_law_265 : decode cL_law 265 = .ok (.invokevirtual 33, 3) := by decide +kernel
theorem dL_law_268 : decode cL_law 268 = .ok (.aload_n 2, 1) := by decide +kernel
theorem dL_law_269 : decode cL_law 269 = .ok (.aload_n 0, 1) := by decide +kernel
theorem dL_law_270 : decode cL_law 270 = .ok (.iload_n 3, 1) := by decide +kernel
theorem dL_law_271 : decode cL_law 271 = .ok (.iconst 1, 1) := by decide +kernel
theorem dL_law_272 : decode cL_law 272 = .ok (.iadd, 1) := by decide +kernel
theorem dL_law_273 : decode cL_law 273 = .ok (.iaload, 1) := by decide +kernel
theorem dL_law_274 : decode cL_law 274 = .ok (.aload_n 0, 1) := by decide +kernel
theorem dL_law_275 : decode cL_law 275 = .ok (.iload_n 3, 1) := by decide +kernel
theorem dL_law_276 : decode cL_law 276 = .ok (.iconst 2, 1) := by decide +kernel
theorem dL_law_277 : decode cL_law 277 = .ok (.iadd, 1) := by decide +kernel
theorem dL_law_278 : decode cL_law 278 = .ok (.iaload, 1) := by decide +kernel
theorem dL_law_279 : decode cL_law 279 = .ok (.invokevirtual 37, 3) := by decide +kernel
theorem dL_law_282 : decode cL_law 282 = .ok (.if_icmp .eq 972, 3) := by decide +kernel
theorem dL_law_285 : decode cL_law 285 = .ok (.iconst 0, 1) := by decide +kernel
theorem dL_law_286 : decode cL_law 286 = .ok (.ireturn, 1) := by decide +kernel
theorem dL_law_287 : decode cL_law 287 = .ok (.aload_n 1, 1) := by decide +kernel
theorem dL_law_288 : decode cL_law 288 = .ok (.aload_n 0, 1) := by decide +kernel
theorem dL_law_289 : decode cL_law 289 = .ok (.iload_n 3, 1) := by decide +kernel
theorem dL_law_290 : decode cL_law 290 = .ok (.iconst 1, 1) := by decide +kernel
theorem dL_law_291 : decode cL_law 291 = .ok (.iadd, 1) := by decide +kernel
theorem dL_law_292 : decode cL_law 292 = .ok (.iaload, 1) := by decide +kernel
theorem dL_law_293 : decode cL_law 293 = .ok (.aload_n 0, 1) := by decide +kernel
theorem dL_law_294 : decode cL_law 294 = .ok (.iload_n 3, 1) := by decide +kernel
theorem dL_law_295 : decode cL_law 295 = .ok (.iconst 2, 1) := by decide +kernel
theorem dL_law_296 : decode cL_law 296 = .ok (.iadd, 1) := by decide +kernel
theorem dL_law_297 : decode cL_law 297 = .ok (.iaload, 1) := by decide +kernel
theorem dL_law_298 : decode cL_law 298 = .ok (.invokevirtual 38, 3) := by decide +kernel
theorem dL_law_301 : decode cL_law 301 = .ok (.aload_n 2, 1) := by decide +kernel
theorem dL_law_302 : decode cL_law 302 = .ok (.aload_n 0, 1) := by decide +kernel
theorem dL_law_303 : decode cL_law 303 = .ok (.iload_n 3, 1) := by decide +kernel
theorem dL_law_304 : decode cL_law 304 = .ok (.iconst 1, 1) := by decide +kernel
theorem dL_law_305 : decode cL_law 305 = .ok (.iadd, 1) := by decide +kernel
theorem dL_law_306 : decode cL_law 306 = .ok (.iaload, 1) := by decide +kernel
theorem dL_law_307 : decode cL_law 307 = .ok (.aload_n 0, 1) := by decide +kernel
theorem dL_law_308 : decode cL_law 308 = .ok (.iload_n 3, 1) := by decide +kernel
theorem dL_law_309 : decode cL_law 309 = .ok (.iconst 2, 1) := by decide +kernel
theorem dL_law_310 : decode cL_law 310 = .ok (.iadd, 1) := by decide +kernel
theorem dL_law_311 : decode cL_law 311 = .ok (.iaload, 1) := by decide +kernel
theorem dL_law_312 : decode cL_law 312 = .ok (.invokevirtual 41, 3) := by decide +kernel
theorem dL_law_315 : decode cL_law 315 = .ok (.if_icmp .eq 939, 3) := by decide +kernel
theorem dL_law_318 : decode cL_law 318 = .ok (.iconst 0, 1) := by decide +kernel
theorem dL_law_319 : decode cL_law 319 = .ok (.ireturn, 1) := by decide +kernel
theorem dL_law_320 : decode cL_law 320 = .ok (.aload_n 1, 1) := by decide +kernel
theorem dL_law_321 : decode cL_law 321 = .ok (.aload_n 0, 1) := by decide +kernel
theorem dL_law_322 : decode cL_law 322 = .ok (.iload_n 3, 1) := by decide +kernel
theorem dL_law_323 : decode cL_law 323 = .ok (.iconst 1, 1) := by decide +kernel
theorem dL_law_324 : decode cL_law 324 = .ok (.iadd, 1) := by decide +kernel
theorem dL_law_325 : decode cL_law 325 = .ok (.iaload, 1) := by decide +kernel
theorem dL_law_326 : decode cL_law 326 = .ok (.aload_n 0, 1) := by decide +kernel
theorem dL_law_327 : decode cL_law 327 = .ok (.iload_n 3, 1) := by decide +kernel
theorem dL_law_328 : decode cL_law 328 = .ok (.iconst 2, 1) := by decide +kernel
theorem dL_law_329 : decode cL_law 329 = .ok (.iadd, 1) := by decide +kernel
theorem dL_law_330 : decode cL_law 330 = .ok (.iaload, 1) := by decide +kernel
theorem dL_law_331 : decode cL_law 331 = .ok (.invokevirtual 42, 3) := by decide +kernel
theorem dL_law_334 : decode cL_law 334 = .ok (.aload_n 2, 1) := by decide +kernel
theorem dL_law_335 : decode cL_law 335 = .ok (.aload_n 0, 1) := by decide +kernel
theorem dL_law_336 : decode cL_law 336 = .ok (.iload_n 3, 1) := by decide +kernel
theorem dL_law_337 : decode cL_law 337 = .ok (.iconst 1, 1) := by decide +kernel
theorem dL_law_338 : decode cL_law 338 = .ok (.iadd, 1) := by decide +kernel
theorem dL_law_339 : decode cL_law 339 = .ok (.iaload, 1) := by decide +kernel
theorem dL_law_340 : decode cL_law 340 = .ok (.aload_n 0, 1) := by decide +kernel
theorem dL_law_341 : decode cL_law 341 = .ok (.iload_n 3, 1) := by decide +kernel
theorem dL_law_342 : decode cL_law 342 = .ok (.iconst 2, 1) := by decide +kernel
theorem dL_law_343 : decode cL_law 343 = .ok (.iadd, 1) := by decide +kernel
theorem dL_law_344 : decode cL_law 344 = .ok (.iaload, 1) := by decide +kernel
theorem dL_law_345 : decode cL_law 345 = .ok (.invokevirtual 45, 3) := by decide +kernel
theorem dL_law_348 : decode cL_law 348 = .ok (.if_icmp .eq 906, 3) := by decide +kernel
theorem dL_law_351 : decode cL_law 351 = .ok (.iconst 0, 1) := by decide +kernel
theorem dL_law_352 : decode cL_law 352 = .ok (.ireturn, 1) := by decide +kernel
theorem dL_law_353 : decode cL_law 353 = .ok (.aload_n 1, 1) := by decide +kernel
theorem dL_law_354 : decode cL_law 354 = .ok (.aload_n 0, 1) := by decide +kernel
theorem dL_law_355 : decode cL_law 355 = .ok (.iload_n 3, 1) := by decide +kernel
theorem dL_law_356 : decode cL_law 356 = .ok (.iconst 1, 1) := by decide +kernel
theorem dL_law_357 : decode cL_law 357 = .ok (.iadd, 1) := by decide +kernel
theorem dL_law_358 : decode cL_law 358 = .ok (.iaload, 1) := by decide +kernel
theorem dL_law_359 : decode cL_law 359 = .ok (.aload_n 0, 1) := by decide +kernel
theorem dL_law_360 : decode cL_law 360 = .ok (.iload_n 3, 1) := by decide +kernel
theorem dL_law_361 : decode cL_law 361 = .ok (.iconst 2, 1) := by decide +kernel
theorem dL_law_362 : decode cL_law 362 = .ok (.iadd, 1) := by decide +kernel
theorem dL_law_363 : decode cL_law 363 = .ok (.iaload, 1) := by decide +kernel
theorem dL_law_364 : decode cL_law 364 = .ok (.aload_n 0, 1) := by decide +kernel
theorem dL_law_365 : decode cL_law 365 = .ok (.iload_n 3, 1) := by decide +kernel
theorem dL_law_366 : decode cL_law 366 = .ok (.iconst 3, 1) := by decide +kernel
theorem dL_law_367 : decode cL_law 367 = .ok (.iadd, 1) := by decide +kernel
theorem dL_law_368 : decode cL_law 368 = .ok (.iaload, 1) := by decide +kernel
theorem dL_law_369 : decode cL_law 369 = .ok (.ifCond .eq 7, 3) := by decide +kernel
theorem dL_law_372 : decode cL_law 372 = .ok (.iconst 1, 1) := by decide +kernel
theorem dL_law_373 : decode cL_law 373 = .ok (.goto 4, 3) := by decide +kernel
theorem dL_law_376 : decode cL_law 376 = .ok (.iconst 0, 1) := by decide +kernel
theorem dL_law_377 : decode cL_law 377 = .ok (.aload_n 0, 1) := by decide +kernel
theorem dL_law_378 : decode cL_law 378 = .ok (.iload_n 3, 1) := by decide +kernel
theorem dL_law_379 : decode cL_law 379 = .ok (.iconst 4, 1) := by decide +kernel
theorem dL_law_380 : decode cL_law 380 = .ok (.iadd, 1) := by decide +kernel
theorem dL_law_381 : decode cL_law 381 = .ok (.iaload, 1) := by decide +kernel
theorem dL_law_382 : decode cL_law 382 = .ok (.invokevirtual 46, 3) := by decide +kernel
theorem dL_law_385 : decode cL_law 385 = .ok (.aload_n 2, 1) := by decide +kernel
theorem dL_law_386 : decode cL_law 386 = .ok (.aload_n 0, 1) := by decide +kernel
theorem dL_law_387 : decode cL_law 387 = .ok (.iload_n 3, 1) := by decide +kernel
theorem dL_law_388 : decode cL_law 388 = .ok (.iconst 1, 1) := by decide +kernel
theorem dL_law_389 : decode cL_law 389 = .ok (.iadd, 1) := by decide +kernel
theorem dL_law_390 : decode cL_law 390 = .ok (.iaload, 1) := by decide +kernel
theorem dL_law_391 : decode cL_law 391 = .ok (.aload_n 0, 1) := by decide +kernel
theorem dL_law_392 : decode cL_law 392 = .ok (.iload_n 3, 1) := by decide +kernel
theorem dL_law_393 : decode cL_law 393 = .ok (.iconst 2, 1) := by decide +kernel
theorem dL_law_394 : decode cL_law 394 = .ok (.iadd, 1) := by decide +kernel
theorem dL_law_395 : decode cL_law 395 = .ok (.iaload, 1) := by decide +kernel
theorem dL_law_396 : decode cL_law 396 = .ok (.aload_n 0, 1) := by decide +kernel
theorem dL_law_397 : decode cL_law 397 = .ok (.iload_n 3, 1) := by decide +kernel
theorem dL_law_398 : decode cL_law 398 = .ok (.iconst 3, 1) := by decide +kernel
theorem dL_law_399 : decode cL_law 399 = .ok (.iadd, 1) := by decide +kernel
theorem dL_law_400 : decode cL_law 400 = .ok (.iaload, 1) := by decide +kernel
theorem dL_law_401 : decode cL_law 401 = .ok (.ifCond .eq 7, 3) := by decide +kernel
theorem dL_law_404 : decode cL_law 404 = .ok (.iconst 1, 1) := by decide +kernel
theorem dL_law_405 : decode cL_law 405 = .ok (.goto 4, 3) := by decide +kernel
theorem dL_law_408 : decode cL_law 408 = .ok (.iconst 0, 1) := by decide +kernel
theorem dL_law_409 : decode cL_law 409 = .ok (.aload_n 0, 1) := by decide +kernel
theorem dL_law_410 : decode cL_law 410 = .ok (.iload_n 3, 1) := by decide +kernel
theorem dL_law_411 : decode cL_law 411 = .ok (.iconst 4, 1) := by decide +kernel
theorem dL_law_412 : decode cL_law 412 = .ok (.iadd, 1) := by decide +kernel
theorem dL_law_413 : decode cL_law 413 = .ok (.iaload, 1) := by decide +kernel
theorem dL_law_414 : decode cL_law 414 = .ok (.invokevirtual 50, 3) := by decide +kernel
theorem dL_law_417 : decode cL_law 417 = .ok (.if_icmp .eq 837, 3) := by decide +kernel
theorem dL_law_420 : decode cL_law 420 = .ok (.iconst 0, 1) := by decide +kernel
theorem dL_law_421 : decode cL_law 421 = .ok (.ireturn, 1) := by decide +kernel
theorem dL_law_422 : decode cL_law 422 = .ok (.aload_n 1, 1) := by decide +kernel
theorem dL_law_423 : decode cL_law 423 = .ok (.aload_n 0, 1) := by decide +kernel
theorem dL_law_424 : decode cL_law 424 = .ok (.iload_n 3, 1) := by decide +kernel
theorem dL_law_425 : decode cL_law 425 = .ok (.iconst 1, 1) := by decide +kernel
theorem dL_law_426 : decode cL_law 426 = .ok (.iadd, 1) := by decide +kernel
theorem dL_law_427 : decode cL_law 427 = .ok (.iaload, 1) := by decide +kernel
theorem dL_law_428 : decode cL_law 428 = .ok (.aload_n 0, 1) := by decide +kernel
theorem dL_law_429 : decode cL_law 429 = .ok (.iload_n 3, 1) := by decide +kernel
theorem dL_law_430 : decode cL_law 430 = .ok (.iconst 2, 1) := by decide +kernel
theorem dL_law_431 : decode cL_law 431 = .ok (.iadd, 1) := by decide +kernel
theorem dL_law_432 : decode cL_law 432 = .ok (.iaload, 1) := by decide +kernel
theorem dL_law_433 : decode cL_law 433 = .ok (.aload_n 0, 1) := by decide +kernel
theorem dL_law_434 : decode cL_law 434 = .ok (.iload_n 3, 1) := by decide +kernel
theorem dL_law_435 : decode cL_law 435 = .ok (.iconst 3, 1) := by decide +kernel
theorem dL_law_436 : decode cL_law 436 = .ok (.iadd, 1) := by decide +kernel
theorem dL_law_437 : decode cL_law 437 = .ok (.iaload, 1) := by decide +kernel
theorem dL_law_438 : decode cL_law 438 = .ok (.ifCond .eq 7, 3) := by decide +kernel
theorem dL_law_441 : decode cL_law 441 = .ok (.iconst 1, 1) := by decide +kernel
theorem dL_law_442 : decode cL_law 442 = .ok (.goto 4, 3) := by decide +kernel
theorem dL_law_445 : decode cL_law 445 = .ok (.iconst 0, 1) := by decide +kernel
theorem dL_law_446 : decode cL_law 446 = .ok (.aload_n 0, 1) := by decide +kernel
theorem dL_law_447 : decode cL_law 447 = .ok (.iload_n 3, 1) := by decide +kernel
theorem dL_law_448 : decode cL_law 448 = .ok (.iconst 4, 1) := by decide +kernel
theorem dL_law_449 : decode cL_law 449 = .ok (.iadd, 1) := by decide +kernel
theorem dL_law_450 : decode cL_law 450 = .ok (.iaload, 1) := by decide +kernel
theorem dL_law_451 : decode cL_law 451 = .ok (.invokevirtual 51, 3) := by decide +kernel
theorem dL_law_454 : decode cL_law 454 = .ok (.aload_n 2, 1) := by decide +kernel
theorem dL_law_455 : decode cL_law 455 = .ok (.aload_n 0, 1) := by decide +kernel
theorem dL_law_456 : decode cL_law 456 = .ok (.iload_n 3, 1) := by decide +kernel
theorem dL_law_457 : decode cL_law 457 = .ok (.iconst 1, 1) := by decide +kernel
theorem dL_law_458 : decode cL_law 458 = .ok (.iadd, 1) := by decide +kernel
theorem dL_law_459 : decode cL_law 459 = .ok (.iaload, 1) := by decide +kernel
theorem dL_law_460 : decode cL_law 460 = .ok (.aload_n 0, 1) := by decide +kernel
theorem dL_law_461 : decode cL_law 461 = .ok (.iload_n 3, 1) := by decide +kernel
theorem dL_law_462 : decode cL_law 462 = .ok (.iconst 2, 1) := by decide +kernel
theorem dL_law_463 : decode cL_law 463 = .ok (.iadd, 1) := by decide +kernel
theorem dL_law_464 : decode cL_law 464 = .ok (.iaload, 1) := by decide +kernel
theorem dL_law_465 : decode cL_law 465 = .ok (.aload_n 0, 1) := by decide +kernel
theorem dL_law_466 : decode cL_law 466 = .ok (.iload_n 3, 1) := by decide +kernel
theorem dL_law_467 : decode cL_law 467 = .ok (.iconst 3, 1) := by decide +kernel
theorem dL_law_468 : decode cL_law 468 = .ok (.iadd, 1) := by decide +kernel
theorem dL_law_469 : decode cL_law 469 = .ok (.iaload, 1) := by decide +kernel
theorem dL_law_470 : decode cL_law 470 = .ok (.ifCond .eq 7, 3) := by decide +kernel
theorem dL_law_473 : decode cL_law 473 = .ok (.iconst 1, 1) := by decide +kernel
theorem dL_law_474 : decode cL_law 474 = .ok (.goto 4, 3) := by decide +kernel
theorem dL_law_477 : decode cL_law 477 = .ok (.iconst 0, 1) := by decide +kernel
theorem dL_law_478 : decode cL_law 478 = .ok (.aload_n 0, 1) := by decide +kernel
theorem dL_law_479 : decode cL_law 479 = .ok (.iload_n 3, 1) := by decide +kernel
theorem dL_law_480 : decode cL_law 480 = .ok (.iconst 4, 1) := by decide +kernel
theorem dL_law_481 : decode cL_law 481 = .ok (.iadd, 1) := by decide +kernel
theorem dL_law_482 : decode cL_law 482 = .ok (.iaload, 1) := by decide +kernel
theorem dL_law_483 : decode cL_law 483 = .ok (.invokevirtual 54, 3) := by decide +kernel
theorem dL_law_486 : decode cL_law 486 = .ok (.if_icmp .eq 768, 3) := by decide +kernel
theorem dL_law_489 : decode cL_law 489 = .ok (.iconst 0, 1) := by decide +kernel
theorem dL_law_490 : decode cL_law 490 = .ok (.ireturn, 1) := by decide +kernel
theorem dL_law_491 : decode cL_law 491 = .ok (.aload_n 1, 1) := by decide +kernel
theorem dL_law_492 : decode cL_law 492 = .ok (.aload_n 0, 1) := by decide +kernel
theorem dL_law_493 : decode cL_law 493 = .ok (.iload_n 3, 1) := by decide +kernel
theorem dL_law_494 : decode cL_law 494 = .ok (.iconst 1, 1) := by decide +kernel
theorem dL_law_495 : decode cL_law 495 = .ok (.iadd, 1) := by decide +kernel
theorem dL_law_496 : decode cL_law 496 = .ok (.iaload, 1) := by decide +kernel
theorem dL_law_497 : decode cL_law 497 = .ok (.aload_n 0, 1) := by decide +kernel
theorem dL_law_498 : decode cL_law 498 = .ok (.iload_n 3, 1) := by decide +kernel
theorem dL_law_499 : decode cL_law 499 = .ok (.iconst 2, 1) := by decide +kernel
theorem dL_law_500 : decode cL_law 500 = .ok (.iadd, 1) := by decide +kernel
theorem dL_law_501 : decode cL_law 501 = .ok (.iaload, 1) := by decide +kernel
theorem dL_law_502 : decode cL_law 502 = .ok (.aload_n 0, 1) := by decide +kernel
theorem dL_law_503 : decode cL_law 503 = .ok (.iload_n 3, 1) := by decide +kernel
theorem dL_law_504 : decode cL_law 504 = .ok (.iconst 3, 1) := by decide +kernel
theorem dL_law_505 : decode cL_law 505 = .ok (.iadd, 1) := by decide +kernel
theorem dL_law_506 : decode cL_law 506 = .ok (.iaload, 1) := by decide +kernel
theorem dL_law_507 : decode cL_law 507 = .ok (.ifCond .eq 7, 3) := by decide +kernel
theorem dL_law_510 : decode cL_law 510 = .ok (.iconst 1, 1) := by decide +kernel
theorem dL_law_511 : decode cL_law 511 = .ok (.goto 4, 3) := by decide +kernel
theorem dL_law_514 : decode cL_law 514 = .ok (.iconst 0, 1) := by decide +kernel
theorem dL_law_515 : decode cL_law 515 = .ok (.aload_n 0, 1) := by decide +kernel
theorem dL_law_516 : decode cL_law 516 = .ok (.iload_n 3, 1) := by decide +kernel
theorem dL_law_517 : decode cL_law 517 = .ok (.iconst 4, 1) := by decide +kernel
theorem dL_law_518 : decode cL_law 518 = .ok (.iadd, 1) := by decide +kernel
theorem dL_law_519 : decode cL_law 519 = .ok (.iaload, 1) := by decide +kernel
theorem dL_law_520 : decode cL_law 520 = .ok (.aload_n 0, 1) := by decide +kernel
theorem dL_law_521 : decode cL_law 521 = .ok (.iload_n 3, 1) := by decide +kernel
theorem dL_law_522 : decode cL_law 522 = .ok (.iconst 5, 1) := by decide +kernel
theorem dL_law_523 : decode cL_law 523 = .ok (.iadd, 1) := by decide +kernel
theorem dL_law_524 : decode cL_law 524 = .ok (.iaload, 1) := by decide +kernel
theorem dL_law_525 : decode cL_law 525 = .ok (.invokevirtual 55, 3) := by decide +kernel
theorem dL_law_528 : decode cL_law 528 = .ok (.aload_n 2, 1) := by decide +kernel
theorem dL_law_529 : decode cL_law 529 = .ok (.aload_n 0, 1) := by decide +kernel
theorem dL_law_530 : decode cL_law 530 = .ok (.iload_n 3, 1) := by decide +kernel
theorem dL_law_531 : decode cL_law 531 = .ok (.iconst 1, 1) := by decide +kernel
theorem dL_law_532 : decode cL_law 532 = .ok (.iadd, 1) := by decide +kernel
theorem dL_law_533 : decode cL_law 533 = .ok (.iaload, 1) := by decide +kernel
theorem dL_law_534 : decode cL_law 534 = .ok (.aload_n 0, 1) := by decide +kernel
theorem dL_law_535 : decode cL_law 535 = .ok (.iload_n 3, 1) := by decide +kernel
theorem dL_law_536 : decode cL_law 536 = .ok (.iconst 2, 1) := by decide +kernel
theorem dL_law_537 : decode cL_law 537 = .ok (.iadd, 1) := by decide +kernel
theorem dL_law_538 : decode cL_law 538 = .ok (.iaload, 1) := by decide +kernel
theorem dL_law_539 : decode cL_law 539 = .ok (.aload_n 0, 1) := by decide +kernel
theorem dL_law_540 : decode cL_law 540 = .ok (.iload_n 3, 1) := by decide +kernel
theorem dL_law_541 : decode cL_law 541 = .ok (.iconst 3, 1) := by decide +kernel
theorem dL_law_542 : decode cL_law 542 = .ok (.iadd, 1) := by decide +kernel
theorem dL_law_543 : decode cL_law 543 = .ok (.iaload, 1) := by decide +kernel
theorem dL_law_544 : decode cL_law 544 = .ok (.ifCond .eq 7, 3) := by decide +kernel
theorem dL_law_547 : decode cL_law 547 = .ok (.iconst 1, 1) := by decide +kernel
theorem dL_law_548 : decode cL_law 548 = .ok (.goto 4, 3) := by decide +kernel
theorem dL_law_551 : decode cL_law 551 = .ok (.iconst 0, 1) := by decide +kernel
theorem dL_law_552 : decode cL_law 552 = .ok (.aload_n 0, 1) := by decide +kernel
theorem dL_law_553 : decode cL_law 553 = .ok (.iload_n 3, 1) := by decide +kernel
theorem dL_law_554 : decode cL_law 554 = .ok (.iconst 4, 1) := by decide +kernel
theorem dL_law_555 : decode cL_law 555 = .ok (.iadd, 1) := by decide +kernel
theorem dL_law_556 : decode cL_law 556 = .ok (.iaload, 1) := by decide +kernel
theorem dL_law_557 : decode cL_law 557 = .ok (.aload_n 0, 1) := by decide +kernel
theorem dL_law_558 : decode cL_law 558 = .ok (.iload_n 3, 1) := by decide +kernel
theorem dL_law_559 : decode cL_law 559 = .ok (.iconst 5, 1) := by decide +kernel
theorem dL_law_560 : decode cL_law 560 = .ok (.iadd, 1) := by decide +kernel
theorem dL_law_561 : decode cL_law 561 = .ok (.iaload, 1) := by decide +kernel
theorem dL_law_562 : decode cL_law 562 = .ok (.invokevirtual 59, 3) := by decide +kernel
theorem dL_law_565 : decode cL_law 565 = .ok (.if_icmp .eq 689, 3) := by decide +kernel
theorem dL_law_568 : decode cL_law 568 = .ok (.iconst 0, 1) := by decide +kernel
theorem dL_law_569 : decode cL_law 569 = .ok (.ireturn, 1) := by decide +kernel
theorem dL_law_570 : decode cL_law 570 = .ok (.aload_n 1, 1) := by decide +kernel
theorem dL_law_571 : decode cL_law 571 = .ok (.aload_n 0, 1) := by decide +kernel
theorem dL_law_572 : decode cL_law 572 = .ok (.iload_n 3, 1) := by decide +kernel
theorem dL_law_573 : decode cL_law 573 = .ok (.iconst 1, 1) := by decide +kernel
theorem dL_law_574 : decode cL_law 574 = .ok (.iadd, 1) := by decide +kernel
theorem dL_law_575 : decode cL_law 575 = .ok (.iaload, 1) := by decide +kernel
theorem dL_law_576 : decode cL_law 576 = .ok (.aload_n 0, 1) := by decide +kernel
theorem dL_law_577 : decode cL_law 577 = .ok (.iload_n 3, 1) := by decide +kernel
theorem dL_law_578 : decode cL_law 578 = .ok (.iconst 2, 1) := by decide +kernel
theorem dL_law_579 : decode cL_law 579 = .ok (.iadd, 1) := by decide +kernel
theorem dL_law_580 : decode cL_law 580 = .ok (.iaload, 1) := by decide +kernel
theorem dL_law_581 : decode cL_law 581 = .ok (.aload_n 0, 1) := by decide +kernel
theorem dL_law_582 : decode cL_law 582 = .ok (.iload_n 3, 1) := by decide +kernel
theorem dL_law_583 : decode cL_law 583 = .ok (.iconst 3, 1) := by decide +kernel
theorem dL_law_584 : decode cL_law 584 = .ok (.iadd, 1) := by decide +kernel
theorem dL_law_585 : decode cL_law 585 = .ok (.iaload, 1) := by decide +kernel
theorem dL_law_586 : decode cL_law 586 = .ok (.ifCond .eq 7, 3) := by decide +kernel
theorem dL_law_589 : decode cL_law 589 = .ok (.iconst 1, 1) := by decide +kernel
theorem dL_law_590 : decode cL_law 590 = .ok (.goto 4, 3) := by decide +kernel
theorem dL_law_593 : decode cL_law 593 = .ok (.iconst 0, 1) := by decide +kernel
theorem dL_law_594 : decode cL_law 594 = .ok (.aload_n 0, 1) := by decide +kernel
theorem dL_law_595 : decode cL_law 595 = .ok (.iload_n 3, 1) := by decide +kernel
theorem dL_law_596 : decode cL_law 596 = .ok (.iconst 4, 1) := by decide +kernel
theorem dL_law_597 : decode cL_law 597 = .ok (.iadd, 1) := by decide +kernel
theorem dL_law_598 : decode cL_law 598 = .ok (.iaload, 1) := by decide +kernel
theorem dL_law_599 : decode cL_law 599 = .ok (.aload_n 0, 1) := by decide +kernel
theorem dL_law_600 : decode cL_law 600 = .ok (.iload_n 3, 1) := by decide +kernel
theorem dL_law_601 : decode cL_law 601 = .ok (.iconst 5, 1) := by decide +kernel
theorem dL_law_602 : decode cL_law 602 = .ok (.iadd, 1) := by decide +kernel
theorem dL_law_603 : decode cL_law 603 = .ok (.iaload, 1) := by decide +kernel
theorem dL_law_604 : decode cL_law 604 = .ok (.invokevirtual 60, 3) := by decide +kernel
theorem dL_law_607 : decode cL_law 607 = .ok (.aload_n 2, 1) := by decide +kernel
theorem dL_law_608 : decode cL_law 608 = .ok (.aload_n 0, 1) := by decide +kernel
theorem dL_law_609 : decode cL_law 609 = .ok (.iload_n 3, 1) := by decide +kernel
theorem dL_law_610 : decode cL_law 610 = .ok (.iconst 1, 1) := by decide +kernel
theorem dL_law_611 : decode cL_law 611 = .ok (.iadd, 1) := by decide +kernel
theorem dL_law_612 : decode cL_law 612 = .ok (.iaload, 1) := by decide +kernel
theorem dL_law_613 : decode cL_law 613 = .ok (.aload_n 0, 1) := by decide +kernel
theorem dL_law_614 : decode cL_law 614 = .ok (.iload_n 3, 1) := by decide +kernel
theorem dL_law_615 : decode cL_law 615 = .ok (.iconst 2, 1) := by decide +kernel
theorem dL_law_616 : decode cL_law 616 = .ok (.iadd, 1) := by decide +kernel
theorem dL_law_617 : decode cL_law 617 = .ok (.iaload, 1) := by decide +kernel
theorem dL_law_618 : decode cL_law 618 = .ok (.aload_n 0, 1) := by decide +kernel
theorem dL_law_619 : decode cL_law 619 = .ok (.iload_n 3, 1) := by decide +kernel
theorem dL_law_620 : decode cL_law 620 = .ok (.iconst 3, 1) := by decide +kernel
theorem dL_law_621 : decode cL_law 621 = .ok (.iadd, 1) := by decide +kernel
theorem dL_law_622 : decode cL_law 622 = .ok (.iaload, 1) := by decide +kernel
theorem dL_law_623 : decode cL_law 623 = .ok (.ifCond .eq 7, 3) := by decide +kernel
theorem dL_law_626 : decode cL_law 626 = .ok (.iconst 1, 1) := by decide +kernel
theorem dL_law_627 : decode cL_law 627 = .ok (.goto 4, 3) := by decide +kernel
theorem dL_law_630 : decode cL_law 630 = .ok (.iconst 0, 1) := by decide +kernel
theorem dL_law_631 : decode cL_law 631 = .ok (.aload_n 0, 1) := by decide +kernel
theorem dL_law_632 : decode cL_law 632 = .ok (.iload_n 3, 1) := by decide +kernel
theorem dL_law_633 : decode cL_law 633 = .ok (.iconst 4, 1) := by decide +kernel
theorem dL_law_634 : decode cL_law 634 = .ok (.iadd, 1) := by decide +kernel
theorem dL_law_635 : decode cL_law 635 = .ok (.iaload, 1) := by decide +kernel
theorem dL_law_636 : decode cL_law 636 = .ok (.aload_n 0, 1) := by decide +kernel
theorem dL_law_637 : decode cL_law 637 = .ok (.iload_n 3, 1) := by decide +kernel
theorem dL_law_638 : decode cL_law 638 = .ok (.iconst 5, 1) := by decide +kernel
theorem dL_law_639 : decode cL_law 639 = .ok (.iadd, 1) := by decide +kernel
theorem dL_law_640 : decode cL_law 640 = .ok (.iaload, 1) := by decide +kernel
theorem dL_law_641 : decode cL_law 641 = .ok (.invokevirtual 63, 3) := by decide +kernel
theorem dL_law_644 : decode cL_law 644 = .ok (.if_icmp .eq 610, 3) := by decide +kernel
theorem dL_law_647 : decode cL_law 647 = .ok (.iconst 0, 1) := by decide +kernel
theorem dL_law_648 : decode cL_law 648 = .ok (.ireturn, 1) := by decide +kernel
theorem dL_law_649 : decode cL_law 649 = .ok (.aload_n 1, 1) := by decide +kernel
theorem dL_law_650 : decode cL_law 650 = .ok (.aload_n 0, 1) := by decide +kernel
theorem dL_law_651 : decode cL_law 651 = .ok (.iload_n 3, 1) := by decide +kernel
theorem dL_law_652 : decode cL_law 652 = .ok (.iconst 1, 1) := by decide +kernel
theorem dL_law_653 : decode cL_law 653 = .ok (.iadd, 1) := by decide +kernel
theorem dL_law_654 : decode cL_law 654 = .ok (.iaload, 1) := by decide +kernel
theorem dL_law_655 : decode cL_law 655 = .ok (.aload_n 0, 1) := by decide +kernel
theorem dL_law_656 : decode cL_law 656 = .ok (.iload_n 3, 1) := by decide +kernel
theorem dL_law_657 : decode cL_law 657 = .ok (.iconst 2, 1) := by decide +kernel
theorem dL_law_658 : decode cL_law 658 = .ok (.iadd, 1) := by decide +kernel
theorem dL_law_659 : decode cL_law 659 = .ok (.iaload, 1) := by decide +kernel
theorem dL_law_660 : decode cL_law 660 = .ok (.aload_n 0, 1) := by decide +kernel
theorem dL_law_661 : decode cL_law 661 = .ok (.iload_n 3, 1) := by decide +kernel
theorem dL_law_662 : decode cL_law 662 = .ok (.iconst 3, 1) := by decide +kernel
theorem dL_law_663 : decode cL_law 663 = .ok (.iadd, 1) := by decide +kernel
theorem dL_law_664 : decode cL_law 664 = .ok (.iaload, 1) := by decide +kernel
theorem dL_law_665 : decode cL_law 665 = .ok (.ifCond .eq 7, 3) := by decide +kernel
theorem dL_law_668 : decode cL_law 668 = .ok (.iconst 1, 1) := by decide +kernel
theorem dL_law_669 : decode cL_law 669 = .ok (.goto 4, 3) := by decide +kernel
theorem dL_law_672 : decode cL_law 672 = .ok (.iconst 0, 1) := by decide +kernel
theorem dL_law_673 : decode cL_law 673 = .ok (.invokevirtual 64, 3) := by decide +kernel
theorem dL_law_676 : decode cL_law 676 = .ok (.aload_n 2, 1) := by decide +kernel
theorem dL_law_677 : decode cL_law 677 = .ok (.aload_n 0, 1) := by decide +kernel
theorem dL_law_678 : decode cL_law 678 = .ok (.iload_n 3, 1) := by decide +kernel
theorem dL_law_679 : decode cL_law 679 = .ok (.iconst 1, 1) := by decide +kernel
theorem dL_law_680 : decode cL_law 680 = .ok (.iadd, 1) := by decide +kernel
theorem dL_law_681 : decode cL_law 681 = .ok (.iaload, 1) := by decide +kernel
theorem dL_law_682 : decode cL_law 682 = .ok (.aload_n 0, 1) := by decide +kernel
theorem dL_law_683 : decode cL_law 683 = .ok (.iload_n 3, 1) := by decide +kernel
theorem dL_law_684 : decode cL_law 684 = .ok (.iconst 2, 1) := by decide +kernel
theorem dL_law_685 : decode cL_law 685 = .ok (.iadd, 1) := by decide +kernel
theorem dL_law_686 : decode cL_law 686 = .ok (.iaload, 1) := by decide +kernel
theorem dL_law_687 : decode cL_law 687 = .ok (.aload_n 0, 1) := by decide +kernel
theorem dL_law_688 : decode cL_law 688 = .ok (.iload_n 3, 1) := by decide +kernel
theorem dL_law_689 : decode cL_law 689 = .ok (.iconst 3, 1) := by decide +kernel
theorem dL_law_690 : decode cL_law 690 = .ok (.iadd, 1) := by decide +kernel
theorem dL_law_691 : decode cL_law 691 = .ok (.iaload, 1) := by decide +kernel
theorem dL_law_692 : decode cL_law 692 = .ok (.ifCond .eq 7, 3) := by decide +kernel
theorem dL_law_695 : decode cL_law 695 = .ok (.iconst 1, 1) := by decide +kernel
theorem dL_law_696 : decode cL_law 696 = .ok (.goto 4, 3) := by decide +kernel
theorem dL_law_699 : decode cL_law 699 = .ok (.iconst 0, 1) := by decide +kernel
theorem dL_law_700 : decode cL_law 700 = .ok (.invokevirtual 68, 3) := by decide +kernel
theorem dL_law_703 : decode cL_law 703 = .ok (.if_icmp .eq 551, 3) := by decide +kernel
theorem dL_law_706 : decode cL_law 706 = .ok (.iconst 0, 1) := by decide +kernel
theorem dL_law_707 : decode cL_law 707 = .ok (.ireturn, 1) := by decide +kernel
theorem dL_law_708 : decode cL_law 708 = .ok (.aload_n 1, 1) := by decide +kernel
theorem dL_law_709 : decode cL_law 709 = .ok (.aload_n 0, 1) := by decide +kernel
theorem dL_law_710 : decode cL_law 710 = .ok (.iload_n 3, 1) := by decide +kernel
theorem dL_law_711 : decode cL_law 711 = .ok (.iconst 1, 1) := by decide +kernel
theorem dL_law_712 : decode cL_law 712 = .ok (.iadd, 1) := by decide +kernel
theorem dL_law_713 : decode cL_law 713 = .ok (.iaload, 1) := by decide +kernel
theorem dL_law_714 : decode cL_law 714 = .ok (.aload_n 0, 1) := by decide +kernel
theorem dL_law_715 : decode cL_law 715 = .ok (.iload_n 3, 1) := by decide +kernel
theorem dL_law_716 : decode cL_law 716 = .ok (.iconst 2, 1) := by decide +kernel
theorem dL_law_717 : decode cL_law 717 = .ok (.iadd, 1) := by decide +kernel
theorem dL_law_718 : decode cL_law 718 = .ok (.iaload, 1) := by decide +kernel
theorem dL_law_719 : decode cL_law 719 = .ok (.invokevirtual 69, 3) := by decide +kernel
theorem dL_law_722 : decode cL_law 722 = .ok (.aload_n 2, 1) := by decide +kernel
theorem dL_law_723 : decode cL_law 723 = .ok (.aload_n 0, 1) := by decide +kernel
theorem dL_law_724 : decode cL_law 724 = .ok (.iload_n 3, 1) := by decide +kernel
theorem dL_law_725 : decode cL_law 725 = .ok (.iconst 1, 1) := by decide +kernel
theorem dL_law_726 : decode cL_law 726 = .ok (.iadd, 1) := by decide +kernel
theorem dL_law_727 : decode cL_law 727 = .ok (.iaload, 1) := by decide +kernel
theorem dL_law_728 : decode cL_law 728 = .ok (.aload_n 0, 1) := by decide +kernel
theorem dL_law_729 : decode cL_law 729 = .ok (.iload_n 3, 1) := by decide +kernel
theorem dL_law_730 : decode cL_law 730 = .ok (.iconst 2, 1) := by decide +kernel
theorem dL_law_731 : decode cL_law 731 = .ok (.iadd, 1) := by decide +kernel
theorem dL_law_732 : decode cL_law 732 = .ok (.iaload, 1) := by decide +kernel
theorem dL_law_733 : decode cL_law 733 = .ok (.invokevirtual 72, 3) := by decide +kernel
theorem dL_law_736 : decode cL_law 736 = .ok (.if_icmp .eq 518, 3) := by decide +kernel
theorem dL_law_739 : decode cL_law 739 = .ok (.iconst 0, 1) := by decide +kernel
theorem dL_law_740 : decode cL_law 740 = .ok (.ireturn, 1) := by decide +kernel
theorem dL_law_741 : decode cL_law 741 = .ok (.aload_n 1, 1) := by decide +kernel
theorem dL_law_742 : decode cL_law 742 = .ok (.aload_n 0, 1) := by decide +kernel
theorem dL_law_743 : decode cL_law 743 = .ok (.iload_n 3, 1) := by decide +kernel
theorem dL_law_744 : decode cL_law 744 = .ok (.iconst 1, 1) := by decide +kernel
theorem dL_law_745 : decode cL_law 745 = .ok (.iadd, 1) := by decide +kernel
theorem dL_law_746 : decode cL_law 746 = .ok (.iaload, 1) := by decide +kernel
theorem dL_law_747 : decode cL_law 747 = .ok (.aload_n 0, 1) := by decide +kernel
theorem dL_law_748 : decode cL_law 748 = .ok (.iload_n 3, 1) := by decide +kernel
theorem dL_law_749 : decode cL_law 749 = .ok (.iconst 2, 1) := by decide +kernel
theorem dL_law_750 : decode cL_law 750 = .ok (.iadd, 1) := by decide +kernel
theorem dL_law_751 : decode cL_law 751 = .ok (.iaload, 1) := by decide +kernel
theorem dL_law_752 : decode cL_law 752 = .ok (.aload_n 0, 1) := by decide +kernel
theorem dL_law_753 : decode cL_law 753 = .ok (.iload_n 3, 1) := by decide +kernel
theorem dL_law_754 : decode cL_law 754 = .ok (.iconst 3, 1) := by decide +kernel
theorem dL_law_755 : decode cL_law 755 = .ok (.iadd, 1) := by decide +kernel
theorem dL_law_756 : decode cL_law 756 = .ok (.iaload, 1) := by decide +kernel
theorem dL_law_757 : decode cL_law 757 = .ok (.invokevirtual 73, 3) := by decide +kernel
theorem dL_law_760 : decode cL_law 760 = .ok (.aload_n 2, 1) := by decide +kernel
theorem dL_law_761 : decode cL_law 761 = .ok (.aload_n 0, 1) := by decide +kernel
theorem dL_law_762 : decode cL_law 762 = .ok (.iload_n 3, 1) := by decide +kernel
theorem dL_law_763 : decode cL_law 763 = .ok (.iconst 1, 1) := by decide +kernel
theorem dL_law_764 : decode cL_law 764 = .ok (.iadd, 1) := by decide +kernel
theorem dL_law_765 : decode cL_law 765 = .ok (.iaload, 1) := by decide +kernel
theorem dL_law_766 : decode cL_law 766 = .ok (.aload_n 0, 1) := by decide +kernel
theorem dL_law_767 : decode cL_law 767 = .ok (.iload_n 3, 1) := by decide +kernel
theorem dL_law_768 : decode cL_law 768 = .ok (.iconst 2, 1) := by decide +kernel
theorem dL_law_769 : decode cL_law 769 = .ok (.iadd, 1) := by decide +kernel
theorem dL_law_770 : decode cL_law 770 = .ok (.iaload, 1) := by decide +kernel
theorem dL_law_771 : decode cL_law 771 = .ok (.aload_n 0, 1) := by decide +kernel
theorem dL_law_772 : decode cL_law 772 = .ok (.iload_n 3, 1) := by decide +kernel
theorem dL_law_773 : decode cL_law 773 = .ok (.iconst 3, 1) := by decide +kernel
theorem dL_law_774 : decode cL_law 774 = .ok (.iadd, 1) := by decide +kernel
theorem dL_law_775 : decode cL_law 775 = .ok (.iaload, 1) := by decide +kernel
theorem dL_law_776 : decode cL_law 776 = .ok (.invokevirtual 77, 3) := by decide +kernel
theorem dL_law_779 : decode cL_law 779 = .ok (.if_icmp .eq 475, 3) := by decide +kernel
theorem dL_law_782 : decode cL_law 782 = .ok (.iconst 0, 1) := by decide +kernel
theorem dL_law_783 : decode cL_law 783 = .ok (.ireturn, 1) := by decide +kernel
theorem dL_law_784 : decode cL_law 784 = .ok (.aload_n 1, 1) := by decide +kernel
theorem dL_law_785 : decode cL_law 785 = .ok (.invokevirtual 78, 3) := by decide +kernel
theorem dL_law_788 : decode cL_law 788 = .ok (.aload_n 2, 1) := by decide +kernel
theorem dL_law_789 : decode cL_law 789 = .ok (.invokevirtual 81, 3) := by decide +kernel
theorem dL_law_792 : decode cL_law 792 = .ok (.if_icmp .eq 462, 3) := by decide +kernel
theorem dL_law_795 : decode cL_law 795 = .ok (.iconst 0, 1) := by decide +kernel
theorem dL_law_796 : decode cL_law 796 = .ok (.ireturn, 1) := by decide +kernel
theorem dL_law_797 : decode cL_law 797 = .ok (.aload_n 1, 1) := by decide +kernel
theorem dL_law_798 : decode cL_law 798 = .ok (.aload_n 0, 1) := by decide +kernel
theorem dL_law_799 : decode cL_law 799 = .ok (.iload_n 3, 1) := by decide +kernel
theorem dL_law_800 : decode cL_law 800 = .ok (.iconst 1, 1) := by decide +kernel
theorem dL_law_801 : decode cL_law 801 = .ok (.iadd, 1) := by decide +kernel
theorem dL_law_802 : decode cL_law 802 = .ok (.iaload, 1) := by decide +kernel
theorem dL_law_803 : decode cL_law 803 = .ok (.aload_n 0, 1) := by decide +kernel
theorem dL_law_804 : decode cL_law 804 = .ok (.iload_n 3, 1) := by decide +kernel
theorem dL_law_805 : decode cL_law 805 = .ok (.iconst 2, 1) := by decide +kernel
theorem dL_law_806 : decode cL_law 806 = .ok (.iadd, 1) := by decide +kernel
theorem dL_law_807 : decode cL_law 807 = .ok (.iaload, 1) := by decide +kernel
theorem dL_law_808 : decode cL_law 808 = .ok (.aload_n 0, 1) := by decide +kernel
theorem dL_law_809 : decode cL_law 809 = .ok (.iload_n 3, 1) := by decide +kernel
theorem dL_law_810 : decode cL_law 810 = .ok (.iconst 3, 1) := by decide +kernel
theorem dL_law_811 : decode cL_law 811 = .ok (.iadd, 1) := by decide +kernel
theorem dL_law_812 : decode cL_law 812 = .ok (.iaload, 1) := by decide +kernel
theorem dL_law_813 : decode cL_law 813 = .ok (.ifCond .eq 7, 3) := by decide +kernel
theorem dL_law_816 : decode cL_law 816 = .ok (.iconst 1, 1) := by decide +kernel
theorem dL_law_817 : decode cL_law 817 = .ok (.goto 4, 3) := by decide +kernel
theorem dL_law_820 : decode cL_law 820 = .ok (.iconst 0, 1) := by decide +kernel
theorem dL_law_821 : decode cL_law 821 = .ok (.aload_n 0, 1) := by decide +kernel
theorem dL_law_822 : decode cL_law 822 = .ok (.iload_n 3, 1) := by decide +kernel
theorem dL_law_823 : decode cL_law 823 = .ok (.iconst 4, 1) := by decide +kernel
theorem dL_law_824 : decode cL_law 824 = .ok (.iadd, 1) := by decide +kernel
theorem dL_law_825 : decode cL_law 825 = .ok (.iaload, 1) := by decide +kernel
theorem dL_law_826 : decode cL_law 826 = .ok (.aload_n 0, 1) := by decide +kernel
theorem dL_law_827 : decode cL_law 827 = .ok (.iload_n 3, 1) := by decide +kernel
theorem dL_law_828 : decode cL_law 828 = .ok (.iconst 5, 1) := by decide +kernel
theorem dL_law_829 : decode cL_law 829 = .ok (.iadd, 1) := by decide +kernel
theorem dL_law_830 : decode cL_law 830 = .ok (.iaload, 1) := by decide +kernel
theorem dL_law_831 : decode cL_law 831 = .ok (.invokevirtual 82, 3) := by decide +kernel
theorem dL_law_834 : decode cL_law 834 = .ok (.aload_n 2, 1) := by decide +kernel
theorem dL_law_835 : decode cL_law 835 = .ok (.aload_n 0, 1) := by decide +kernel
theorem dL_law_836 : decode cL_law 836 = .ok (.iload_n 3, 1) := by decide +kernel
theorem dL_law_837 : decode cL_law 837 = .ok (.iconst 1, 1) := by decide +kernel
theorem dL_law_838 : decode cL_law 838 = .ok (.iadd, 1) := by decide +kernel
theorem dL_law_839 : decode cL_law 839 = .ok (.iaload, 1) := by decide +kernel
theorem dL_law_840 : decode cL_law 840 = .ok (.aload_n 0, 1) := by decide +kernel
theorem dL_law_841 : decode cL_law 841 = .ok (.iload_n 3, 1) := by decide +kernel
theorem dL_law_842 : decode cL_law 842 = .ok (.iconst 2, 1) := by decide +kernel
theorem dL_law_843 : decode cL_law 843 = .ok (.iadd, 1) := by decide +kernel
theorem dL_law_844 : decode cL_law 844 = .ok (.iaload, 1) := by decide +kernel
theorem dL_law_845 : decode cL_law 845 = .ok (.aload_n 0, 1) := by decide +kernel
theorem dL_law_846 : decode cL_law 846 = .ok (.iload_n 3, 1) := by decide +kernel
theorem dL_law_847 : decode cL_law 847 = .ok (.iconst 3, 1) := by decide +kernel
theorem dL_law_848 : decode cL_law 848 = .ok (.iadd, 1) := by decide +kernel
theorem dL_law_849 : decode cL_law 849 = .ok (.iaload, 1) := by decide +kernel
theorem dL_law_850 : decode cL_law 850 = .ok (.ifCond .eq 7, 3) := by decide +kernel
theorem dL_law_853 : decode cL_law 853 = .ok (.iconst 1, 1) := by decide +kernel
theorem dL_law_854 : decode cL_law 854 = .ok (.goto 4, 3) := by decide +kernel
theorem dL_law_857 : decode cL_law 857 = .ok (.iconst 0, 1) := by decide +kernel
theorem dL_law_858 : decode cL_law 858 = .ok (.aload_n 0, 1) := by decide +kernel
theorem dL_law_859 : decode cL_law 859 = .ok (.iload_n 3, 1) := by decide +kernel
theorem dL_law_860 : decode cL_law 860 = .ok (.iconst 4, 1) := by decide +kernel
theorem dL_law_861 : decode cL_law 861 = .ok (.iadd, 1) := by decide +kernel
theorem dL_law_862 : decode cL_law 862 = .ok (.iaload, 1) := by decide +kernel
theorem dL_law_863 : decode cL_law 863 = .ok (.aload_n 0, 1) := by decide +kernel
theorem dL_law_864 : decode cL_law 864 = .ok (.iload_n 3, 1) := by decide +kernel
theorem dL_law_865 : decode cL_law 865 = .ok (.iconst 5, 1) := by decide +kernel
theorem dL_law_866 : decode cL_law 866 = .ok (.iadd, 1) := by decide +kernel
theorem dL_law_867 : decode cL_law 867 = .ok (.iaload, 1) := by decide +kernel
theorem dL_law_868 : decode cL_law 868 = .ok (.invokevirtual 85, 3) := by decide +kernel
theorem dL_law_871 : decode cL_law 871 = .ok (.if_icmp .eq 383, 3) := by decide +kernel
theorem dL_law_874 : decode cL_law 874 = .ok (.iconst 0, 1) := by decide +kernel
theorem dL_law_875 : decode cL_law 875 = .ok (.ireturn, 1) := by decide +kernel
theorem dL_law_876 : decode cL_law 876 = .ok (.aload_n 1, 1) := by decide +kernel
theorem dL_law_877 : decode cL_law 877 = .ok (.aload_n 0, 1) := by decide +kernel
theorem dL_law_878 : decode cL_law 878 = .ok (.iload_n 3, 1) := by decide +kernel
theorem dL_law_879 : decode cL_law 879 = .ok (.iconst 1, 1) := by decide +kernel
theorem dL_law_880 : decode cL_law 880 = .ok (.iadd, 1) := by decide +kernel
theorem dL_law_881 : decode cL_law 881 = .ok (.iaload, 1) := by decide +kernel
theorem dL_law_882 : decode cL_law 882 = .ok (.invokevirtual 86, 3) := by decide +kernel
theorem dL_law_885 : decode cL_law 885 = .ok (.aload_n 2, 1) := by decide +kernel
theorem dL_law_886 : decode cL_law 886 = .ok (.aload_n 0, 1) := by decide +kernel
theorem dL_law_887 : decode cL_law 887 = .ok (.iload_n 3, 1) := by decide +kernel
theorem dL_law_888 : decode cL_law 888 = .ok (.iconst 1, 1) := by decide +kernel
theorem dL_law_889 : decode cL_law 889 = .ok (.iadd, 1) := by decide +kernel
theorem dL_law_890 : decode cL_law 890 = .ok (.iaload, 1) := by decide +kernel
theorem dL_law_891 : decode cL_law 891 = .ok (.invokevirtual 90, 3) := by decide +kernel
theorem dL_law_894 : decode cL_law 894 = .ok (.if_icmp .eq 360, 3) := by decide +kernel
theorem dL_law_897 : decode cL_law 897 = .ok (.iconst 0, 1) := by decide +kernel
theorem dL_law_898 : decode cL_law 898 = .ok (.ireturn, 1) := by decide +kernel
theorem dL_law_899 : decode cL_law 899 = .ok (.aload_n 1, 1) := by decide +kernel
theorem dL_law_900 : decode cL_law 900 = .ok (.aload_n 0, 1) := by decide +kernel
theorem dL_law_901 : decode cL_law 901 = .ok (.iload_n 3, 1) := by decide +kernel
theorem dL_law_902 : decode cL_law 902 = .ok (.iconst 1, 1) := by decide +kernel
theorem dL_law_903 : decode cL_law 903 = .ok (.iadd, 1) := by decide +kernel
theorem dL_law_904 : decode cL_law 904 = .ok (.iaload, 1) := by decide +kernel
theorem dL_law_905 : decode cL_law 905 = .ok (.aload_n 0, 1) := by decide +kernel
theorem dL_law_906 : decode cL_law 906 = .ok (.iload_n 3, 1) := by decide +kernel
theorem dL_law_907 : decode cL_law 907 = .ok (.iconst 2, 1) := by decide +kernel
theorem dL_law_908 : decode cL_law 908 = .ok (.iadd, 1) := by decide +kernel
theorem dL_law_909 : decode cL_law 909 = .ok (.iaload, 1) := by decide +kernel
theorem dL_law_910 : decode cL_law 910 = .ok (.aload_n 0, 1) := by decide +kernel
theorem dL_law_911 : decode cL_law 911 = .ok (.iload_n 3, 1) := by decide +kernel
theorem dL_law_912 : decode cL_law 912 = .ok (.iconst 3, 1) := by decide +kernel
theorem dL_law_913 : decode cL_law 913 = .ok (.iadd, 1) := by decide +kernel
theorem dL_law_914 : decode cL_law 914 = .ok (.iaload, 1) := by decide +kernel
theorem dL_law_915 : decode cL_law 915 = .ok (.aload_n 0, 1) := by decide +kernel
theorem dL_law_916 : decode cL_law 916 = .ok (.iload_n 3, 1) := by decide +kernel
theorem dL_law_917 : decode cL_law 917 = .ok (.iconst 4, 1) := by decide +kernel
theorem dL_law_918 : decode cL_law 918 = .ok (.iadd, 1) := by decide +kernel
theorem dL_law_919 : decode cL_law 919 = .ok (.iaload, 1) := by decide +kernel
theorem dL_law_920 : decode cL_law 920 = .ok (.ifCond .eq 7, 3) := by decide +kernel
theorem dL_law_923 : decode cL_law 923 = .ok (.iconst 1, 1) := by decide +kernel
theorem dL_law_924 : decode cL_law 924 = .ok (.goto 4, 3) := by decide +kernel
theorem dL_law_927 : decode cL_law 927 = .ok (.iconst 0, 1) := by decide +kernel
theorem dL_law_928 : decode cL_law 928 = .ok (.invokevirtual 91, 3) := by decide +kernel
theorem dL_law_931 : decode cL_law 931 = .ok (.aload_n 2, 1) := by decide +kernel
theorem dL_law_932 : decode cL_law 932 = .ok (.aload_n 0, 1) := by decide +kernel
theorem dL_law_933 : decode cL_law 933 = .ok (.iload_n 3, 1) := by decide +kernel
theorem dL_law_934 : decode cL_law 934 = .ok (.iconst 1, 1) := by decide +kernel
theorem dL_law_935 : decode cL_law 935 = .ok (.iadd, 1) := by decide +kernel
theorem dL_law_936 : decode cL_law 936 = .ok (.iaload, 1) := by decide +kernel
theorem dL_law_937 : decode cL_law 937 = .ok (.aload_n 0, 1) := by decide +kernel
theorem dL_law_938 : decode cL_law 938 = .ok (.iload_n 3, 1) := by decide +kernel
theorem dL_law_939 : decode cL_law 939 = .ok (.iconst 2, 1) := by decide +kernel
theorem dL_law_940 : decode cL_law 940 = .ok (.iadd, 1) := by decide +kernel
theorem dL_law_941 : decode cL_law 941 = .ok (.iaload, 1) := by decide +kernel
theorem dL_law_942 : decode cL_law 942 = .ok (.aload_n 0, 1) := by decide +kernel
theorem dL_law_943 : decode cL_law 943 = .ok (.iload_n 3, 1) := by decide +kernel
theorem dL_law_944 : decode cL_law 944 = .ok (.iconst 3, 1) := by decide +kernel
theorem dL_law_945 : decode cL_law 945 = .ok (.iadd, 1) := by decide +kernel
theorem dL_law_946 : decode cL_law 946 = .ok (.iaload, 1) := by decide +kernel
theorem dL_law_947 : decode cL_law 947 = .ok (.aload_n 0, 1) := by decide +kernel
theorem dL_law_948 : decode cL_law 948 = .ok (.iload_n 3, 1) := by decide +kernel
theorem dL_law_949 : decode cL_law 949 = .ok (.iconst 4, 1) := by decide +kernel
theorem dL_law_950 : decode cL_law 950 = .ok (.iadd, 1) := by decide +kernel
theorem dL_law_951 : decode cL_law 951 = .ok (.iaload, 1) := by decide +kernel
theorem dL_law_952 : decode cL_law 952 = .ok (.ifCond .eq 7, 3) := by decide +kernel
theorem dL_law_955 : decode cL_law 955 = .ok (.iconst 1, 1) := by decide +kernel
theorem dL_law_956 : decode cL_law 956 = .ok (.goto 4, 3) := by decide +kernel
theorem dL_law_959 : decode cL_law 959 = .ok (.iconst 0, 1) := by decide +kernel
theorem dL_law_960 : decode cL_law 960 = .ok (.invokevirtual 95, 3) := by decide +kernel
theorem dL_law_963 : decode cL_law 963 = .ok (.if_icmp .eq 291, 3) := by decide +kernel
theorem dL_law_966 : decode cL_law 966 = .ok (.iconst 0, 1) := by decide +kernel
theorem dL_law_967 : decode cL_law 967 = .ok (.ireturn, 1) := by decide +kernel
theorem dL_law_968 : decode cL_law 968 = .ok (.aload_n 1, 1) := by decide +kernel
theorem dL_law_969 : decode cL_law 969 = .ok (.aload_n 0, 1) := by decide +kernel
theorem dL_law_970 : decode cL_law 970 = .ok (.iload_n 3, 1) := by decide +kernel
theorem dL_law_971 : decode cL_law 971 = .ok (.iconst 1, 1) := by decide +kernel
theorem dL_law_972 : decode cL_law 972 = .ok (.iadd, 1) := by decide +kernel
theorem dL_law_973 : decode cL_law 973 = .ok (.iaload, 1) := by decide +kernel
theorem dL_law_974 : decode cL_law 974 = .ok (.aload_n 0, 1) := by decide +kernel
theorem dL_law_975 : decode cL_law 975 = .ok (.iload_n 3, 1) := by decide +kernel
theorem dL_law_976 : decode cL_law 976 = .ok (.iconst 2, 1) := by decide +kernel
theorem dL_law_977 : decode cL_law 977 = .ok (.iadd, 1) := by decide +kernel
theorem dL_law_978 : decode cL_law 978 = .ok (.iaload, 1) := by decide +kernel
theorem dL_law_979 : decode cL_law 979 = .ok (.invokevirtual 96, 3) := by decide +kernel
theorem dL_law_982 : decode cL_law 982 = .ok (.aload_n 2, 1) := by decide +kernel
theorem dL_law_983 : decode cL_law 983 = .ok (.aload_n 0, 1) := by decide +kernel
theorem dL_law_984 : decode cL_law 984 = .ok (.iload_n 3, 1) := by decide +kernel
theorem dL_law_985 : decode cL_law 985 = .ok (.iconst 1, 1) := by decide +kernel
theorem dL_law_986 : decode cL_law 986 = .ok (.iadd, 1) := by decide +kernel
theorem dL_law_987 : decode cL_law 987 = .ok (.iaload, 1) := by decide +kernel
theorem dL_law_988 : decode cL_law 988 = .ok (.aload_n 0, 1) := by decide +kernel
theorem dL_law_989 : decode cL_law 989 = .ok (.iload_n 3, 1) := by decide +kernel
theorem dL_law_990 : decode cL_law 990 = .ok (.iconst 2, 1) := by decide +kernel
theorem dL_law_991 : decode cL_law 991 = .ok (.iadd, 1) := by decide +kernel
theorem dL_law_992 : decode cL_law 992 = .ok (.iaload, 1) := by decide +kernel
theorem dL_law_993 : decode cL_law 993 = .ok (.invokevirtual 99, 3) := by decide +kernel
theorem dL_law_996 : decode cL_law 996 = .ok (.if_icmp .eq 258, 3) := by decide +kernel
theorem dL_law_999 : decode cL_law 999 = .ok (.iconst 0, 1) := by decide +kernel
theorem dL_law_1000 : decode cL_law 1000 = .ok (.ireturn, 1) := by decide +kernel
theorem dL_law_1001 : decode cL_law 1001 = .ok (.aload_n 1, 1) := by decide +kernel
theorem dL_law_1002 : decode cL_law 1002 = .ok (.invokevirtual 100, 3) := by decide +kernel
theorem dL_law_1005 : decode cL_law 1005 = .ok (.aload_n 2, 1) := by decide +kernel
theorem dL_law_1006 : decode cL_law 1006 = .ok (.invokevirtual 103, 3) := by decide +kernel
theorem dL_law_1009 : decode cL_law 1009 = .ok (.if_icmp .eq 245, 3) := by decide +kernel
theorem dL_law_1012 : decode cL_law 1012 = .ok (.iconst 0, 1) := by decide +kernel
theorem dL_law_1013 : decode cL_law 1013 = .ok (.ireturn, 1) := by decide +kernel
theorem dL_law_1014 : decode cL_law 1014 = .ok (.aload_n 1, 1) := by decide +kernel
theorem dL_law_1015 : decode cL_law 1015 = .ok (.aload_n 0, 1) := by decide +kernel
theorem dL_law_1016 : decode cL_law 1016 = .ok (.iload_n 3, 1) := by decide +kernel
theorem dL_law_1017 : decode cL_law 1017 = .ok (.iconst 1, 1) := by decide +kernel
theorem dL_law_1018 : decode cL_law 1018 = .ok (.iadd, 1) := by decide +kernel
theorem dL_law_1019 : decode cL_law 1019 = .ok (.iaload, 1) := by decide +kernel
theorem dL_law_1020 : decode cL_law 1020 = .ok (.aload_n 0, 1) := by decide +kernel
theorem dL_law_1021 : decode cL_law 1021 = .ok (.iload_n 3, 1) := by decide +kernel
theorem dL_law_1022 : decode cL_law 1022 = .ok (.iconst 2, 1) := by decide +kernel
theorem dL_law_1023 : decode cL_law 1023 = .ok (.iadd, 1) := by decide +kernel
theorem dL_law_1024 : decode cL_law 1024 = .ok (.iaload, 1) := by decide +kernel
theorem dL_law_1025 : decode cL_law 1025 = .ok (.aload_n 0, 1) := by decide +kernel
theorem dL_law_1026 : decode cL_law 1026 = .ok (.iload_n 3, 1) := by decide +kernel
theorem dL_law_1027 : decode cL_law 1027 = .ok (.iconst 3, 1) := by decide +kernel
theorem dL_law_1028 : decode cL_law 1028 = .ok (.iadd, 1) := by decide +kernel
theorem dL_law_1029 : decode cL_law 1029 = .ok (.iaload, 1) := by decide +kernel
theorem dL_law_1030 : decode cL_law 1030 = .ok (.ifCond .eq 7, 3) := by decide +kernel
theorem dL_law_1033 : decode cL_law 1033 = .ok (.iconst 1, 1) := by decide +kernel
theorem dL_law_1034 : decode cL_law 1034 = .ok (.goto 4, 3) := by decide +kernel
theorem dL_law_1037 : decode cL_law 1037 = .ok (.iconst 0, 1) := by decide +kernel
theorem dL_law_1038 : decode cL_law 1038 = .ok (.aload_n 0, 1) := by decide +kernel
theorem dL_law_1039 : decode cL_law 1039 = .ok (.iload_n 3, 1) := by decide +kernel
theorem dL_law_1040 : decode cL_law 1040 = .ok (.iconst 4, 1) := by decide +kernel
theorem dL_law_1041 : decode cL_law 1041 = .ok (.iadd, 1) := by decide +kernel
theorem dL_law_1042 : decode cL_law 1042 = .ok (.iaload, 1) := by decide +kernel
theorem dL_law_1043 : decode cL_law 1043 = .ok (.invokevirtual 104, 3) := by decide +kernel
theorem dL_law_1046 : decode cL_law 1046 = .ok (.aload_n 2, 1) := by decide +kernel
theorem dL_law_1047 : decode cL_law 1047 = .ok (.aload_n 0, 1) := by decide +kernel
theorem dL_law_1048 : decode cL_law 1048 = .ok (.iload_n 3, 1) := by decide +kernel
theorem dL_law_1049 : decode cL_law 1049 = .ok (.iconst 1, 1) := by decide +kernel
theorem dL_law_1050 : decode cL_law 1050 = .ok (.iadd, 1) := by decide +kernel
theorem dL_law_1051 : decode cL_law 1051 = .ok (.iaload, 1) := by decide +kernel
theorem dL_law_1052 : decode cL_law 1052 = .ok (.aload_n 0, 1) := by decide +kernel
theorem dL_law_1053 : decode cL_law 1053 = .ok (.iload_n 3, 1) := by decide +kernel
theorem dL_law_1054 : decode cL_law 1054 = .ok (.iconst 2, 1) := by decide +kernel
theorem dL_law_1055 : decode cL_law 1055 = .ok (.iadd, 1) := by decide +kernel
theorem dL_law_1056 : decode cL_law 1056 = .ok (.iaload, 1) := by decide +kernel
theorem dL_law_1057 : decode cL_law 1057 = .ok (.aload_n 0, 1) := by decide +kernel
theorem dL_law_1058 : decode cL_law 1058 = .ok (.iload_n 3, 1) := by decide +kernel
theorem dL_law_1059 : decode cL_law 1059 = .ok (.iconst 3, 1) := by decide +kernel
theorem dL_law_1060 : decode cL_law 1060 = .ok (.iadd, 1) := by decide +kernel
theorem dL_law_1061 : decode cL_law 1061 = .ok (.iaload, 1) := by decide +kernel
theorem dL_law_1062 : decode cL_law 1062 = .ok (.ifCond .eq 7, 3) := by decide +kernel
theorem dL_law_1065 : decode cL_law 1065 = .ok (.iconst 1, 1) := by decide +kernel
theorem dL_law_1066 : decode cL_law 1066 = .ok (.goto 4, 3) := by decide +kernel
theorem dL_law_1069 : decode cL_law 1069 = .ok (.iconst 0, 1) := by decide +kernel
theorem dL_law_1070 : decode cL_law 1070 = .ok (.aload_n 0, 1) := by decide +kernel
theorem dL_law_1071 : decode cL_law 1071 = .ok (.iload_n 3, 1) := by decide +kernel
theorem dL_law_1072 : decode cL_law 1072 = .ok (.iconst 4, 1) := by decide +kernel
theorem dL_law_1073 : decode cL_law 1073 = .ok (.iadd, 1) := by decide +kernel
theorem dL_law_1074 : decode cL_law 1074 = .ok (.iaload, 1) := by decide +kernel
theorem dL_law_1075 : decode cL_law 1075 = .ok (.invokevirtual 107, 3) := by decide +kernel
theorem dL_law_1078 : decode cL_law 1078 = .ok (.if_icmp .eq 176, 3) := by decide +kernel
theorem dL_law_1081 : decode cL_law 1081 = .ok (.iconst 0, 1) := by decide +kernel
theorem dL_law_1082 : decode cL_law 1082 = .ok (.ireturn, 1) := by decide +kernel
theorem dL_law_1083 : decode cL_law 1083 = .ok (.aload_n 1, 1) := by decide +kernel
theorem dL_law_1084 : decode cL_law 1084 = .ok (.aload_n 0, 1) := by decide +kernel
theorem dL_law_1085 : decode cL_law 1085 = .ok (.iload_n 3, 1) := by decide +kernel
theorem dL_law_1086 : decode cL_law 1086 = .ok (.iconst 1, 1) := by decide +kernel
theorem dL_law_1087 : decode cL_law 1087 = .ok (.iadd, 1) := by decide +kernel
theorem dL_law_1088 : decode cL_law 1088 = .ok (.iaload, 1) := by decide +kernel
theorem dL_law_1089 : decode cL_law 1089 = .ok (.invokevirtual 108, 3) := by decide +kernel
theorem dL_law_1092 : decode cL_law 1092 = .ok (.aload_n 2, 1) := by decide +kernel
theorem dL_law_1093 : decode cL_law 1093 = .ok (.aload_n 0, 1) := by decide +kernel
theorem dL_law_1094 : decode cL_law 1094 = .ok (.iload_n 3, 1) := by decide +kernel
theorem dL_law_1095 : decode cL_law 1095 = .ok (.iconst 1, 1) := by decide +kernel
theorem dL_law_1096 : decode cL_law 1096 = .ok (.iadd, 1) := by decide +kernel
theorem dL_law_1097 : decode cL_law 1097 = .ok (.iaload, 1) := by decide +kernel
theorem dL_law_1098 : decode cL_law 1098 = .ok (.invokevirtual 111, 3) := by decide +kernel
theorem dL_law_1101 : decode cL_law 1101 = .ok (.if_icmp .eq 153, 3) := by decide +kernel
theorem dL_law_1104 : decode cL_law 1104 = .ok (.iconst 0, 1) := by decide +kernel
theorem dL_law_1105 : decode cL_law 1105 = .ok (.ireturn, 1) := by decide +kernel
theorem dL_law_1106 : decode cL_law 1106 = .ok (.aload_n 1, 1) := by decide +kernel
theorem dL_law_1107 : decode cL_law 1107 = .ok (.aload_n 0, 1) := by decide +kernel
theorem dL_law_1108 : decode cL_law 1108 = .ok (.iload_n 3, 1) := by decide +kernel
theorem dL_law_1109 : decode cL_law 1109 = .ok (.iconst 1, 1) := by decide +kernel
theorem dL_law_1110 : decode cL_law 1110 = .ok (.iadd, 1) := by decide +kernel
theorem dL_law_1111 : decode cL_law 1111 = .ok (.iaload, 1) := by decide +kernel
theorem dL_law_1112 : decode cL_law 1112 = .ok (.aload_n 0, 1) := by decide +kernel
theorem dL_law_1113 : decode cL_law 1113 = .ok (.iload_n 3, 1) := by decide +kernel
theorem dL_law_1114 : decode cL_law 1114 = .ok (.iconst 2, 1) := by decide +kernel
theorem dL_law_1115 : decode cL_law 1115 = .ok (.iadd, 1) := by decide +kernel
theorem dL_law_1116 : decode cL_law 1116 = .ok (.iaload, 1) := by decide +kernel
theorem dL_law_1117 : decode cL_law 1117 = .ok (.aload_n 0, 1) := by decide +kernel
theorem dL_law_1118 : decode cL_law 1118 = .ok (.iload_n 3, 1) := by decide +kernel
theorem dL_law_1119 : decode cL_law 1119 = .ok (.iconst 3, 1) := by decide +kernel
theorem dL_law_1120 : decode cL_law 1120 = .ok (.iadd, 1) := by decide +kernel
theorem dL_law_1121 : decode cL_law 1121 = .ok (.iaload, 1) := by decide +kernel
theorem dL_law_1122 : decode cL_law 1122 = .ok (.ifCond .eq 7, 3) := by decide +kernel
theorem dL_law_1125 : decode cL_law 1125 = .ok (.iconst 1, 1) := by decide +kernel
theorem dL_law_1126 : decode cL_law 1126 = .ok (.goto 4, 3) := by decide +kernel
theorem dL_law_1129 : decode cL_law 1129 = .ok (.iconst 0, 1) := by decide +kernel
theorem dL_law_1130 : decode cL_law 1130 = .ok (.aload_n 0, 1) := by decide +kernel
theorem dL_law_1131 : decode cL_law 1131 = .ok (.iload_n 3, 1) := by decide +kernel
theorem dL_law_1132 : decode cL_law 1132 = .ok (.iconst 4, 1) := by decide +kernel
theorem dL_law_1133 : decode cL_law 1133 = .ok (.iadd, 1) := by decide +kernel
theorem dL_law_1134 : decode cL_law 1134 = .ok (.iaload, 1) := by decide +kernel
theorem dL_law_1135 : decode cL_law 1135 = .ok (.aload_n 0, 1) := by decide +kernel
theorem dL_law_1136 : decode cL_law 1136 = .ok (.iload_n 3, 1) := by decide +kernel
theorem dL_law_1137 : decode cL_law 1137 = .ok (.iconst 5, 1) := by decide +kernel
theorem dL_law_1138 : decode cL_law 1138 = .ok (.iadd, 1) := by decide +kernel
theorem dL_law_1139 : decode cL_law 1139 = .ok (.iaload, 1) := by decide +kernel
theorem dL_law_1140 : decode cL_law 1140 = .ok (.invokevirtual 112, 3) := by decide +kernel
theorem dL_law_1143 : decode cL_law 1143 = .ok (.aload_n 2, 1) := by decide +kernel
theorem dL_law_1144 : decode cL_law 1144 = .ok (.aload_n 0, 1) := by decide +kernel
theorem dL_law_1145 : decode cL_law 1145 = .ok (.iload_n 3, 1) := by decide +kernel
theorem dL_law_1146 : decode cL_law 1146 = .ok (.iconst 1, 1) := by decide +kernel
theorem dL_law_1147 : decode cL_law 1147 = .ok (.iadd, 1) := by decide +kernel
theorem dL_law_1148 : decode cL_law 1148 = .ok (.iaload, 1) := by decide +kernel
theorem dL_law_1149 : decode cL_law 1149 = .ok (.aload_n 0, 1) := by decide +kernel
theorem dL_law_1150 : decode cL_law 1150 = .ok (.iload_n 3, 1) := by decide +kernel
theorem dL_law_1151 : decode cL_law 1151 = .ok (.iconst 2, 1) := by decide +kernel
theorem dL_law_1152 : decode cL_law 1152 = .ok (.iadd, 1) := by decide +kernel
theorem dL_law_1153 : decode cL_law 1153 = .ok (.iaload, 1) := by decide +kernel
theorem dL_law_1154 : decode cL_law 1154 = .ok (.aload_n 0, 1) := by decide +kernel
theorem dL_law_1155 : decode cL_law 1155 = .ok (.iload_n 3, 1) := by decide +kernel
theorem dL_law_1156 : decode cL_law 1156 = .ok (.iconst 3, 1) := by decide +kernel
theorem dL_law_1157 : decode cL_law 1157 = .ok (.iadd, 1) := by decide +kernel
theorem dL_law_1158 : decode cL_law 1158 = .ok (.iaload, 1) := by decide +kernel
theorem dL_law_1159 : decode cL_law 1159 = .ok (.ifCond .eq 7, 3) := by decide +kernel
theorem dL_law_1162 : decode cL_law 1162 = .ok (.iconst 1, 1) := by decide +kernel
theorem dL_law_1163 : decode cL_law 1163 = .ok (.goto 4, 3) := by decide +kernel
theorem dL_law_1166 : decode cL_law 1166 = .ok (.iconst 0, 1) := by decide +kernel
theorem dL_law_1167 : decode cL_law 1167 = .ok (.aload_n 0, 1) := by decide +kernel
theorem dL_law_1168 : decode cL_law 1168 = .ok (.iload_n 3, 1) := by decide +kernel
theorem dL_law_1169 : decode cL_law 1169 = .ok (.iconst 4, 1) := by decide +kernel
theorem dL_law_1170 : decode cL_law 1170 = .ok (.iadd, 1) := by decide +kernel
theorem dL_law_1171 : decode cL_law 1171 = .ok (.iaload, 1) := by decide +kernel
theorem dL_law_1172 : decode cL_law 1172 = .ok (.aload_n 0, 1) := by decide +kernel
theorem dL_law_1173 : decode cL_law 1173 = .ok (.iload_n 3, 1) := by decide +kernel
theorem dL_law_1174 : decode cL_law 1174 = .ok (.iconst 5, 1) := by decide +kernel
theorem dL_law_1175 : decode cL_law 1175 = .ok (.iadd, 1) := by decide +kernel
theorem dL_law_1176 : decode cL_law 1176 = .ok (.iaload, 1) := by decide +kernel
theorem dL_law_1177 : decode cL_law 1177 = .ok (.invokevirtual 115, 3) := by decide +kernel
theorem dL_law_1180 : decode cL_law 1180 = .ok (.if_icmp .eq 74, 3) := by decide +kernel
theorem dL_law_1183 : decode cL_law 1183 = .ok (.iconst 0, 1) := by decide +kernel
theorem dL_law_1184 : decode cL_law 1184 = .ok (.ireturn, 1) := by decide +kernel
theorem dL_law_1185 : decode cL_law 1185 = .ok (.aload_n 1, 1) := by decide +kernel
theorem dL_law_1186 : decode cL_law 1186 = .ok (.aload_n 0, 1) := by decide +kernel
theorem dL_law_1187 : decode cL_law 1187 = .ok (.iload_n 3, 1) := by decide +kernel
theorem dL_law_1188 : decode cL_law 1188 = .ok (.iconst 1, 1) := by decide +kernel
theorem dL_law_1189 : decode cL_law 1189 = .ok (.iadd, 1) := by decide +kernel
theorem dL_law_1190 : decode cL_law 1190 = .ok (.iaload, 1) := by decide +kernel
theorem dL_law_1191 : decode cL_law 1191 = .ok (.invokevirtual 116, 3) := by decide +kernel
theorem dL_law_1194 : decode cL_law 1194 = .ok (.aload_n 2, 1) := by decide +kernel
theorem dL_law_1195 : decode cL_law 1195 = .ok (.aload_n 0, 1) := by decide +kernel
theorem dL_law_1196 : decode cL_law 1196 = .ok (.iload_n 3, 1) := by decide +kernel
theorem dL_law_1197 : decode cL_law 1197 = .ok (.iconst 1, 1) := by decide +kernel
theorem dL_law_1198 : decode cL_law 1198 = .ok (.iadd, 1) := by decide +kernel
theorem dL_law_1199 : decode cL_law 1199 = .ok (.iaload, 1) := by decide +kernel
theorem dL_law_1200 : decode cL_law 1200 = .ok (.invokevirtual 119, 3) := by decide +kernel
theorem dL_law_1203 : decode cL_law 1203 = .ok (.if_icmp .eq 51, 3) := by decide +kernel
theorem dL_law_1206 : decode cL_law 1206 = .ok (.iconst 0, 1) := by decide +kernel
theorem dL_law_1207 : decode cL_law 1207 = .ok (.ireturn, 1) := by decide +kernel
theorem dL_law_1208 : decode cL_law 1208 = .ok (.aload_n 1, 1) := by decide +kernel
theorem dL_law_1209 : decode cL_law 1209 = .ok (.aload_n 0, 1) := by decide +kernel
theorem dL_law_1210 : decode cL_law 1210 = .ok (.iload_n 3, 1) := by decide +kernel
theorem dL_law_1211 : decode cL_law 1211 = .ok (.iconst 1, 1) := by decide +kernel
theorem dL_law_1212 : decode cL_law 1212 = .ok (.iadd, 1) := by decide +kernel
theorem dL_law_1213 : decode cL_law 1213 = .ok (.iaload, 1) := by decide +kernel
theorem dL_law_1214 : decode cL_law 1214 = .ok (.invokevirtual 120, 3) := by decide +kernel
theorem dL_law_1217 : decode cL_law 1217 = .ok (.aload_n 2, 1) := by decide +kernel
theorem dL_law_1218 : decode cL_law 1218 = .ok (.aload_n 0, 1) := by decide +kernel
theorem dL_law_1219 : decode cL_law 1219 = .ok (.iload_n 3, 1) := by decide +kernel
theorem dL_law_1220 : decode cL_law 1220 = .ok (.iconst 1, 1) := by decide +kernel
theorem dL_law_1221 : decode cL_law 1221 = .ok (.iadd, 1) := by decide +kernel
theorem dL_law_1222 : decode cL_law 1222 = .ok (.iaload, 1) := by decide +kernel
theorem dL_law_1223 : decode cL_law 1223 = .ok (.invokevirtual 123, 3) := by decide +kernel
theorem dL_law_1226 : decode cL_law 1226 = .ok (.if_icmp .eq 28, 3) := by decide +kernel
theorem dL_law_1229 : decode cL_law 1229 = .ok (.iconst 0, 1) := by decide +kernel
theorem dL_law_1230 : decode cL_law 1230 = .ok (.ireturn, 1) := by decide +kernel
theorem dL_law_1231 : decode cL_law 1231 = .ok (.aload_n 1, 1) := by decide +kernel
theorem dL_law_1232 : decode cL_law 1232 = .ok (.aload_n 0, 1) := by decide +kernel
theorem dL_law_1233 : decode cL_law 1233 = .ok (.iload_n 3, 1) := by decide +kernel
theorem dL_law_1234 : decode cL_law 1234 = .ok (.iconst 1, 1) := by decide +kernel
theorem dL_law_1235 : decode cL_law 1235 = .ok (.iadd, 1) := by decide +kernel
theorem dL_law_1236 : decode cL_law 1236 = .ok (.iaload, 1) := by decide +kernel
theorem dL_law_1237 : decode cL_law 1237 = .ok (.invokevirtual 124, 3) := by decide +kernel
theorem dL_law_1240 : decode cL_law 1240 = .ok (.aload_n 2, 1) := by decide +kernel
theorem dL_law_1241 : decode cL_law 1241 = .ok (.aload_n 0, 1) := by decide +kernel
theorem dL_law_1242 : decode cL_law 1242 = .ok (.iload_n 3, 1) := by decide +kernel
theorem dL_law_1243 : decode cL_law 1243 = .ok (.iconst 1, 1) := by decide +kernel
theorem dL_law_1244 : decode cL_law 1244 = .ok (.iadd, 1) := by decide +kernel
theorem dL_law_1245 : decode cL_law 1245 = .ok (.iaload, 1) := by decide +kernel
theorem dL_law_1246 : decode cL_law 1246 = .ok (.invokevirtual 127, 3) := by decide +kernel
theorem dL_law_1249 : decode cL_law 1249 = .ok (.if_icmp .eq 5, 3) := by decide +kernel
theorem dL_law_1252 : decode cL_law 1252 = .ok (.iconst 0, 1) := by decide +kernel
theorem dL_law_1253 : decode cL_law 1253 = .ok (.ireturn, 1) := by decide +kernel
theorem dL_law_1254 : decode cL_law 1254 = .ok (.iinc 3 6, 3) := by decide +kernel
theorem dL_law_1257 : decode cL_law 1257 = .ok (.goto (-1239), 3) := by decide +kernel
theorem dL_law_1260 : decode cL_law 1260 = .ok (.iconst 1, 1) := by decide +kernel
theorem dL_law_1261 : decode cL_law 1261 = .ok (.ireturn, 1) := by decide +kernel
