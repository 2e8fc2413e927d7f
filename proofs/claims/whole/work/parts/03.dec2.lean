theorem dX12_unit_45 : decode cX12_unit 45 = .ok (.iconst 1, 1) := by decide +kernel
theorem dX12_unit_46 : decode cX12_unit 46 = .ok (.iadd, 1) := by decide +kernel
theorem dX12_unit_47 : decode cX12_unit 47 = .ok (.putfield 61, 3) := by decide +kernel
theorem dX12_unit_50 : decode cX12_unit 50 = .ok (.iload_n 1, 1) := by decide +kernel
theorem dX12_unit_51 : decode cX12_unit 51 = .ok (.bipush 40, 2) := by decide +kernel
theorem dX12_unit_53 : decode cX12_unit 53 = .ok (.if_icmp .ne 10, 3) := by decide +kernel
theorem dX12_unit_56 : decode cX12_unit 56 = .ok (.aload_n 0, 1) := by decide +kernel
theorem dX12_unit_57 : decode cX12_unit 57 = .ok (.invokevirtual 106, 3) := by decide +kernel
theorem dX12_unit_60 : decode cX12_unit 60 = .ok (.goto 7, 3) := by decide +kernel
theorem dX12_unit_63 : decode cX12_unit 63 = .ok (.aload_n 0, 1) := by decide +kernel
theorem dX12_unit_64 : decode cX12_unit 64 = .ok (.invokevirtual 97, 3) := by decide +kernel
theorem dX12_unit_67 : decode cX12_unit 67 = .ok (.istore_n 2, 1) := by decide +kernel
theorem dX12_unit_68 : decode cX12_unit 68 = .ok (.iload_n 1, 1) := by decide +kernel
theorem dX12_unit_69 : decode cX12_unit 69 = .ok (.bipush 40, 2) := by decide +kernel
theorem dX12_unit_71 : decode cX12_unit 71 = .ok (.if_icmp .ne 17, 3) := by decide +kernel
theorem dX12_unit_74 : decode cX12_unit 74 = .ok (.aload_n 0, 1) := by decide +kernel
theorem dX12_unit_75 : decode cX12_unit 75 = .ok (.bipush 41, 2) := by decide +kernel
theorem dX12_unit_77 : decode cX12_unit 77 = .ok (.invokevirtual 84, 3) := by decide +kernel
theorem dX12_unit_80 : decode cX12_unit 80 = .ok (.ifCond .ne 8, 3) := by decide +kernel
theorem dX12_unit_83 : decode cX12_unit 83 = .ok (.aload_n 0, 1) := by decide +kernel
theorem dX12_unit_84 : decode cX12_unit 84 = .ok (.invokevirtual 103, 3) := by decide +kernel
theorem dX12_unit_87 : decode cX12_unit 87 = .ok (.ireturn, 1) := by decide +kernel
theorem dX12_unit_88 : decode cX12_unit 88 = .ok (.aload_n 0, 1) := by decide +kernel
theorem dX12_unit_89 : decode cX12_unit 89 = .ok (.dup, 1) := by decide +kernel
theorem dX12_unit_90 : decode cX12_unit 90 = .ok (.getfield 100, 3) := by decide +kernel
theorem dX12_unit_93 : decode cX12_unit 93 = .ok (.iconst 1, 1) := by decide +kernel
theorem dX12_unit_94 : decode cX12_unit 94 = .ok (.isub, 1) := by decide +kernel
theorem dX12_unit_95 : decode cX12_unit 95 = .ok (.putfield 100, 3) := by decide +kernel
theorem dX12_unit_98 : decode cX12_unit 98 = .ok (.iload_n 1, 1) := by decide +kernel
theorem dX12_unit_99 : decode cX12_unit 99 = .ok (.bipush 40, 2) := by decide +kernel
theorem dX12_unit_101 : decode cX12_unit 101 = .ok (.if_icmp .ne 7, 3) := by decide +kernel
theorem dX12_unit_104 : decode cX12_unit 104 = .ok (.iload_n 2, 1) := by decide +kernel
theorem dX12_unit_105 : decode cX12_unit 105 = .ok (.goto 12, 3) := by decide +kernel
theorem dX12_unit_108 : decode cX12_unit 108 = .ok (.iload_n 2, 1) := by decide +kernel
theorem dX12_unit_109 : decode cX12_unit 109 = .ok (.ifCond .ne 7, 3) := by decide +kernel
theorem dX12_unit_112 : decode cX12_unit 112 = .ok (.iconst 1, 1) := by decide +kernel
theorem dX12_unit_113 : decode cX12_unit 113 = .ok (.goto 4, 3) := by decide +kernel
theorem dX12_unit_116 : decode cX12_unit 116 = .ok (.iconst 0, 1) := by decide +kernel
theorem dX12_unit_117 : decode cX12_unit 117 = .ok (.ireturn, 1) := by decide +kernel
theorem dX12_unit_118 : decode cX12_unit 118 = .ok (.aload_n 0, 1) := by decide +kernel
theorem dX12_unit_119 : decode cX12_unit 119 = .ok (.iload_n 1, 1) := by decide +kernel
theorem dX12_unit_120 : decode cX12_unit 120 = .ok (.invokevirtual 109, 3) := by decide +kernel
theorem dX12_unit_123 : decode cX12_unit 123 = .ok (.istore_n 2, 1) := by decide +kernel
theorem dX12_unit_124 : decode cX12_unit 124 = .ok (.iload_n 2, 1) := by decide +kernel
theorem dX12_unit_125 : decode cX12_unit 125 = .ok (.ifCond .lt 20, 3) := by decide +kernel
theorem dX12_unit_128 : decode cX12_unit 128 = .ok (.aload_n 0, 1) := by decide +kernel
theorem dX12_unit_129 : decode cX12_unit 129 = .ok (.dup, 1) := by decide +kernel
theorem dX12_unit_130 : decode cX12_unit 130 = .ok (.getfield 61, 3) := by decide +kernel
theorem dX12_unit_133 : decode cX12_unit 133 = .ok (.iconst 1, 1) := by decide +kernel
theorem dX12_unit_134 : decode cX12_unit 134 = .ok (.iadd, 1) := by decide +kernel
theorem dX12_unit_135 : decode cX12_unit 135 = .ok (.putfield 61, 3) := by decide +kernel
theorem dX12_unit_138 : decode cX12_unit 138 = .ok (.aload_n 0, 1) := by decide +kernel
theorem dX12_unit_139 : decode cX12_unit 139 = .ok (.getfield 22, 3) := by decide +kernel
theorem dX12_unit_142 : decode cX12_unit 142 = .ok (.iload_n 2, 1) := by decide +kernel
theorem dX12_unit_143 : decode cX12_unit 143 = .ok (.iaload, 1) := by decide +kernel
theorem dX12_unit_144 : decode cX12_unit 144 = .ok (.ireturn, 1) := by decide +kernel
theorem dX12_unit_145 : decode cX12_unit 145 = .ok (.iconst 0, 1) := by decide +kernel
theorem dX12_unit_146 : decode cX12_unit 146 = .ok (.istore_n 3, 1) := by decide +kernel
theorem dX12_unit_147 : decode cX12_unit 147 = .ok (.iconst 0, 1) := by decide +kernel
theorem dX12_unit_148 : decode cX12_unit 148 = .ok (.istore 4, 2) := by decide +kernel
theorem dX12_unit_150 : decode cX12_unit 150 = .ok (.iload 4, 2) := by decide +kernel
theorem dX12_unit_152 : decode cX12_unit 152 = .ok (.iconst 4, 1) := by decide +kernel
theorem dX12_unit_153 : decode cX12_unit 153 = .ok (.if_icmp .ge 49, 3) := by decide +kernel
theorem dX12_unit_156 : decode cX12_unit 156 = .ok (.aload_n 0, 1) := by decide +kernel
theorem dX12_unit_157 : decode cX12_unit 157 = .ok (.invokevirtual 73, 3) := by decide +kernel
theorem dX12_unit_160 : decode cX12_unit 160 = .ok (.i2l, 1) := by decide +kernel
theorem dX12_unit_161 : decode cX12_unit 161 = .ok (.ldc2_w 113, 3) := by decide +kernel
theorem dX12_unit_164 : decode cX12_unit 164 = .ok (.ldc2_w 115, 3) := by decide +kernel
theorem dX12_unit_167 : decode cX12_unit 167 = .ok (.invokestatic 57, 3) := by decide +kernel
theorem dX12_unit_170 : decode cX12_unit 170 = .ok (.ifCond .eq 32, 3) := by decide +kernel
theorem dX12_unit_173 : decode cX12_unit 173 = .ok (.bipush 10, 2) := by decide +kernel
theorem dX12_unit_175 : decode cX12_unit 175 = .ok (.iload_n 3, 1) := by decide +kernel
theorem dX12_unit_176 : decode cX12_unit 176 = .ok (.imul, 1) := by decide +kernel
theorem dX12_unit_177 : decode cX12_unit 177 = .ok (.aload_n 0, 1) := by decide +kernel
theorem dX12_unit_178 : decode cX12_unit 178 = .ok (.invokevirtual 73, 3) := by decide +kernel
theorem dX12_unit_181 : decode cX12_unit 181 = .ok (.iadd, 1) := by decide +kernel
theorem dX12_unit_182 : decode cX12_unit 182 = .ok (.bipush 48, 2) := by decide +kernel
theorem dX12_unit_184 : decode cX12_unit 184 = .ok (.isub, 1) := by decide +kernel
theorem dX12_unit_185 : decode cX12_unit 185 = .ok (.istore_n 3, 1) := by decide +kernel
theorem dX12_unit_186 : decode cX12_unit 186 = .ok (.aload_n 0, 1) := by decide +kernel
theorem dX12_unit_187 : decode cX12_unit 187 = .ok (.dup, 1) := by decide +kernel
theorem dX12_unit_188 : decode cX12_unit 188 = .ok (.getfield 61, 3) := by decide +kernel
theorem dX12_unit_191 : decode cX12_unit 191 = .ok (.iconst 1, 1) := by decide +kernel
theorem dX12_unit_192 : decode cX12_unit 192 = .ok (.iadd, 1) := by decide +kernel
theorem dX12_unit_193 : decode cX12_unit 193 = .ok (.putfield 61, 3) := by decide +kernel
theorem dX12_unit_196 : decode cX12_unit 196 = .ok (.iinc 4 1, 3) := by decide +kernel
theorem dX12_unit_199 : decode cX12_unit 199 = .ok (.goto (-49), 3) := by decide +kernel
theorem dX12_unit_202 : decode cX12_unit 202 = .ok (.iload 4, 2) := by decide +kernel
theorem dX12_unit_204 : decode cX12_unit 204 = .ok (.ifCond .ne 10, 3) := by decide +kernel
theorem dX12_unit_207 : decode cX12_unit 207 = .ok (.aload_n 0, 1) := by decide +kernel
theorem dX12_unit_208 : decode cX12_unit 208 = .ok (.invokevirtual 103, 3) := by decide +kernel
theorem dX12_unit_211 : decode cX12_unit 211 = .ok (.goto 4, 3) := by decide +kernel
theorem dX12_unit_214 : decode cX12_unit 214 = .ok (.iload_n 3, 1) := by decide +kernel
theorem dX12_unit_215 : decode cX12_unit 215 = .ok (.ireturn, 1) := by decide +kernel
theorem dX12_worked_0 : decode cX12_worked 0 = .ok (.aload_n 0, 1) := by decide +kernel
theorem dX12_worked_1 : decode cX12_worked 1 = .ok (.iload_n 1, 1) := by decide +kernel
theorem dX12_worked_2 : decode cX12_worked 2 = .ok (.putfield 70, 3) := by decide +kernel
theorem dX12_worked_5 : decode cX12_worked 5 = .ok (.aload_n 0, 1) := by decide +kernel
theorem dX12_worked_6 : decode cX12_worked 6 = .ok (.iconst 0, 1) := by decide +kernel
theorem dX12_worked_7 : decode cX12_worked 7 = .ok (.putfield 61, 3) := by decide +kernel
theorem dX12_worked_10 : decode cX12_worked 10 = .ok (.aload_n 0, 1) := by decide +kernel
theorem dX12_worked_11 : decode cX12_worked 11 = .ok (.iload_n 2, 1) := by decide +kernel
theorem dX12_worked_12 : decode cX12_worked 12 = .ok (.putfield 64, 3) := by decide +kernel
theorem dX12_worked_15 : decode cX12_worked 15 = .ok (.aload_n 0, 1) := by decide +kernel
theorem dX12_worked_16 : decode cX12_worked 16 = .ok (.iconst (-1), 1) := by decide +kernel
theorem dX12_worked_17 : decode cX12_worked 17 = .ok (.putfield 67, 3) := by decide +kernel
theorem dX12_worked_20 : decode cX12_worked 20 = .ok (.aload_n 0, 1) := by decide +kernel
theorem dX12_worked_21 : decode cX12_worked 21 = .ok (.iconst 0, 1) := by decide +kernel
theorem dX12_worked_22 : decode cX12_worked 22 = .ok (.putfield 100, 3) := by decide +kernel
theorem dX12_worked_25 : decode cX12_worked 25 = .ok (.aload_n 0, 1) := by decide +kernel
theorem dX12_worked_26 : decode cX12_worked 26 = .ok (.iload_n 3, 1) := by decide +kernel
theorem dX12_worked_27 : decode cX12_worked 27 = .ok (.iconst 1, 1) := by decide +kernel
theorem dX12_worked_28 : decode cX12_worked 28 = .ok (.if_icmp .ne 7, 3) := by decide +kernel
theorem dX12_worked_31 : decode cX12_worked 31 = .ok (.iconst 1, 1) := by decide +kernel
theorem dX12_worked_32 : decode cX12_worked 32 = .ok (.goto 4, 3) := by decide +kernel
theorem dX12_worked_35 : decode cX12_worked 35 = .ok (.iconst 0, 1) := by decide +kernel
theorem dX12_worked_36 : decode cX12_worked 36 = .ok (.putfield 77, 3) := by decide +kernel
theorem dX12_worked_39 : decode cX12_worked 39 = .ok (.aload_n 0, 1) := by decide +kernel
theorem dX12_worked_40 : decode cX12_worked 40 = .ok (.invokevirtual 106, 3) := by decide +kernel
theorem dX12_worked_43 : decode cX12_worked 43 = .ok (.istore 4, 2) := by decide +kernel
theorem dX12_worked_45 : decode cX12_worked 45 = .ok (.aload_n 0, 1) := by decide +kernel
theorem dX12_worked_46 : decode cX12_worked 46 = .ok (.getfield 67, 3) := by decide +kernel
theorem dX12_worked_49 : decode cX12_worked 49 = .ok (.ifCond .ge 19, 3) := by decide +kernel
theorem dX12_worked_52 : decode cX12_worked 52 = .ok (.aload_n 0, 1) := by decide +kernel
theorem dX12_worked_53 : decode cX12_worked 53 = .ok (.getfield 61, 3) := by decide +kernel
theorem dX12_worked_56 : decode cX12_worked 56 = .ok (.aload_n 0, 1) := by decide +kernel
theorem dX12_worked_57 : decode cX12_worked 57 = .ok (.getfield 64, 3) := by decide +kernel
theorem dX12_worked_60 : decode cX12_worked 60 = .ok (.if_icmp .ge 8, 3) := by decide +kernel
theorem dX12_worked_63 : decode cX12_worked 63 = .ok (.aload_n 0, 1) := by decide +kernel
theorem dX12_worked_64 : decode cX12_worked 64 = .ok (.invokevirtual 103, 3) := by decide +kernel
theorem dX12_worked_67 : decode cX12_worked 67 = .ok (.ireturn, 1) := by decide +kernel
theorem dX12_worked_68 : decode cX12_worked 68 = .ok (.iload 4, 2) := by decide +kernel
theorem dX12_worked_70 : decode cX12_worked 70 = .ok (.ireturn, 1) := by decide +kernel
theorem dX12_feed_0 : decode cX12_feed 0 = .ok (.iload_n 3, 1) := by decide +kernel
theorem dX12_feed_1 : decode cX12_feed 1 = .ok (.i2l, 1) := by decide +kernel
theorem dX12_feed_2 : decode cX12_feed 2 = .ok (.lconst 1, 1) := by decide +kernel
theorem dX12_feed_3 : decode cX12_feed 3 = .ok (.ldc2_w 117, 3) := by decide +kernel
theorem dX12_feed_6 : decode cX12_feed 6 = .ok (.invokestatic 57, 3) := by decide +kernel
theorem dX12_feed_9 : decode cX12_feed 9 = .ok (.ifCond .ne 9, 3) := by decide +kernel
theorem dX12_feed_12 : decode cX12_feed 12 = .ok (.aload_n 0, 1) := by decide +kernel
theorem dX12_feed_13 : decode cX12_feed 13 = .ok (.iconst 1, 1) := by decide +kernel
theorem dX12_feed_14 : decode cX12_feed 14 = .ok (.invokevirtual 119, 3) := by decide +kernel
theorem dX12_feed_17 : decode cX12_feed 17 = .ok (.ireturn, 1) := by decide +kernel
theorem dX12_feed_18 : decode cX12_feed 18 = .ok (.aload_n 0, 1) := by decide +kernel
theorem dX12_feed_19 : decode cX12_feed 19 = .ok (.getfield 7, 3) := by decide +kernel
theorem dX12_feed_22 : decode cX12_feed 22 = .ok (.iconst 5, 1) := by decide +kernel
theorem dX12_feed_23 : decode cX12_feed 23 = .ok (.iaload, 1) := by decide +kernel
theorem dX12_feed_24 : decode cX12_feed 24 = .ok (.iload_n 3, 1) := by decide +kernel
theorem dX12_feed_25 : decode cX12_feed 25 = .ok (.iadd, 1) := by decide +kernel
theorem dX12_feed_26 : decode cX12_feed 26 = .ok (.bipush 50, 2) := by decide +kernel
theorem dX12_feed_28 : decode cX12_feed 28 = .ok (.if_icmp .le 9, 3) := by decide +kernel
theorem dX12_feed_31 : decode cX12_feed 31 = .ok (.aload_n 0, 1) := by decide +kernel
theorem dX12_feed_32 : decode cX12_feed 32 = .ok (.iconst 4, 1) := by decide +kernel
theorem dX12_feed_33 : decode cX12_feed 33 = .ok (.invokevirtual 119, 3) := by decide +kernel
theorem dX12_feed_36 : decode cX12_feed 36 = .ok (.ireturn, 1) := by decide +kernel
theorem dX12_feed_37 : decode cX12_feed 37 = .ok (.iconst 0, 1) := by decide +kernel
theorem dX12_feed_38 : decode cX12_feed 38 = .ok (.istore 4, 2) := by decide +kernel
theorem dX12_feed_40 : decode cX12_feed 40 = .ok (.iload 4, 2) := by decide +kernel
theorem dX12_feed_42 : decode cX12_feed 42 = .ok (.iload_n 3, 1) := by decide +kernel
theorem dX12_feed_43 : decode cX12_feed 43 = .ok (.if_icmp .ge 46, 3) := by decide +kernel
theorem dX12_feed_46 : decode cX12_feed 46 = .ok (.aload_n 0, 1) := by decide +kernel
theorem dX12_feed_47 : decode cX12_feed 47 = .ok (.getfield 7, 3) := by decide +kernel
theorem dX12_feed_50 : decode cX12_feed 50 = .ok (.sipush 292, 3) := by decide +kernel
theorem dX12_feed_53 : decode cX12_feed 53 = .ok (.aload_n 0, 1) := by decide +kernel
theorem dX12_feed_54 : decode cX12_feed 54 = .ok (.getfield 7, 3) := by decide +kernel
theorem dX12_feed_57 : decode cX12_feed 57 = .ok (.iconst 5, 1) := by decide +kernel
theorem dX12_feed_58 : decode cX12_feed 58 = .ok (.iaload, 1) := by decide +kernel
theorem dX12_feed_59 : decode cX12_feed 59 = .ok (.iadd, 1) := by decide +kernel
theorem dX12_feed_60 : decode cX12_feed 60 = .ok (.lload_n 1, 1) := by decide +kernel
theorem dX12_feed_61 : decode cX12_feed 61 = .ok (.bipush 8, 2) := by decide +kernel
theorem dX12_feed_63 : decode cX12_feed 63 = .ok (.iload 4, 2) := by decide +kernel
theorem dX12_feed_65 : decode cX12_feed 65 = .ok (.imul, 1) := by decide +kernel
theorem dX12_feed_66 : decode cX12_feed 66 = .ok (.lshr, 1) := by decide +kernel
theorem dX12_feed_67 : decode cX12_feed 67 = .ok (.ldc2_w 122, 3) := by decide +kernel
theorem dX12_feed_70 : decode cX12_feed 70 = .ok (.land, 1) := by decide +kernel
theorem dX12_feed_71 : decode cX12_feed 71 = .ok (.l2i, 1) := by decide +kernel
theorem dX12_feed_72 : decode cX12_feed 72 = .ok (.iastore, 1) := by decide +kernel
theorem dX12_feed_73 : decode cX12_feed 73 = .ok (.aload_n 0, 1) := by decide +kernel
theorem dX12_feed_74 : decode cX12_feed 74 = .ok (.getfield 7, 3) := by decide +kernel
theorem dX12_feed_77 : decode cX12_feed 77 = .ok (.iconst 5, 1) := by decide +kernel
theorem dX12_feed_78 : decode cX12_feed 78 = .ok (.dup2, 1) := by decide +kernel
theorem dX12_feed_79 : decode cX12_feed 79 = .ok (.iaload, 1) := by decide +kernel
theorem dX12_feed_80 : decode cX12_feed 80 = .ok (.iconst 1, 1) := by decide +kernel
theorem dX12_feed_81 : decode cX12_feed 81 = .ok (.iadd, 1) := by decide +kernel
theorem dX12_feed_82 : decode cX12_feed 82 = .ok (.iastore, 1) := by decide +kernel
theorem dX12_feed_83 : decode cX12_feed 83 = .ok (.iinc 4 1, 3) := by decide +kernel
theorem dX12_feed_86 : decode cX12_feed 86 = .ok (.goto (-46), 3) := by decide +kernel
theorem dX12_feed_89 : decode cX12_feed 89 = .ok (.aload_n 0, 1) := by decide +kernel
theorem dX12_feed_90 : decode cX12_feed 90 = .ok (.getfield 7, 3) := by decide +kernel
theorem dX12_feed_93 : decode cX12_feed 93 = .ok (.iconst 5, 1) := by decide +kernel
theorem dX12_feed_94 : decode cX12_feed 94 = .ok (.iaload, 1) := by decide +kernel
theorem dX12_feed_95 : decode cX12_feed 95 = .ok (.ireturn, 1) := by decide +kernel
theorem dX12_text_0 : decode cX12_text 0 = .ok (.iload_n 1, 1) := by decide +kernel
theorem dX12_text_1 : decode cX12_text 1 = .ok (.i2l, 1) := by decide +kernel
theorem dX12_text_2 : decode cX12_text 2 = .ok (.lconst 0, 1) := by decide +kernel
theorem dX12_text_3 : decode cX12_text 3 = .ok (.lconst 1, 1) := by decide +kernel
theorem dX12_text_4 : decode cX12_text 4 = .ok (.invokestatic 57, 3) := by decide +kernel
theorem dX12_text_7 : decode cX12_text 7 = .ok (.ifCond .ne 9, 3) := by decide +kernel
theorem dX12_text_10 : decode cX12_text 10 = .ok (.aload_n 0, 1) := by decide +kernel
theorem dX12_text_11 : decode cX12_text 11 = .ok (.iconst 1, 1) := by decide +kernel
theorem dX12_text_12 : decode cX12_text 12 = .ok (.invokevirtual 119, 3) := by decide +kernel
theorem dX12_text_15 : decode cX12_text 15 = .ok (.ireturn, 1) := by decide +kernel
theorem dX12_text_16 : decode cX12_text 16 = .ok (.aload_n 0, 1) := by decide +kernel
theorem dX12_text_17 : decode cX12_text 17 = .ok (.getfield 7, 3) := by decide +kernel
theorem dX12_text_20 : decode cX12_text 20 = .ok (.iconst 5, 1) := by decide +kernel
theorem dX12_text_21 : decode cX12_text 21 = .ok (.iaload, 1) := by decide +kernel
theorem dX12_text_22 : decode cX12_text 22 = .ok (.istore_n 2, 1) := by decide +kernel
theorem dX12_text_23 : decode cX12_text 23 = .ok (.aload_n 0, 1) := by decide +kernel
theorem dX12_text_24 : decode cX12_text 24 = .ok (.getfield 7, 3) := by decide +kernel
theorem dX12_text_27 : decode cX12_text 27 = .ok (.iconst 5, 1) := by decide +kernel
theorem dX12_text_28 : decode cX12_text 28 = .ok (.iconst 0, 1) := by decide +kernel
theorem dX12_text_29 : decode cX12_text 29 = .ok (.iastore, 1) := by decide +kernel
theorem dX12_text_30 : decode cX12_text 30 = .ok (.aload_n 0, 1) := by decide +kernel
theorem dX12_text_31 : decode cX12_text 31 = .ok (.sipush 292, 3) := by decide +kernel
theorem dX12_text_34 : decode cX12_text 34 = .ok (.iload_n 2, 1) := by decide +kernel
theorem dX12_text_35 : decode cX12_text 35 = .ok (.iload_n 1, 1) := by decide +kernel
theorem dX12_text_36 : decode cX12_text 36 = .ok (.invokevirtual 124, 3) := by decide +kernel
theorem dX12_text_39 : decode cX12_text 39 = .ok (.istore_n 3, 1) := by decide +kernel
theorem dX12_text_40 : decode cX12_text 40 = .ok (.aload_n 0, 1) := by decide +kernel
theorem dX12_text_41 : decode cX12_text 41 = .ok (.getfield 67, 3) := by decide +kernel
theorem dX12_text_44 : decode cX12_text 44 = .ok (.ifCond .lt 11, 3) := by decide +kernel
theorem dX12_text_47 : decode cX12_text 47 = .ok (.bipush (-10), 2) := by decide +kernel
theorem dX12_text_49 : decode cX12_text 49 = .ok (.aload_n 0, 1) := by decide +kernel
theorem dX12_text_50 : decode cX12_text 50 = .ok (.getfield 67, 3) := by decide +kernel
theorem dX12_text_53 : decode cX12_text 53 = .ok (.isub, 1) := by decide +kernel
theorem dX12_text_54 : decode cX12_text 54 = .ok (.ireturn, 1) := by decide +kernel
theorem dX12_text_55 : decode cX12_text 55 = .ok (.aload_n 0, 1) := by decide +kernel
theorem dX12_text_56 : decode cX12_text 56 = .ok (.getfield 7, 3) := by decide +kernel
theorem dX12_text_59 : decode cX12_text 59 = .ok (.sipush 170, 3) := by decide +kernel
theorem dX12_text_62 : decode cX12_text 62 = .ok (.iload_n 1, 1) := by decide +kernel
theorem dX12_text_63 : decode cX12_text 63 = .ok (.iadd, 1) := by decide +kernel
theorem dX12_text_64 : decode cX12_text 64 = .ok (.iload_n 2, 1) := by decide +kernel
theorem dX12_text_65 : decode cX12_text 65 = .ok (.iastore, 1) := by decide +kernel
theorem dX12_text_66 : decode cX12_text 66 = .ok (.iconst 0, 1) := by decide +kernel
theorem dX12_text_67 : decode cX12_text 67 = .ok (.istore 4, 2) := by decide +kernel
theorem dX12_text_69 : decode cX12_text 69 = .ok (.iload 4, 2) := by decide +kernel
theorem dX12_text_71 : decode cX12_text 71 = .ok (.iload_n 2, 1) := by decide +kernel
theorem dX12_text_72 : decode cX12_text 72 = .ok (.if_icmp .ge 36, 3) := by decide +kernel
theorem dX12_text_75 : decode cX12_text 75 = .ok (.aload_n 0, 1) := by decide +kernel
theorem dX12_text_76 : decode cX12_text 76 = .ok (.getfield 7, 3) := by decide +kernel
theorem dX12_text_79 : decode cX12_text 79 = .ok (.sipush 192, 3) := by decide +kernel
theorem dX12_text_82 : decode cX12_text 82 = .ok (.bipush 50, 2) := by decide +kernel
theorem dX12_text_84 : decode cX12_text 84 = .ok (.iload_n 1, 1) := by decide +kernel
theorem dX12_text_85 : decode cX12_text 85 = .ok (.imul, 1) := by decide +kernel
theorem dX12_text_86 : decode cX12_text 86 = .ok (.iadd, 1) := by decide +kernel
theorem dX12_text_87 : decode cX12_text 87 = .ok (.iload 4, 2) := by decide +kernel
theorem dX12_text_89 : decode cX12_text 89 = .ok (.iadd, 1) := by decide +kernel
theorem dX12_text_90 : decode cX12_text 90 = .ok (.aload_n 0, 1) := by decide +kernel
theorem dX12_text_91 : decode cX12_text 91 = .ok (.getfield 7, 3) := by decide +kernel
theorem dX12_text_94 : decode cX12_text 94 = .ok (.sipush 292, 3) := by decide +kernel
theorem dX12_text_97 : decode cX12_text 97 = .ok (.iload 4, 2) := by decide +kernel
theorem dX12_text_99 : decode cX12_text 99 = .ok (.iadd, 1) := by decide +kernel
theorem dX12_text_100 : decode cX12_text 100 = .ok (.iaload, 1) := by decide +kernel
theorem dX12_text_101 : decode cX12_text 101 = .ok (.iastore, 1) := by decide +kernel
theorem dX12_text_102 : decode cX12_text 102 = .ok (.iinc 4 1, 3) := by decide +kernel
theorem dX12_text_105 : decode cX12_text 105 = .ok (.goto (-36), 3) := by decide +kernel
theorem dX12_text_108 : decode cX12_text 108 = .ok (.iconst 1, 1) := by decide +kernel
theorem dX12_text_109 : decode cX12_text 109 = .ok (.ireturn, 1) := by decide +kernel
theorem dX12_textGives_0 : decode cX12_textGives 0 = .ok (.iload_n 1, 1) := by decide +kernel
theorem dX12_textGives_1 : decode cX12_textGives 1 = .ok (.ifCond .ne 8, 3) := by decide +kernel
theorem dX12_textGives_4 : decode cX12_textGives 4 = .ok (.bipush 10, 2) := by decide +kernel
theorem dX12_textGives_6 : decode cX12_textGives 6 = .ok (.goto 14, 3) := by decide +kernel
theorem dX12_textGives_9 : decode cX12_textGives 9 = .ok (.bipush 10, 2) := by decide +kernel
theorem dX12_textGives_11 : decode cX12_textGives 11 = .ok (.iload 4, 2) := by decide +kernel
theorem dX12_textGives_13 : decode cX12_textGives 13 = .ok (.imul, 1) := by decide +kernel
theorem dX12_textGives_14 : decode cX12_textGives 14 = .ok (.iconst 5, 1) := by decide +kernel
theorem dX12_textGives_15 : decode cX12_textGives 15 = .ok (.iload_n 3, 1) := by decide +kernel
theorem dX12_textGives_16 : decode cX12_textGives 16 = .ok (.imul, 1) := by decide +kernel
theorem dX12_textGives_17 : decode cX12_textGives 17 = .ok (.isub, 1) := by decide +kernel
theorem dX12_textGives_18 : decode cX12_textGives 18 = .ok (.iload_n 2, 1) := by decide +kernel
theorem dX12_textGives_19 : decode cX12_textGives 19 = .ok (.isub, 1) := by decide +kernel
theorem dX12_textGives_20 : decode cX12_textGives 20 = .ok (.istore 5, 2) := by decide +kernel
theorem dX12_textGives_22 : decode cX12_textGives 22 = .ok (.aload_n 0, 1) := by decide +kernel
theorem dX12_textGives_23 : decode cX12_textGives 23 = .ok (.getfield 7, 3) := by decide +kernel
theorem dX12_textGives_26 : decode cX12_textGives 26 = .ok (.sipush 170, 3) := by decide +kernel
theorem dX12_textGives_29 : decode cX12_textGives 29 = .ok (.iload_n 1, 1) := by decide +kernel
theorem dX12_textGives_30 : decode cX12_textGives 30 = .ok (.iadd, 1) := by decide +kernel
theorem dX12_textGives_31 : decode cX12_textGives 31 = .ok (.iaload, 1) := by decide +kernel
theorem dX12_textGives_32 : decode cX12_textGives 32 = .ok (.ifCond .le 50, 3) := by decide +kernel
theorem dX12_textGives_35 : decode cX12_textGives 35 = .ok (.aload_n 0, 1) := by decide +kernel
theorem dX12_textGives_36 : decode cX12_textGives 36 = .ok (.getfield 22, 3) := by decide +kernel
theorem dX12_textGives_39 : decode cX12_textGives 39 = .ok (.iconst 0, 1) := by decide +kernel
theorem dX12_textGives_40 : decode cX12_textGives 40 = .ok (.iload_n 2, 1) := by decide +kernel
theorem dX12_textGives_41 : decode cX12_textGives 41 = .ok (.iastore, 1) := by decide +kernel
theorem dX12_textGives_42 : decode cX12_textGives 42 = .ok (.aload_n 0, 1) := by decide +kernel
theorem dX12_textGives_43 : decode cX12_textGives 43 = .ok (.getfield 22, 3) := by decide +kernel
theorem dX12_textGives_46 : decode cX12_textGives 46 = .ok (.iconst 1, 1) := by decide +kernel
theorem dX12_textGives_47 : decode cX12_textGives 47 = .ok (.iload_n 3, 1) := by decide +kernel
theorem dX12_textGives_48 : decode cX12_textGives 48 = .ok (.iastore, 1) := by decide +kernel
theorem dX12_textGives_49 : decode cX12_textGives 49 = .ok (.aload_n 0, 1) := by decide +kernel
theorem dX12_textGives_50 : decode cX12_textGives 50 = .ok (.getfield 22, 3) := by decide +kernel
theorem dX12_textGives_53 : decode cX12_textGives 53 = .ok (.iconst 2, 1) := by decide +kernel
theorem dX12_textGives_54 : decode cX12_textGives 54 = .ok (.iload 4, 2) := by decide +kernel
theorem dX12_textGives_56 : decode cX12_textGives 56 = .ok (.iastore, 1) := by decide +kernel
theorem dX12_textGives_57 : decode cX12_textGives 57 = .ok (.aload_n 0, 1) := by decide +kernel
theorem dX12_textGives_58 : decode cX12_textGives 58 = .ok (.sipush 192, 3) := by decide +kernel
theorem dX12_textGives_61 : decode cX12_textGives 61 = .ok (.bipush 50, 2) := by decide +kernel
theorem dX12_textGives_63 : decode cX12_textGives 63 = .ok (.iload_n 1, 1) := by decide +kernel
theorem dX12_textGives_64 : decode cX12_textGives 64 = .ok (.imul, 1) := by decide +kernel
theorem dX12_textGives_65 : decode cX12_textGives 65 = .ok (.iadd, 1) := by decide +kernel
theorem dX12_textGives_66 : decode cX12_textGives 66 = .ok (.aload_n 0, 1) := by decide +kernel
theorem dX12_textGives_67 : decode cX12_textGives 67 = .ok (.getfield 7, 3) := by decide +kernel
theorem dX12_textGives_70 : decode cX12_textGives 70 = .ok (.sipush 170, 3) := by decide +kernel
theorem dX12_textGives_73 : decode cX12_textGives 73 = .ok (.iload_n 1, 1) := by decide +kernel
theorem dX12_textGives_74 : decode cX12_textGives 74 = .ok (.iadd, 1) := by decide +kernel
theorem dX12_textGives_75 : decode cX12_textGives 75 = .ok (.iaload, 1) := by decide +kernel
theorem dX12_textGives_76 : decode cX12_textGives 76 = .ok (.iload_n 1, 1) := by decide +kernel
theorem dX12_textGives_77 : decode cX12_textGives 77 = .ok (.invokevirtual 124, 3) := by decide +kernel
theorem dX12_textGives_80 : decode cX12_textGives 80 = .ok (.istore 5, 2) := by decide +kernel
theorem dX12_textGives_82 : decode cX12_textGives 82 = .ok (.iload_n 1, 1) := by decide +kernel
theorem dX12_textGives_83 : decode cX12_textGives 83 = .ok (.ifCond .ne 15, 3) := by decide +kernel
theorem dX12_textGives_86 : decode cX12_textGives 86 = .ok (.iload 5, 2) := by decide +kernel
theorem dX12_textGives_88 : decode cX12_textGives 88 = .ok (.iconst 0, 1) := by decide +kernel
theorem dX12_textGives_89 : decode cX12_textGives 89 = .ok (.sipush 999, 3) := by decide +kernel
theorem dX12_textGives_92 : decode cX12_textGives 92 = .ok (.invokestatic 128, 3) := by decide +kernel
theorem dX12_textGives_95 : decode cX12_textGives 95 = .ok (.goto 14, 3) := by decide +kernel
theorem dX12_textGives_98 : decode cX12_textGives 98 = .ok (.iload 5, 2) := by decide +kernel
theorem dX12_textGives_100 : decode cX12_textGives 100 = .ok (.sipush (-999), 3) := by decide +kernel
theorem dX12_textGives_103 : decode cX12_textGives 103 = .ok (.sipush 999, 3) := by decide +kernel
theorem dX12_textGives_106 : decode cX12_textGives 106 = .ok (.invokestatic 128, 3) := by decide +kernel
theorem dX12_textGives_109 : decode cX12_textGives 109 = .ok (.ireturn, 1) := by decide +kernel
theorem dX12_law_0 : decode cX12_law 0 = .ok (.iload_n 1, 1) := by decide +kernel
theorem dX12_law_1 : decode cX12_law 1 = .ok (.i2l, 1) := by decide +kernel
theorem dX12_law_2 : decode cX12_law 2 = .ok (.lconst 0, 1) := by decide +kernel
theorem dX12_law_3 : decode cX12_law 3 = .ok (.lconst 1, 1) := by decide +kernel
theorem dX12_law_4 : decode cX12_law 4 = .ok (.invokestatic 57, 3) := by decide +kernel
theorem dX12_law_7 : decode cX12_law 7 = .ok (.ifCond .eq 15, 3) := by decide +kernel
theorem dX12_law_10 : decode cX12_law 10 = .ok (.aload_n 0, 1) := by decide +kernel
theorem dX12_law_11 : decode cX12_law 11 = .ok (.iload_n 1, 1) := by decide +kernel
theorem dX12_law_12 : decode cX12_law 12 = .ok (.iload_n 2, 1) := by decide +kernel
theorem dX12_law_13 : decode cX12_law 13 = .ok (.iload_n 3, 1) := by decide +kernel
theorem dX12_law_14 : decode cX12_law 14 = .ok (.iload 4, 2) := by decide +kernel
theorem dX12_law_16 : decode cX12_law 16 = .ok (.invokevirtual 131, 3) := by decide +kernel
theorem dX12_law_19 : decode cX12_law 19 = .ok (.goto 8, 3) := by decide +kernel
theorem dX12_law_22 : decode cX12_law 22 = .ok (.aload_n 0, 1) := by decide +kernel
theorem dX12_law_23 : decode cX12_law 23 = .ok (.iconst 1, 1) := by decide +kernel
theorem dX12_law_24 : decode cX12_law 24 = .ok (.invokevirtual 119, 3) := by decide +kernel
theorem dX12_law_27 : decode cX12_law 27 = .ok (.ireturn, 1) := by decide +kernel
theorem dX12_fact_0 : decode cX12_fact 0 = .ok (.iload_n 1, 1) := by decide +kernel
theorem dX12_fact_1 : decode cX12_fact 1 = .ok (.i2l, 1) := by decide +kernel
theorem dX12_fact_2 : decode cX12_fact 2 = .ok (.lconst 0, 1) := by decide +kernel
theorem dX12_fact_3 : decode cX12_fact 3 = .ok (.ldc2_w 122, 3) := by decide +kernel
theorem dX12_fact_6 : decode cX12_fact 6 = .ok (.invokestatic 57, 3) := by decide +kernel
theorem dX12_fact_9 : decode cX12_fact 9 = .ok (.ifCond .eq 29, 3) := by decide +kernel
theorem dX12_fact_12 : decode cX12_fact 12 = .ok (.iload_n 1, 1) := by decide +kernel
theorem dX12_fact_13 : decode cX12_fact 13 = .ok (.aload_n 0, 1) := by decide +kernel
theorem dX12_fact_14 : decode cX12_fact 14 = .ok (.getfield 7, 3) := by decide +kernel
theorem dX12_fact_17 : decode cX12_fact 17 = .ok (.iconst 0, 1) := by decide +kernel
theorem dX12_fact_18 : decode cX12_fact 18 = .ok (.iaload, 1) := by decide +kernel
theorem dX12_fact_19 : decode cX12_fact 19 = .ok (.ishr, 1) := by decide +kernel
theorem dX12_fact_20 : decode cX12_fact 20 = .ok (.iconst 1, 1) := by decide +kernel
theorem dX12_fact_21 : decode cX12_fact 21 = .ok (.iand, 1) := by decide +kernel
theorem dX12_fact_22 : decode cX12_fact 22 = .ok (.iconst 1, 1) := by decide +kernel
theorem dX12_fact_23 : decode cX12_fact 23 = .ok (.if_icmp .eq 15, 3) := by decide +kernel
theorem dX12_fact_26 : decode cX12_fact 26 = .ok (.iload_n 2, 1) := by decide +kernel
theorem dX12_fact_27 : decode cX12_fact 27 = .ok (.i2l, 1) := by decide +kernel
theorem dX12_fact_28 : decode cX12_fact 28 = .ok (.lconst 0, 1) := by decide +kernel
theorem dX12_fact_29 : decode cX12_fact 29 = .ok (.ldc2_w 135, 3) := by decide +kernel
theorem dX12_fact_32 : decode cX12_fact 32 = .ok (.invokestatic 57, 3) := by decide +kernel
theorem dX12_fact_35 : decode cX12_fact 35 = .ok (.ifCond .ne 9, 3) := by decide +kernel
theorem dX12_fact_38 : decode cX12_fact 38 = .ok (.aload_n 0, 1) := by decide +kernel
theorem dX12_fact_39 : decode cX12_fact 39 = .ok (.iconst 1, 1) := by decide +kernel
theorem dX12_fact_40 : decode cX12_fact 40 = .ok (.invokevirtual 119, 3) := by decide +kernel
theorem dX12_fact_43 : decode cX12_fact 43 = .ok (.ireturn, 1) := by decide +kernel
theorem dX12_fact_44 : decode cX12_fact 44 = .ok (.aload_n 0, 1) := by decide +kernel
theorem dX12_fact_45 : decode cX12_fact 45 = .ok (.getfield 7, 3) := by decide +kernel
theorem dX12_fact_48 : decode cX12_fact 48 = .ok (.iconst 0, 1) := by decide +kernel
theorem dX12_fact_49 : decode cX12_fact 49 = .ok (.iaload, 1) := by decide +kernel
theorem dX12_fact_50 : decode cX12_fact 50 = .ok (.bipush 8, 2) := by decide +kernel
theorem dX12_fact_52 : decode cX12_fact 52 = .ok (.if_icmp .ne 9, 3) := by decide +kernel
theorem dX12_fact_55 : decode cX12_fact 55 = .ok (.aload_n 0, 1) := by decide +kernel
theorem dX12_fact_56 : decode cX12_fact 56 = .ok (.iconst 4, 1) := by decide +kernel
theorem dX12_fact_57 : decode cX12_fact 57 = .ok (.invokevirtual 119, 3) := by decide +kernel
theorem dX12_fact_60 : decode cX12_fact 60 = .ok (.ireturn, 1) := by decide +kernel
theorem dX12_fact_61 : decode cX12_fact 61 = .ok (.aload_n 0, 1) := by decide +kernel
theorem dX12_fact_62 : decode cX12_fact 62 = .ok (.getfield 7, 3) := by decide +kernel
theorem dX12_fact_65 : decode cX12_fact 65 = .ok (.iconst 0, 1) := by decide +kernel
theorem dX12_fact_66 : decode cX12_fact 66 = .ok (.iaload, 1) := by decide +kernel
theorem dX12_fact_67 : decode cX12_fact 67 = .ok (.istore_n 3, 1) := by decide +kernel
theorem dX12_fact_68 : decode cX12_fact 68 = .ok (.aload_n 0, 1) := by decide +kernel
theorem dX12_fact_69 : decode cX12_fact 69 = .ok (.getfield 7, 3) := by decide +kernel
theorem dX12_fact_72 : decode cX12_fact 72 = .ok (.iconst 0, 1) := by decide +kernel
theorem dX12_fact_73 : decode cX12_fact 73 = .ok (.dup2, 1) := by decide +kernel
theorem dX12_fact_74 : decode cX12_fact 74 = .ok (.iaload, 1) := by decide +kernel
theorem dX12_fact_75 : decode cX12_fact 75 = .ok (.iconst 1, 1) := by decide +kernel
theorem dX12_fact_76 : decode cX12_fact 76 = .ok (.iadd, 1) := by decide +kernel
theorem dX12_fact_77 : decode cX12_fact 77 = .ok (.iastore, 1) := by decide +kernel
theorem dX12_fact_78 : decode cX12_fact 78 = .ok (.aload_n 0, 1) := by decide +kernel
theorem dX12_fact_79 : decode cX12_fact 79 = .ok (.iload_n 3, 1) := by decide +kernel
theorem dX12_fact_80 : decode cX12_fact 80 = .ok (.iconst 0, 1) := by decide +kernel
theorem dX12_fact_81 : decode cX12_fact 81 = .ok (.iload_n 1, 1) := by decide +kernel
theorem dX12_fact_82 : decode cX12_fact 82 = .ok (.invokevirtual 137, 3) := by decide +kernel
theorem dX12_fact_85 : decode cX12_fact 85 = .ok (.aload_n 0, 1) := by decide +kernel
theorem dX12_fact_86 : decode cX12_fact 86 = .ok (.iload_n 3, 1) := by decide +kernel
theorem dX12_fact_87 : decode cX12_fact 87 = .ok (.iconst 1, 1) := by decide +kernel
theorem dX12_fact_88 : decode cX12_fact 88 = .ok (.iconst 0, 1) := by decide +kernel
theorem dX12_fact_89 : decode cX12_fact 89 = .ok (.invokevirtual 137, 3) := by decide +kernel
theorem dX12_fact_92 : decode cX12_fact 92 = .ok (.aload_n 0, 1) := by decide +kernel
theorem dX12_fact_93 : decode cX12_fact 93 = .ok (.iload_n 3, 1) := by decide +kernel
theorem dX12_fact_94 : decode cX12_fact 94 = .ok (.iconst 2, 1) := by decide +kernel
theorem dX12_fact_95 : decode cX12_fact 95 = .ok (.iconst 0, 1) := by decide +kernel
theorem dX12_fact_96 : decode cX12_fact 96 = .ok (.invokevirtual 137, 3) := by decide +kernel
theorem dX12_fact_99 : decode cX12_fact 99 = .ok (.aload_n 0, 1) := by decide +kernel
theorem dX12_fact_100 : decode cX12_fact 100 = .ok (.iload_n 3, 1) := by decide +kernel
theorem dX12_fact_101 : decode cX12_fact 101 = .ok (.iconst 3, 1) := by decide +kernel
theorem dX12_fact_102 : decode cX12_fact 102 = .ok (.iconst (-1), 1) := by decide +kernel
theorem dX12_fact_103 : decode cX12_fact 103 = .ok (.invokevirtual 137, 3) := by decide +kernel
theorem dX12_fact_106 : decode cX12_fact 106 = .ok (.aload_n 0, 1) := by decide +kernel
theorem dX12_fact_107 : decode cX12_fact 107 = .ok (.iload_n 3, 1) := by decide +kernel
theorem dX12_fact_108 : decode cX12_fact 108 = .ok (.iconst 4, 1) := by decide +kernel
theorem dX12_fact_109 : decode cX12_fact 109 = .ok (.iload_n 2, 1) := by decide +kernel
theorem dX12_fact_110 : decode cX12_fact 110 = .ok (.invokevirtual 137, 3) := by decide +kernel
theorem dX12_fact_113 : decode cX12_fact 113 = .ok (.iload_n 3, 1) := by decide +kernel
theorem dX12_fact_114 : decode cX12_fact 114 = .ok (.ireturn, 1) := by decide +kernel
theorem dX12_clash_0 : decode cX12_clash 0 = .ok (.aload_n 0, 1) := by decide +kernel
theorem dX12_clash_1 : decode cX12_clash 1 = .ok (.iload_n 1, 1) := by decide +kernel
theorem dX12_clash_2 : decode cX12_clash 2 = .ok (.invokevirtual 141, 3) := by decide +kernel
theorem dX12_clash_5 : decode cX12_clash 5 = .ok (.ifCond .eq 26, 3) := by decide +kernel
theorem dX12_clash_8 : decode cX12_clash 8 = .ok (.aload_n 0, 1) := by decide +kernel
theorem dX12_clash_9 : decode cX12_clash 9 = .ok (.iload_n 2, 1) := by decide +kernel
theorem dX12_clash_10 : decode cX12_clash 10 = .ok (.invokevirtual 141, 3) := by decide +kernel
theorem dX12_clash_13 : decode cX12_clash 13 = .ok (.ifCond .eq 18, 3) := by decide +kernel
theorem dX12_clash_16 : decode cX12_clash 16 = .ok (.iload_n 1, 1) := by decide +kernel
theorem dX12_clash_17 : decode cX12_clash 17 = .ok (.iload_n 2, 1) := by decide +kernel
theorem dX12_clash_18 : decode cX12_clash 18 = .ok (.if_icmp .eq 13, 3) := by decide +kernel
theorem dX12_clash_21 : decode cX12_clash 21 = .ok (.iload_n 3, 1) := by decide +kernel
theorem dX12_clash_22 : decode cX12_clash 22 = .ok (.i2l, 1) := by decide +kernel
theorem dX12_clash_23 : decode cX12_clash 23 = .ok (.lconst 0, 1) := by decide +kernel
theorem dX12_clash_24 : decode cX12_clash 24 = .ok (.lconst 1, 1) := by decide +kernel
theorem dX12_clash_25 : decode cX12_clash 25 = .ok (.invokestatic 57, 3) := by decide +kernel
theorem dX12_clash_28 : decode cX12_clash 28 = .ok (.ifCond .ne 9, 3) := by decide +kernel
theorem dX12_clash_31 : decode cX12_clash 31 = .ok (.aload_n 0, 1) := by decide +kernel
theorem dX12_clash_32 : decode cX12_clash 32 = .ok (.iconst 1, 1) := by decide +kernel
theorem dX12_clash_33 : decode cX12_clash 33 = .ok (.invokevirtual 119, 3) := by decide +kernel
theorem dX12_clash_36 : decode cX12_clash 36 = .ok (.ireturn, 1) := by decide +kernel
theorem dX12_clash_37 : decode cX12_clash 37 = .ok (.aload_n 0, 1) := by decide +kernel
theorem dX12_clash_38 : decode cX12_clash 38 = .ok (.iload_n 1, 1) := by decide +kernel
theorem dX12_clash_39 : decode cX12_clash 39 = .ok (.iconst 1, 1) := by decide +kernel
theorem dX12_clash_40 : decode cX12_clash 40 = .ok (.invokevirtual 144, 3) := by decide +kernel
theorem dX12_clash_43 : decode cX12_clash 43 = .ok (.iload_n 2, 1) := by decide +kernel
theorem dX12_clash_44 : decode cX12_clash 44 = .ok (.ishr, 1) := by decide +kernel
theorem dX12_clash_45 : decode cX12_clash 45 = .ok (.iconst 1, 1) := by decide +kernel
theorem dX12_clash_46 : decode cX12_clash 46 = .ok (.iand, 1) := by decide +kernel
theorem dX12_clash_47 : decode cX12_clash 47 = .ok (.istore 4, 2) := by decide +kernel
theorem dX12_clash_49 : decode cX12_clash 49 = .ok (.aload_n 0, 1) := by decide +kernel
theorem dX12_clash_50 : decode cX12_clash 50 = .ok (.iload_n 1, 1) := by decide +kernel
theorem dX12_clash_51 : decode cX12_clash 51 = .ok (.iconst 1, 1) := by decide +kernel
theorem dX12_clash_52 : decode cX12_clash 52 = .ok (.aload_n 0, 1) := by decide +kernel
theorem dX12_clash_53 : decode cX12_clash 53 = .ok (.iload_n 1, 1) := by decide +kernel
theorem dX12_clash_54 : decode cX12_clash 54 = .ok (.iconst 1, 1) := by decide +kernel
theorem dX12_clash_55 : decode cX12_clash 55 = .ok (.invokevirtual 144, 3) := by decide +kernel
theorem dX12_clash_58 : decode cX12_clash 58 = .ok (.iconst 1, 1) := by decide +kernel
theorem dX12_clash_59 : decode cX12_clash 59 = .ok (.iload_n 2, 1) := by decide +kernel
theorem dX12_clash_60 : decode cX12_clash 60 = .ok (.ishl, 1) := by decide +kernel
theorem dX12_clash_61 : decode cX12_clash 61 = .ok (.iconst (-1), 1) := by decide +kernel
theorem dX12_clash_62 : decode cX12_clash 62 = .ok (.ixor, 1) := by decide +kernel
theorem dX12_clash_63 : decode cX12_clash 63 = .ok (.iand, 1) := by decide +kernel
theorem dX12_clash_64 : decode cX12_clash 64 = .ok (.iload_n 3, 1) := by decide +kernel
theorem dX12_clash_65 : decode cX12_clash 65 = .ok (.iload_n 2, 1) := by decide +kernel
theorem dX12_clash_66 : decode cX12_clash 66 = .ok (.ishl, 1) := by decide +kernel
theorem dX12_clash_67 : decode cX12_clash 67 = .ok (.ior, 1) := by decide +kernel
theorem dX12_clash_68 : decode cX12_clash 68 = .ok (.invokevirtual 137, 3) := by decide +kernel
theorem dX12_clash_71 : decode cX12_clash 71 = .ok (.aload_n 0, 1) := by decide +kernel
theorem dX12_clash_72 : decode cX12_clash 72 = .ok (.iload_n 2, 1) := by decide +kernel
theorem dX12_clash_73 : decode cX12_clash 73 = .ok (.iconst 1, 1) := by decide +kernel
theorem dX12_clash_74 : decode cX12_clash 74 = .ok (.aload_n 0, 1) := by decide +kernel
theorem dX12_clash_75 : decode cX12_clash 75 = .ok (.iload_n 2, 1) := by decide +kernel
theorem dX12_clash_76 : decode cX12_clash 76 = .ok (.iconst 1, 1) := by decide +kernel
theorem dX12_clash_77 : decode cX12_clash 77 = .ok (.invokevirtual 144, 3) := by decide +kernel
theorem dX12_clash_80 : decode cX12_clash 80 = .ok (.iconst 1, 1) := by decide +kernel
theorem dX12_clash_81 : decode cX12_clash 81 = .ok (.iload_n 1, 1) := by decide +kernel
theorem dX12_clash_82 : decode cX12_clash 82 = .ok (.ishl, 1) := by decide +kernel
theorem dX12_clash_83 : decode cX12_clash 83 = .ok (.iconst (-1), 1) := by decide +kernel
theorem dX12_clash_84 : decode cX12_clash 84 = .ok (.ixor, 1) := by decide +kernel
theorem dX12_clash_85 : decode cX12_clash 85 = .ok (.iand, 1) := by decide +kernel
theorem dX12_clash_86 : decode cX12_clash 86 = .ok (.iload_n 3, 1) := by decide +kernel
theorem dX12_clash_87 : decode cX12_clash 87 = .ok (.iload_n 1, 1) := by decide +kernel
theorem dX12_clash_88 : decode cX12_clash 88 = .ok (.ishl, 1) := by decide +kernel
theorem dX12_clash_89 : decode cX12_clash 89 = .ok (.ior, 1) := by decide +kernel
theorem dX12_clash_90 : decode cX12_clash 90 = .ok (.invokevirtual 137, 3) := by decide +kernel
theorem dX12_clash_93 : decode cX12_clash 93 = .ok (.iload 4, 2) := by decide +kernel
theorem dX12_clash_95 : decode cX12_clash 95 = .ok (.ireturn, 1) := by decide +kernel
theorem dX12_explain_0 : decode cX12_explain 0 = .ok (.aload_n 0, 1) := by decide +kernel
theorem dX12_explain_1 : decode cX12_explain 1 = .ok (.iload_n 1, 1) := by decide +kernel
theorem dX12_explain_2 : decode cX12_explain 2 = .ok (.invokevirtual 141, 3) := by decide +kernel
theorem dX12_explain_5 : decode cX12_explain 5 = .ok (.ifCond .eq 32, 3) := by decide +kernel
theorem dX12_explain_8 : decode cX12_explain 8 = .ok (.iload_n 2, 1) := by decide +kernel
theorem dX12_explain_9 : decode cX12_explain 9 = .ok (.i2l, 1) := by decide +kernel
theorem dX12_explain_10 : decode cX12_explain 10 = .ok (.lconst 0, 1) := by decide +kernel
theorem dX12_explain_11 : decode cX12_explain 11 = .ok (.ldc2_w 148, 3) := by decide +kernel
theorem dX12_explain_14 : decode cX12_explain 14 = .ok (.invokestatic 57, 3) := by decide +kernel
theorem dX12_explain_17 : decode cX12_explain 17 = .ok (.ifCond .eq 20, 3) := by decide +kernel
theorem dX12_explain_20 : decode cX12_explain 20 = .ok (.iload_n 2, 1) := by decide +kernel
theorem dX12_explain_21 : decode cX12_explain 21 = .ok (.ifCond .le 22, 3) := by decide +kernel
theorem dX12_explain_24 : decode cX12_explain 24 = .ok (.aload_n 0, 1) := by decide +kernel
theorem dX12_explain_25 : decode cX12_explain 25 = .ok (.iload_n 3, 1) := by decide +kernel
theorem dX12_explain_26 : decode cX12_explain 26 = .ok (.invokevirtual 141, 3) := by decide +kernel
theorem dX12_explain_29 : decode cX12_explain 29 = .ok (.ifCond .eq 8, 3) := by decide +kernel
theorem dX12_explain_32 : decode cX12_explain 32 = .ok (.iload_n 3, 1) := by decide +kernel
theorem dX12_explain_33 : decode cX12_explain 33 = .ok (.iload_n 1, 1) := by decide +kernel
theorem dX12_explain_34 : decode cX12_explain 34 = .ok (.if_icmp .ne 9, 3) := by decide +kernel
theorem dX12_explain_37 : decode cX12_explain 37 = .ok (.aload_n 0, 1) := by decide +kernel
theorem dX12_explain_38 : decode cX12_explain 38 = .ok (.iconst 1, 1) := by decide +kernel
theorem dX12_explain_39 : decode cX12_explain 39 = .ok (.invokevirtual 119, 3) := by decide +kernel
theorem dX12_explain_42 : decode cX12_explain 42 = .ok (.ireturn, 1) := by decide +kernel
theorem dX12_explain_43 : decode cX12_explain 43 = .ok (.aload_n 0, 1) := by decide +kernel
theorem dX12_explain_44 : decode cX12_explain 44 = .ok (.iload_n 1, 1) := by decide +kernel
theorem dX12_explain_45 : decode cX12_explain 45 = .ok (.iconst 2, 1) := by decide +kernel
theorem dX12_explain_46 : decode cX12_explain 46 = .ok (.invokevirtual 144, 3) := by decide +kernel
theorem dX12_explain_49 : decode cX12_explain 49 = .ok (.istore 4, 2) := by decide +kernel
theorem dX12_explain_51 : decode cX12_explain 51 = .ok (.aload_n 0, 1) := by decide +kernel
theorem dX12_explain_52 : decode cX12_explain 52 = .ok (.iload_n 1, 1) := by decide +kernel
theorem dX12_explain_53 : decode cX12_explain 53 = .ok (.iconst 2, 1) := by decide +kernel
theorem dX12_explain_54 : decode cX12_explain 54 = .ok (.iload_n 2, 1) := by decide +kernel
theorem dX12_explain_55 : decode cX12_explain 55 = .ok (.invokevirtual 137, 3) := by decide +kernel
theorem dX12_explain_58 : decode cX12_explain 58 = .ok (.aload_n 0, 1) := by decide +kernel
theorem dX12_explain_59 : decode cX12_explain 59 = .ok (.iload_n 1, 1) := by decide +kernel
theorem dX12_explain_60 : decode cX12_explain 60 = .ok (.iconst 3, 1) := by decide +kernel
theorem dX12_explain_61 : decode cX12_explain 61 = .ok (.iload_n 2, 1) := by decide +kernel
theorem dX12_explain_62 : decode cX12_explain 62 = .ok (.ifCond .le 7, 3) := by decide +kernel
theorem dX12_explain_65 : decode cX12_explain 65 = .ok (.iload_n 3, 1) := by decide +kernel
theorem dX12_explain_66 : decode cX12_explain 66 = .ok (.goto 4, 3) := by decide +kernel
theorem dX12_explain_69 : decode cX12_explain 69 = .ok (.iconst (-1), 1) := by decide +kernel
theorem dX12_explain_70 : decode cX12_explain 70 = .ok (.invokevirtual 137, 3) := by decide +kernel
theorem dX12_explain_73 : decode cX12_explain 73 = .ok (.iload 4, 2) := by decide +kernel
theorem dX12_explain_75 : decode cX12_explain 75 = .ok (.ireturn, 1) := by decide +kernel
theorem dX12_bookOf_0 : decode cX12_bookOf 0 = .ok (.iconst 0, 1) := by decide +kernel
theorem dX12_bookOf_1 : decode cX12_bookOf 1 = .ok (.istore_n 2, 1) := by decide +kernel
theorem dX12_bookOf_2 : decode cX12_bookOf 2 = .ok (.iconst 0, 1) := by decide +kernel
theorem dX12_bookOf_3 : decode cX12_bookOf 3 = .ok (.istore_n 3, 1) := by decide +kernel
theorem dX12_bookOf_4 : decode cX12_bookOf 4 = .ok (.iload_n 3, 1) := by decide +kernel
theorem dX12_bookOf_5 : decode cX12_bookOf 5 = .ok (.aload_n 0, 1) := by decide +kernel
theorem dX12_bookOf_6 : decode cX12_bookOf 6 = .ok (.iload_n 1, 1) := by decide +kernel
theorem dX12_bookOf_7 : decode cX12_bookOf 7 = .ok (.iconst 4, 1) := by decide +kernel
theorem dX12_bookOf_8 : decode cX12_bookOf 8 = .ok (.invokevirtual 150, 3) := by decide +kernel
theorem dX12_bookOf_11 : decode cX12_bookOf 11 = .ok (.if_icmp .ge 22, 3) := by decide +kernel
theorem dX12_bookOf_14 : decode cX12_bookOf 14 = .ok (.iload_n 2, 1) := by decide +kernel
theorem dX12_bookOf_15 : decode cX12_bookOf 15 = .ok (.iconst 1, 1) := by decide +kernel
theorem dX12_bookOf_16 : decode cX12_bookOf 16 = .ok (.aload_n 0, 1) := by decide +kernel
theorem dX12_bookOf_17 : decode cX12_bookOf 17 = .ok (.iload_n 1, 1) := by decide +kernel
theorem dX12_bookOf_18 : decode cX12_bookOf 18 = .ok (.iconst 5, 1) := by decide +kernel
theorem dX12_bookOf_19 : decode cX12_bookOf 19 = .ok (.iload_n 3, 1) := by decide +kernel
theorem dX12_bookOf_20 : decode cX12_bookOf 20 = .ok (.iadd, 1) := by decide +kernel
theorem dX12_bookOf_21 : decode cX12_bookOf 21 = .ok (.invokevirtual 150, 3) := by decide +kernel
theorem dX12_bookOf_24 : decode cX12_bookOf 24 = .ok (.ishl, 1) := by decide +kernel
theorem dX12_bookOf_25 : decode cX12_bookOf 25 = .ok (.ior, 1) := by decide +kernel
theorem dX12_bookOf_26 : decode cX12_bookOf 26 = .ok (.istore_n 2, 1) := by decide +kernel
theorem dX12_bookOf_27 : decode cX12_bookOf 27 = .ok (.iinc 3 1, 3) := by decide +kernel
theorem dX12_bookOf_30 : decode cX12_bookOf 30 = .ok (.goto (-26), 3) := by decide +kernel
theorem dX12_bookOf_33 : decode cX12_bookOf 33 = .ok (.iload_n 2, 1) := by decide +kernel
theorem dX12_bookOf_34 : decode cX12_bookOf 34 = .ok (.ireturn, 1) := by decide +kernel
theorem dX12_booksWith_0 : decode cX12_booksWith 0 = .ok (.iconst 0, 1) := by decide +kernel
theorem dX12_booksWith_1 : decode cX12_booksWith 1 = .ok (.istore_n 2, 1) := by decide +kernel
theorem dX12_booksWith_2 : decode cX12_booksWith 2 = .ok (.iconst 0, 1) := by decide +kernel
theorem dX12_booksWith_3 : decode cX12_booksWith 3 = .ok (.istore_n 3, 1) := by decide +kernel
theorem dX12_booksWith_4 : decode cX12_booksWith 4 = .ok (.iload_n 3, 1) := by decide +kernel
theorem dX12_booksWith_5 : decode cX12_booksWith 5 = .ok (.aload_n 0, 1) := by decide +kernel
theorem dX12_booksWith_6 : decode cX12_booksWith 6 = .ok (.getfield 7, 3) := by decide +kernel
theorem dX12_booksWith_9 : decode cX12_booksWith 9 = .ok (.iconst 1, 1) := by decide +kernel
theorem dX12_booksWith_10 : decode cX12_booksWith 10 = .ok (.iaload, 1) := by decide +kernel
theorem dX12_booksWith_11 : decode cX12_booksWith 11 = .ok (.if_icmp .ge 21, 3) := by decide +kernel
theorem dX12_booksWith_14 : decode cX12_booksWith 14 = .ok (.iload_n 2, 1) := by decide +kernel
theorem dX12_booksWith_15 : decode cX12_booksWith 15 = .ok (.aload_n 0, 1) := by decide +kernel
theorem dX12_booksWith_16 : decode cX12_booksWith 16 = .ok (.iload_n 3, 1) := by decide +kernel
theorem dX12_booksWith_17 : decode cX12_booksWith 17 = .ok (.invokevirtual 153, 3) := by decide +kernel
theorem dX12_booksWith_20 : decode cX12_booksWith 20 = .ok (.iload_n 1, 1) := by decide +kernel
theorem dX12_booksWith_21 : decode cX12_booksWith 21 = .ok (.ishr, 1) := by decide +kernel
theorem dX12_booksWith_22 : decode cX12_booksWith 22 = .ok (.iconst 1, 1) := by decide +kernel
theorem dX12_booksWith_23 : decode cX12_booksWith 23 = .ok (.iand, 1) := by decide +kernel
theorem dX12_booksWith_24 : decode cX12_booksWith 24 = .ok (.iadd, 1) := by decide +kernel
theorem dX12_booksWith_25 : decode cX12_booksWith 25 = .ok (.istore_n 2, 1) := by decide +kernel
theorem dX12_booksWith_26 : decode cX12_booksWith 26 = .ok (.iinc 3 1, 3) := by decide +kernel
theorem dX12_booksWith_29 : decode cX12_booksWith 29 = .ok (.goto (-25), 3) := by decide +kernel
theorem dX12_booksWith_32 : decode cX12_booksWith 32 = .ok (.iload_n 2, 1) := by decide +kernel
theorem dX12_booksWith_33 : decode cX12_booksWith 33 = .ok (.ireturn, 1) := by decide +kernel
theorem dX12_ofFact_0 : decode cX12_ofFact 0 = .ok (.aload_n 0, 1) := by decide +kernel
theorem dX12_ofFact_1 : decode cX12_ofFact 1 = .ok (.iload_n 1, 1) := by decide +kernel
theorem dX12_ofFact_2 : decode cX12_ofFact 2 = .ok (.invokevirtual 141, 3) := by decide +kernel
theorem dX12_ofFact_5 : decode cX12_ofFact 5 = .ok (.ifCond .eq 15, 3) := by decide +kernel
theorem dX12_ofFact_8 : decode cX12_ofFact 8 = .ok (.iload_n 2, 1) := by decide +kernel
theorem dX12_ofFact_9 : decode cX12_ofFact 9 = .ok (.i2l, 1) := by decide +kernel
theorem dX12_ofFact_10 : decode cX12_ofFact 10 = .ok (.lconst 0, 1) := by decide +kernel
theorem dX12_ofFact_11 : decode cX12_ofFact 11 = .ok (.ldc2_w 156, 3) := by decide +kernel
theorem dX12_ofFact_14 : decode cX12_ofFact 14 = .ok (.invokestatic 57, 3) := by decide +kernel
theorem dX12_ofFact_17 : decode cX12_ofFact 17 = .ok (.ifCond .ne 9, 3) := by decide +kernel
theorem dX12_ofFact_20 : decode cX12_ofFact 20 = .ok (.aload_n 0, 1) := by decide +kernel
theorem dX12_ofFact_21 : decode cX12_ofFact 21 = .ok (.iconst 1, 1) := by decide +kernel
theorem dX12_ofFact_22 : decode cX12_ofFact 22 = .ok (.invokevirtual 119, 3) := by decide +kernel
theorem dX12_ofFact_25 : decode cX12_ofFact 25 = .ok (.ireturn, 1) := by decide +kernel
theorem dX12_ofFact_26 : decode cX12_ofFact 26 = .ok (.iload_n 2, 1) := by decide +kernel
theorem dX12_ofFact_27 : decode cX12_ofFact 27 = .ok (.iconst 5, 1) := by decide +kernel
theorem dX12_ofFact_28 : decode cX12_ofFact 28 = .ok (.if_icmp .ge 12, 3) := by decide +kernel
theorem dX12_ofFact_31 : decode cX12_ofFact 31 = .ok (.aload_n 0, 1) := by decide +kernel
theorem dX12_ofFact_32 : decode cX12_ofFact 32 = .ok (.iload_n 1, 1) := by decide +kernel
theorem dX12_ofFact_33 : decode cX12_ofFact 33 = .ok (.iload_n 2, 1) := by decide +kernel
theorem dX12_ofFact_34 : decode cX12_ofFact 34 = .ok (.invokevirtual 144, 3) := by decide +kernel
theorem dX12_ofFact_37 : decode cX12_ofFact 37 = .ok (.goto 8, 3) := by decide +kernel
theorem dX12_ofFact_40 : decode cX12_ofFact 40 = .ok (.aload_n 0, 1) := by decide +kernel
theorem dX12_ofFact_41 : decode cX12_ofFact 41 = .ok (.iload_n 1, 1) := by decide +kernel
theorem dX12_ofFact_42 : decode cX12_ofFact 42 = .ok (.invokevirtual 158, 3) := by decide +kernel
theorem dX12_ofFact_45 : decode cX12_ofFact 45 = .ok (.ireturn, 1) := by decide +kernel
theorem dX12_mayTell_0 : decode cX12_mayTell 0 = .ok (.aload_n 0, 1) := by decide +kernel
theorem dX12_mayTell_1 : decode cX12_mayTell 1 = .ok (.iload_n 1, 1) := by decide +kernel
theorem dX12_mayTell_2 : decode cX12_mayTell 2 = .ok (.invokevirtual 153, 3) := by decide +kernel
theorem dX12_mayTell_5 : decode cX12_mayTell 5 = .ok (.istore_n 3, 1) := by decide +kernel
theorem dX12_mayTell_6 : decode cX12_mayTell 6 = .ok (.iload_n 3, 1) := by decide +kernel
theorem dX12_mayTell_7 : decode cX12_mayTell 7 = .ok (.iload_n 2, 1) := by decide +kernel
theorem dX12_mayTell_8 : decode cX12_mayTell 8 = .ok (.ishr, 1) := by decide +kernel
theorem dX12_mayTell_9 : decode cX12_mayTell 9 = .ok (.iconst 1, 1) := by decide +kernel
theorem dX12_mayTell_10 : decode cX12_mayTell 10 = .ok (.iand, 1) := by decide +kernel
theorem dX12_mayTell_11 : decode cX12_mayTell 11 = .ok (.iconst 1, 1) := by decide +kernel
theorem dX12_mayTell_12 : decode cX12_mayTell 12 = .ok (.if_icmp .ne 5, 3) := by decide +kernel
theorem dX12_mayTell_15 : decode cX12_mayTell 15 = .ok (.iconst 0, 1) := by decide +kernel
theorem dX12_mayTell_16 : decode cX12_mayTell 16 = .ok (.ireturn, 1) := by decide +kernel
theorem dX12_mayTell_17 : decode cX12_mayTell 17 = .ok (.aload_n 0, 1) := by decide +kernel
theorem dX12_mayTell_18 : decode cX12_mayTell 18 = .ok (.iload_n 2, 1) := by decide +kernel
theorem dX12_mayTell_19 : decode cX12_mayTell 19 = .ok (.iconst 0, 1) := by decide +kernel
theorem dX12_mayTell_20 : decode cX12_mayTell 20 = .ok (.invokevirtual 144, 3) := by decide +kernel
theorem dX12_mayTell_23 : decode cX12_mayTell 23 = .ok (.iload_n 3, 1) := by decide +kernel
theorem dX12_mayTell_24 : decode cX12_mayTell 24 = .ok (.iconst (-1), 1) := by decide +kernel
theorem dX12_mayTell_25 : decode cX12_mayTell 25 = .ok (.ixor, 1) := by decide +kernel
theorem dX12_mayTell_26 : decode cX12_mayTell 26 = .ok (.iand, 1) := by decide +kernel
theorem dX12_mayTell_27 : decode cX12_mayTell 27 = .ok (.invokestatic 161, 3) := by decide +kernel
theorem dX12_mayTell_30 : decode cX12_mayTell 30 = .ok (.istore 4, 2) := by decide +kernel
theorem dX12_mayTell_32 : decode cX12_mayTell 32 = .ok (.aload_n 0, 1) := by decide +kernel
theorem dX12_mayTell_33 : decode cX12_mayTell 33 = .ok (.iload_n 2, 1) := by decide +kernel
theorem dX12_mayTell_34 : decode cX12_mayTell 34 = .ok (.iconst 1, 1) := by decide +kernel
theorem dX12_mayTell_35 : decode cX12_mayTell 35 = .ok (.invokevirtual 144, 3) := by decide +kernel
theorem dX12_mayTell_38 : decode cX12_mayTell 38 = .ok (.iload_n 3, 1) := by decide +kernel
theorem dX12_mayTell_39 : decode cX12_mayTell 39 = .ok (.iand, 1) := by decide +kernel
theorem dX12_mayTell_40 : decode cX12_mayTell 40 = .ok (.ifCond .ne 7, 3) := by decide +kernel
theorem dX12_mayTell_43 : decode cX12_mayTell 43 = .ok (.iconst 1, 1) := by decide +kernel
theorem dX12_mayTell_44 : decode cX12_mayTell 44 = .ok (.goto 4, 3) := by decide +kernel
theorem dX12_mayTell_47 : decode cX12_mayTell 47 = .ok (.iconst 0, 1) := by decide +kernel
theorem dX12_mayTell_48 : decode cX12_mayTell 48 = .ok (.istore 5, 2) := by decide +kernel
theorem dX12_mayTell_50 : decode cX12_mayTell 50 = .ok (.aload_n 0, 1) := by decide +kernel
theorem dX12_mayTell_51 : decode cX12_mayTell 51 = .ok (.iload_n 1, 1) := by decide +kernel
theorem dX12_mayTell_52 : decode cX12_mayTell 52 = .ok (.iconst 1, 1) := by decide +kernel
theorem dX12_mayTell_53 : decode cX12_mayTell 53 = .ok (.invokevirtual 150, 3) := by decide +kernel
theorem dX12_mayTell_56 : decode cX12_mayTell 56 = .ok (.istore 6, 2) := by decide +kernel
theorem dX12_mayTell_58 : decode cX12_mayTell 58 = .ok (.aload_n 0, 1) := by decide +kernel
theorem dX12_mayTell_59 : decode cX12_mayTell 59 = .ok (.iload_n 1, 1) := by decide +kernel
theorem dX12_mayTell_60 : decode cX12_mayTell 60 = .ok (.iconst 0, 1) := by decide +kernel
theorem dX12_mayTell_61 : decode cX12_mayTell 61 = .ok (.invokevirtual 150, 3) := by decide +kernel
theorem dX12_mayTell_64 : decode cX12_mayTell 64 = .ok (.tableswitch 145 1 6 #[40, 64, 110, 40, 84, 121], 40) := by decide +kernel
theorem dX12_mayTell_104 : decode cX12_mayTell 104 = .ok (.iload 5, 2) := by decide +kernel
theorem dX12_mayTell_106 : decode cX12_mayTell 106 = .ok (.ifCond .eq 20, 3) := by decide +kernel
theorem dX12_mayTell_109 : decode cX12_mayTell 109 = .ok (.iload 4, 2) := by decide +kernel
theorem dX12_mayTell_111 : decode cX12_mayTell 111 = .ok (.ifCond .eq 11, 3) := by decide +kernel
theorem dX12_mayTell_114 : decode cX12_mayTell 114 = .ok (.aload_n 0, 1) := by decide +kernel
theorem dX12_mayTell_115 : decode cX12_mayTell 115 = .ok (.iload_n 2, 1) := by decide +kernel
theorem dX12_mayTell_116 : decode cX12_mayTell 116 = .ok (.invokevirtual 158, 3) := by decide +kernel
theorem dX12_mayTell_119 : decode cX12_mayTell 119 = .ok (.ifCond .le 7, 3) := by decide +kernel
theorem dX12_mayTell_122 : decode cX12_mayTell 122 = .ok (.iconst 1, 1) := by decide +kernel
theorem dX12_mayTell_123 : decode cX12_mayTell 123 = .ok (.goto 4, 3) := by decide +kernel
theorem dX12_mayTell_126 : decode cX12_mayTell 126 = .ok (.iconst 0, 1) := by decide +kernel
theorem dX12_mayTell_127 : decode cX12_mayTell 127 = .ok (.ireturn, 1) := by decide +kernel
theorem dX12_mayTell_128 : decode cX12_mayTell 128 = .ok (.iload 5, 2) := by decide +kernel
theorem dX12_mayTell_130 : decode cX12_mayTell 130 = .ok (.ifCond .eq 16, 3) := by decide +kernel
theorem dX12_mayTell_133 : decode cX12_mayTell 133 = .ok (.iload 4, 2) := by decide +kernel
theorem dX12_mayTell_135 : decode cX12_mayTell 135 = .ok (.iload 6, 2) := by decide +kernel
theorem dX12_mayTell_137 : decode cX12_mayTell 137 = .ok (.iconst 3, 1) := by decide +kernel
theorem dX12_mayTell_138 : decode cX12_mayTell 138 = .ok (.irem, 1) := by decide +kernel
theorem dX12_mayTell_139 : decode cX12_mayTell 139 = .ok (.if_icmp .gt 7, 3) := by decide +kernel
theorem dX12_mayTell_142 : decode cX12_mayTell 142 = .ok (.iconst 1, 1) := by decide +kernel
theorem dX12_mayTell_143 : decode cX12_mayTell 143 = .ok (.goto 4, 3) := by decide +kernel
theorem dX12_mayTell_146 : decode cX12_mayTell 146 = .ok (.iconst 0, 1) := by decide +kernel
theorem dX12_mayTell_147 : decode cX12_mayTell 147 = .ok (.ireturn, 1) := by decide +kernel
theorem dX12_mayTell_148 : decode cX12_mayTell 148 = .ok (.iload 5, 2) := by decide +kernel
theorem dX12_mayTell_150 : decode cX12_mayTell 150 = .ok (.ifCond .eq 22, 3) := by decide +kernel
theorem dX12_mayTell_153 : decode cX12_mayTell 153 = .ok (.iload 4, 2) := by decide +kernel
theorem dX12_mayTell_155 : decode cX12_mayTell 155 = .ok (.iload 6, 2) := by decide +kernel
theorem dX12_mayTell_157 : decode cX12_mayTell 157 = .ok (.iconst 3, 1) := by decide +kernel
theorem dX12_mayTell_158 : decode cX12_mayTell 158 = .ok (.irem, 1) := by decide +kernel
theorem dX12_mayTell_159 : decode cX12_mayTell 159 = .ok (.if_icmp .gt 13, 3) := by decide +kernel
theorem dX12_mayTell_162 : decode cX12_mayTell 162 = .ok (.iload_n 2, 1) := by decide +kernel
theorem dX12_mayTell_163 : decode cX12_mayTell 163 = .ok (.iload 6, 2) := by decide +kernel
theorem dX12_mayTell_165 : decode cX12_mayTell 165 = .ok (.if_icmp .eq 7, 3) := by decide +kernel
theorem dX12_mayTell_168 : decode cX12_mayTell 168 = .ok (.iconst 1, 1) := by decide +kernel
theorem dX12_mayTell_169 : decode cX12_mayTell 169 = .ok (.goto 4, 3) := by decide +kernel
theorem dX12_mayTell_172 : decode cX12_mayTell 172 = .ok (.iconst 0, 1) := by decide +kernel
theorem dX12_mayTell_173 : decode cX12_mayTell 173 = .ok (.ireturn, 1) := by decide +kernel
theorem dX12_mayTell_174 : decode cX12_mayTell 174 = .ok (.iload 4, 2) := by decide +kernel
theorem dX12_mayTell_176 : decode cX12_mayTell 176 = .ok (.ifCond .ne 7, 3) := by decide +kernel
theorem dX12_mayTell_179 : decode cX12_mayTell 179 = .ok (.iconst 1, 1) := by decide +kernel
theorem dX12_mayTell_180 : decode cX12_mayTell 180 = .ok (.goto 4, 3) := by decide +kernel
theorem dX12_mayTell_183 : decode cX12_mayTell 183 = .ok (.iconst 0, 1) := by decide +kernel
theorem dX12_mayTell_184 : decode cX12_mayTell 184 = .ok (.ireturn, 1) := by decide +kernel
theorem dX12_mayTell_185 : decode cX12_mayTell 185 = .ok (.iload 4, 2) := by decide +kernel
theorem dX12_mayTell_187 : decode cX12_mayTell 187 = .ok (.ifCond .ne 20, 3) := by decide +kernel
theorem dX12_mayTell_190 : decode cX12_mayTell 190 = .ok (.iload 5, 2) := by decide +kernel
theorem dX12_mayTell_192 : decode cX12_mayTell 192 = .ok (.ifCond .ne 11, 3) := by decide +kernel
theorem dX12_mayTell_195 : decode cX12_mayTell 195 = .ok (.iload 6, 2) := by decide +kernel
theorem dX12_mayTell_197 : decode cX12_mayTell 197 = .ok (.iconst 2, 1) := by decide +kernel
theorem dX12_mayTell_198 : decode cX12_mayTell 198 = .ok (.irem, 1) := by decide +kernel
theorem dX12_mayTell_199 : decode cX12_mayTell 199 = .ok (.iconst 1, 1) := by decide +kernel
theorem dX12_mayTell_200 : decode cX12_mayTell 200 = .ok (.if_icmp .ne 7, 3) := by decide +kernel
theorem dX12_mayTell_203 : decode cX12_mayTell 203 = .ok (.iconst 1, 1) := by decide +kernel
theorem dX12_mayTell_204 : decode cX12_mayTell 204 = .ok (.goto 4, 3) := by decide +kernel
theorem dX12_mayTell_207 : decode cX12_mayTell 207 = .ok (.iconst 0, 1) := by decide +kernel
theorem dX12_mayTell_208 : decode cX12_mayTell 208 = .ok (.ireturn, 1) := by decide +kernel
theorem dX12_mayTell_209 : decode cX12_mayTell 209 = .ok (.iload 5, 2) := by decide +kernel
theorem dX12_mayTell_211 : decode cX12_mayTell 211 = .ok (.ifCond .eq 12, 3) := by decide +kernel
theorem dX12_mayTell_214 : decode cX12_mayTell 214 = .ok (.iload 4, 2) := by decide +kernel
theorem dX12_mayTell_216 : decode cX12_mayTell 216 = .ok (.ifCond .ne 7, 3) := by decide +kernel
theorem dX12_mayTell_219 : decode cX12_mayTell 219 = .ok (.iconst 1, 1) := by decide +kernel
theorem dX12_mayTell_220 : decode cX12_mayTell 220 = .ok (.goto 4, 3) := by decide +kernel
theorem dX12_mayTell_223 : decode cX12_mayTell 223 = .ok (.iconst 0, 1) := by decide +kernel
theorem dX12_mayTell_224 : decode cX12_mayTell 224 = .ok (.ireturn, 1) := by decide +kernel
theorem dX12_allMay_0 : decode cX12_allMay 0 = .ok (.iconst 0, 1) := by decide +kernel
theorem dX12_allMay_1 : decode cX12_allMay 1 = .ok (.istore_n 2, 1) := by decide +kernel
theorem dX12_allMay_2 : decode cX12_allMay 2 = .ok (.iconst 0, 1) := by decide +kernel
theorem dX12_allMay_3 : decode cX12_allMay 3 = .ok (.istore_n 3, 1) := by decide +kernel
theorem dX12_allMay_4 : decode cX12_allMay 4 = .ok (.iload_n 3, 1) := by decide +kernel
theorem dX12_allMay_5 : decode cX12_allMay 5 = .ok (.aload_n 0, 1) := by decide +kernel
theorem dX12_allMay_6 : decode cX12_allMay 6 = .ok (.getfield 7, 3) := by decide +kernel
theorem dX12_allMay_9 : decode cX12_allMay 9 = .ok (.iconst 0, 1) := by decide +kernel
theorem dX12_allMay_10 : decode cX12_allMay 10 = .ok (.iaload, 1) := by decide +kernel
theorem dX12_allMay_11 : decode cX12_allMay 11 = .ok (.if_icmp .ge 28, 3) := by decide +kernel
theorem dX12_allMay_14 : decode cX12_allMay 14 = .ok (.iload_n 2, 1) := by decide +kernel
theorem dX12_allMay_15 : decode cX12_allMay 15 = .ok (.aload_n 0, 1) := by decide +kernel
theorem dX12_allMay_16 : decode cX12_allMay 16 = .ok (.iload_n 1, 1) := by decide +kernel
theorem dX12_allMay_17 : decode cX12_allMay 17 = .ok (.iload_n 3, 1) := by decide +kernel
theorem dX12_allMay_18 : decode cX12_allMay 18 = .ok (.invokevirtual 164, 3) := by decide +kernel
theorem dX12_allMay_21 : decode cX12_allMay 21 = .ok (.ifCond .eq 9, 3) := by decide +kernel
theorem dX12_allMay_24 : decode cX12_allMay 24 = .ok (.iconst 1, 1) := by decide +kernel
theorem dX12_allMay_25 : decode cX12_allMay 25 = .ok (.iload_n 3, 1) := by decide +kernel
theorem dX12_allMay_26 : decode cX12_allMay 26 = .ok (.ishl, 1) := by decide +kernel
theorem dX12_allMay_27 : decode cX12_allMay 27 = .ok (.goto 4, 3) := by decide +kernel
theorem dX12_allMay_30 : decode cX12_allMay 30 = .ok (.iconst 0, 1) := by decide +kernel
theorem dX12_allMay_31 : decode cX12_allMay 31 = .ok (.ior, 1) := by decide +kernel
theorem dX12_allMay_32 : decode cX12_allMay 32 = .ok (.istore_n 2, 1) := by decide +kernel
theorem dX12_allMay_33 : decode cX12_allMay 33 = .ok (.iinc 3 1, 3) := by decide +kernel
theorem dX12_allMay_36 : decode cX12_allMay 36 = .ok (.goto (-32), 3) := by decide +kernel
theorem dX12_allMay_39 : decode cX12_allMay 39 = .ok (.iload_n 2, 1) := by decide +kernel
theorem dX12_allMay_40 : decode cX12_allMay 40 = .ok (.ireturn, 1) := by decide +kernel
theorem dX12_dueOf_0 : decode cX12_dueOf 0 = .ok (.iload_n 1, 1) := by decide +kernel
theorem dX12_dueOf_1 : decode cX12_dueOf 1 = .ok (.aload_n 0, 1) := by decide +kernel
theorem dX12_dueOf_2 : decode cX12_dueOf 2 = .ok (.getfield 25, 3) := by decide +kernel
theorem dX12_dueOf_5 : decode cX12_dueOf 5 = .ok (.if_icmp .ne 8, 3) := by decide +kernel
theorem dX12_dueOf_8 : decode cX12_dueOf 8 = .ok (.aload_n 0, 1) := by decide +kernel
theorem dX12_dueOf_9 : decode cX12_dueOf 9 = .ok (.getfield 168, 3) := by decide +kernel
theorem dX12_dueOf_12 : decode cX12_dueOf 12 = .ok (.ireturn, 1) := by decide +kernel
theorem dX12_dueOf_13 : decode cX12_dueOf 13 = .ok (.aload_n 0, 1) := by decide +kernel
theorem dX12_dueOf_14 : decode cX12_dueOf 14 = .ok (.iload_n 1, 1) := by decide +kernel
theorem dX12_dueOf_15 : decode cX12_dueOf 15 = .ok (.iconst 1, 1) := by decide +kernel
theorem dX12_dueOf_16 : decode cX12_dueOf 16 = .ok (.invokevirtual 150, 3) := by decide +kernel
theorem dX12_dueOf_19 : decode cX12_dueOf 19 = .ok (.iconst 2, 1) := by decide +kernel
theorem dX12_dueOf_20 : decode cX12_dueOf 20 = .ok (.irem, 1) := by decide +kernel
theorem dX12_dueOf_21 : decode cX12_dueOf 21 = .ok (.istore_n 2, 1) := by decide +kernel
theorem dX12_dueOf_22 : decode cX12_dueOf 22 = .ok (.aload_n 0, 1) := by decide +kernel
theorem dX12_dueOf_23 : decode cX12_dueOf 23 = .ok (.iload_n 1, 1) := by decide +kernel
theorem dX12_dueOf_24 : decode cX12_dueOf 24 = .ok (.iconst 0, 1) := by decide +kernel
theorem dX12_dueOf_25 : decode cX12_dueOf 25 = .ok (.invokevirtual 150, 3) := by decide +kernel
theorem dX12_dueOf_28 : decode cX12_dueOf 28 = .ok (.istore_n 3, 1) := by decide +kernel
theorem dX12_dueOf_29 : decode cX12_dueOf 29 = .ok (.iload_n 3, 1) := by decide +kernel
theorem dX12_dueOf_30 : decode cX12_dueOf 30 = .ok (.iconst 3, 1) := by decide +kernel
theorem dX12_dueOf_31 : decode cX12_dueOf 31 = .ok (.if_icmp .ne 7, 3) := by decide +kernel
theorem dX12_dueOf_34 : decode cX12_dueOf 34 = .ok (.iconst 2, 1) := by decide +kernel
theorem dX12_dueOf_35 : decode cX12_dueOf 35 = .ok (.goto 27, 3) := by decide +kernel
theorem dX12_dueOf_38 : decode cX12_dueOf 38 = .ok (.iload_n 3, 1) := by decide +kernel
theorem dX12_dueOf_39 : decode cX12_dueOf 39 = .ok (.bipush 6, 2) := by decide +kernel
theorem dX12_dueOf_41 : decode cX12_dueOf 41 = .ok (.if_icmp .ne 9, 3) := by decide +kernel
theorem dX12_dueOf_44 : decode cX12_dueOf 44 = .ok (.iconst 2, 1) := by decide +kernel
theorem dX12_dueOf_45 : decode cX12_dueOf 45 = .ok (.iload_n 2, 1) := by decide +kernel
theorem dX12_dueOf_46 : decode cX12_dueOf 46 = .ok (.isub, 1) := by decide +kernel
theorem dX12_dueOf_47 : decode cX12_dueOf 47 = .ok (.goto 15, 3) := by decide +kernel
theorem dX12_dueOf_50 : decode cX12_dueOf 50 = .ok (.iload_n 3, 1) := by decide +kernel
theorem dX12_dueOf_51 : decode cX12_dueOf 51 = .ok (.iconst 4, 1) := by decide +kernel
theorem dX12_dueOf_52 : decode cX12_dueOf 52 = .ok (.if_icmp .ne 9, 3) := by decide +kernel
theorem dX12_dueOf_55 : decode cX12_dueOf 55 = .ok (.iconst 1, 1) := by decide +kernel
theorem dX12_dueOf_56 : decode cX12_dueOf 56 = .ok (.iload_n 2, 1) := by decide +kernel
theorem dX12_dueOf_57 : decode cX12_dueOf 57 = .ok (.iadd, 1) := by decide +kernel
theorem dX12_dueOf_58 : decode cX12_dueOf 58 = .ok (.goto 4, 3) := by decide +kernel
theorem dX12_dueOf_61 : decode cX12_dueOf 61 = .ok (.iconst 1, 1) := by decide +kernel
theorem dX12_dueOf_62 : decode cX12_dueOf 62 = .ok (.ireturn, 1) := by decide +kernel
theorem dX12_paysOf_0 : decode cX12_paysOf 0 = .ok (.aload_n 0, 1) := by decide +kernel
theorem dX12_paysOf_1 : decode cX12_paysOf 1 = .ok (.iconst 0, 1) := by decide +kernel
theorem dX12_paysOf_2 : decode cX12_paysOf 2 = .ok (.iload_n 2, 1) := by decide +kernel
theorem dX12_paysOf_3 : decode cX12_paysOf 3 = .ok (.aload_n 0, 1) := by decide +kernel
theorem dX12_paysOf_4 : decode cX12_paysOf 4 = .ok (.getfield 7, 3) := by decide +kernel
theorem dX12_paysOf_7 : decode cX12_paysOf 7 = .ok (.iconst 3, 1) := by decide +kernel
theorem dX12_paysOf_8 : decode cX12_paysOf 8 = .ok (.iaload, 1) := by decide +kernel
theorem dX12_paysOf_9 : decode cX12_paysOf 9 = .ok (.aload_n 0, 1) := by decide +kernel
theorem dX12_paysOf_10 : decode cX12_paysOf 10 = .ok (.iload_n 1, 1) := by decide +kernel
theorem dX12_paysOf_11 : decode cX12_paysOf 11 = .ok (.iconst 2, 1) := by decide +kernel
theorem dX12_paysOf_12 : decode cX12_paysOf 12 = .ok (.invokevirtual 150, 3) := by decide +kernel
theorem dX12_paysOf_15 : decode cX12_paysOf 15 = .ok (.invokevirtual 131, 3) := by decide +kernel
theorem dX12_paysOf_18 : decode cX12_paysOf 18 = .ok (.istore_n 3, 1) := by decide +kernel
theorem dX12_paysOf_19 : decode cX12_paysOf 19 = .ok (.aload_n 0, 1) := by decide +kernel
theorem dX12_paysOf_20 : decode cX12_paysOf 20 = .ok (.iload_n 1, 1) := by decide +kernel
theorem dX12_paysOf_21 : decode cX12_paysOf 21 = .ok (.iconst 0, 1) := by decide +kernel
theorem dX12_paysOf_22 : decode cX12_paysOf 22 = .ok (.invokevirtual 150, 3) := by decide +kernel
theorem dX12_paysOf_25 : decode cX12_paysOf 25 = .ok (.istore 4, 2) := by decide +kernel
theorem dX12_paysOf_27 : decode cX12_paysOf 27 = .ok (.iload 4, 2) := by decide +kernel
theorem dX12_paysOf_29 : decode cX12_paysOf 29 = .ok (.iconst 5, 1) := by decide +kernel
theorem dX12_paysOf_30 : decode cX12_paysOf 30 = .ok (.if_icmp .ne 9, 3) := by decide +kernel
theorem dX12_paysOf_33 : decode cX12_paysOf 33 = .ok (.iconst 2, 1) := by decide +kernel
theorem dX12_paysOf_34 : decode cX12_paysOf 34 = .ok (.iload_n 3, 1) := by decide +kernel
theorem dX12_paysOf_35 : decode cX12_paysOf 35 = .ok (.imul, 1) := by decide +kernel
theorem dX12_paysOf_36 : decode cX12_paysOf 36 = .ok (.goto 22, 3) := by decide +kernel
theorem dX12_paysOf_39 : decode cX12_paysOf 39 = .ok (.iload 4, 2) := by decide +kernel
theorem dX12_paysOf_41 : decode cX12_paysOf 41 = .ok (.iconst 1, 1) := by decide +kernel
theorem dX12_paysOf_42 : decode cX12_paysOf 42 = .ok (.if_icmp .eq 9, 3) := by decide +kernel
theorem dX12_paysOf_45 : decode cX12_paysOf 45 = .ok (.iload 4, 2) := by decide +kernel
theorem dX12_paysOf_47 : decode cX12_paysOf 47 = .ok (.iconst 4, 1) := by decide +kernel
theorem dX12_paysOf_48 : decode cX12_paysOf 48 = .ok (.if_icmp .ne 9, 3) := by decide +kernel
theorem dX12_paysOf_51 : decode cX12_paysOf 51 = .ok (.iload_n 3, 1) := by decide +kernel
theorem dX12_paysOf_52 : decode cX12_paysOf 52 = .ok (.iconst 2, 1) := by decide +kernel
theorem dX12_paysOf_53 : decode cX12_paysOf 53 = .ok (.idiv, 1) := by decide +kernel
theorem dX12_paysOf_54 : decode cX12_paysOf 54 = .ok (.goto 4, 3) := by decide +kernel
theorem dX12_paysOf_57 : decode cX12_paysOf 57 = .ok (.iload_n 3, 1) := by decide +kernel
theorem dX12_paysOf_58 : decode cX12_paysOf 58 = .ok (.ireturn, 1) := by decide +kernel
theorem dX12_isOpen_0 : decode cX12_isOpen 0 = .ok (.aload_n 0, 1) := by decide +kernel
theorem dX12_isOpen_1 : decode cX12_isOpen 1 = .ok (.iload_n 1, 1) := by decide +kernel
theorem dX12_isOpen_2 : decode cX12_isOpen 2 = .ok (.iconst 2, 1) := by decide +kernel
theorem dX12_isOpen_3 : decode cX12_isOpen 3 = .ok (.invokevirtual 144, 3) := by decide +kernel
theorem dX12_isOpen_6 : decode cX12_isOpen 6 = .ok (.ifCond .le 20, 3) := by decide +kernel
theorem dX12_isOpen_9 : decode cX12_isOpen 9 = .ok (.iload_n 2, 1) := by decide +kernel
theorem dX12_isOpen_10 : decode cX12_isOpen 10 = .ok (.aload_n 0, 1) := by decide +kernel
theorem dX12_isOpen_11 : decode cX12_isOpen 11 = .ok (.iload_n 1, 1) := by decide +kernel
theorem dX12_isOpen_12 : decode cX12_isOpen 12 = .ok (.iconst 3, 1) := by decide +kernel
theorem dX12_isOpen_13 : decode cX12_isOpen 13 = .ok (.invokevirtual 144, 3) := by decide +kernel
theorem dX12_isOpen_16 : decode cX12_isOpen 16 = .ok (.ishr, 1) := by decide +kernel
theorem dX12_isOpen_17 : decode cX12_isOpen 17 = .ok (.iconst 1, 1) := by decide +kernel
theorem dX12_isOpen_18 : decode cX12_isOpen 18 = .ok (.iand, 1) := by decide +kernel
theorem dX12_isOpen_19 : decode cX12_isOpen 19 = .ok (.ifCond .ne 7, 3) := by decide +kernel
theorem dX12_isOpen_22 : decode cX12_isOpen 22 = .ok (.iconst 1, 1) := by decide +kernel
theorem dX12_isOpen_23 : decode cX12_isOpen 23 = .ok (.goto 4, 3) := by decide +kernel
theorem dX12_isOpen_26 : decode cX12_isOpen 26 = .ok (.iconst 0, 1) := by decide +kernel
theorem dX12_isOpen_27 : decode cX12_isOpen 27 = .ok (.ireturn, 1) := by decide +kernel
theorem dX12_openOf_0 : decode cX12_openOf 0 = .ok (.aload_n 0, 1) := by decide +kernel
theorem dX12_openOf_1 : decode cX12_openOf 1 = .ok (.iload_n 1, 1) := by decide +kernel
theorem dX12_openOf_2 : decode cX12_openOf 2 = .ok (.invokevirtual 153, 3) := by decide +kernel
theorem dX12_openOf_5 : decode cX12_openOf 5 = .ok (.istore_n 2, 1) := by decide +kernel
theorem dX12_openOf_6 : decode cX12_openOf 6 = .ok (.iconst 0, 1) := by decide +kernel
theorem dX12_openOf_7 : decode cX12_openOf 7 = .ok (.istore_n 3, 1) := by decide +kernel
theorem dX12_openOf_8 : decode cX12_openOf 8 = .ok (.iconst 0, 1) := by decide +kernel
theorem dX12_openOf_9 : decode cX12_openOf 9 = .ok (.istore 4, 2) := by decide +kernel
theorem dX12_openOf_11 : decode cX12_openOf 11 = .ok (.iload 4, 2) := by decide +kernel
theorem dX12_openOf_13 : decode cX12_openOf 13 = .ok (.aload_n 0, 1) := by decide +kernel
theorem dX12_openOf_14 : decode cX12_openOf 14 = .ok (.iload_n 1, 1) := by decide +kernel
theorem dX12_openOf_15 : decode cX12_openOf 15 = .ok (.iconst 4, 1) := by decide +kernel
theorem dX12_openOf_16 : decode cX12_openOf 16 = .ok (.invokevirtual 150, 3) := by decide +kernel
theorem dX12_openOf_19 : decode cX12_openOf 19 = .ok (.if_icmp .ge 34, 3) := by decide +kernel
theorem dX12_openOf_22 : decode cX12_openOf 22 = .ok (.iload_n 3, 1) := by decide +kernel
theorem dX12_openOf_23 : decode cX12_openOf 23 = .ok (.aload_n 0, 1) := by decide +kernel
theorem dX12_openOf_24 : decode cX12_openOf 24 = .ok (.aload_n 0, 1) := by decide +kernel
theorem dX12_openOf_25 : decode cX12_openOf 25 = .ok (.iload_n 1, 1) := by decide +kernel
theorem dX12_openOf_26 : decode cX12_openOf 26 = .ok (.iconst 5, 1) := by decide +kernel
theorem dX12_openOf_27 : decode cX12_openOf 27 = .ok (.iload 4, 2) := by decide +kernel
theorem dX12_openOf_29 : decode cX12_openOf 29 = .ok (.iadd, 1) := by decide +kernel
theorem dX12_openOf_30 : decode cX12_openOf 30 = .ok (.invokevirtual 150, 3) := by decide +kernel
theorem dX12_openOf_33 : decode cX12_openOf 33 = .ok (.iload_n 2, 1) := by decide +kernel
theorem dX12_openOf_34 : decode cX12_openOf 34 = .ok (.invokevirtual 171, 3) := by decide +kernel
theorem dX12_openOf_37 : decode cX12_openOf 37 = .ok (.ifCond .eq 7, 3) := by decide +kernel
theorem dX12_openOf_40 : decode cX12_openOf 40 = .ok (.iconst 1, 1) := by decide +kernel
theorem dX12_openOf_41 : decode cX12_openOf 41 = .ok (.goto 4, 3) := by decide +kernel
theorem dX12_openOf_44 : decode cX12_openOf 44 = .ok (.iconst 0, 1) := by decide +kernel
theorem dX12_openOf_45 : decode cX12_openOf 45 = .ok (.iadd, 1) := by decide +kernel
theorem dX12_openOf_46 : decode cX12_openOf 46 = .ok (.istore_n 3, 1) := by decide +kernel
theorem dX12_openOf_47 : decode cX12_openOf 47 = .ok (.iinc 4 1, 3) := by decide +kernel
theorem dX12_openOf_50 : decode cX12_openOf 50 = .ok (.goto (-39), 3) := by decide +kernel
theorem dX12_openOf_53 : decode cX12_openOf 53 = .ok (.iload_n 3, 1) := by decide +kernel
theorem dX12_openOf_54 : decode cX12_openOf 54 = .ok (.ireturn, 1) := by decide +kernel
theorem dX12_isOverdue_0 : decode cX12_isOverdue 0 = .ok (.aload_n 0, 1) := by decide +kernel
theorem dX12_isOverdue_1 : decode cX12_isOverdue 1 = .ok (.iload_n 1, 1) := by decide +kernel
theorem dX12_isOverdue_2 : decode cX12_isOverdue 2 = .ok (.invokevirtual 153, 3) := by decide +kernel
theorem dX12_isOverdue_5 : decode cX12_isOverdue 5 = .ok (.istore_n 2, 1) := by decide +kernel
theorem dX12_isOverdue_6 : decode cX12_isOverdue 6 = .ok (.iconst 0, 1) := by decide +kernel
theorem dX12_isOverdue_7 : decode cX12_isOverdue 7 = .ok (.istore_n 3, 1) := by decide +kernel
theorem dX12_isOverdue_8 : decode cX12_isOverdue 8 = .ok (.iconst 0, 1) := by decide +kernel
theorem dX12_isOverdue_9 : decode cX12_isOverdue 9 = .ok (.istore 4, 2) := by decide +kernel
theorem dX12_isOverdue_11 : decode cX12_isOverdue 11 = .ok (.iload 4, 2) := by decide +kernel
theorem dX12_isOverdue_13 : decode cX12_isOverdue 13 = .ok (.aload_n 0, 1) := by decide +kernel
theorem dX12_isOverdue_14 : decode cX12_isOverdue 14 = .ok (.iload_n 1, 1) := by decide +kernel
theorem dX12_isOverdue_15 : decode cX12_isOverdue 15 = .ok (.iconst 4, 1) := by decide +kernel
theorem dX12_isOverdue_16 : decode cX12_isOverdue 16 = .ok (.invokevirtual 150, 3) := by decide +kernel
theorem dX12_isOverdue_19 : decode cX12_isOverdue 19 = .ok (.if_icmp .ge 67, 3) := by decide +kernel
theorem dX12_isOverdue_22 : decode cX12_isOverdue 22 = .ok (.aload_n 0, 1) := by decide +kernel
theorem dX12_isOverdue_23 : decode cX12_isOverdue 23 = .ok (.iload_n 1, 1) := by decide +kernel
theorem dX12_isOverdue_24 : decode cX12_isOverdue 24 = .ok (.iconst 5, 1) := by decide +kernel
theorem dX12_isOverdue_25 : decode cX12_isOverdue 25 = .ok (.iload 4, 2) := by decide +kernel
theorem dX12_isOverdue_27 : decode cX12_isOverdue 27 = .ok (.iadd, 1) := by decide +kernel
theorem dX12_isOverdue_28 : decode cX12_isOverdue 28 = .ok (.invokevirtual 150, 3) := by decide +kernel
theorem dX12_isOverdue_31 : decode cX12_isOverdue 31 = .ok (.istore 5, 2) := by decide +kernel
theorem dX12_isOverdue_33 : decode cX12_isOverdue 33 = .ok (.iload_n 3, 1) := by decide +kernel
theorem dX12_isOverdue_34 : decode cX12_isOverdue 34 = .ok (.ifCond .ne 40, 3) := by decide +kernel
theorem dX12_isOverdue_37 : decode cX12_isOverdue 37 = .ok (.aload_n 0, 1) := by decide +kernel
theorem dX12_isOverdue_38 : decode cX12_isOverdue 38 = .ok (.iload 5, 2) := by decide +kernel
theorem dX12_isOverdue_40 : decode cX12_isOverdue 40 = .ok (.iload_n 2, 1) := by decide +kernel
theorem dX12_isOverdue_41 : decode cX12_isOverdue 41 = .ok (.invokevirtual 171, 3) := by decide +kernel
theorem dX12_isOverdue_44 : decode cX12_isOverdue 44 = .ok (.ifCond .eq 34, 3) := by decide +kernel
theorem dX12_isOverdue_47 : decode cX12_isOverdue 47 = .ok (.aload_n 0, 1) := by decide +kernel
theorem dX12_isOverdue_48 : decode cX12_isOverdue 48 = .ok (.getfield 7, 3) := by decide +kernel
theorem dX12_isOverdue_51 : decode cX12_isOverdue 51 = .ok (.iconst 3, 1) := by decide +kernel
theorem dX12_isOverdue_52 : decode cX12_isOverdue 52 = .ok (.iaload, 1) := by decide +kernel
theorem dX12_isOverdue_53 : decode cX12_isOverdue 53 = .ok (.aload_n 0, 1) := by decide +kernel
theorem dX12_isOverdue_54 : decode cX12_isOverdue 54 = .ok (.iload_n 1, 1) := by decide +kernel
theorem dX12_isOverdue_55 : decode cX12_isOverdue 55 = .ok (.bipush 13, 2) := by decide +kernel
theorem dX12_isOverdue_57 : decode cX12_isOverdue 57 = .ok (.iload 4, 2) := by decide +kernel
theorem dX12_isOverdue_59 : decode cX12_isOverdue 59 = .ok (.iadd, 1) := by decide +kernel
theorem dX12_isOverdue_60 : decode cX12_isOverdue 60 = .ok (.invokevirtual 150, 3) := by decide +kernel
theorem dX12_isOverdue_63 : decode cX12_isOverdue 63 = .ok (.aload_n 0, 1) := by decide +kernel
theorem dX12_isOverdue_64 : decode cX12_isOverdue 64 = .ok (.iload 5, 2) := by decide +kernel
theorem dX12_isOverdue_66 : decode cX12_isOverdue 66 = .ok (.iconst 2, 1) := by decide +kernel
theorem dX12_isOverdue_67 : decode cX12_isOverdue 67 = .ok (.invokevirtual 144, 3) := by decide +kernel
theorem dX12_isOverdue_70 : decode cX12_isOverdue 70 = .ok (.iadd, 1) := by decide +kernel
theorem dX12_isOverdue_71 : decode cX12_isOverdue 71 = .ok (.if_icmp .lt 7, 3) := by decide +kernel
theorem dX12_isOverdue_74 : decode cX12_isOverdue 74 = .ok (.iconst 1, 1) := by decide +kernel
theorem dX12_isOverdue_75 : decode cX12_isOverdue 75 = .ok (.goto 4, 3) := by decide +kernel
theorem dX12_isOverdue_78 : decode cX12_isOverdue 78 = .ok (.iconst 0, 1) := by decide +kernel
theorem dX12_isOverdue_79 : decode cX12_isOverdue 79 = .ok (.istore_n 3, 1) := by decide +kernel
theorem dX12_isOverdue_80 : decode cX12_isOverdue 80 = .ok (.iinc 4 1, 3) := by decide +kernel
theorem dX12_isOverdue_83 : decode cX12_isOverdue 83 = .ok (.goto (-72), 3) := by decide +kernel
theorem dX12_isOverdue_86 : decode cX12_isOverdue 86 = .ok (.iload_n 3, 1) := by decide +kernel
theorem dX12_isOverdue_87 : decode cX12_isOverdue 87 = .ok (.ireturn, 1) := by decide +kernel
theorem dX12_writes_0 : decode cX12_writes 0 = .ok (.aload_n 0, 1) := by decide +kernel
theorem dX12_writes_1 : decode cX12_writes 1 = .ok (.iload_n 1, 1) := by decide +kernel
theorem dX12_writes_2 : decode cX12_writes 2 = .ok (.iconst 5, 1) := by decide +kernel
theorem dX12_writes_3 : decode cX12_writes 3 = .ok (.aload_n 0, 1) := by decide +kernel
theorem dX12_writes_4 : decode cX12_writes 4 = .ok (.iload_n 1, 1) := by decide +kernel
theorem dX12_writes_5 : decode cX12_writes 5 = .ok (.iconst 4, 1) := by decide +kernel
theorem dX12_writes_6 : decode cX12_writes 6 = .ok (.invokevirtual 150, 3) := by decide +kernel
theorem dX12_writes_9 : decode cX12_writes 9 = .ok (.iadd, 1) := by decide +kernel
theorem dX12_writes_10 : decode cX12_writes 10 = .ok (.iload_n 2, 1) := by decide +kernel
theorem dX12_writes_11 : decode cX12_writes 11 = .ok (.invokevirtual 174, 3) := by decide +kernel
theorem dX12_writes_14 : decode cX12_writes 14 = .ok (.aload_n 0, 1) := by decide +kernel
theorem dX12_writes_15 : decode cX12_writes 15 = .ok (.iload_n 1, 1) := by decide +kernel
theorem dX12_writes_16 : decode cX12_writes 16 = .ok (.bipush 13, 2) := by decide +kernel
theorem dX12_writes_18 : decode cX12_writes 18 = .ok (.aload_n 0, 1) := by decide +kernel
theorem dX12_writes_19 : decode cX12_writes 19 = .ok (.iload_n 1, 1) := by decide +kernel
theorem dX12_writes_20 : decode cX12_writes 20 = .ok (.iconst 4, 1) := by decide +kernel
theorem dX12_writes_21 : decode cX12_writes 21 = .ok (.invokevirtual 150, 3) := by decide +kernel
theorem dX12_writes_24 : decode cX12_writes 24 = .ok (.iadd, 1) := by decide +kernel
theorem dX12_writes_25 : decode cX12_writes 25 = .ok (.aload_n 0, 1) := by decide +kernel
theorem dX12_writes_26 : decode cX12_writes 26 = .ok (.getfield 7, 3) := by decide +kernel
theorem dX12_writes_29 : decode cX12_writes 29 = .ok (.iconst 3, 1) := by decide +kernel
theorem dX12_writes_30 : decode cX12_writes 30 = .ok (.iaload, 1) := by decide +kernel
theorem dX12_writes_31 : decode cX12_writes 31 = .ok (.invokevirtual 174, 3) := by decide +kernel
theorem dX12_writes_34 : decode cX12_writes 34 = .ok (.aload_n 0, 1) := by decide +kernel
theorem dX12_writes_35 : decode cX12_writes 35 = .ok (.iload_n 1, 1) := by decide +kernel
theorem dX12_writes_36 : decode cX12_writes 36 = .ok (.iconst 4, 1) := by decide +kernel
theorem dX12_writes_37 : decode cX12_writes 37 = .ok (.aload_n 0, 1) := by decide +kernel
theorem dX12_writes_38 : decode cX12_writes 38 = .ok (.iload_n 1, 1) := by decide +kernel
theorem dX12_writes_39 : decode cX12_writes 39 = .ok (.iconst 4, 1) := by decide +kernel
theorem dX12_writes_40 : decode cX12_writes 40 = .ok (.invokevirtual 150, 3) := by decide +kernel
theorem dX12_writes_43 : decode cX12_writes 43 = .ok (.iconst 1, 1) := by decide +kernel
theorem dX12_writes_44 : decode cX12_writes 44 = .ok (.iadd, 1) := by decide +kernel
theorem dX12_writes_45 : decode cX12_writes 45 = .ok (.invokevirtual 174, 3) := by decide +kernel
theorem dX12_writes_48 : decode cX12_writes 48 = .ok (.return_, 1) := by decide +kernel
theorem dX12_tellsNow_0 : decode cX12_tellsNow 0 = .ok (.aload_n 0, 1) := by decide +kernel
theorem dX12_tellsNow_1 : decode cX12_tellsNow 1 = .ok (.iload_n 1, 1) := by decide +kernel
theorem dX12_tellsNow_2 : decode cX12_tellsNow 2 = .ok (.iload_n 2, 1) := by decide +kernel
theorem dX12_tellsNow_3 : decode cX12_tellsNow 3 = .ok (.invokevirtual 177, 3) := by decide +kernel
theorem dX12_tellsNow_6 : decode cX12_tellsNow 6 = .ok (.istore_n 3, 1) := by decide +kernel
theorem dX12_tellsNow_7 : decode cX12_tellsNow 7 = .ok (.aload_n 0, 1) := by decide +kernel
theorem dX12_tellsNow_8 : decode cX12_tellsNow 8 = .ok (.iload_n 1, 1) := by decide +kernel
theorem dX12_tellsNow_9 : decode cX12_tellsNow 9 = .ok (.iload_n 2, 1) := by decide +kernel
theorem dX12_tellsNow_10 : decode cX12_tellsNow 10 = .ok (.invokevirtual 180, 3) := by decide +kernel
theorem dX12_tellsNow_13 : decode cX12_tellsNow 13 = .ok (.aload_n 0, 1) := by decide +kernel
theorem dX12_tellsNow_14 : decode cX12_tellsNow 14 = .ok (.iload_n 1, 1) := by decide +kernel
theorem dX12_tellsNow_15 : decode cX12_tellsNow 15 = .ok (.iconst 2, 1) := by decide +kernel
theorem dX12_tellsNow_16 : decode cX12_tellsNow 16 = .ok (.iload_n 3, 1) := by decide +kernel
theorem dX12_tellsNow_17 : decode cX12_tellsNow 17 = .ok (.aload_n 0, 1) := by decide +kernel
theorem dX12_tellsNow_18 : decode cX12_tellsNow 18 = .ok (.iload_n 1, 1) := by decide +kernel
theorem dX12_tellsNow_19 : decode cX12_tellsNow 19 = .ok (.iconst 2, 1) := by decide +kernel
theorem dX12_tellsNow_20 : decode cX12_tellsNow 20 = .ok (.invokevirtual 150, 3) := by decide +kernel
theorem dX12_tellsNow_23 : decode cX12_tellsNow 23 = .ok (.if_icmp .ge 14, 3) := by decide +kernel
theorem dX12_tellsNow_26 : decode cX12_tellsNow 26 = .ok (.aload_n 0, 1) := by decide +kernel
theorem dX12_tellsNow_27 : decode cX12_tellsNow 27 = .ok (.iload_n 1, 1) := by decide +kernel
theorem dX12_tellsNow_28 : decode cX12_tellsNow 28 = .ok (.iconst 2, 1) := by decide +kernel
theorem dX12_tellsNow_29 : decode cX12_tellsNow 29 = .ok (.invokevirtual 150, 3) := by decide +kernel
theorem dX12_tellsNow_32 : decode cX12_tellsNow 32 = .ok (.iload_n 3, 1) := by decide +kernel
theorem dX12_tellsNow_33 : decode cX12_tellsNow 33 = .ok (.isub, 1) := by decide +kernel
theorem dX12_tellsNow_34 : decode cX12_tellsNow 34 = .ok (.goto 4, 3) := by decide +kernel
theorem dX12_tellsNow_37 : decode cX12_tellsNow 37 = .ok (.iconst 0, 1) := by decide +kernel
theorem dX12_tellsNow_38 : decode cX12_tellsNow 38 = .ok (.invokevirtual 174, 3) := by decide +kernel
theorem dX12_tellsNow_41 : decode cX12_tellsNow 41 = .ok (.return_, 1) := by decide +kernel
theorem dX12_debtor_0 : decode cX12_debtor 0 = .ok (.iload_n 1, 1) := by decide +kernel
theorem dX12_debtor_1 : decode cX12_debtor 1 = .ok (.i2l, 1) := by decide +kernel
theorem dX12_debtor_2 : decode cX12_debtor 2 = .ok (.lconst 0, 1) := by decide +kernel
theorem dX12_debtor_3 : decode cX12_debtor 3 = .ok (.ldc2_w 184, 3) := by decide +kernel
theorem dX12_debtor_6 : decode cX12_debtor 6 = .ok (.invokestatic 57, 3) := by decide +kernel
theorem dX12_debtor_9 : decode cX12_debtor 9 = .ok (.ifCond .eq 15, 3) := by decide +kernel
theorem dX12_debtor_12 : decode cX12_debtor 12 = .ok (.iload_n 2, 1) := by decide +kernel
theorem dX12_debtor_13 : decode cX12_debtor 13 = .ok (.i2l, 1) := by decide +kernel
theorem dX12_debtor_14 : decode cX12_debtor 14 = .ok (.lconst 0, 1) := by decide +kernel
theorem dX12_debtor_15 : decode cX12_debtor 15 = .ok (.ldc2_w 186, 3) := by decide +kernel
theorem dX12_debtor_18 : decode cX12_debtor 18 = .ok (.invokestatic 57, 3) := by decide +kernel
theorem dX12_debtor_21 : decode cX12_debtor 21 = .ok (.ifCond .ne 9, 3) := by decide +kernel
theorem dX12_debtor_24 : decode cX12_debtor 24 = .ok (.aload_n 0, 1) := by decide +kernel
theorem dX12_debtor_25 : decode cX12_debtor 25 = .ok (.iconst 1, 1) := by decide +kernel
theorem dX12_debtor_26 : decode cX12_debtor 26 = .ok (.invokevirtual 119, 3) := by decide +kernel
theorem dX12_debtor_29 : decode cX12_debtor 29 = .ok (.ireturn, 1) := by decide +kernel
theorem dX12_debtor_30 : decode cX12_debtor 30 = .ok (.aload_n 0, 1) := by decide +kernel
theorem dX12_debtor_31 : decode cX12_debtor 31 = .ok (.getfield 7, 3) := by decide +kernel
theorem dX12_debtor_34 : decode cX12_debtor 34 = .ok (.iconst 1, 1) := by decide +kernel
theorem dX12_debtor_35 : decode cX12_debtor 35 = .ok (.iaload, 1) := by decide +kernel
theorem dX12_debtor_36 : decode cX12_debtor 36 = .ok (.iconst 4, 1) := by decide +kernel
theorem dX12_debtor_37 : decode cX12_debtor 37 = .ok (.if_icmp .ne 9, 3) := by decide +kernel
theorem dX12_debtor_40 : decode cX12_debtor 40 = .ok (.aload_n 0, 1) := by decide +kernel
theorem dX12_debtor_41 : decode cX12_debtor 41 = .ok (.iconst 4, 1) := by decide +kernel
theorem dX12_debtor_42 : decode cX12_debtor 42 = .ok (.invokevirtual 119, 3) := by decide +kernel
theorem dX12_debtor_45 : decode cX12_debtor 45 = .ok (.ireturn, 1) := by decide +kernel
theorem dX12_debtor_46 : decode cX12_debtor 46 = .ok (.aload_n 0, 1) := by decide +kernel
theorem dX12_debtor_47 : decode cX12_debtor 47 = .ok (.getfield 7, 3) := by decide +kernel
theorem dX12_debtor_50 : decode cX12_debtor 50 = .ok (.iconst 1, 1) := by decide +kernel
theorem dX12_debtor_51 : decode cX12_debtor 51 = .ok (.iaload, 1) := by decide +kernel
theorem dX12_debtor_52 : decode cX12_debtor 52 = .ok (.istore_n 3, 1) := by decide +kernel
theorem dX12_debtor_53 : decode cX12_debtor 53 = .ok (.aload_n 0, 1) := by decide +kernel
theorem dX12_debtor_54 : decode cX12_debtor 54 = .ok (.getfield 7, 3) := by decide +kernel
theorem dX12_debtor_57 : decode cX12_debtor 57 = .ok (.iconst 1, 1) := by decide +kernel
theorem dX12_debtor_58 : decode cX12_debtor 58 = .ok (.dup2, 1) := by decide +kernel
theorem dX12_debtor_59 : decode cX12_debtor 59 = .ok (.iaload, 1) := by decide +kernel
theorem dX12_debtor_60 : decode cX12_debtor 60 = .ok (.iconst 1, 1) := by decide +kernel
theorem dX12_debtor_61 : decode cX12_debtor 61 = .ok (.iadd, 1) := by decide +kernel
theorem dX12_debtor_62 : decode cX12_debtor 62 = .ok (.iastore, 1) := by decide +kernel
theorem dX12_debtor_63 : decode cX12_debtor 63 = .ok (.aload_n 0, 1) := by decide +kernel
theorem dX12_debtor_64 : decode cX12_debtor 64 = .ok (.iload_n 3, 1) := by decide +kernel
theorem dX12_debtor_65 : decode cX12_debtor 65 = .ok (.iconst 0, 1) := by decide +kernel
theorem dX12_debtor_66 : decode cX12_debtor 66 = .ok (.iload_n 1, 1) := by decide +kernel
theorem dX12_debtor_67 : decode cX12_debtor 67 = .ok (.bipush 10, 2) := by decide +kernel
theorem dX12_debtor_69 : decode cX12_debtor 69 = .ok (.idiv, 1) := by decide +kernel
theorem dX12_debtor_70 : decode cX12_debtor 70 = .ok (.invokevirtual 174, 3) := by decide +kernel
theorem dX12_debtor_73 : decode cX12_debtor 73 = .ok (.aload_n 0, 1) := by decide +kernel
theorem dX12_debtor_74 : decode cX12_debtor 74 = .ok (.iload_n 3, 1) := by decide +kernel
theorem dX12_debtor_75 : decode cX12_debtor 75 = .ok (.iconst 1, 1) := by decide +kernel
theorem dX12_debtor_76 : decode cX12_debtor 76 = .ok (.iload_n 1, 1) := by decide +kernel
theorem dX12_debtor_77 : decode cX12_debtor 77 = .ok (.bipush 10, 2) := by decide +kernel
theorem dX12_debtor_79 : decode cX12_debtor 79 = .ok (.irem, 1) := by decide +kernel
theorem dX12_debtor_80 : decode cX12_debtor 80 = .ok (.invokevirtual 174, 3) := by decide +kernel
theorem dX12_debtor_83 : decode cX12_debtor 83 = .ok (.aload_n 0, 1) := by decide +kernel
theorem dX12_debtor_84 : decode cX12_debtor 84 = .ok (.iload_n 3, 1) := by decide +kernel
theorem dX12_debtor_85 : decode cX12_debtor 85 = .ok (.iconst 2, 1) := by decide +kernel
theorem dX12_debtor_86 : decode cX12_debtor 86 = .ok (.iload_n 2, 1) := by decide +kernel
theorem dX12_debtor_87 : decode cX12_debtor 87 = .ok (.invokevirtual 174, 3) := by decide +kernel
theorem dX12_debtor_90 : decode cX12_debtor 90 = .ok (.aload_n 0, 1) := by decide +kernel
theorem dX12_debtor_91 : decode cX12_debtor 91 = .ok (.iload_n 3, 1) := by decide +kernel
theorem dX12_debtor_92 : decode cX12_debtor 92 = .ok (.iconst 3, 1) := by decide +kernel
theorem dX12_debtor_93 : decode cX12_debtor 93 = .ok (.iconst 0, 1) := by decide +kernel
theorem dX12_debtor_94 : decode cX12_debtor 94 = .ok (.invokevirtual 174, 3) := by decide +kernel
theorem dX12_debtor_97 : decode cX12_debtor 97 = .ok (.aload_n 0, 1) := by decide +kernel
theorem dX12_debtor_98 : decode cX12_debtor 98 = .ok (.iload_n 3, 1) := by decide +kernel
theorem dX12_debtor_99 : decode cX12_debtor 99 = .ok (.iconst 4, 1) := by decide +kernel
theorem dX12_debtor_100 : decode cX12_debtor 100 = .ok (.iconst 0, 1) := by decide +kernel
theorem dX12_debtor_101 : decode cX12_debtor 101 = .ok (.invokevirtual 174, 3) := by decide +kernel
theorem dX12_debtor_104 : decode cX12_debtor 104 = .ok (.iload_n 3, 1) := by decide +kernel
theorem dX12_debtor_105 : decode cX12_debtor 105 = .ok (.ireturn, 1) := by decide +kernel
theorem dX12_toldOf_0 : decode cX12_toldOf 0 = .ok (.iload_n 2, 1) := by decide +kernel
theorem dX12_toldOf_1 : decode cX12_toldOf 1 = .ok (.tableswitch 110 0 8 #[51, 58, 65, 72, 79, 85, 92, 98, 104], 51) := by decide +kernel
theorem dX12_toldOf_52 : decode cX12_toldOf 52 = .ok (.aload_n 0, 1) := by decide +kernel
theorem dX12_toldOf_53 : decode cX12_toldOf 53 = .ok (.iload_n 1, 1) := by decide +kernel
theorem dX12_toldOf_54 : decode cX12_toldOf 54 = .ok (.iconst 0, 1) := by decide +kernel
theorem dX12_toldOf_55 : decode cX12_toldOf 55 = .ok (.invokevirtual 150, 3) := by decide +kernel
theorem dX12_toldOf_58 : decode cX12_toldOf 58 = .ok (.ireturn, 1) := by decide +kernel
theorem dX12_toldOf_59 : decode cX12_toldOf 59 = .ok (.aload_n 0, 1) := by decide +kernel
theorem dX12_toldOf_60 : decode cX12_toldOf 60 = .ok (.iload_n 1, 1) := by decide +kernel
theorem dX12_toldOf_61 : decode cX12_toldOf 61 = .ok (.iconst 1, 1) := by decide +kernel
theorem dX12_toldOf_62 : decode cX12_toldOf 62 = .ok (.invokevirtual 150, 3) := by decide +kernel
theorem dX12_toldOf_65 : decode cX12_toldOf 65 = .ok (.ireturn, 1) := by decide +kernel
theorem dX12_toldOf_66 : decode cX12_toldOf 66 = .ok (.aload_n 0, 1) := by decide +kernel
theorem dX12_toldOf_67 : decode cX12_toldOf 67 = .ok (.iload_n 1, 1) := by decide +kernel
theorem dX12_toldOf_68 : decode cX12_toldOf 68 = .ok (.iconst 2, 1) := by decide +kernel
theorem dX12_toldOf_69 : decode cX12_toldOf 69 = .ok (.invokevirtual 150, 3) := by decide +kernel
theorem dX12_toldOf_72 : decode cX12_toldOf 72 = .ok (.ireturn, 1) := by decide +kernel
theorem dX12_toldOf_73 : decode cX12_toldOf 73 = .ok (.aload_n 0, 1) := by decide +kernel
theorem dX12_toldOf_74 : decode cX12_toldOf 74 = .ok (.iload_n 1, 1) := by decide +kernel
theorem dX12_toldOf_75 : decode cX12_toldOf 75 = .ok (.iconst 4, 1) := by decide +kernel
theorem dX12_toldOf_76 : decode cX12_toldOf 76 = .ok (.invokevirtual 150, 3) := by decide +kernel
theorem dX12_toldOf_79 : decode cX12_toldOf 79 = .ok (.ireturn, 1) := by decide +kernel
theorem dX12_toldOf_80 : decode cX12_toldOf 80 = .ok (.aload_n 0, 1) := by decide +kernel
theorem dX12_toldOf_81 : decode cX12_toldOf 81 = .ok (.iload_n 1, 1) := by decide +kernel
theorem dX12_toldOf_82 : decode cX12_toldOf 82 = .ok (.invokevirtual 153, 3) := by decide +kernel
theorem dX12_toldOf_85 : decode cX12_toldOf 85 = .ok (.ireturn, 1) := by decide +kernel
theorem dX12_toldOf_86 : decode cX12_toldOf 86 = .ok (.aload_n 0, 1) := by decide +kernel
theorem dX12_toldOf_87 : decode cX12_toldOf 87 = .ok (.iload_n 1, 1) := by decide +kernel
theorem dX12_toldOf_88 : decode cX12_toldOf 88 = .ok (.iconst 3, 1) := by decide +kernel
theorem dX12_toldOf_89 : decode cX12_toldOf 89 = .ok (.invokevirtual 150, 3) := by decide +kernel
theorem dX12_toldOf_92 : decode cX12_toldOf 92 = .ok (.ireturn, 1) := by decide +kernel
theorem dX12_toldOf_93 : decode cX12_toldOf 93 = .ok (.aload_n 0, 1) := by decide +kernel
theorem dX12_toldOf_94 : decode cX12_toldOf 94 = .ok (.iload_n 1, 1) := by decide +kernel
theorem dX12_toldOf_95 : decode cX12_toldOf 95 = .ok (.invokevirtual 188, 3) := by decide +kernel
theorem dX12_toldOf_98 : decode cX12_toldOf 98 = .ok (.ireturn, 1) := by decide +kernel
theorem dX12_toldOf_99 : decode cX12_toldOf 99 = .ok (.aload_n 0, 1) := by decide +kernel
theorem dX12_toldOf_100 : decode cX12_toldOf 100 = .ok (.iload_n 1, 1) := by decide +kernel
theorem dX12_toldOf_101 : decode cX12_toldOf 101 = .ok (.invokevirtual 191, 3) := by decide +kernel
theorem dX12_toldOf_104 : decode cX12_toldOf 104 = .ok (.ireturn, 1) := by decide +kernel
theorem dX12_toldOf_105 : decode cX12_toldOf 105 = .ok (.aload_n 0, 1) := by decide +kernel
theorem dX12_toldOf_106 : decode cX12_toldOf 106 = .ok (.iload_n 1, 1) := by decide +kernel
theorem dX12_toldOf_107 : decode cX12_toldOf 107 = .ok (.invokevirtual 194, 3) := by decide +kernel
theorem dX12_toldOf_110 : decode cX12_toldOf 110 = .ok (.ireturn, 1) := by decide +kernel
theorem dX12_toldOf_111 : decode cX12_toldOf 111 = .ok (.aload_n 0, 1) := by decide +kernel
theorem dX12_toldOf_112 : decode cX12_toldOf 112 = .ok (.iconst 1, 1) := by decide +kernel
theorem dX12_toldOf_113 : decode cX12_toldOf 113 = .ok (.aload_n 0, 1) := by decide +kernel
theorem dX12_toldOf_114 : decode cX12_toldOf 114 = .ok (.iload_n 1, 1) := by decide +kernel
theorem dX12_toldOf_115 : decode cX12_toldOf 115 = .ok (.iconst 2, 1) := by decide +kernel
theorem dX12_toldOf_116 : decode cX12_toldOf 116 = .ok (.invokevirtual 150, 3) := by decide +kernel
theorem dX12_toldOf_119 : decode cX12_toldOf 119 = .ok (.aload_n 0, 1) := by decide +kernel
theorem dX12_toldOf_120 : decode cX12_toldOf 120 = .ok (.iload_n 1, 1) := by decide +kernel
theorem dX12_toldOf_121 : decode cX12_toldOf 121 = .ok (.invokevirtual 191, 3) := by decide +kernel
theorem dX12_toldOf_124 : decode cX12_toldOf 124 = .ok (.aload_n 0, 1) := by decide +kernel
theorem dX12_toldOf_125 : decode cX12_toldOf 125 = .ok (.iload_n 1, 1) := by decide +kernel
theorem dX12_toldOf_126 : decode cX12_toldOf 126 = .ok (.iconst 4, 1) := by decide +kernel
theorem dX12_toldOf_127 : decode cX12_toldOf 127 = .ok (.invokevirtual 150, 3) := by decide +kernel
theorem dX12_toldOf_130 : decode cX12_toldOf 130 = .ok (.invokevirtual 131, 3) := by decide +kernel
theorem dX12_toldOf_133 : decode cX12_toldOf 133 = .ok (.ireturn, 1) := by decide +kernel
theorem dX12_ofDebtor_0 : decode cX12_ofDebtor 0 = .ok (.aload_n 0, 1) := by decide +kernel
theorem dX12_ofDebtor_1 : decode cX12_ofDebtor 1 = .ok (.iload_n 1, 1) := by decide +kernel
theorem dX12_ofDebtor_2 : decode cX12_ofDebtor 2 = .ok (.invokevirtual 197, 3) := by decide +kernel
theorem dX12_ofDebtor_5 : decode cX12_ofDebtor 5 = .ok (.ifCond .eq 24, 3) := by decide +kernel
theorem dX12_ofDebtor_8 : decode cX12_ofDebtor 8 = .ok (.iload_n 2, 1) := by decide +kernel
theorem dX12_ofDebtor_9 : decode cX12_ofDebtor 9 = .ok (.i2l, 1) := by decide +kernel
theorem dX12_ofDebtor_10 : decode cX12_ofDebtor 10 = .ok (.lconst 0, 1) := by decide +kernel
theorem dX12_ofDebtor_11 : decode cX12_ofDebtor 11 = .ok (.ldc2_w 148, 3) := by decide +kernel
theorem dX12_ofDebtor_14 : decode cX12_ofDebtor 14 = .ok (.invokestatic 57, 3) := by decide +kernel
theorem dX12_ofDebtor_17 : decode cX12_ofDebtor 17 = .ok (.ifCond .eq 12, 3) := by decide +kernel
theorem dX12_ofDebtor_20 : decode cX12_ofDebtor 20 = .ok (.aload_n 0, 1) := by decide +kernel
theorem dX12_ofDebtor_21 : decode cX12_ofDebtor 21 = .ok (.iload_n 1, 1) := by decide +kernel
theorem dX12_ofDebtor_22 : decode cX12_ofDebtor 22 = .ok (.iload_n 2, 1) := by decide +kernel
theorem dX12_ofDebtor_23 : decode cX12_ofDebtor 23 = .ok (.invokevirtual 200, 3) := by decide +kernel
theorem dX12_ofDebtor_26 : decode cX12_ofDebtor 26 = .ok (.goto 8, 3) := by decide +kernel
theorem dX12_ofDebtor_29 : decode cX12_ofDebtor 29 = .ok (.aload_n 0, 1) := by decide +kernel
theorem dX12_ofDebtor_30 : decode cX12_ofDebtor 30 = .ok (.iconst 1, 1) := by decide +kernel
theorem dX12_ofDebtor_31 : decode cX12_ofDebtor 31 = .ok (.invokevirtual 119, 3) := by decide +kernel
theorem dX12_ofDebtor_34 : decode cX12_ofDebtor 34 = .ok (.ireturn, 1) := by decide +kernel
theorem dX12_book_0 : decode cX12_book 0 = .ok (.aload_n 0, 1) := by decide +kernel
theorem dX12_book_1 : decode cX12_book 1 = .ok (.iload_n 1, 1) := by decide +kernel
theorem dX12_book_2 : decode cX12_book 2 = .ok (.invokevirtual 197, 3) := by decide +kernel
theorem dX12_book_5 : decode cX12_book 5 = .ok (.ifCond .eq 13, 3) := by decide +kernel
theorem dX12_book_8 : decode cX12_book 8 = .ok (.iload_n 3, 1) := by decide +kernel
theorem dX12_book_9 : decode cX12_book 9 = .ok (.i2l, 1) := by decide +kernel
theorem dX12_book_10 : decode cX12_book 10 = .ok (.lconst 0, 1) := by decide +kernel
theorem dX12_book_11 : decode cX12_book 11 = .ok (.lconst 1, 1) := by decide +kernel
theorem dX12_book_12 : decode cX12_book 12 = .ok (.invokestatic 57, 3) := by decide +kernel
theorem dX12_book_15 : decode cX12_book 15 = .ok (.ifCond .ne 9, 3) := by decide +kernel
theorem dX12_book_18 : decode cX12_book 18 = .ok (.aload_n 0, 1) := by decide +kernel
theorem dX12_book_19 : decode cX12_book 19 = .ok (.iconst 1, 1) := by decide +kernel
theorem dX12_book_20 : decode cX12_book 20 = .ok (.invokevirtual 119, 3) := by decide +kernel
theorem dX12_book_23 : decode cX12_book 23 = .ok (.ireturn, 1) := by decide +kernel
theorem dX12_book_24 : decode cX12_book 24 = .ok (.iload_n 2, 1) := by decide +kernel
theorem dX12_book_25 : decode cX12_book 25 = .ok (.i2l, 1) := by decide +kernel
theorem dX12_book_26 : decode cX12_book 26 = .ok (.lconst 0, 1) := by decide +kernel
theorem dX12_book_27 : decode cX12_book 27 = .ok (.aload_n 0, 1) := by decide +kernel
theorem dX12_book_28 : decode cX12_book 28 = .ok (.iload_n 1, 1) := by decide +kernel
theorem dX12_book_29 : decode cX12_book 29 = .ok (.iconst 4, 1) := by decide +kernel
theorem dX12_book_30 : decode cX12_book 30 = .ok (.invokevirtual 150, 3) := by decide +kernel
theorem dX12_book_33 : decode cX12_book 33 = .ok (.iconst 1, 1) := by decide +kernel
theorem dX12_book_34 : decode cX12_book 34 = .ok (.isub, 1) := by decide +kernel
theorem dX12_book_35 : decode cX12_book 35 = .ok (.i2l, 1) := by decide +kernel
theorem dX12_book_36 : decode cX12_book 36 = .ok (.invokestatic 57, 3) := by decide +kernel
theorem dX12_book_39 : decode cX12_book 39 = .ok (.ifCond .ne 9, 3) := by decide +kernel
theorem dX12_book_42 : decode cX12_book 42 = .ok (.aload_n 0, 1) := by decide +kernel
theorem dX12_book_43 : decode cX12_book 43 = .ok (.iconst 2, 1) := by decide +kernel
theorem dX12_book_44 : decode cX12_book 44 = .ok (.invokevirtual 119, 3) := by decide +kernel
theorem dX12_book_47 : decode cX12_book 47 = .ok (.ireturn, 1) := by decide +kernel
theorem dX12_book_48 : decode cX12_book 48 = .ok (.aload_n 0, 1) := by decide +kernel
theorem dX12_book_49 : decode cX12_book 49 = .ok (.iload_n 1, 1) := by decide +kernel
theorem dX12_book_50 : decode cX12_book 50 = .ok (.iload_n 3, 1) := by decide +kernel
theorem dX12_book_51 : decode cX12_book 51 = .ok (.ifCond .ne 9, 3) := by decide +kernel
theorem dX12_book_54 : decode cX12_book 54 = .ok (.iconst 5, 1) := by decide +kernel
theorem dX12_book_55 : decode cX12_book 55 = .ok (.iload_n 2, 1) := by decide +kernel
theorem dX12_book_56 : decode cX12_book 56 = .ok (.iadd, 1) := by decide +kernel
theorem dX12_book_57 : decode cX12_book 57 = .ok (.goto 7, 3) := by decide +kernel
theorem dX12_book_60 : decode cX12_book 60 = .ok (.bipush 13, 2) := by decide +kernel
theorem dX12_book_62 : decode cX12_book 62 = .ok (.iload_n 2, 1) := by decide +kernel
theorem dX12_book_63 : decode cX12_book 63 = .ok (.iadd, 1) := by decide +kernel
theorem dX12_book_64 : decode cX12_book 64 = .ok (.invokevirtual 150, 3) := by decide +kernel
theorem dX12_book_67 : decode cX12_book 67 = .ok (.ireturn, 1) := by decide +kernel
theorem dX12_become_0 : decode cX12_become 0 = .ok (.aload_n 0, 1) := by decide +kernel
theorem dX12_become_1 : decode cX12_become 1 = .ok (.iload_n 1, 1) := by decide +kernel
theorem dX12_become_2 : decode cX12_become 2 = .ok (.invokevirtual 197, 3) := by decide +kernel
theorem dX12_become_5 : decode cX12_become 5 = .ok (.ifCond .eq 15, 3) := by decide +kernel
theorem dX12_become_8 : decode cX12_become 8 = .ok (.iload_n 2, 1) := by decide +kernel
theorem dX12_become_9 : decode cX12_become 9 = .ok (.i2l, 1) := by decide +kernel
theorem dX12_become_10 : decode cX12_become 10 = .ok (.lconst 0, 1) := by decide +kernel
theorem dX12_become_11 : decode cX12_become 11 = .ok (.ldc2_w 184, 3) := by decide +kernel
theorem dX12_become_14 : decode cX12_become 14 = .ok (.invokestatic 57, 3) := by decide +kernel
theorem dX12_become_17 : decode cX12_become 17 = .ok (.ifCond .ne 9, 3) := by decide +kernel
theorem dX12_become_20 : decode cX12_become 20 = .ok (.aload_n 0, 1) := by decide +kernel
theorem dX12_become_21 : decode cX12_become 21 = .ok (.iconst 1, 1) := by decide +kernel
theorem dX12_become_22 : decode cX12_become 22 = .ok (.invokevirtual 119, 3) := by decide +kernel
theorem dX12_become_25 : decode cX12_become 25 = .ok (.ireturn, 1) := by decide +kernel
theorem dX12_become_26 : decode cX12_become 26 = .ok (.aload_n 0, 1) := by decide +kernel
theorem dX12_become_27 : decode cX12_become 27 = .ok (.iload_n 1, 1) := by decide +kernel
theorem dX12_become_28 : decode cX12_become 28 = .ok (.iconst 0, 1) := by decide +kernel
theorem dX12_become_29 : decode cX12_become 29 = .ok (.invokevirtual 150, 3) := by decide +kernel
theorem dX12_become_32 : decode cX12_become 32 = .ok (.istore_n 3, 1) := by decide +kernel
theorem dX12_become_33 : decode cX12_become 33 = .ok (.aload_n 0, 1) := by decide +kernel
theorem dX12_become_34 : decode cX12_become 34 = .ok (.iload_n 1, 1) := by decide +kernel
theorem dX12_become_35 : decode cX12_become 35 = .ok (.iconst 0, 1) := by decide +kernel
theorem dX12_become_36 : decode cX12_become 36 = .ok (.iload_n 2, 1) := by decide +kernel
theorem dX12_become_37 : decode cX12_become 37 = .ok (.bipush 10, 2) := by decide +kernel
theorem dX12_become_39 : decode cX12_become 39 = .ok (.idiv, 1) := by decide +kernel
theorem dX12_become_40 : decode cX12_become 40 = .ok (.invokevirtual 174, 3) := by decide +kernel
theorem dX12_become_43 : decode cX12_become 43 = .ok (.aload_n 0, 1) := by decide +kernel
theorem dX12_become_44 : decode cX12_become 44 = .ok (.iload_n 1, 1) := by decide +kernel
theorem dX12_become_45 : decode cX12_become 45 = .ok (.iconst 1, 1) := by decide +kernel
theorem dX12_become_46 : decode cX12_become 46 = .ok (.iload_n 2, 1) := by decide +kernel
theorem dX12_become_47 : decode cX12_become 47 = .ok (.bipush 10, 2) := by decide +kernel
theorem dX12_become_49 : decode cX12_become 49 = .ok (.irem, 1) := by decide +kernel
theorem dX12_become_50 : decode cX12_become 50 = .ok (.invokevirtual 174, 3) := by decide +kernel
theorem dX12_become_53 : decode cX12_become 53 = .ok (.iload_n 3, 1) := by decide +kernel
theorem dX12_become_54 : decode cX12_become 54 = .ok (.ireturn, 1) := by decide +kernel
theorem dX12_above_0 : decode cX12_above 0 = .ok (.iload_n 0, 1) := by decide +kernel
theorem dX12_above_1 : decode cX12_above 1 = .ok (.iconst 4, 1) := by decide +kernel
theorem dX12_above_2 : decode cX12_above 2 = .ok (.if_icmp .ge 7, 3) := by decide +kernel
theorem dX12_above_5 : decode cX12_above 5 = .ok (.iconst 0, 1) := by decide +kernel
theorem dX12_above_6 : decode cX12_above 6 = .ok (.goto 6, 3) := by decide +kernel
theorem dX12_above_9 : decode cX12_above 9 = .ok (.iload_n 0, 1) := by decide +kernel
theorem dX12_above_10 : decode cX12_above 10 = .ok (.iconst 3, 1) := by decide +kernel
theorem dX12_above_11 : decode cX12_above 11 = .ok (.isub, 1) := by decide +kernel
theorem dX12_above_12 : decode cX12_above 12 = .ok (.ireturn, 1) := by decide +kernel
theorem dX12_as_0 : decode cX12_as 0 = .ok (.aload_n 0, 1) := by decide +kernel
theorem dX12_as_1 : decode cX12_as 1 = .ok (.iload_n 1, 1) := by decide +kernel
theorem dX12_as_2 : decode cX12_as 2 = .ok (.invokevirtual 197, 3) := by decide +kernel
theorem dX12_as_5 : decode cX12_as 5 = .ok (.ifCond .eq 15, 3) := by decide +kernel
theorem dX12_as_8 : decode cX12_as 8 = .ok (.iload_n 2, 1) := by decide +kernel
theorem dX12_as_9 : decode cX12_as 9 = .ok (.i2l, 1) := by decide +kernel
theorem dX12_as_10 : decode cX12_as 10 = .ok (.lconst 0, 1) := by decide +kernel
theorem dX12_as_11 : decode cX12_as 11 = .ok (.ldc2_w 203, 3) := by decide +kernel
theorem dX12_as_14 : decode cX12_as 14 = .ok (.invokestatic 57, 3) := by decide +kernel
theorem dX12_as_17 : decode cX12_as 17 = .ok (.ifCond .ne 9, 3) := by decide +kernel
theorem dX12_as_20 : decode cX12_as 20 = .ok (.aload_n 0, 1) := by decide +kernel
theorem dX12_as_21 : decode cX12_as 21 = .ok (.iconst 1, 1) := by decide +kernel
theorem dX12_as_22 : decode cX12_as 22 = .ok (.invokevirtual 119, 3) := by decide +kernel
theorem dX12_as_25 : decode cX12_as 25 = .ok (.ireturn, 1) := by decide +kernel
theorem dX12_as_26 : decode cX12_as 26 = .ok (.aload_n 0, 1) := by decide +kernel
theorem dX12_as_27 : decode cX12_as 27 = .ok (.iload_n 1, 1) := by decide +kernel
theorem dX12_as_28 : decode cX12_as 28 = .ok (.iconst 0, 1) := by decide +kernel
theorem dX12_as_29 : decode cX12_as 29 = .ok (.invokevirtual 150, 3) := by decide +kernel
theorem dX12_as_32 : decode cX12_as 32 = .ok (.istore_n 3, 1) := by decide +kernel
theorem dX12_as_33 : decode cX12_as 33 = .ok (.iload_n 2, 1) := by decide +kernel
theorem dX12_as_34 : decode cX12_as 34 = .ok (.ifCond .eq 16, 3) := by decide +kernel
theorem dX12_as_37 : decode cX12_as 37 = .ok (.iload_n 2, 1) := by decide +kernel
theorem dX12_as_38 : decode cX12_as 38 = .ok (.iload_n 3, 1) := by decide +kernel
theorem dX12_as_39 : decode cX12_as 39 = .ok (.if_icmp .eq 11, 3) := by decide +kernel
theorem dX12_as_42 : decode cX12_as 42 = .ok (.iload_n 2, 1) := by decide +kernel
theorem dX12_as_43 : decode cX12_as 43 = .ok (.iload_n 3, 1) := by decide +kernel
theorem dX12_as_44 : decode cX12_as 44 = .ok (.invokestatic 205, 3) := by decide +kernel
theorem dX12_as_47 : decode cX12_as 47 = .ok (.if_icmp .ne 12, 3) := by decide +kernel
theorem dX12_as_50 : decode cX12_as 50 = .ok (.aload_n 0, 1) := by decide +kernel
theorem dX12_as_51 : decode cX12_as 51 = .ok (.iload_n 1, 1) := by decide +kernel
theorem dX12_as_52 : decode cX12_as 52 = .ok (.iconst 1, 1) := by decide +kernel
theorem dX12_as_53 : decode cX12_as 53 = .ok (.invokevirtual 150, 3) := by decide +kernel
theorem dX12_as_56 : decode cX12_as 56 = .ok (.goto 8, 3) := by decide +kernel
theorem dX12_as_59 : decode cX12_as 59 = .ok (.aload_n 0, 1) := by decide +kernel
theorem dX12_as_60 : decode cX12_as 60 = .ok (.iconst 5, 1) := by decide +kernel
theorem dX12_as_61 : decode cX12_as 61 = .ok (.invokevirtual 119, 3) := by decide +kernel
theorem dX12_as_64 : decode cX12_as 64 = .ok (.ireturn, 1) := by decide +kernel
theorem dX12_lends_0 : decode cX12_lends 0 = .ok (.aload_n 0, 1) := by decide +kernel
theorem dX12_lends_1 : decode cX12_lends 1 = .ok (.iload_n 1, 1) := by decide +kernel
theorem dX12_lends_2 : decode cX12_lends 2 = .ok (.iconst 2, 1) := by decide +kernel
theorem dX12_lends_3 : decode cX12_lends 3 = .ok (.aload_n 0, 1) := by decide +kernel
theorem dX12_lends_4 : decode cX12_lends 4 = .ok (.iload_n 1, 1) := by decide +kernel
theorem dX12_lends_5 : decode cX12_lends 5 = .ok (.iconst 2, 1) := by decide +kernel
theorem dX12_lends_6 : decode cX12_lends 6 = .ok (.invokevirtual 150, 3) := by decide +kernel
theorem dX12_lends_9 : decode cX12_lends 9 = .ok (.iload_n 2, 1) := by decide +kernel
theorem dX12_lends_10 : decode cX12_lends 10 = .ok (.iadd, 1) := by decide +kernel
theorem dX12_lends_11 : decode cX12_lends 11 = .ok (.iconst 0, 1) := by decide +kernel
theorem dX12_lends_12 : decode cX12_lends 12 = .ok (.sipush 9999, 3) := by decide +kernel
theorem dX12_lends_15 : decode cX12_lends 15 = .ok (.invokestatic 128, 3) := by decide +kernel
theorem dX12_lends_18 : decode cX12_lends 18 = .ok (.invokevirtual 174, 3) := by decide +kernel
theorem dX12_lends_21 : decode cX12_lends 21 = .ok (.return_, 1) := by decide +kernel
theorem dX12_lend_0 : decode cX12_lend 0 = .ok (.aload_n 0, 1) := by decide +kernel
theorem dX12_lend_1 : decode cX12_lend 1 = .ok (.iload_n 1, 1) := by decide +kernel
theorem dX12_lend_2 : decode cX12_lend 2 = .ok (.invokevirtual 197, 3) := by decide +kernel
theorem dX12_lend_5 : decode cX12_lend 5 = .ok (.ifCond .eq 15, 3) := by decide +kernel
theorem dX12_lend_8 : decode cX12_lend 8 = .ok (.iload_n 2, 1) := by decide +kernel
theorem dX12_lend_9 : decode cX12_lend 9 = .ok (.i2l, 1) := by decide +kernel
theorem dX12_lend_10 : decode cX12_lend 10 = .ok (.lconst 1, 1) := by decide +kernel
theorem dX12_lend_11 : decode cX12_lend 11 = .ok (.ldc2_w 208, 3) := by decide +kernel
theorem dX12_lend_14 : decode cX12_lend 14 = .ok (.invokestatic 57, 3) := by decide +kernel
theorem dX12_lend_17 : decode cX12_lend 17 = .ok (.ifCond .ne 9, 3) := by decide +kernel
theorem dX12_lend_20 : decode cX12_lend 20 = .ok (.aload_n 0, 1) := by decide +kernel
theorem dX12_lend_21 : decode cX12_lend 21 = .ok (.iconst 1, 1) := by decide +kernel
theorem dX12_lend_22 : decode cX12_lend 22 = .ok (.invokevirtual 119, 3) := by decide +kernel
theorem dX12_lend_25 : decode cX12_lend 25 = .ok (.ireturn, 1) := by decide +kernel
theorem dX12_lend_26 : decode cX12_lend 26 = .ok (.aload_n 0, 1) := by decide +kernel
theorem dX12_lend_27 : decode cX12_lend 27 = .ok (.iload_n 1, 1) := by decide +kernel
theorem dX12_lend_28 : decode cX12_lend 28 = .ok (.iconst 3, 1) := by decide +kernel
theorem dX12_lend_29 : decode cX12_lend 29 = .ok (.invokevirtual 150, 3) := by decide +kernel
theorem dX12_lend_32 : decode cX12_lend 32 = .ok (.iconst 1, 1) := by decide +kernel
theorem dX12_lend_33 : decode cX12_lend 33 = .ok (.if_icmp .ne 9, 3) := by decide +kernel
theorem dX12_lend_36 : decode cX12_lend 36 = .ok (.aload_n 0, 1) := by decide +kernel
theorem dX12_lend_37 : decode cX12_lend 37 = .ok (.iconst 3, 1) := by decide +kernel
theorem dX12_lend_38 : decode cX12_lend 38 = .ok (.invokevirtual 119, 3) := by decide +kernel
theorem dX12_lend_41 : decode cX12_lend 41 = .ok (.ireturn, 1) := by decide +kernel
theorem dX12_lend_42 : decode cX12_lend 42 = .ok (.aload_n 0, 1) := by decide +kernel
theorem dX12_lend_43 : decode cX12_lend 43 = .ok (.iload_n 1, 1) := by decide +kernel
theorem dX12_lend_44 : decode cX12_lend 44 = .ok (.iload_n 2, 1) := by decide +kernel
theorem dX12_lend_45 : decode cX12_lend 45 = .ok (.invokevirtual 210, 3) := by decide +kernel
theorem dX12_lend_48 : decode cX12_lend 48 = .ok (.aload_n 0, 1) := by decide +kernel
theorem dX12_lend_49 : decode cX12_lend 49 = .ok (.iload_n 1, 1) := by decide +kernel
theorem dX12_lend_50 : decode cX12_lend 50 = .ok (.iconst 2, 1) := by decide +kernel
theorem dX12_lend_51 : decode cX12_lend 51 = .ok (.invokevirtual 150, 3) := by decide +kernel
theorem dX12_lend_54 : decode cX12_lend 54 = .ok (.ireturn, 1) := by decide +kernel
theorem dX12_tells_0 : decode cX12_tells 0 = .ok (.aload_n 0, 1) := by decide +kernel
theorem dX12_tells_1 : decode cX12_tells 1 = .ok (.iload_n 1, 1) := by decide +kernel
theorem dX12_tells_2 : decode cX12_tells 2 = .ok (.invokevirtual 197, 3) := by decide +kernel
theorem dX12_tells_5 : decode cX12_tells 5 = .ok (.ifCond .eq 11, 3) := by decide +kernel
theorem dX12_tells_8 : decode cX12_tells 8 = .ok (.aload_n 0, 1) := by decide +kernel
theorem dX12_tells_9 : decode cX12_tells 9 = .ok (.iload_n 2, 1) := by decide +kernel
theorem dX12_tells_10 : decode cX12_tells 10 = .ok (.invokevirtual 141, 3) := by decide +kernel
theorem dX12_tells_13 : decode cX12_tells 13 = .ok (.ifCond .ne 9, 3) := by decide +kernel
theorem dX12_tells_16 : decode cX12_tells 16 = .ok (.aload_n 0, 1) := by decide +kernel
theorem dX12_tells_17 : decode cX12_tells 17 = .ok (.iconst 1, 1) := by decide +kernel
theorem dX12_tells_18 : decode cX12_tells 18 = .ok (.invokevirtual 119, 3) := by decide +kernel
theorem dX12_tells_21 : decode cX12_tells 21 = .ok (.ireturn, 1) := by decide +kernel
theorem dX12_tells_22 : decode cX12_tells 22 = .ok (.aload_n 0, 1) := by decide +kernel
theorem dX12_tells_23 : decode cX12_tells 23 = .ok (.iload_n 1, 1) := by decide +kernel
theorem dX12_tells_24 : decode cX12_tells 24 = .ok (.iconst 3, 1) := by decide +kernel
theorem dX12_tells_25 : decode cX12_tells 25 = .ok (.invokevirtual 150, 3) := by decide +kernel
theorem dX12_tells_28 : decode cX12_tells 28 = .ok (.iconst 1, 1) := by decide +kernel
theorem dX12_tells_29 : decode cX12_tells 29 = .ok (.if_icmp .eq 12, 3) := by decide +kernel
theorem dX12_tells_32 : decode cX12_tells 32 = .ok (.aload_n 0, 1) := by decide +kernel
theorem dX12_tells_33 : decode cX12_tells 33 = .ok (.iload_n 1, 1) := by decide +kernel
theorem dX12_tells_34 : decode cX12_tells 34 = .ok (.iload_n 2, 1) := by decide +kernel
theorem dX12_tells_35 : decode cX12_tells 35 = .ok (.invokevirtual 164, 3) := by decide +kernel
theorem dX12_tells_38 : decode cX12_tells 38 = .ok (.ifCond .ne 9, 3) := by decide +kernel
theorem dX12_tells_41 : decode cX12_tells 41 = .ok (.aload_n 0, 1) := by decide +kernel
theorem dX12_tells_42 : decode cX12_tells 42 = .ok (.iconst 3, 1) := by decide +kernel
theorem dX12_tells_43 : decode cX12_tells 43 = .ok (.invokevirtual 119, 3) := by decide +kernel
theorem dX12_tells_46 : decode cX12_tells 46 = .ok (.ireturn, 1) := by decide +kernel
theorem dX12_tells_47 : decode cX12_tells 47 = .ok (.aload_n 0, 1) := by decide +kernel
theorem dX12_tells_48 : decode cX12_tells 48 = .ok (.iload_n 1, 1) := by decide +kernel
theorem dX12_tells_49 : decode cX12_tells 49 = .ok (.iload_n 2, 1) := by decide +kernel
theorem dX12_tells_50 : decode cX12_tells 50 = .ok (.invokevirtual 213, 3) := by decide +kernel
theorem dX12_tells_53 : decode cX12_tells 53 = .ok (.aload_n 0, 1) := by decide +kernel
theorem dX12_tells_54 : decode cX12_tells 54 = .ok (.iload_n 1, 1) := by decide +kernel
theorem dX12_tells_55 : decode cX12_tells 55 = .ok (.iconst 2, 1) := by decide +kernel
theorem dX12_tells_56 : decode cX12_tells 56 = .ok (.invokevirtual 150, 3) := by decide +kernel
theorem dX12_tells_59 : decode cX12_tells 59 = .ok (.ireturn, 1) := by decide +kernel
theorem dX12_pardon_0 : decode cX12_pardon 0 = .ok (.aload_n 0, 1) := by decide +kernel
theorem dX12_pardon_1 : decode cX12_pardon 1 = .ok (.iload_n 1, 1) := by decide +kernel
theorem dX12_pardon_2 : decode cX12_pardon 2 = .ok (.invokevirtual 197, 3) := by decide +kernel
theorem dX12_pardon_5 : decode cX12_pardon 5 = .ok (.ifCond .ne 9, 3) := by decide +kernel
theorem dX12_pardon_8 : decode cX12_pardon 8 = .ok (.aload_n 0, 1) := by decide +kernel
theorem dX12_pardon_9 : decode cX12_pardon 9 = .ok (.iconst 1, 1) := by decide +kernel
theorem dX12_pardon_10 : decode cX12_pardon 10 = .ok (.invokevirtual 119, 3) := by decide +kernel
theorem dX12_pardon_13 : decode cX12_pardon 13 = .ok (.ireturn, 1) := by decide +kernel
theorem dX12_pardon_14 : decode cX12_pardon 14 = .ok (.aload_n 0, 1) := by decide +kernel
theorem dX12_pardon_15 : decode cX12_pardon 15 = .ok (.iload_n 1, 1) := by decide +kernel
theorem dX12_pardon_16 : decode cX12_pardon 16 = .ok (.iconst 3, 1) := by decide +kernel
theorem dX12_pardon_17 : decode cX12_pardon 17 = .ok (.invokevirtual 150, 3) := by decide +kernel
theorem dX12_pardon_20 : decode cX12_pardon 20 = .ok (.ifCond .ne 9, 3) := by decide +kernel
theorem dX12_pardon_23 : decode cX12_pardon 23 = .ok (.aload_n 0, 1) := by decide +kernel
theorem dX12_pardon_24 : decode cX12_pardon 24 = .ok (.iconst 3, 1) := by decide +kernel
theorem dX12_pardon_25 : decode cX12_pardon 25 = .ok (.invokevirtual 119, 3) := by decide +kernel
theorem dX12_pardon_28 : decode cX12_pardon 28 = .ok (.ireturn, 1) := by decide +kernel
theorem dX12_pardon_29 : decode cX12_pardon 29 = .ok (.aload_n 0, 1) := by decide +kernel
theorem dX12_pardon_30 : decode cX12_pardon 30 = .ok (.iload_n 1, 1) := by decide +kernel
theorem dX12_pardon_31 : decode cX12_pardon 31 = .ok (.iconst 4, 1) := by decide +kernel
theorem dX12_pardon_32 : decode cX12_pardon 32 = .ok (.invokevirtual 150, 3) := by decide +kernel
theorem dX12_pardon_35 : decode cX12_pardon 35 = .ok (.istore_n 2, 1) := by decide +kernel
theorem dX12_pardon_36 : decode cX12_pardon 36 = .ok (.aload_n 0, 1) := by decide +kernel
theorem dX12_pardon_37 : decode cX12_pardon 37 = .ok (.iload_n 1, 1) := by decide +kernel
theorem dX12_pardon_38 : decode cX12_pardon 38 = .ok (.iconst 2, 1) := by decide +kernel
theorem dX12_pardon_39 : decode cX12_pardon 39 = .ok (.iconst 0, 1) := by decide +kernel
theorem dX12_pardon_40 : decode cX12_pardon 40 = .ok (.invokevirtual 174, 3) := by decide +kernel
theorem dX12_pardon_43 : decode cX12_pardon 43 = .ok (.aload_n 0, 1) := by decide +kernel
theorem dX12_pardon_44 : decode cX12_pardon 44 = .ok (.iload_n 1, 1) := by decide +kernel
theorem dX12_pardon_45 : decode cX12_pardon 45 = .ok (.iconst 3, 1) := by decide +kernel
theorem dX12_pardon_46 : decode cX12_pardon 46 = .ok (.iconst 0, 1) := by decide +kernel
theorem dX12_pardon_47 : decode cX12_pardon 47 = .ok (.invokevirtual 174, 3) := by decide +kernel
theorem dX12_pardon_50 : decode cX12_pardon 50 = .ok (.aload_n 0, 1) := by decide +kernel
theorem dX12_pardon_51 : decode cX12_pardon 51 = .ok (.iload_n 1, 1) := by decide +kernel
theorem dX12_pardon_52 : decode cX12_pardon 52 = .ok (.iconst 4, 1) := by decide +kernel
theorem dX12_pardon_53 : decode cX12_pardon 53 = .ok (.iconst 0, 1) := by decide +kernel
theorem dX12_pardon_54 : decode cX12_pardon 54 = .ok (.invokevirtual 174, 3) := by decide +kernel
theorem dX12_pardon_57 : decode cX12_pardon 57 = .ok (.iload_n 2, 1) := by decide +kernel
theorem dX12_pardon_58 : decode cX12_pardon 58 = .ok (.ireturn, 1) := by decide +kernel
theorem dX12_serves_0 : decode cX12_serves 0 = .ok (.aload_n 0, 1) := by decide +kernel
theorem dX12_serves_1 : decode cX12_serves 1 = .ok (.iload_n 1, 1) := by decide +kernel
theorem dX12_serves_2 : decode cX12_serves 2 = .ok (.invokevirtual 188, 3) := by decide +kernel
theorem dX12_serves_5 : decode cX12_serves 5 = .ok (.istore_n 2, 1) := by decide +kernel
theorem dX12_serves_6 : decode cX12_serves 6 = .ok (.iconst 0, 1) := by decide +kernel
theorem dX12_serves_7 : decode cX12_serves 7 = .ok (.istore_n 3, 1) := by decide +kernel
theorem dX12_serves_8 : decode cX12_serves 8 = .ok (.iload_n 3, 1) := by decide +kernel
theorem dX12_serves_9 : decode cX12_serves 9 = .ok (.iload_n 2, 1) := by decide +kernel
theorem dX12_serves_10 : decode cX12_serves 10 = .ok (.if_icmp .ge 85, 3) := by decide +kernel
theorem dX12_serves_13 : decode cX12_serves 13 = .ok (.aload_n 0, 1) := by decide +kernel
theorem dX12_serves_14 : decode cX12_serves 14 = .ok (.iload_n 1, 1) := by decide +kernel
theorem dX12_serves_15 : decode cX12_serves 15 = .ok (.iconst 2, 1) := by decide +kernel
theorem dX12_serves_16 : decode cX12_serves 16 = .ok (.invokevirtual 150, 3) := by decide +kernel
theorem dX12_serves_19 : decode cX12_serves 19 = .ok (.ifCond .le 76, 3) := by decide +kernel
theorem dX12_serves_22 : decode cX12_serves 22 = .ok (.aload_n 0, 1) := by decide +kernel
theorem dX12_serves_23 : decode cX12_serves 23 = .ok (.iload_n 1, 1) := by decide +kernel
theorem dX12_serves_24 : decode cX12_serves 24 = .ok (.iconst 3, 1) := by decide +kernel
theorem dX12_serves_25 : decode cX12_serves 25 = .ok (.invokevirtual 150, 3) := by decide +kernel
theorem dX12_serves_28 : decode cX12_serves 28 = .ok (.ifCond .ne 67, 3) := by decide +kernel
theorem dX12_serves_31 : decode cX12_serves 31 = .ok (.iconst 0, 1) := by decide +kernel
theorem dX12_serves_32 : decode cX12_serves 32 = .ok (.istore 4, 2) := by decide +kernel
theorem dX12_serves_34 : decode cX12_serves 34 = .ok (.iload 4, 2) := by decide +kernel
theorem dX12_serves_36 : decode cX12_serves 36 = .ok (.aload_n 0, 1) := by decide +kernel
theorem dX12_serves_37 : decode cX12_serves 37 = .ok (.getfield 7, 3) := by decide +kernel
theorem dX12_serves_40 : decode cX12_serves 40 = .ok (.iconst 0, 1) := by decide +kernel
theorem dX12_serves_41 : decode cX12_serves 41 = .ok (.iaload, 1) := by decide +kernel
theorem dX12_serves_42 : decode cX12_serves 42 = .ok (.if_icmp .ge 19, 3) := by decide +kernel
theorem dX12_serves_45 : decode cX12_serves 45 = .ok (.aload_n 0, 1) := by decide +kernel
theorem dX12_serves_46 : decode cX12_serves 46 = .ok (.iload_n 1, 1) := by decide +kernel
theorem dX12_serves_47 : decode cX12_serves 47 = .ok (.iload 4, 2) := by decide +kernel
theorem dX12_serves_49 : decode cX12_serves 49 = .ok (.invokevirtual 164, 3) := by decide +kernel
theorem dX12_serves_52 : decode cX12_serves 52 = .ok (.ifCond .ne 9, 3) := by decide +kernel
theorem dX12_serves_55 : decode cX12_serves 55 = .ok (.iinc 4 1, 3) := by decide +kernel
theorem dX12_serves_58 : decode cX12_serves 58 = .ok (.goto (-24), 3) := by decide +kernel
theorem dX12_serves_61 : decode cX12_serves 61 = .ok (.iload 4, 2) := by decide +kernel
theorem dX12_serves_63 : decode cX12_serves 63 = .ok (.aload_n 0, 1) := by decide +kernel
theorem dX12_serves_64 : decode cX12_serves 64 = .ok (.getfield 7, 3) := by decide +kernel
theorem dX12_serves_67 : decode cX12_serves 67 = .ok (.iconst 0, 1) := by decide +kernel
theorem dX12_serves_68 : decode cX12_serves 68 = .ok (.iaload, 1) := by decide +kernel
theorem dX12_serves_69 : decode cX12_serves 69 = .ok (.if_icmp .ge 13, 3) := by decide +kernel
theorem dX12_serves_72 : decode cX12_serves 72 = .ok (.aload_n 0, 1) := by decide +kernel
theorem dX12_serves_73 : decode cX12_serves 73 = .ok (.iload_n 1, 1) := by decide +kernel
theorem dX12_serves_74 : decode cX12_serves 74 = .ok (.iload 4, 2) := by decide +kernel
theorem dX12_serves_76 : decode cX12_serves 76 = .ok (.invokevirtual 213, 3) := by decide +kernel
theorem dX12_serves_79 : decode cX12_serves 79 = .ok (.goto 10, 3) := by decide +kernel
theorem dX12_serves_82 : decode cX12_serves 82 = .ok (.aload_n 0, 1) := by decide +kernel
theorem dX12_serves_83 : decode cX12_serves 83 = .ok (.iload_n 1, 1) := by decide +kernel
theorem dX12_serves_84 : decode cX12_serves 84 = .ok (.iconst 3, 1) := by decide +kernel
theorem dX12_serves_85 : decode cX12_serves 85 = .ok (.iconst 1, 1) := by decide +kernel
theorem dX12_serves_86 : decode cX12_serves 86 = .ok (.invokevirtual 174, 3) := by decide +kernel
theorem dX12_serves_89 : decode cX12_serves 89 = .ok (.iinc 3 1, 3) := by decide +kernel
theorem dX12_serves_92 : decode cX12_serves 92 = .ok (.goto (-84), 3) := by decide +kernel
theorem dX12_serves_95 : decode cX12_serves 95 = .ok (.aload_n 0, 1) := by decide +kernel
theorem dX12_serves_96 : decode cX12_serves 96 = .ok (.iload_n 1, 1) := by decide +kernel
theorem dX12_serves_97 : decode cX12_serves 97 = .ok (.invokevirtual 216, 3) := by decide +kernel
theorem dX12_serves_100 : decode cX12_serves 100 = .ok (.ifCond .eq 10, 3) := by decide +kernel
theorem dX12_serves_103 : decode cX12_serves 103 = .ok (.aload_n 0, 1) := by decide +kernel
theorem dX12_serves_104 : decode cX12_serves 104 = .ok (.iload_n 1, 1) := by decide +kernel
theorem dX12_serves_105 : decode cX12_serves 105 = .ok (.iconst 3, 1) := by decide +kernel
theorem dX12_serves_106 : decode cX12_serves 106 = .ok (.iconst 1, 1) := by decide +kernel
theorem dX12_serves_107 : decode cX12_serves 107 = .ok (.invokevirtual 174, 3) := by decide +kernel
theorem dX12_serves_110 : decode cX12_serves 110 = .ok (.return_, 1) := by decide +kernel
theorem dX12_aWeek_0 : decode cX12_aWeek 0 = .ok (.iconst 0, 1) := by decide +kernel
theorem dX12_aWeek_1 : decode cX12_aWeek 1 = .ok (.istore_n 1, 1) := by decide +kernel
theorem dX12_aWeek_2 : decode cX12_aWeek 2 = .ok (.iload_n 1, 1) := by decide +kernel
theorem dX12_aWeek_3 : decode cX12_aWeek 3 = .ok (.aload_n 0, 1) := by decide +kernel
theorem dX12_aWeek_4 : decode cX12_aWeek 4 = .ok (.getfield 7, 3) := by decide +kernel
theorem dX12_aWeek_7 : decode cX12_aWeek 7 = .ok (.iconst 1, 1) := by decide +kernel
theorem dX12_aWeek_8 : decode cX12_aWeek 8 = .ok (.iaload, 1) := by decide +kernel
theorem dX12_aWeek_9 : decode cX12_aWeek 9 = .ok (.if_icmp .ge 32, 3) := by decide +kernel
theorem dX12_aWeek_12 : decode cX12_aWeek 12 = .ok (.aload_n 0, 1) := by decide +kernel
theorem dX12_aWeek_13 : decode cX12_aWeek 13 = .ok (.iload_n 1, 1) := by decide +kernel
theorem dX12_aWeek_14 : decode cX12_aWeek 14 = .ok (.iconst 3, 1) := by decide +kernel
theorem dX12_aWeek_15 : decode cX12_aWeek 15 = .ok (.invokevirtual 150, 3) := by decide +kernel
theorem dX12_aWeek_18 : decode cX12_aWeek 18 = .ok (.ifCond .ne 17, 3) := by decide +kernel
theorem dX12_aWeek_21 : decode cX12_aWeek 21 = .ok (.aload_n 0, 1) := by decide +kernel
theorem dX12_aWeek_22 : decode cX12_aWeek 22 = .ok (.iload_n 1, 1) := by decide +kernel
theorem dX12_aWeek_23 : decode cX12_aWeek 23 = .ok (.iconst 2, 1) := by decide +kernel
theorem dX12_aWeek_24 : decode cX12_aWeek 24 = .ok (.invokevirtual 150, 3) := by decide +kernel
theorem dX12_aWeek_27 : decode cX12_aWeek 27 = .ok (.ifCond .le 8, 3) := by decide +kernel
theorem dX12_aWeek_30 : decode cX12_aWeek 30 = .ok (.aload_n 0, 1) := by decide +kernel
theorem dX12_aWeek_31 : decode cX12_aWeek 31 = .ok (.iload_n 1, 1) := by decide +kernel
theorem dX12_aWeek_32 : decode cX12_aWeek 32 = .ok (.invokevirtual 219, 3) := by decide +kernel
theorem dX12_aWeek_35 : decode cX12_aWeek 35 = .ok (.iinc 1 1, 3) := by decide +kernel
theorem dX12_aWeek_38 : decode cX12_aWeek 38 = .ok (.goto (-36), 3) := by decide +kernel
theorem dX12_aWeek_41 : decode cX12_aWeek 41 = .ok (.aload_n 0, 1) := by decide +kernel
theorem dX12_aWeek_42 : decode cX12_aWeek 42 = .ok (.getfield 7, 3) := by decide +kernel
theorem dX12_aWeek_45 : decode cX12_aWeek 45 = .ok (.iconst 3, 1) := by decide +kernel
theorem dX12_aWeek_46 : decode cX12_aWeek 46 = .ok (.dup2, 1) := by decide +kernel
theorem dX12_aWeek_47 : decode cX12_aWeek 47 = .ok (.iaload, 1) := by decide +kernel
theorem dX12_aWeek_48 : decode cX12_aWeek 48 = .ok (.iconst 1, 1) := by decide +kernel
theorem dX12_aWeek_49 : decode cX12_aWeek 49 = .ok (.iadd, 1) := by decide +kernel
theorem dX12_aWeek_50 : decode cX12_aWeek 50 = .ok (.iastore, 1) := by decide +kernel
theorem dX12_aWeek_51 : decode cX12_aWeek 51 = .ok (.return_, 1) := by decide +kernel
theorem dX12_brokenMany_0 : decode cX12_brokenMany 0 = .ok (.iconst 0, 1) := by decide +kernel
theorem dX12_brokenMany_1 : decode cX12_brokenMany 1 = .ok (.istore_n 1, 1) := by decide +kernel
theorem dX12_brokenMany_2 : decode cX12_brokenMany 2 = .ok (.iconst 0, 1) := by decide +kernel
theorem dX12_brokenMany_3 : decode cX12_brokenMany 3 = .ok (.istore_n 2, 1) := by decide +kernel
theorem dX12_brokenMany_4 : decode cX12_brokenMany 4 = .ok (.iload_n 2, 1) := by decide +kernel
theorem dX12_brokenMany_5 : decode cX12_brokenMany 5 = .ok (.aload_n 0, 1) := by decide +kernel
theorem dX12_brokenMany_6 : decode cX12_brokenMany 6 = .ok (.getfield 7, 3) := by decide +kernel
theorem dX12_brokenMany_9 : decode cX12_brokenMany 9 = .ok (.iconst 1, 1) := by decide +kernel
theorem dX12_brokenMany_10 : decode cX12_brokenMany 10 = .ok (.iaload, 1) := by decide +kernel
theorem dX12_brokenMany_11 : decode cX12_brokenMany 11 = .ok (.if_icmp .ge 18, 3) := by decide +kernel
theorem dX12_brokenMany_14 : decode cX12_brokenMany 14 = .ok (.iload_n 1, 1) := by decide +kernel
theorem dX12_brokenMany_15 : decode cX12_brokenMany 15 = .ok (.aload_n 0, 1) := by decide +kernel
theorem dX12_brokenMany_16 : decode cX12_brokenMany 16 = .ok (.iload_n 2, 1) := by decide +kernel
theorem dX12_brokenMany_17 : decode cX12_brokenMany 17 = .ok (.iconst 3, 1) := by decide +kernel
theorem dX12_brokenMany_18 : decode cX12_brokenMany 18 = .ok (.invokevirtual 150, 3) := by decide +kernel
theorem dX12_brokenMany_21 : decode cX12_brokenMany 21 = .ok (.iadd, 1) := by decide +kernel
theorem dX12_brokenMany_22 : decode cX12_brokenMany 22 = .ok (.istore_n 1, 1) := by decide +kernel
theorem dX12_brokenMany_23 : decode cX12_brokenMany 23 = .ok (.iinc 2 1, 3) := by decide +kernel
theorem dX12_brokenMany_26 : decode cX12_brokenMany 26 = .ok (.goto (-22), 3) := by decide +kernel
theorem dX12_brokenMany_29 : decode cX12_brokenMany 29 = .ok (.iload_n 1, 1) := by decide +kernel
theorem dX12_brokenMany_30 : decode cX12_brokenMany 30 = .ok (.ireturn, 1) := by decide +kernel
theorem dX12_drawn_0 : decode cX12_drawn 0 = .ok (.aload_n 0, 1) := by decide +kernel
theorem dX12_drawn_1 : decode cX12_drawn 1 = .ok (.getfield 7, 3) := by decide +kernel
theorem dX12_drawn_4 : decode cX12_drawn 4 = .ok (.iconst 4, 1) := by decide +kernel
theorem dX12_drawn_5 : decode cX12_drawn 5 = .ok (.aload_n 0, 1) := by decide +kernel
theorem dX12_drawn_6 : decode cX12_drawn 6 = .ok (.getfield 7, 3) := by decide +kernel
theorem dX12_drawn_9 : decode cX12_drawn 9 = .ok (.iconst 4, 1) := by decide +kernel
theorem dX12_drawn_10 : decode cX12_drawn 10 = .ok (.iaload, 1) := by decide +kernel
theorem dX12_drawn_11 : decode cX12_drawn 11 = .ok (.ldc 223, 2) := by decide +kernel
theorem dX12_drawn_13 : decode cX12_drawn 13 = .ok (.imul, 1) := by decide +kernel
theorem dX12_drawn_14 : decode cX12_drawn 14 = .ok (.sipush 12345, 3) := by decide +kernel
theorem dX12_drawn_17 : decode cX12_drawn 17 = .ok (.iadd, 1) := by decide +kernel
theorem dX12_drawn_18 : decode cX12_drawn 18 = .ok (.iastore, 1) := by decide +kernel
theorem dX12_drawn_19 : decode cX12_drawn 19 = .ok (.aload_n 0, 1) := by decide +kernel
theorem dX12_drawn_20 : decode cX12_drawn 20 = .ok (.getfield 7, 3) := by decide +kernel
theorem dX12_drawn_23 : decode cX12_drawn 23 = .ok (.iconst 4, 1) := by decide +kernel
theorem dX12_drawn_24 : decode cX12_drawn 24 = .ok (.iaload, 1) := by decide +kernel
theorem dX12_drawn_25 : decode cX12_drawn 25 = .ok (.bipush 8, 2) := by decide +kernel
theorem dX12_drawn_27 : decode cX12_drawn 27 = .ok (.iushr, 1) := by decide +kernel
theorem dX12_drawn_28 : decode cX12_drawn 28 = .ok (.ireturn, 1) := by decide +kernel
theorem dX12_passes_0 : decode cX12_passes 0 = .ok (.iload_n 1, 1) := by decide +kernel
theorem dX12_passes_1 : decode cX12_passes 1 = .ok (.i2l, 1) := by decide +kernel
theorem dX12_passes_2 : decode cX12_passes 2 = .ok (.lconst 1, 1) := by decide +kernel
theorem dX12_passes_3 : decode cX12_passes 3 = .ok (.ldc2_w 224, 3) := by decide +kernel
theorem dX12_passes_6 : decode cX12_passes 6 = .ok (.invokestatic 57, 3) := by decide +kernel
theorem dX12_passes_9 : decode cX12_passes 9 = .ok (.ifCond .ne 9, 3) := by decide +kernel
theorem dX12_passes_12 : decode cX12_passes 12 = .ok (.aload_n 0, 1) := by decide +kernel
theorem dX12_passes_13 : decode cX12_passes 13 = .ok (.iconst 1, 1) := by decide +kernel
theorem dX12_passes_14 : decode cX12_passes 14 = .ok (.invokevirtual 119, 3) := by decide +kernel
theorem dX12_passes_17 : decode cX12_passes 17 = .ok (.ireturn, 1) := by decide +kernel
theorem dX12_passes_18 : decode cX12_passes 18 = .ok (.aload_n 0, 1) := by decide +kernel
theorem dX12_passes_19 : decode cX12_passes 19 = .ok (.getfield 7, 3) := by decide +kernel
theorem dX12_passes_22 : decode cX12_passes 22 = .ok (.iconst 3, 1) := by decide +kernel
theorem dX12_passes_23 : decode cX12_passes 23 = .ok (.iaload, 1) := by decide +kernel
theorem dX12_passes_24 : decode cX12_passes 24 = .ok (.iload_n 1, 1) := by decide +kernel
theorem dX12_passes_25 : decode cX12_passes 25 = .ok (.iadd, 1) := by decide +kernel
theorem dX12_passes_26 : decode cX12_passes 26 = .ok (.sipush 999, 3) := by decide +kernel
theorem dX12_passes_29 : decode cX12_passes 29 = .ok (.if_icmp .le 9, 3) := by decide +kernel
theorem dX12_passes_32 : decode cX12_passes 32 = .ok (.aload_n 0, 1) := by decide +kernel
theorem dX12_passes_33 : decode cX12_passes 33 = .ok (.iconst 3, 1) := by decide +kernel
theorem dX12_passes_34 : decode cX12_passes 34 = .ok (.invokevirtual 119, 3) := by decide +kernel
theorem dX12_passes_37 : decode cX12_passes 37 = .ok (.ireturn, 1) := by decide +kernel
theorem dX12_passes_38 : decode cX12_passes 38 = .ok (.iconst 0, 1) := by decide +kernel
theorem dX12_passes_39 : decode cX12_passes 39 = .ok (.istore_n 3, 1) := by decide +kernel
theorem dX12_passes_40 : decode cX12_passes 40 = .ok (.iload_n 3, 1) := by decide +kernel
theorem dX12_passes_41 : decode cX12_passes 41 = .ok (.iload_n 1, 1) := by decide +kernel
theorem dX12_passes_42 : decode cX12_passes 42 = .ok (.if_icmp .ge 73, 3) := by decide +kernel
theorem dX12_passes_45 : decode cX12_passes 45 = .ok (.iload_n 2, 1) := by decide +kernel
theorem dX12_passes_46 : decode cX12_passes 46 = .ok (.ifCond .eq 12, 3) := by decide +kernel
theorem dX12_passes_49 : decode cX12_passes 49 = .ok (.aload_n 0, 1) := by decide +kernel
theorem dX12_passes_50 : decode cX12_passes 50 = .ok (.invokevirtual 226, 3) := by decide +kernel
theorem dX12_passes_53 : decode cX12_passes 53 = .ok (.iconst 4, 1) := by decide +kernel
theorem dX12_passes_54 : decode cX12_passes 54 = .ok (.irem, 1) := by decide +kernel
theorem dX12_passes_55 : decode cX12_passes 55 = .ok (.goto 4, 3) := by decide +kernel
theorem dX12_passes_58 : decode cX12_passes 58 = .ok (.iconst 0, 1) := by decide +kernel
theorem dX12_passes_59 : decode cX12_passes 59 = .ok (.istore 4, 2) := by decide +kernel
theorem dX12_passes_61 : decode cX12_passes 61 = .ok (.iload_n 2, 1) := by decide +kernel
theorem dX12_passes_62 : decode cX12_passes 62 = .ok (.ifCond .eq 13, 3) := by decide +kernel
theorem dX12_passes_65 : decode cX12_passes 65 = .ok (.aload_n 0, 1) := by decide +kernel
theorem dX12_passes_66 : decode cX12_passes 66 = .ok (.invokevirtual 226, 3) := by decide +kernel
theorem dX12_passes_69 : decode cX12_passes 69 = .ok (.bipush 50, 2) := by decide +kernel
theorem dX12_passes_71 : decode cX12_passes 71 = .ok (.irem, 1) := by decide +kernel
theorem dX12_passes_72 : decode cX12_passes 72 = .ok (.goto 4, 3) := by decide +kernel
theorem dX12_passes_75 : decode cX12_passes 75 = .ok (.iconst 0, 1) := by decide +kernel
theorem dX12_passes_76 : decode cX12_passes 76 = .ok (.istore 5, 2) := by decide +kernel
theorem dX12_passes_78 : decode cX12_passes 78 = .ok (.aload_n 0, 1) := by decide +kernel
theorem dX12_passes_79 : decode cX12_passes 79 = .ok (.iload 4, 2) := by decide +kernel
theorem dX12_passes_81 : decode cX12_passes 81 = .ok (.invokevirtual 197, 3) := by decide +kernel
theorem dX12_passes_84 : decode cX12_passes 84 = .ok (.ifCond .eq 21, 3) := by decide +kernel
theorem dX12_passes_87 : decode cX12_passes 87 = .ok (.aload_n 0, 1) := by decide +kernel
theorem dX12_passes_88 : decode cX12_passes 88 = .ok (.iload 4, 2) := by decide +kernel
theorem dX12_passes_90 : decode cX12_passes 90 = .ok (.iconst 3, 1) := by decide +kernel
theorem dX12_passes_91 : decode cX12_passes 91 = .ok (.invokevirtual 150, 3) := by decide +kernel
theorem dX12_passes_94 : decode cX12_passes 94 = .ok (.ifCond .ne 11, 3) := by decide +kernel
theorem dX12_passes_97 : decode cX12_passes 97 = .ok (.aload_n 0, 1) := by decide +kernel
theorem dX12_passes_98 : decode cX12_passes 98 = .ok (.iload 4, 2) := by decide +kernel
theorem dX12_passes_100 : decode cX12_passes 100 = .ok (.iload 5, 2) := by decide +kernel
theorem dX12_passes_102 : decode cX12_passes 102 = .ok (.invokevirtual 210, 3) := by decide +kernel
theorem dX12_passes_105 : decode cX12_passes 105 = .ok (.aload_n 0, 1) := by decide +kernel
theorem dX12_passes_106 : decode cX12_passes 106 = .ok (.invokevirtual 229, 3) := by decide +kernel
theorem dX12_passes_109 : decode cX12_passes 109 = .ok (.iinc 3 1, 3) := by decide +kernel
theorem dX12_passes_112 : decode cX12_passes 112 = .ok (.goto (-72), 3) := by decide +kernel
theorem dX12_passes_115 : decode cX12_passes 115 = .ok (.aload_n 0, 1) := by decide +kernel
theorem dX12_passes_116 : decode cX12_passes 116 = .ok (.invokevirtual 232, 3) := by decide +kernel
theorem dX12_passes_119 : decode cX12_passes 119 = .ok (.ireturn, 1) := by decide +kernel
theorem dX12_weeks_0 : decode cX12_weeks 0 = .ok (.aload_n 0, 1) := by decide +kernel
theorem dX12_weeks_1 : decode cX12_weeks 1 = .ok (.iload_n 1, 1) := by decide +kernel
theorem dX12_weeks_2 : decode cX12_weeks 2 = .ok (.iconst 0, 1) := by decide +kernel
theorem dX12_weeks_3 : decode cX12_weeks 3 = .ok (.invokevirtual 235, 3) := by decide +kernel
theorem dX12_weeks_6 : decode cX12_weeks 6 = .ok (.ireturn, 1) := by decide +kernel
theorem dX12_loose_0 : decode cX12_loose 0 = .ok (.aload_n 0, 1) := by decide +kernel
theorem dX12_loose_1 : decode cX12_loose 1 = .ok (.iload_n 1, 1) := by decide +kernel
theorem dX12_loose_2 : decode cX12_loose 2 = .ok (.iconst 1, 1) := by decide +kernel
theorem dX12_loose_3 : decode cX12_loose 3 = .ok (.invokevirtual 235, 3) := by decide +kernel
theorem dX12_loose_6 : decode cX12_loose 6 = .ok (.ireturn, 1) := by decide +kernel
theorem dX12_then_0 : decode cX12_then 0 = .ok (.iload_n 1, 1) := by decide +kernel
theorem dX12_then_1 : decode cX12_then 1 = .ok (.i2l, 1) := by decide +kernel
theorem dX12_then_2 : decode cX12_then 2 = .ok (.lconst 0, 1) := by decide +kernel
theorem dX12_then_3 : decode cX12_then 3 = .ok (.ldc2_w 224, 3) := by decide +kernel
theorem dX12_then_6 : decode cX12_then 6 = .ok (.invokestatic 57, 3) := by decide +kernel
theorem dX12_then_9 : decode cX12_then 9 = .ok (.ifCond .eq 31, 3) := by decide +kernel
theorem dX12_then_12 : decode cX12_then 12 = .ok (.aload_n 0, 1) := by decide +kernel
theorem dX12_then_13 : decode cX12_then 13 = .ok (.iload_n 2, 1) := by decide +kernel
theorem dX12_then_14 : decode cX12_then 14 = .ok (.invokevirtual 197, 3) := by decide +kernel
theorem dX12_then_17 : decode cX12_then 17 = .ok (.ifCond .eq 23, 3) := by decide +kernel
theorem dX12_then_20 : decode cX12_then 20 = .ok (.iload_n 3, 1) := by decide +kernel
theorem dX12_then_21 : decode cX12_then 21 = .ok (.i2l, 1) := by decide +kernel
theorem dX12_then_22 : decode cX12_then 22 = .ok (.ldc2_w 239, 3) := by decide +kernel
theorem dX12_then_25 : decode cX12_then 25 = .ok (.ldc2_w 241, 3) := by decide +kernel
theorem dX12_then_28 : decode cX12_then 28 = .ok (.invokestatic 57, 3) := by decide +kernel
theorem dX12_then_31 : decode cX12_then 31 = .ok (.ifCond .eq 9, 3) := by decide +kernel
theorem dX12_then_34 : decode cX12_then 34 = .ok (.iload_n 3, 1) := by decide +kernel
theorem dX12_then_35 : decode cX12_then 35 = .ok (.bipush 6, 2) := by decide +kernel
theorem dX12_then_37 : decode cX12_then 37 = .ok (.if_icmp .ne 9, 3) := by decide +kernel
theorem dX12_then_40 : decode cX12_then 40 = .ok (.aload_n 0, 1) := by decide +kernel
theorem dX12_then_41 : decode cX12_then 41 = .ok (.iconst 1, 1) := by decide +kernel
theorem dX12_then_42 : decode cX12_then 42 = .ok (.invokevirtual 119, 3) := by decide +kernel
theorem dX12_then_45 : decode cX12_then 45 = .ok (.ireturn, 1) := by decide +kernel
theorem dX12_then_46 : decode cX12_then 46 = .ok (.aload_n 0, 1) := by decide +kernel
theorem dX12_then_47 : decode cX12_then 47 = .ok (.invokevirtual 243, 3) := by decide +kernel
theorem dX12_then_50 : decode cX12_then 50 = .ok (.iconst 0, 1) := by decide +kernel
theorem dX12_then_51 : decode cX12_then 51 = .ok (.istore 4, 2) := by decide +kernel
theorem dX12_then_53 : decode cX12_then 53 = .ok (.iload 4, 2) := by decide +kernel
theorem dX12_then_55 : decode cX12_then 55 = .ok (.iload_n 1, 1) := by decide +kernel
theorem dX12_then_56 : decode cX12_then 56 = .ok (.if_icmp .ge 13, 3) := by decide +kernel
theorem dX12_then_59 : decode cX12_then 59 = .ok (.aload_n 0, 1) := by decide +kernel
theorem dX12_then_60 : decode cX12_then 60 = .ok (.invokevirtual 229, 3) := by decide +kernel
theorem dX12_then_63 : decode cX12_then 63 = .ok (.iinc 4 1, 3) := by decide +kernel
theorem dX12_then_66 : decode cX12_then 66 = .ok (.goto (-13), 3) := by decide +kernel
theorem dX12_then_69 : decode cX12_then 69 = .ok (.aload_n 0, 1) := by decide +kernel
theorem dX12_then_70 : decode cX12_then 70 = .ok (.iload_n 2, 1) := by decide +kernel
theorem dX12_then_71 : decode cX12_then 71 = .ok (.iload_n 3, 1) := by decide +kernel
theorem dX12_then_72 : decode cX12_then 72 = .ok (.invokevirtual 200, 3) := by decide +kernel
theorem dX12_then_75 : decode cX12_then 75 = .ok (.istore 4, 2) := by decide +kernel
theorem dX12_then_77 : decode cX12_then 77 = .ok (.aload_n 0, 1) := by decide +kernel
theorem dX12_then_78 : decode cX12_then 78 = .ok (.invokevirtual 246, 3) := by decide +kernel
theorem dX12_then_81 : decode cX12_then 81 = .ok (.iload 4, 2) := by decide +kernel
theorem dX12_then_83 : decode cX12_then 83 = .ok (.ireturn, 1) := by decide +kernel
theorem dX12_takes__0 : decode cX12_takes_ 0 = .ok (.aload_n 0, 1) := by decide +kernel
theorem dX12_takes__1 : decode cX12_takes_ 1 = .ok (.iload_n 1, 1) := by decide +kernel
theorem dX12_takes__2 : decode cX12_takes_ 2 = .ok (.iload_n 2, 1) := by decide +kernel
theorem dX12_takes__3 : decode cX12_takes_ 3 = .ok (.invokevirtual 164, 3) := by decide +kernel
theorem dX12_takes__6 : decode cX12_takes_ 6 = .ok (.ifCond .ne 5, 3) := by decide +kernel
theorem dX12_takes__9 : decode cX12_takes_ 9 = .ok (.iconst 0, 1) := by decide +kernel
theorem dX12_takes__10 : decode cX12_takes_ 10 = .ok (.ireturn, 1) := by decide +kernel
theorem dX12_takes__11 : decode cX12_takes_ 11 = .ok (.aload_n 0, 1) := by decide +kernel
theorem dX12_takes__12 : decode cX12_takes_ 12 = .ok (.iload_n 1, 1) := by decide +kernel
theorem dX12_takes__13 : decode cX12_takes_ 13 = .ok (.iload_n 2, 1) := by decide +kernel
theorem dX12_takes__14 : decode cX12_takes_ 14 = .ok (.invokevirtual 180, 3) := by decide +kernel
theorem dX12_takes__17 : decode cX12_takes_ 17 = .ok (.aload_n 0, 1) := by decide +kernel
theorem dX12_takes__18 : decode cX12_takes_ 18 = .ok (.iload_n 1, 1) := by decide +kernel
theorem dX12_takes__19 : decode cX12_takes_ 19 = .ok (.invokevirtual 216, 3) := by decide +kernel
theorem dX12_takes__22 : decode cX12_takes_ 22 = .ok (.ifCond .eq 19, 3) := by decide +kernel
theorem dX12_takes__25 : decode cX12_takes_ 25 = .ok (.aload_n 0, 1) := by decide +kernel
theorem dX12_takes__26 : decode cX12_takes_ 26 = .ok (.iload_n 1, 1) := by decide +kernel
theorem dX12_takes__27 : decode cX12_takes_ 27 = .ok (.iconst 4, 1) := by decide +kernel
theorem dX12_takes__28 : decode cX12_takes_ 28 = .ok (.aload_n 0, 1) := by decide +kernel
theorem dX12_takes__29 : decode cX12_takes_ 29 = .ok (.iload_n 1, 1) := by decide +kernel
theorem dX12_takes__30 : decode cX12_takes_ 30 = .ok (.iconst 4, 1) := by decide +kernel
theorem dX12_takes__31 : decode cX12_takes_ 31 = .ok (.invokevirtual 150, 3) := by decide +kernel
theorem dX12_takes__34 : decode cX12_takes_ 34 = .ok (.iconst 1, 1) := by decide +kernel
theorem dX12_takes__35 : decode cX12_takes_ 35 = .ok (.isub, 1) := by decide +kernel
theorem dX12_takes__36 : decode cX12_takes_ 36 = .ok (.invokevirtual 174, 3) := by decide +kernel
theorem dX12_takes__39 : decode cX12_takes_ 39 = .ok (.iconst 0, 1) := by decide +kernel
theorem dX12_takes__40 : decode cX12_takes_ 40 = .ok (.ireturn, 1) := by decide +kernel
theorem dX12_takes__41 : decode cX12_takes_ 41 = .ok (.iconst 1, 1) := by decide +kernel
theorem dX12_takes__42 : decode cX12_takes_ 42 = .ok (.ireturn, 1) := by decide +kernel
theorem dX12_looksAt_0 : decode cX12_looksAt 0 = .ok (.iload_n 3, 1) := by decide +kernel
theorem dX12_looksAt_1 : decode cX12_looksAt 1 = .ok (.ifCond .eq 34, 3) := by decide +kernel
theorem dX12_looksAt_4 : decode cX12_looksAt 4 = .ok (.aload_n 0, 1) := by decide +kernel
theorem dX12_looksAt_5 : decode cX12_looksAt 5 = .ok (.iload_n 1, 1) := by decide +kernel
theorem dX12_looksAt_6 : decode cX12_looksAt 6 = .ok (.invokevirtual 191, 3) := by decide +kernel
theorem dX12_looksAt_9 : decode cX12_looksAt 9 = .ok (.ifCond .ne 22, 3) := by decide +kernel
theorem dX12_looksAt_12 : decode cX12_looksAt 12 = .ok (.aload_n 0, 1) := by decide +kernel
theorem dX12_looksAt_13 : decode cX12_looksAt 13 = .ok (.getfield 249, 3) := by decide +kernel
theorem dX12_looksAt_16 : decode cX12_looksAt 16 = .ok (.ifCond .lt 11, 3) := by decide +kernel
theorem dX12_looksAt_19 : decode cX12_looksAt 19 = .ok (.iload_n 2, 1) := by decide +kernel
theorem dX12_looksAt_20 : decode cX12_looksAt 20 = .ok (.aload_n 0, 1) := by decide +kernel
theorem dX12_looksAt_21 : decode cX12_looksAt 21 = .ok (.getfield 249, 3) := by decide +kernel
theorem dX12_looksAt_24 : decode cX12_looksAt 24 = .ok (.if_icmp .ge 7, 3) := by decide +kernel
theorem dX12_looksAt_27 : decode cX12_looksAt 27 = .ok (.iconst 1, 1) := by decide +kernel
theorem dX12_looksAt_28 : decode cX12_looksAt 28 = .ok (.goto 20, 3) := by decide +kernel
theorem dX12_looksAt_31 : decode cX12_looksAt 31 = .ok (.iconst 0, 1) := by decide +kernel
theorem dX12_looksAt_32 : decode cX12_looksAt 32 = .ok (.goto 16, 3) := by decide +kernel
theorem dX12_looksAt_35 : decode cX12_looksAt 35 = .ok (.iload_n 2, 1) := by decide +kernel
theorem dX12_looksAt_36 : decode cX12_looksAt 36 = .ok (.aload_n 0, 1) := by decide +kernel
theorem dX12_looksAt_37 : decode cX12_looksAt 37 = .ok (.getfield 249, 3) := by decide +kernel
theorem dX12_looksAt_40 : decode cX12_looksAt 40 = .ok (.if_icmp .le 7, 3) := by decide +kernel
theorem dX12_looksAt_43 : decode cX12_looksAt 43 = .ok (.iconst 1, 1) := by decide +kernel
theorem dX12_looksAt_44 : decode cX12_looksAt 44 = .ok (.goto 4, 3) := by decide +kernel
theorem dX12_looksAt_47 : decode cX12_looksAt 47 = .ok (.iconst 0, 1) := by decide +kernel
theorem dX12_looksAt_48 : decode cX12_looksAt 48 = .ok (.istore 4, 2) := by decide +kernel
theorem dX12_looksAt_50 : decode cX12_looksAt 50 = .ok (.iload 4, 2) := by decide +kernel
theorem dX12_looksAt_52 : decode cX12_looksAt 52 = .ok (.ifCond .eq 37, 3) := by decide +kernel
theorem dX12_looksAt_55 : decode cX12_looksAt 55 = .ok (.aload_n 0, 1) := by decide +kernel
theorem dX12_looksAt_56 : decode cX12_looksAt 56 = .ok (.iload_n 2, 1) := by decide +kernel
theorem dX12_looksAt_57 : decode cX12_looksAt 57 = .ok (.putfield 249, 3) := by decide +kernel
theorem dX12_looksAt_60 : decode cX12_looksAt 60 = .ok (.iconst 0, 1) := by decide +kernel
theorem dX12_looksAt_61 : decode cX12_looksAt 61 = .ok (.istore 5, 2) := by decide +kernel
theorem dX12_looksAt_63 : decode cX12_looksAt 63 = .ok (.iload 5, 2) := by decide +kernel
theorem dX12_looksAt_65 : decode cX12_looksAt 65 = .ok (.iload_n 2, 1) := by decide +kernel
theorem dX12_looksAt_66 : decode cX12_looksAt 66 = .ok (.if_icmp .ge 23, 3) := by decide +kernel
theorem dX12_looksAt_69 : decode cX12_looksAt 69 = .ok (.aload_n 0, 1) := by decide +kernel
theorem dX12_looksAt_70 : decode cX12_looksAt 70 = .ok (.getfield 35, 3) := by decide +kernel
theorem dX12_looksAt_73 : decode cX12_looksAt 73 = .ok (.iload 5, 2) := by decide +kernel
theorem dX12_looksAt_75 : decode cX12_looksAt 75 = .ok (.aload_n 0, 1) := by decide +kernel
theorem dX12_looksAt_76 : decode cX12_looksAt 76 = .ok (.getfield 32, 3) := by decide +kernel
theorem dX12_looksAt_79 : decode cX12_looksAt 79 = .ok (.iload 5, 2) := by decide +kernel
theorem dX12_looksAt_81 : decode cX12_looksAt 81 = .ok (.iaload, 1) := by decide +kernel
theorem dX12_looksAt_82 : decode cX12_looksAt 82 = .ok (.iastore, 1) := by decide +kernel
theorem dX12_looksAt_83 : decode cX12_looksAt 83 = .ok (.iinc 5 1, 3) := by decide +kernel
theorem dX12_looksAt_86 : decode cX12_looksAt 86 = .ok (.goto (-23), 3) := by decide +kernel
theorem dX12_looksAt_89 : decode cX12_looksAt 89 = .ok (.return_, 1) := by decide +kernel
theorem dX12_findRow_0 : decode cX12_findRow 0 = .ok (.aload_n 0, 1) := by decide +kernel
theorem dX12_findRow_1 : decode cX12_findRow 1 = .ok (.invokevirtual 243, 3) := by decide +kernel
theorem dX12_findRow_4 : decode cX12_findRow 4 = .ok (.aload_n 0, 1) := by decide +kernel
theorem dX12_findRow_5 : decode cX12_findRow 5 = .ok (.iconst (-1), 1) := by decide +kernel
theorem dX12_findRow_6 : decode cX12_findRow 6 = .ok (.putfield 249, 3) := by decide +kernel
theorem dX12_findRow_9 : decode cX12_findRow 9 = .ok (.iconst 0, 1) := by decide +kernel
theorem dX12_findRow_10 : decode cX12_findRow 10 = .ok (.istore_n 3, 1) := by decide +kernel
theorem dX12_findRow_11 : decode cX12_findRow 11 = .ok (.aload_n 0, 1) := by decide +kernel
theorem dX12_findRow_12 : decode cX12_findRow 12 = .ok (.getfield 29, 3) := by decide +kernel
theorem dX12_findRow_15 : decode cX12_findRow 15 = .ok (.iconst 0, 1) := by decide +kernel
theorem dX12_findRow_16 : decode cX12_findRow 16 = .ok (.iconst (-1), 1) := by decide +kernel
theorem dX12_findRow_17 : decode cX12_findRow 17 = .ok (.iastore, 1) := by decide +kernel
theorem dX12_findRow_18 : decode cX12_findRow 18 = .ok (.aload_n 0, 1) := by decide +kernel
theorem dX12_findRow_19 : decode cX12_findRow 19 = .ok (.iload_n 1, 1) := by decide +kernel
theorem dX12_findRow_20 : decode cX12_findRow 20 = .ok (.iconst 0, 1) := by decide +kernel
theorem dX12_findRow_21 : decode cX12_findRow 21 = .ok (.iload_n 2, 1) := by decide +kernel
theorem dX12_findRow_22 : decode cX12_findRow 22 = .ok (.invokevirtual 252, 3) := by decide +kernel
theorem dX12_findRow_25 : decode cX12_findRow 25 = .ok (.iload_n 3, 1) := by decide +kernel
theorem dX12_findRow_26 : decode cX12_findRow 26 = .ok (.ifCond .lt 131, 3) := by decide +kernel
theorem dX12_findRow_29 : decode cX12_findRow 29 = .ok (.aload_n 0, 1) := by decide +kernel
theorem dX12_findRow_30 : decode cX12_findRow 30 = .ok (.getfield 29, 3) := by decide +kernel
theorem dX12_findRow_33 : decode cX12_findRow 33 = .ok (.iload_n 3, 1) := by decide +kernel
theorem dX12_findRow_34 : decode cX12_findRow 34 = .ok (.iaload, 1) := by decide +kernel
theorem dX12_findRow_35 : decode cX12_findRow 35 = .ok (.iconst 1, 1) := by decide +kernel
theorem dX12_findRow_36 : decode cX12_findRow 36 = .ok (.iadd, 1) := by decide +kernel
theorem dX12_findRow_37 : decode cX12_findRow 37 = .ok (.istore 4, 2) := by decide +kernel
theorem dX12_findRow_39 : decode cX12_findRow 39 = .ok (.iload 4, 2) := by decide +kernel
theorem dX12_findRow_41 : decode cX12_findRow 41 = .ok (.aload_n 0, 1) := by decide +kernel
theorem dX12_findRow_42 : decode cX12_findRow 42 = .ok (.getfield 7, 3) := by decide +kernel
theorem dX12_findRow_45 : decode cX12_findRow 45 = .ok (.iconst 0, 1) := by decide +kernel
theorem dX12_findRow_46 : decode cX12_findRow 46 = .ok (.iaload, 1) := by decide +kernel
theorem dX12_findRow_47 : decode cX12_findRow 47 = .ok (.if_icmp .ge 19, 3) := by decide +kernel
theorem dX12_findRow_50 : decode cX12_findRow 50 = .ok (.aload_n 0, 1) := by decide +kernel
theorem dX12_findRow_51 : decode cX12_findRow 51 = .ok (.iload_n 1, 1) := by decide +kernel
theorem dX12_findRow_52 : decode cX12_findRow 52 = .ok (.iload 4, 2) := by decide +kernel
theorem dX12_findRow_54 : decode cX12_findRow 54 = .ok (.invokevirtual 256, 3) := by decide +kernel
theorem dX12_findRow_57 : decode cX12_findRow 57 = .ok (.ifCond .ne 9, 3) := by decide +kernel
theorem dX12_findRow_60 : decode cX12_findRow 60 = .ok (.iinc 4 1, 3) := by decide +kernel
theorem dX12_findRow_63 : decode cX12_findRow 63 = .ok (.goto (-24), 3) := by decide +kernel
theorem dX12_findRow_66 : decode cX12_findRow 66 = .ok (.aload_n 0, 1) := by decide +kernel
theorem dX12_findRow_67 : decode cX12_findRow 67 = .ok (.getfield 29, 3) := by decide +kernel
theorem dX12_findRow_70 : decode cX12_findRow 70 = .ok (.iload_n 3, 1) := by decide +kernel
theorem dX12_findRow_71 : decode cX12_findRow 71 = .ok (.iload 4, 2) := by decide +kernel
theorem dX12_findRow_73 : decode cX12_findRow 73 = .ok (.iastore, 1) := by decide +kernel
theorem dX12_findRow_74 : decode cX12_findRow 74 = .ok (.iload 4, 2) := by decide +kernel
theorem dX12_findRow_76 : decode cX12_findRow 76 = .ok (.aload_n 0, 1) := by decide +kernel
theorem dX12_findRow_77 : decode cX12_findRow 77 = .ok (.getfield 7, 3) := by decide +kernel
theorem dX12_findRow_80 : decode cX12_findRow 80 = .ok (.iconst 0, 1) := by decide +kernel
theorem dX12_findRow_81 : decode cX12_findRow 81 = .ok (.iaload, 1) := by decide +kernel
theorem dX12_findRow_82 : decode cX12_findRow 82 = .ok (.if_icmp .ge 41, 3) := by decide +kernel
theorem dX12_findRow_85 : decode cX12_findRow 85 = .ok (.aload_n 0, 1) := by decide +kernel
theorem dX12_findRow_86 : decode cX12_findRow 86 = .ok (.getfield 32, 3) := by decide +kernel
theorem dX12_findRow_89 : decode cX12_findRow 89 = .ok (.iload_n 3, 1) := by decide +kernel
theorem dX12_findRow_90 : decode cX12_findRow 90 = .ok (.iload 4, 2) := by decide +kernel
theorem dX12_findRow_92 : decode cX12_findRow 92 = .ok (.iastore, 1) := by decide +kernel
theorem dX12_findRow_93 : decode cX12_findRow 93 = .ok (.iinc 3 1, 3) := by decide +kernel
theorem dX12_findRow_96 : decode cX12_findRow 96 = .ok (.aload_n 0, 1) := by decide +kernel
theorem dX12_findRow_97 : decode cX12_findRow 97 = .ok (.getfield 7, 3) := by decide +kernel
theorem dX12_findRow_100 : decode cX12_findRow 100 = .ok (.iconst 3, 1) := by decide +kernel
theorem dX12_findRow_101 : decode cX12_findRow 101 = .ok (.dup2, 1) := by decide +kernel
theorem dX12_findRow_102 : decode cX12_findRow 102 = .ok (.iaload, 1) := by decide +kernel
theorem dX12_findRow_103 : decode cX12_findRow 103 = .ok (.iconst 1, 1) := by decide +kernel
theorem dX12_findRow_104 : decode cX12_findRow 104 = .ok (.iadd, 1) := by decide +kernel
theorem dX12_findRow_105 : decode cX12_findRow 105 = .ok (.iastore, 1) := by decide +kernel
theorem dX12_findRow_106 : decode cX12_findRow 106 = .ok (.aload_n 0, 1) := by decide +kernel
theorem dX12_findRow_107 : decode cX12_findRow 107 = .ok (.getfield 29, 3) := by decide +kernel
theorem dX12_findRow_110 : decode cX12_findRow 110 = .ok (.iload_n 3, 1) := by decide +kernel
theorem dX12_findRow_111 : decode cX12_findRow 111 = .ok (.iconst (-1), 1) := by decide +kernel
theorem dX12_findRow_112 : decode cX12_findRow 112 = .ok (.iastore, 1) := by decide +kernel
theorem dX12_findRow_113 : decode cX12_findRow 113 = .ok (.aload_n 0, 1) := by decide +kernel
theorem dX12_findRow_114 : decode cX12_findRow 114 = .ok (.iload_n 1, 1) := by decide +kernel
theorem dX12_findRow_115 : decode cX12_findRow 115 = .ok (.iload_n 3, 1) := by decide +kernel
theorem dX12_findRow_116 : decode cX12_findRow 116 = .ok (.iload_n 2, 1) := by decide +kernel
theorem dX12_findRow_117 : decode cX12_findRow 117 = .ok (.invokevirtual 252, 3) := by decide +kernel
theorem dX12_findRow_120 : decode cX12_findRow 120 = .ok (.goto 34, 3) := by decide +kernel
theorem dX12_findRow_123 : decode cX12_findRow 123 = .ok (.iinc 3 (-1), 3) := by decide +kernel
theorem dX12_findRow_126 : decode cX12_findRow 126 = .ok (.iload_n 3, 1) := by decide +kernel
theorem dX12_findRow_127 : decode cX12_findRow 127 = .ok (.ifCond .lt 27, 3) := by decide +kernel
theorem dX12_findRow_130 : decode cX12_findRow 130 = .ok (.aload_n 0, 1) := by decide +kernel
theorem dX12_findRow_131 : decode cX12_findRow 131 = .ok (.iload_n 1, 1) := by decide +kernel
theorem dX12_findRow_132 : decode cX12_findRow 132 = .ok (.iconst 4, 1) := by decide +kernel
theorem dX12_findRow_133 : decode cX12_findRow 133 = .ok (.aload_n 0, 1) := by decide +kernel
theorem dX12_findRow_134 : decode cX12_findRow 134 = .ok (.iload_n 1, 1) := by decide +kernel
theorem dX12_findRow_135 : decode cX12_findRow 135 = .ok (.iconst 4, 1) := by decide +kernel
theorem dX12_findRow_136 : decode cX12_findRow 136 = .ok (.invokevirtual 150, 3) := by decide +kernel
theorem dX12_findRow_139 : decode cX12_findRow 139 = .ok (.iconst 1, 1) := by decide +kernel
theorem dX12_findRow_140 : decode cX12_findRow 140 = .ok (.isub, 1) := by decide +kernel
theorem dX12_findRow_141 : decode cX12_findRow 141 = .ok (.invokevirtual 174, 3) := by decide +kernel
theorem dX12_findRow_144 : decode cX12_findRow 144 = .ok (.aload_n 0, 1) := by decide +kernel
theorem dX12_findRow_145 : decode cX12_findRow 145 = .ok (.getfield 7, 3) := by decide +kernel
theorem dX12_findRow_148 : decode cX12_findRow 148 = .ok (.iconst 3, 1) := by decide +kernel
theorem dX12_findRow_149 : decode cX12_findRow 149 = .ok (.dup2, 1) := by decide +kernel
theorem dX12_findRow_150 : decode cX12_findRow 150 = .ok (.iaload, 1) := by decide +kernel
theorem dX12_findRow_151 : decode cX12_findRow 151 = .ok (.iconst 1, 1) := by decide +kernel
theorem dX12_findRow_152 : decode cX12_findRow 152 = .ok (.isub, 1) := by decide +kernel
theorem dX12_findRow_153 : decode cX12_findRow 153 = .ok (.iastore, 1) := by decide +kernel
theorem dX12_findRow_154 : decode cX12_findRow 154 = .ok (.goto (-129), 3) := by decide +kernel
theorem dX12_findRow_157 : decode cX12_findRow 157 = .ok (.aload_n 0, 1) := by decide +kernel
theorem dX12_findRow_158 : decode cX12_findRow 158 = .ok (.invokevirtual 246, 3) := by decide +kernel
theorem dX12_findRow_161 : decode cX12_findRow 161 = .ok (.return_, 1) := by decide +kernel
theorem dX12_rowTold_0 : decode cX12_rowTold 0 = .ok (.aload_n 0, 1) := by decide +kernel
theorem dX12_rowTold_1 : decode cX12_rowTold 1 = .ok (.iload_n 1, 1) := by decide +kernel
theorem dX12_rowTold_2 : decode cX12_rowTold 2 = .ok (.invokevirtual 197, 3) := by decide +kernel
theorem dX12_rowTold_5 : decode cX12_rowTold 5 = .ok (.ifCond .eq 17, 3) := by decide +kernel
theorem dX12_rowTold_8 : decode cX12_rowTold 8 = .ok (.iload_n 2, 1) := by decide +kernel
theorem dX12_rowTold_9 : decode cX12_rowTold 9 = .ok (.i2l, 1) := by decide +kernel
theorem dX12_rowTold_10 : decode cX12_rowTold 10 = .ok (.ldc2_w 258, 3) := by decide +kernel
theorem dX12_rowTold_13 : decode cX12_rowTold 13 = .ok (.ldc2_w 241, 3) := by decide +kernel
theorem dX12_rowTold_16 : decode cX12_rowTold 16 = .ok (.invokestatic 57, 3) := by decide +kernel
theorem dX12_rowTold_19 : decode cX12_rowTold 19 = .ok (.ifCond .ne 9, 3) := by decide +kernel
theorem dX12_rowTold_22 : decode cX12_rowTold 22 = .ok (.aload_n 0, 1) := by decide +kernel
theorem dX12_rowTold_23 : decode cX12_rowTold 23 = .ok (.iconst 1, 1) := by decide +kernel
theorem dX12_rowTold_24 : decode cX12_rowTold 24 = .ok (.invokevirtual 119, 3) := by decide +kernel
theorem dX12_rowTold_27 : decode cX12_rowTold 27 = .ok (.ireturn, 1) := by decide +kernel
theorem dX12_rowTold_28 : decode cX12_rowTold 28 = .ok (.aload_n 0, 1) := by decide +kernel
theorem dX12_rowTold_29 : decode cX12_rowTold 29 = .ok (.iload_n 1, 1) := by decide +kernel
theorem dX12_rowTold_30 : decode cX12_rowTold 30 = .ok (.iconst 3, 1) := by decide +kernel
theorem dX12_rowTold_31 : decode cX12_rowTold 31 = .ok (.invokevirtual 150, 3) := by decide +kernel
theorem dX12_rowTold_34 : decode cX12_rowTold 34 = .ok (.iconst 1, 1) := by decide +kernel
theorem dX12_rowTold_35 : decode cX12_rowTold 35 = .ok (.if_icmp .ne 9, 3) := by decide +kernel
theorem dX12_rowTold_38 : decode cX12_rowTold 38 = .ok (.aload_n 0, 1) := by decide +kernel
theorem dX12_rowTold_39 : decode cX12_rowTold 39 = .ok (.iconst 3, 1) := by decide +kernel
theorem dX12_rowTold_40 : decode cX12_rowTold 40 = .ok (.invokevirtual 119, 3) := by decide +kernel
theorem dX12_rowTold_43 : decode cX12_rowTold 43 = .ok (.ireturn, 1) := by decide +kernel
theorem dX12_rowTold_44 : decode cX12_rowTold 44 = .ok (.aload_n 0, 1) := by decide +kernel
theorem dX12_rowTold_45 : decode cX12_rowTold 45 = .ok (.iload_n 1, 1) := by decide +kernel
theorem dX12_rowTold_46 : decode cX12_rowTold 46 = .ok (.iload_n 3, 1) := by decide +kernel
theorem dX12_rowTold_47 : decode cX12_rowTold 47 = .ok (.invokevirtual 260, 3) := by decide +kernel
theorem dX12_rowTold_50 : decode cX12_rowTold 50 = .ok (.aload_n 0, 1) := by decide +kernel
theorem dX12_rowTold_51 : decode cX12_rowTold 51 = .ok (.getfield 249, 3) := by decide +kernel
theorem dX12_rowTold_54 : decode cX12_rowTold 54 = .ok (.ifCond .lt 11, 3) := by decide +kernel
theorem dX12_rowTold_57 : decode cX12_rowTold 57 = .ok (.iload_n 2, 1) := by decide +kernel
theorem dX12_rowTold_58 : decode cX12_rowTold 58 = .ok (.aload_n 0, 1) := by decide +kernel
theorem dX12_rowTold_59 : decode cX12_rowTold 59 = .ok (.getfield 249, 3) := by decide +kernel
theorem dX12_rowTold_62 : decode cX12_rowTold 62 = .ok (.if_icmp .lt 9, 3) := by decide +kernel
theorem dX12_rowTold_65 : decode cX12_rowTold 65 = .ok (.aload_n 0, 1) := by decide +kernel
theorem dX12_rowTold_66 : decode cX12_rowTold 66 = .ok (.iconst 2, 1) := by decide +kernel
theorem dX12_rowTold_67 : decode cX12_rowTold 67 = .ok (.invokevirtual 119, 3) := by decide +kernel
theorem dX12_rowTold_70 : decode cX12_rowTold 70 = .ok (.ireturn, 1) := by decide +kernel
theorem dX12_rowTold_71 : decode cX12_rowTold 71 = .ok (.iload_n 2, 1) := by decide +kernel
theorem dX12_rowTold_72 : decode cX12_rowTold 72 = .ok (.ifCond .ge 10, 3) := by decide +kernel
theorem dX12_rowTold_75 : decode cX12_rowTold 75 = .ok (.aload_n 0, 1) := by decide +kernel
theorem dX12_rowTold_76 : decode cX12_rowTold 76 = .ok (.getfield 249, 3) := by decide +kernel
theorem dX12_rowTold_79 : decode cX12_rowTold 79 = .ok (.goto 9, 3) := by decide +kernel
theorem dX12_rowTold_82 : decode cX12_rowTold 82 = .ok (.aload_n 0, 1) := by decide +kernel
theorem dX12_rowTold_83 : decode cX12_rowTold 83 = .ok (.getfield 35, 3) := by decide +kernel
theorem dX12_rowTold_86 : decode cX12_rowTold 86 = .ok (.iload_n 2, 1) := by decide +kernel
theorem dX12_rowTold_87 : decode cX12_rowTold 87 = .ok (.iaload, 1) := by decide +kernel
theorem dX12_rowTold_88 : decode cX12_rowTold 88 = .ok (.ireturn, 1) := by decide +kernel
theorem dX12_served_0 : decode cX12_served 0 = .ok (.aload_n 0, 1) := by decide +kernel
theorem dX12_served_1 : decode cX12_served 1 = .ok (.iload_n 1, 1) := by decide +kernel
theorem dX12_served_2 : decode cX12_served 2 = .ok (.iload_n 2, 1) := by decide +kernel
theorem dX12_served_3 : decode cX12_served 3 = .ok (.iconst 0, 1) := by decide +kernel
theorem dX12_served_4 : decode cX12_served 4 = .ok (.invokevirtual 264, 3) := by decide +kernel
theorem dX12_served_7 : decode cX12_served 7 = .ok (.ireturn, 1) := by decide +kernel
theorem dX12_closed_0 : decode cX12_closed 0 = .ok (.aload_n 0, 1) := by decide +kernel
theorem dX12_closed_1 : decode cX12_closed 1 = .ok (.iload_n 1, 1) := by decide +kernel
theorem dX12_closed_2 : decode cX12_closed 2 = .ok (.iload_n 2, 1) := by decide +kernel
theorem dX12_closed_3 : decode cX12_closed 3 = .ok (.iconst 1, 1) := by decide +kernel
theorem dX12_closed_4 : decode cX12_closed 4 = .ok (.invokevirtual 264, 3) := by decide +kernel
theorem dX12_closed_7 : decode cX12_closed 7 = .ok (.ireturn, 1) := by decide +kernel
theorem dX12_clashOf_0 : decode cX12_clashOf 0 = .ok (.iload_n 1, 1) := by decide +kernel
theorem dX12_clashOf_1 : decode cX12_clashOf 1 = .ok (.i2l, 1) := by decide +kernel
theorem dX12_clashOf_2 : decode cX12_clashOf 2 = .ok (.lconst 0, 1) := by decide +kernel
theorem dX12_clashOf_3 : decode cX12_clashOf 3 = .ok (.iconst 1, 1) := by decide +kernel
theorem dX12_clashOf_4 : decode cX12_clashOf 4 = .ok (.aload_n 0, 1) := by decide +kernel
theorem dX12_clashOf_5 : decode cX12_clashOf 5 = .ok (.getfield 7, 3) := by decide +kernel
theorem dX12_clashOf_8 : decode cX12_clashOf 8 = .ok (.iconst 0, 1) := by decide +kernel
theorem dX12_clashOf_9 : decode cX12_clashOf 9 = .ok (.iaload, 1) := by decide +kernel
theorem dX12_clashOf_10 : decode cX12_clashOf 10 = .ok (.ishl, 1) := by decide +kernel
theorem dX12_clashOf_11 : decode cX12_clashOf 11 = .ok (.iconst 1, 1) := by decide +kernel
theorem dX12_clashOf_12 : decode cX12_clashOf 12 = .ok (.isub, 1) := by decide +kernel
theorem dX12_clashOf_13 : decode cX12_clashOf 13 = .ok (.i2l, 1) := by decide +kernel
theorem dX12_clashOf_14 : decode cX12_clashOf 14 = .ok (.invokestatic 57, 3) := by decide +kernel
theorem dX12_clashOf_17 : decode cX12_clashOf 17 = .ok (.ifCond .ne 9, 3) := by decide +kernel
theorem dX12_clashOf_20 : decode cX12_clashOf 20 = .ok (.aload_n 0, 1) := by decide +kernel
theorem dX12_clashOf_21 : decode cX12_clashOf 21 = .ok (.iconst 1, 1) := by decide +kernel
theorem dX12_clashOf_22 : decode cX12_clashOf 22 = .ok (.invokevirtual 119, 3) := by decide +kernel
theorem dX12_clashOf_25 : decode cX12_clashOf 25 = .ok (.ireturn, 1) := by decide +kernel
theorem dX12_clashOf_26 : decode cX12_clashOf 26 = .ok (.iconst 0, 1) := by decide +kernel
theorem dX12_clashOf_27 : decode cX12_clashOf 27 = .ok (.istore_n 2, 1) := by decide +kernel
theorem dX12_clashOf_28 : decode cX12_clashOf 28 = .ok (.iload_n 2, 1) := by decide +kernel
theorem dX12_clashOf_29 : decode cX12_clashOf 29 = .ok (.aload_n 0, 1) := by decide +kernel
theorem dX12_clashOf_30 : decode cX12_clashOf 30 = .ok (.getfield 7, 3) := by decide +kernel
theorem dX12_clashOf_33 : decode cX12_clashOf 33 = .ok (.iconst 0, 1) := by decide +kernel
theorem dX12_clashOf_34 : decode cX12_clashOf 34 = .ok (.iaload, 1) := by decide +kernel
theorem dX12_clashOf_35 : decode cX12_clashOf 35 = .ok (.if_icmp .ge 68, 3) := by decide +kernel
theorem dX12_clashOf_38 : decode cX12_clashOf 38 = .ok (.iload_n 2, 1) := by decide +kernel
theorem dX12_clashOf_39 : decode cX12_clashOf 39 = .ok (.iconst 1, 1) := by decide +kernel
theorem dX12_clashOf_40 : decode cX12_clashOf 40 = .ok (.iadd, 1) := by decide +kernel
theorem dX12_clashOf_41 : decode cX12_clashOf 41 = .ok (.istore_n 3, 1) := by decide +kernel
theorem dX12_clashOf_42 : decode cX12_clashOf 42 = .ok (.iload_n 3, 1) := by decide +kernel
theorem dX12_clashOf_43 : decode cX12_clashOf 43 = .ok (.aload_n 0, 1) := by decide +kernel
theorem dX12_clashOf_44 : decode cX12_clashOf 44 = .ok (.getfield 7, 3) := by decide +kernel
theorem dX12_clashOf_47 : decode cX12_clashOf 47 = .ok (.iconst 0, 1) := by decide +kernel
theorem dX12_clashOf_48 : decode cX12_clashOf 48 = .ok (.iaload, 1) := by decide +kernel
theorem dX12_clashOf_49 : decode cX12_clashOf 49 = .ok (.if_icmp .ge 48, 3) := by decide +kernel
theorem dX12_clashOf_52 : decode cX12_clashOf 52 = .ok (.iload_n 1, 1) := by decide +kernel
theorem dX12_clashOf_53 : decode cX12_clashOf 53 = .ok (.iload_n 2, 1) := by decide +kernel
theorem dX12_clashOf_54 : decode cX12_clashOf 54 = .ok (.ishr, 1) := by decide +kernel
theorem dX12_clashOf_55 : decode cX12_clashOf 55 = .ok (.iconst 1, 1) := by decide +kernel
theorem dX12_clashOf_56 : decode cX12_clashOf 56 = .ok (.iand, 1) := by decide +kernel
theorem dX12_clashOf_57 : decode cX12_clashOf 57 = .ok (.iconst 1, 1) := by decide +kernel
theorem dX12_clashOf_58 : decode cX12_clashOf 58 = .ok (.if_icmp .ne 33, 3) := by decide +kernel
theorem dX12_clashOf_61 : decode cX12_clashOf 61 = .ok (.iload_n 1, 1) := by decide +kernel
theorem dX12_clashOf_62 : decode cX12_clashOf 62 = .ok (.iload_n 3, 1) := by decide +kernel
theorem dX12_clashOf_63 : decode cX12_clashOf 63 = .ok (.ishr, 1) := by decide +kernel
theorem dX12_clashOf_64 : decode cX12_clashOf 64 = .ok (.iconst 1, 1) := by decide +kernel
theorem dX12_clashOf_65 : decode cX12_clashOf 65 = .ok (.iand, 1) := by decide +kernel
theorem dX12_clashOf_66 : decode cX12_clashOf 66 = .ok (.iconst 1, 1) := by decide +kernel
theorem dX12_clashOf_67 : decode cX12_clashOf 67 = .ok (.if_icmp .ne 24, 3) := by decide +kernel
theorem dX12_clashOf_70 : decode cX12_clashOf 70 = .ok (.aload_n 0, 1) := by decide +kernel
theorem dX12_clashOf_71 : decode cX12_clashOf 71 = .ok (.iload_n 2, 1) := by decide +kernel
theorem dX12_clashOf_72 : decode cX12_clashOf 72 = .ok (.iconst 1, 1) := by decide +kernel
theorem dX12_clashOf_73 : decode cX12_clashOf 73 = .ok (.invokevirtual 144, 3) := by decide +kernel
theorem dX12_clashOf_76 : decode cX12_clashOf 76 = .ok (.iload_n 3, 1) := by decide +kernel
theorem dX12_clashOf_77 : decode cX12_clashOf 77 = .ok (.ishr, 1) := by decide +kernel
theorem dX12_clashOf_78 : decode cX12_clashOf 78 = .ok (.iconst 1, 1) := by decide +kernel
theorem dX12_clashOf_79 : decode cX12_clashOf 79 = .ok (.iand, 1) := by decide +kernel
theorem dX12_clashOf_80 : decode cX12_clashOf 80 = .ok (.iconst 1, 1) := by decide +kernel
theorem dX12_clashOf_81 : decode cX12_clashOf 81 = .ok (.if_icmp .ne 10, 3) := by decide +kernel
theorem dX12_clashOf_84 : decode cX12_clashOf 84 = .ok (.bipush 10, 2) := by decide +kernel
theorem dX12_clashOf_86 : decode cX12_clashOf 86 = .ok (.iload_n 2, 1) := by decide +kernel
theorem dX12_clashOf_87 : decode cX12_clashOf 87 = .ok (.imul, 1) := by decide +kernel
theorem dX12_clashOf_88 : decode cX12_clashOf 88 = .ok (.iload_n 3, 1) := by decide +kernel
theorem dX12_clashOf_89 : decode cX12_clashOf 89 = .ok (.iadd, 1) := by decide +kernel
theorem dX12_clashOf_90 : decode cX12_clashOf 90 = .ok (.ireturn, 1) := by decide +kernel
theorem dX12_clashOf_91 : decode cX12_clashOf 91 = .ok (.iinc 3 1, 3) := by decide +kernel
theorem dX12_clashOf_94 : decode cX12_clashOf 94 = .ok (.goto (-52), 3) := by decide +kernel
theorem dX12_clashOf_97 : decode cX12_clashOf 97 = .ok (.iinc 2 1, 3) := by decide +kernel
theorem dX12_clashOf_100 : decode cX12_clashOf 100 = .ok (.goto (-72), 3) := by decide +kernel
theorem dX12_clashOf_103 : decode cX12_clashOf 103 = .ok (.aload_n 0, 1) := by decide +kernel
theorem dX12_clashOf_104 : decode cX12_clashOf 104 = .ok (.iconst 2, 1) := by decide +kernel
theorem dX12_clashOf_105 : decode cX12_clashOf 105 = .ok (.invokevirtual 119, 3) := by decide +kernel
theorem dX12_clashOf_108 : decode cX12_clashOf 108 = .ok (.ireturn, 1) := by decide +kernel
theorem dX12_joined_0 : decode cX12_joined 0 = .ok (.aload_n 0, 1) := by decide +kernel
theorem dX12_joined_1 : decode cX12_joined 1 = .ok (.iload_n 1, 1) := by decide +kernel
theorem dX12_joined_2 : decode cX12_joined 2 = .ok (.invokevirtual 197, 3) := by decide +kernel
theorem dX12_joined_5 : decode cX12_joined 5 = .ok (.ifCond .eq 16, 3) := by decide +kernel
theorem dX12_joined_8 : decode cX12_joined 8 = .ok (.aload_n 0, 1) := by decide +kernel
theorem dX12_joined_9 : decode cX12_joined 9 = .ok (.iload_n 2, 1) := by decide +kernel
theorem dX12_joined_10 : decode cX12_joined 10 = .ok (.invokevirtual 197, 3) := by decide +kernel
theorem dX12_joined_13 : decode cX12_joined 13 = .ok (.ifCond .eq 8, 3) := by decide +kernel
theorem dX12_joined_16 : decode cX12_joined 16 = .ok (.iload_n 1, 1) := by decide +kernel
theorem dX12_joined_17 : decode cX12_joined 17 = .ok (.iload_n 2, 1) := by decide +kernel
theorem dX12_joined_18 : decode cX12_joined 18 = .ok (.if_icmp .ne 9, 3) := by decide +kernel
theorem dX12_joined_21 : decode cX12_joined 21 = .ok (.aload_n 0, 1) := by decide +kernel
theorem dX12_joined_22 : decode cX12_joined 22 = .ok (.iconst 1, 1) := by decide +kernel
theorem dX12_joined_23 : decode cX12_joined 23 = .ok (.invokevirtual 119, 3) := by decide +kernel
theorem dX12_joined_26 : decode cX12_joined 26 = .ok (.ireturn, 1) := by decide +kernel
theorem dX12_joined_27 : decode cX12_joined 27 = .ok (.aload_n 0, 1) := by decide +kernel
theorem dX12_joined_28 : decode cX12_joined 28 = .ok (.iload_n 1, 1) := by decide +kernel
theorem dX12_joined_29 : decode cX12_joined 29 = .ok (.invokevirtual 153, 3) := by decide +kernel
theorem dX12_joined_32 : decode cX12_joined 32 = .ok (.istore_n 3, 1) := by decide +kernel
theorem dX12_joined_33 : decode cX12_joined 33 = .ok (.aload_n 0, 1) := by decide +kernel
theorem dX12_joined_34 : decode cX12_joined 34 = .ok (.iload_n 2, 1) := by decide +kernel
theorem dX12_joined_35 : decode cX12_joined 35 = .ok (.invokevirtual 153, 3) := by decide +kernel
theorem dX12_joined_38 : decode cX12_joined 38 = .ok (.istore 4, 2) := by decide +kernel
theorem dX12_joined_40 : decode cX12_joined 40 = .ok (.iconst 0, 1) := by decide +kernel
theorem dX12_joined_41 : decode cX12_joined 41 = .ok (.istore 5, 2) := by decide +kernel
theorem dX12_joined_43 : decode cX12_joined 43 = .ok (.iload 5, 2) := by decide +kernel
theorem dX12_joined_45 : decode cX12_joined 45 = .ok (.aload_n 0, 1) := by decide +kernel
theorem dX12_joined_46 : decode cX12_joined 46 = .ok (.getfield 7, 3) := by decide +kernel
theorem dX12_joined_49 : decode cX12_joined 49 = .ok (.iconst 0, 1) := by decide +kernel
theorem dX12_joined_50 : decode cX12_joined 50 = .ok (.iaload, 1) := by decide +kernel
theorem dX12_joined_51 : decode cX12_joined 51 = .ok (.if_icmp .ge 38, 3) := by decide +kernel
theorem dX12_joined_54 : decode cX12_joined 54 = .ok (.iload_n 3, 1) := by decide +kernel
theorem dX12_joined_55 : decode cX12_joined 55 = .ok (.iload 5, 2) := by decide +kernel
theorem dX12_joined_57 : decode cX12_joined 57 = .ok (.ishr, 1) := by decide +kernel
theorem dX12_joined_58 : decode cX12_joined 58 = .ok (.iconst 1, 1) := by decide +kernel
theorem dX12_joined_59 : decode cX12_joined 59 = .ok (.iand, 1) := by decide +kernel
theorem dX12_joined_60 : decode cX12_joined 60 = .ok (.iconst 1, 1) := by decide +kernel
theorem dX12_joined_61 : decode cX12_joined 61 = .ok (.if_icmp .ne 22, 3) := by decide +kernel
theorem dX12_joined_64 : decode cX12_joined 64 = .ok (.aload_n 0, 1) := by decide +kernel
theorem dX12_joined_65 : decode cX12_joined 65 = .ok (.iload 5, 2) := by decide +kernel
theorem dX12_joined_67 : decode cX12_joined 67 = .ok (.iconst 1, 1) := by decide +kernel
theorem dX12_joined_68 : decode cX12_joined 68 = .ok (.invokevirtual 144, 3) := by decide +kernel
theorem dX12_joined_71 : decode cX12_joined 71 = .ok (.iload 4, 2) := by decide +kernel
theorem dX12_joined_73 : decode cX12_joined 73 = .ok (.iand, 1) := by decide +kernel
theorem dX12_joined_74 : decode cX12_joined 74 = .ok (.ifCond .eq 9, 3) := by decide +kernel
theorem dX12_joined_77 : decode cX12_joined 77 = .ok (.aload_n 0, 1) := by decide +kernel
theorem dX12_joined_78 : decode cX12_joined 78 = .ok (.iconst 2, 1) := by decide +kernel
theorem dX12_joined_79 : decode cX12_joined 79 = .ok (.invokevirtual 119, 3) := by decide +kernel
theorem dX12_joined_82 : decode cX12_joined 82 = .ok (.ireturn, 1) := by decide +kernel
theorem dX12_joined_83 : decode cX12_joined 83 = .ok (.iinc 5 1, 3) := by decide +kernel
theorem dX12_joined_86 : decode cX12_joined 86 = .ok (.goto (-43), 3) := by decide +kernel
theorem dX12_joined_89 : decode cX12_joined 89 = .ok (.iload_n 3, 1) := by decide +kernel
theorem dX12_joined_90 : decode cX12_joined 90 = .ok (.iload 4, 2) := by decide +kernel
theorem dX12_joined_92 : decode cX12_joined 92 = .ok (.ior, 1) := by decide +kernel
theorem dX12_joined_93 : decode cX12_joined 93 = .ok (.ireturn, 1) := by decide +kernel
theorem dX12_ratedBy_0 : decode cX12_ratedBy 0 = .ok (.aload_n 0, 1) := by decide +kernel
theorem dX12_ratedBy_1 : decode cX12_ratedBy 1 = .ok (.iload_n 1, 1) := by decide +kernel
theorem dX12_ratedBy_2 : decode cX12_ratedBy 2 = .ok (.putfield 25, 3) := by decide +kernel
theorem dX12_ratedBy_5 : decode cX12_ratedBy 5 = .ok (.aload_n 0, 1) := by decide +kernel
theorem dX12_ratedBy_6 : decode cX12_ratedBy 6 = .ok (.iload_n 2, 1) := by decide +kernel
theorem dX12_ratedBy_7 : decode cX12_ratedBy 7 = .ok (.putfield 168, 3) := by decide +kernel
theorem dX12_ratedBy_10 : decode cX12_ratedBy 10 = .ok (.aload_n 0, 1) := by decide +kernel
theorem dX12_ratedBy_11 : decode cX12_ratedBy 11 = .ok (.invokevirtual 243, 3) := by decide +kernel
theorem dX12_ratedBy_14 : decode cX12_ratedBy 14 = .ok (.iconst 0, 1) := by decide +kernel
theorem dX12_ratedBy_15 : decode cX12_ratedBy 15 = .ok (.istore_n 3, 1) := by decide +kernel
theorem dX12_ratedBy_16 : decode cX12_ratedBy 16 = .ok (.iload_n 3, 1) := by decide +kernel
theorem dX12_ratedBy_17 : decode cX12_ratedBy 17 = .ok (.bipush 60, 2) := by decide +kernel
theorem dX12_ratedBy_19 : decode cX12_ratedBy 19 = .ok (.if_icmp .gt 22, 3) := by decide +kernel
theorem dX12_ratedBy_22 : decode cX12_ratedBy 22 = .ok (.aload_n 0, 1) := by decide +kernel
theorem dX12_ratedBy_23 : decode cX12_ratedBy 23 = .ok (.iload_n 1, 1) := by decide +kernel
theorem dX12_ratedBy_24 : decode cX12_ratedBy 24 = .ok (.iconst 2, 1) := by decide +kernel
theorem dX12_ratedBy_25 : decode cX12_ratedBy 25 = .ok (.invokevirtual 150, 3) := by decide +kernel
theorem dX12_ratedBy_28 : decode cX12_ratedBy 28 = .ok (.ifCond .le 13, 3) := by decide +kernel
theorem dX12_ratedBy_31 : decode cX12_ratedBy 31 = .ok (.aload_n 0, 1) := by decide +kernel
theorem dX12_ratedBy_32 : decode cX12_ratedBy 32 = .ok (.invokevirtual 229, 3) := by decide +kernel
theorem dX12_ratedBy_35 : decode cX12_ratedBy 35 = .ok (.iinc 3 1, 3) := by decide +kernel
theorem dX12_ratedBy_38 : decode cX12_ratedBy 38 = .ok (.goto (-22), 3) := by decide +kernel
theorem dX12_ratedBy_41 : decode cX12_ratedBy 41 = .ok (.aload_n 0, 1) := by decide +kernel
theorem dX12_ratedBy_42 : decode cX12_ratedBy 42 = .ok (.invokevirtual 246, 3) := by decide +kernel
theorem dX12_ratedBy_45 : decode cX12_ratedBy 45 = .ok (.aload_n 0, 1) := by decide +kernel
theorem dX12_ratedBy_46 : decode cX12_ratedBy 46 = .ok (.iconst (-1), 1) := by decide +kernel
theorem dX12_ratedBy_47 : decode cX12_ratedBy 47 = .ok (.putfield 25, 3) := by decide +kernel
theorem dX12_ratedBy_50 : decode cX12_ratedBy 50 = .ok (.iload_n 3, 1) := by decide +kernel
theorem dX12_ratedBy_51 : decode cX12_ratedBy 51 = .ok (.bipush 60, 2) := by decide +kernel
theorem dX12_ratedBy_53 : decode cX12_ratedBy 53 = .ok (.if_icmp .le 7, 3) := by decide +kernel
theorem dX12_ratedBy_56 : decode cX12_ratedBy 56 = .ok (.iconst (-1), 1) := by decide +kernel
theorem dX12_ratedBy_57 : decode cX12_ratedBy 57 = .ok (.goto 4, 3) := by decide +kernel
theorem dX12_ratedBy_60 : decode cX12_ratedBy 60 = .ok (.iload_n 3, 1) := by decide +kernel
theorem dX12_ratedBy_61 : decode cX12_ratedBy 61 = .ok (.ireturn, 1) := by decide +kernel
theorem dX12_rated_0 : decode cX12_rated 0 = .ok (.aload_n 0, 1) := by decide +kernel
theorem dX12_rated_1 : decode cX12_rated 1 = .ok (.iload_n 1, 1) := by decide +kernel
theorem dX12_rated_2 : decode cX12_rated 2 = .ok (.invokevirtual 197, 3) := by decide +kernel
theorem dX12_rated_5 : decode cX12_rated 5 = .ok (.ifCond .eq 25, 3) := by decide +kernel
theorem dX12_rated_8 : decode cX12_rated 8 = .ok (.iload_n 2, 1) := by decide +kernel
theorem dX12_rated_9 : decode cX12_rated 9 = .ok (.i2l, 1) := by decide +kernel
theorem dX12_rated_10 : decode cX12_rated 10 = .ok (.lconst 1, 1) := by decide +kernel
theorem dX12_rated_11 : decode cX12_rated 11 = .ok (.ldc2_w 268, 3) := by decide +kernel
theorem dX12_rated_14 : decode cX12_rated 14 = .ok (.invokestatic 57, 3) := by decide +kernel
theorem dX12_rated_17 : decode cX12_rated 17 = .ok (.ifCond .eq 13, 3) := by decide +kernel
theorem dX12_rated_20 : decode cX12_rated 20 = .ok (.iload_n 3, 1) := by decide +kernel
theorem dX12_rated_21 : decode cX12_rated 21 = .ok (.i2l, 1) := by decide +kernel
theorem dX12_rated_22 : decode cX12_rated 22 = .ok (.lconst 0, 1) := by decide +kernel
theorem dX12_rated_23 : decode cX12_rated 23 = .ok (.lconst 1, 1) := by decide +kernel
theorem dX12_rated_24 : decode cX12_rated 24 = .ok (.invokestatic 57, 3) := by decide +kernel
theorem dX12_rated_27 : decode cX12_rated 27 = .ok (.ifCond .ne 9, 3) := by decide +kernel
theorem dX12_rated_30 : decode cX12_rated 30 = .ok (.aload_n 0, 1) := by decide +kernel
theorem dX12_rated_31 : decode cX12_rated 31 = .ok (.iconst 1, 1) := by decide +kernel
theorem dX12_rated_32 : decode cX12_rated 32 = .ok (.invokevirtual 119, 3) := by decide +kernel
theorem dX12_rated_35 : decode cX12_rated 35 = .ok (.ireturn, 1) := by decide +kernel
theorem dX12_rated_36 : decode cX12_rated 36 = .ok (.iload_n 3, 1) := by decide +kernel
theorem dX12_rated_37 : decode cX12_rated 37 = .ok (.ifCond .ne 27, 3) := by decide +kernel
theorem dX12_rated_40 : decode cX12_rated 40 = .ok (.aload_n 0, 1) := by decide +kernel
theorem dX12_rated_41 : decode cX12_rated 41 = .ok (.iload_n 1, 1) := by decide +kernel
theorem dX12_rated_42 : decode cX12_rated 42 = .ok (.iload_n 2, 1) := by decide +kernel
theorem dX12_rated_43 : decode cX12_rated 43 = .ok (.invokevirtual 270, 3) := by decide +kernel
theorem dX12_rated_46 : decode cX12_rated 46 = .ok (.istore 4, 2) := by decide +kernel
theorem dX12_rated_48 : decode cX12_rated 48 = .ok (.iload 4, 2) := by decide +kernel
theorem dX12_rated_50 : decode cX12_rated 50 = .ok (.ifCond .ge 11, 3) := by decide +kernel
theorem dX12_rated_53 : decode cX12_rated 53 = .ok (.aload_n 0, 1) := by decide +kernel
theorem dX12_rated_54 : decode cX12_rated 54 = .ok (.iconst 2, 1) := by decide +kernel
theorem dX12_rated_55 : decode cX12_rated 55 = .ok (.invokevirtual 119, 3) := by decide +kernel
theorem dX12_rated_58 : decode cX12_rated 58 = .ok (.goto 5, 3) := by decide +kernel
theorem dX12_rated_61 : decode cX12_rated 61 = .ok (.iload 4, 2) := by decide +kernel
theorem dX12_rated_63 : decode cX12_rated 63 = .ok (.ireturn, 1) := by decide +kernel
theorem dX12_rated_64 : decode cX12_rated 64 = .ok (.iconst (-1), 1) := by decide +kernel
theorem dX12_rated_65 : decode cX12_rated 65 = .ok (.istore 4, 2) := by decide +kernel
theorem dX12_rated_67 : decode cX12_rated 67 = .ok (.iconst 0, 1) := by decide +kernel
theorem dX12_rated_68 : decode cX12_rated 68 = .ok (.istore 5, 2) := by decide +kernel
theorem dX12_rated_70 : decode cX12_rated 70 = .ok (.iconst 1, 1) := by decide +kernel
theorem dX12_rated_71 : decode cX12_rated 71 = .ok (.istore 6, 2) := by decide +kernel
theorem dX12_rated_73 : decode cX12_rated 73 = .ok (.iload 6, 2) := by decide +kernel
theorem dX12_rated_75 : decode cX12_rated 75 = .ok (.iconst 4, 1) := by decide +kernel
theorem dX12_rated_76 : decode cX12_rated 76 = .ok (.if_icmp .gt 43, 3) := by decide +kernel
theorem dX12_rated_79 : decode cX12_rated 79 = .ok (.aload_n 0, 1) := by decide +kernel
theorem dX12_rated_80 : decode cX12_rated 80 = .ok (.iload_n 1, 1) := by decide +kernel
theorem dX12_rated_81 : decode cX12_rated 81 = .ok (.iload 6, 2) := by decide +kernel
theorem dX12_rated_83 : decode cX12_rated 83 = .ok (.invokevirtual 270, 3) := by decide +kernel
theorem dX12_rated_86 : decode cX12_rated 86 = .ok (.istore 7, 2) := by decide +kernel
theorem dX12_rated_88 : decode cX12_rated 88 = .ok (.iload 7, 2) := by decide +kernel
theorem dX12_rated_90 : decode cX12_rated 90 = .ok (.ifCond .lt 23, 3) := by decide +kernel
theorem dX12_rated_93 : decode cX12_rated 93 = .ok (.iload 4, 2) := by decide +kernel
theorem dX12_rated_95 : decode cX12_rated 95 = .ok (.ifCond .lt 10, 3) := by decide +kernel
theorem dX12_rated_98 : decode cX12_rated 98 = .ok (.iload 7, 2) := by decide +kernel
theorem dX12_rated_100 : decode cX12_rated 100 = .ok (.iload 5, 2) := by decide +kernel
theorem dX12_rated_102 : decode cX12_rated 102 = .ok (.if_icmp .ge 11, 3) := by decide +kernel
theorem dX12_rated_105 : decode cX12_rated 105 = .ok (.iload 6, 2) := by decide +kernel
theorem dX12_rated_107 : decode cX12_rated 107 = .ok (.istore 4, 2) := by decide +kernel
theorem dX12_rated_109 : decode cX12_rated 109 = .ok (.iload 7, 2) := by decide +kernel
theorem dX12_rated_111 : decode cX12_rated 111 = .ok (.istore 5, 2) := by decide +kernel
theorem dX12_rated_113 : decode cX12_rated 113 = .ok (.iinc 6 1, 3) := by decide +kernel
theorem dX12_rated_116 : decode cX12_rated 116 = .ok (.goto (-43), 3) := by decide +kernel
theorem dX12_rated_119 : decode cX12_rated 119 = .ok (.iload 4, 2) := by decide +kernel
theorem dX12_rated_121 : decode cX12_rated 121 = .ok (.ifCond .ge 11, 3) := by decide +kernel
theorem dX12_rated_124 : decode cX12_rated 124 = .ok (.aload_n 0, 1) := by decide +kernel
theorem dX12_rated_125 : decode cX12_rated 125 = .ok (.iconst 2, 1) := by decide +kernel
theorem dX12_rated_126 : decode cX12_rated 126 = .ok (.invokevirtual 119, 3) := by decide +kernel
theorem dX12_rated_129 : decode cX12_rated 129 = .ok (.goto 5, 3) := by decide +kernel
theorem dX12_rated_132 : decode cX12_rated 132 = .ok (.iload 4, 2) := by decide +kernel
theorem dX12_rated_134 : decode cX12_rated 134 = .ok (.ireturn, 1) := by decide +kernel
theorem dX12_begins_0 : decode cX12_begins 0 = .ok (.aload_n 0, 1) := by decide +kernel
theorem dX12_begins_1 : decode cX12_begins 1 = .ok (.invokevirtual 243, 3) := by decide +kernel
theorem dX12_begins_4 : decode cX12_begins 4 = .ok (.aload_n 0, 1) := by decide +kernel
theorem dX12_begins_5 : decode cX12_begins 5 = .ok (.iload_n 1, 1) := by decide +kernel
theorem dX12_begins_6 : decode cX12_begins 6 = .ok (.iconst 4, 1) := by decide +kernel
theorem dX12_begins_7 : decode cX12_begins 7 = .ok (.invokevirtual 150, 3) := by decide +kernel
theorem dX12_begins_10 : decode cX12_begins 10 = .ok (.istore_n 3, 1) := by decide +kernel
theorem dX12_begins_11 : decode cX12_begins 11 = .ok (.iconst 0, 1) := by decide +kernel
theorem dX12_begins_12 : decode cX12_begins 12 = .ok (.istore 4, 2) := by decide +kernel
theorem dX12_begins_14 : decode cX12_begins 14 = .ok (.iload 4, 2) := by decide +kernel
theorem dX12_begins_16 : decode cX12_begins 16 = .ok (.bipush 60, 2) := by decide +kernel
theorem dX12_begins_18 : decode cX12_begins 18 = .ok (.if_icmp .ge 13, 3) := by decide +kernel
theorem dX12_begins_21 : decode cX12_begins 21 = .ok (.aload_n 0, 1) := by decide +kernel
theorem dX12_begins_22 : decode cX12_begins 22 = .ok (.invokevirtual 229, 3) := by decide +kernel
theorem dX12_begins_25 : decode cX12_begins 25 = .ok (.iinc 4 1, 3) := by decide +kernel
theorem dX12_begins_28 : decode cX12_begins 28 = .ok (.goto (-14), 3) := by decide +kernel
theorem dX12_begins_31 : decode cX12_begins 31 = .ok (.aload_n 0, 1) := by decide +kernel
theorem dX12_begins_32 : decode cX12_begins 32 = .ok (.iload_n 1, 1) := by decide +kernel
theorem dX12_begins_33 : decode cX12_begins 33 = .ok (.iconst 4, 1) := by decide +kernel
theorem dX12_begins_34 : decode cX12_begins 34 = .ok (.invokevirtual 150, 3) := by decide +kernel
theorem dX12_begins_37 : decode cX12_begins 37 = .ok (.iload_n 3, 1) := by decide +kernel
theorem dX12_begins_38 : decode cX12_begins 38 = .ok (.isub, 1) := by decide +kernel
theorem dX12_begins_39 : decode cX12_begins 39 = .ok (.aload_n 0, 1) := by decide +kernel
theorem dX12_begins_40 : decode cX12_begins 40 = .ok (.getfield 47, 3) := by decide +kernel
theorem dX12_begins_43 : decode cX12_begins 43 = .ok (.iload_n 2, 1) := by decide +kernel
theorem dX12_begins_44 : decode cX12_begins 44 = .ok (.iaload, 1) := by decide +kernel
theorem dX12_begins_45 : decode cX12_begins 45 = .ok (.if_icmp .lt 7, 3) := by decide +kernel
theorem dX12_begins_48 : decode cX12_begins 48 = .ok (.iconst 1, 1) := by decide +kernel
theorem dX12_begins_49 : decode cX12_begins 49 = .ok (.goto 4, 3) := by decide +kernel
theorem dX12_begins_52 : decode cX12_begins 52 = .ok (.iconst 0, 1) := by decide +kernel
theorem dX12_begins_53 : decode cX12_begins 53 = .ok (.istore 4, 2) := by decide +kernel
theorem dX12_begins_55 : decode cX12_begins 55 = .ok (.iconst 0, 1) := by decide +kernel
theorem dX12_begins_56 : decode cX12_begins 56 = .ok (.istore 5, 2) := by decide +kernel
theorem dX12_begins_58 : decode cX12_begins 58 = .ok (.iload 5, 2) := by decide +kernel
theorem dX12_begins_60 : decode cX12_begins 60 = .ok (.aload_n 0, 1) := by decide +kernel
theorem dX12_begins_61 : decode cX12_begins 61 = .ok (.getfield 47, 3) := by decide +kernel
theorem dX12_begins_64 : decode cX12_begins 64 = .ok (.iload_n 2, 1) := by decide +kernel
theorem dX12_begins_65 : decode cX12_begins 65 = .ok (.iaload, 1) := by decide +kernel
theorem dX12_begins_66 : decode cX12_begins 66 = .ok (.if_icmp .ge 47, 3) := by decide +kernel
theorem dX12_begins_69 : decode cX12_begins 69 = .ok (.iload 4, 2) := by decide +kernel
theorem dX12_begins_71 : decode cX12_begins 71 = .ok (.ifCond .eq 42, 3) := by decide +kernel
theorem dX12_begins_74 : decode cX12_begins 74 = .ok (.aload_n 0, 1) := by decide +kernel
theorem dX12_begins_75 : decode cX12_begins 75 = .ok (.iload_n 1, 1) := by decide +kernel
theorem dX12_begins_76 : decode cX12_begins 76 = .ok (.iconst 5, 1) := by decide +kernel
theorem dX12_begins_77 : decode cX12_begins 77 = .ok (.iload_n 3, 1) := by decide +kernel
theorem dX12_begins_78 : decode cX12_begins 78 = .ok (.iadd, 1) := by decide +kernel
theorem dX12_begins_79 : decode cX12_begins 79 = .ok (.iload 5, 2) := by decide +kernel
theorem dX12_begins_81 : decode cX12_begins 81 = .ok (.iadd, 1) := by decide +kernel
theorem dX12_begins_82 : decode cX12_begins 82 = .ok (.invokevirtual 150, 3) := by decide +kernel
theorem dX12_begins_85 : decode cX12_begins 85 = .ok (.aload_n 0, 1) := by decide +kernel
theorem dX12_begins_86 : decode cX12_begins 86 = .ok (.getfield 50, 3) := by decide +kernel
theorem dX12_begins_89 : decode cX12_begins 89 = .ok (.bipush 40, 2) := by decide +kernel
theorem dX12_begins_91 : decode cX12_begins 91 = .ok (.iload_n 2, 1) := by decide +kernel
theorem dX12_begins_92 : decode cX12_begins 92 = .ok (.imul, 1) := by decide +kernel
theorem dX12_begins_93 : decode cX12_begins 93 = .ok (.iload 5, 2) := by decide +kernel
theorem dX12_begins_95 : decode cX12_begins 95 = .ok (.iadd, 1) := by decide +kernel
theorem dX12_begins_96 : decode cX12_begins 96 = .ok (.iaload, 1) := by decide +kernel
theorem dX12_begins_97 : decode cX12_begins 97 = .ok (.if_icmp .ne 7, 3) := by decide +kernel
theorem dX12_begins_100 : decode cX12_begins 100 = .ok (.iconst 1, 1) := by decide +kernel
theorem dX12_begins_101 : decode cX12_begins 101 = .ok (.goto 4, 3) := by decide +kernel
theorem dX12_begins_104 : decode cX12_begins 104 = .ok (.iconst 0, 1) := by decide +kernel
theorem dX12_begins_105 : decode cX12_begins 105 = .ok (.istore 4, 2) := by decide +kernel
theorem dX12_begins_107 : decode cX12_begins 107 = .ok (.iinc 5 1, 3) := by decide +kernel
theorem dX12_begins_110 : decode cX12_begins 110 = .ok (.goto (-52), 3) := by decide +kernel
theorem dX12_begins_113 : decode cX12_begins 113 = .ok (.aload_n 0, 1) := by decide +kernel
theorem dX12_begins_114 : decode cX12_begins 114 = .ok (.invokevirtual 246, 3) := by decide +kernel
theorem dX12_begins_117 : decode cX12_begins 117 = .ok (.iload 4, 2) := by decide +kernel
theorem dX12_begins_119 : decode cX12_begins 119 = .ok (.ireturn, 1) := by decide +kernel
theorem dX12_explained_0 : decode cX12_explained 0 = .ok (.aload_n 0, 1) := by decide +kernel
theorem dX12_explained_1 : decode cX12_explained 1 = .ok (.iload_n 1, 1) := by decide +kernel
theorem dX12_explained_2 : decode cX12_explained 2 = .ok (.invokevirtual 197, 3) := by decide +kernel
theorem dX12_explained_5 : decode cX12_explained 5 = .ok (.ifCond .eq 10, 3) := by decide +kernel
theorem dX12_explained_8 : decode cX12_explained 8 = .ok (.iload_n 2, 1) := by decide +kernel
theorem dX12_explained_9 : decode cX12_explained 9 = .ok (.invokestatic 273, 3) := by decide +kernel
theorem dX12_explained_12 : decode cX12_explained 12 = .ok (.ifCond .ne 9, 3) := by decide +kernel
theorem dX12_explained_15 : decode cX12_explained 15 = .ok (.aload_n 0, 1) := by decide +kernel
theorem dX12_explained_16 : decode cX12_explained 16 = .ok (.iconst 1, 1) := by decide +kernel
theorem dX12_explained_17 : decode cX12_explained 17 = .ok (.invokevirtual 119, 3) := by decide +kernel
theorem dX12_explained_20 : decode cX12_explained 20 = .ok (.ireturn, 1) := by decide +kernel
theorem dX12_explained_21 : decode cX12_explained 21 = .ok (.aload_n 0, 1) := by decide +kernel
theorem dX12_explained_22 : decode cX12_explained 22 = .ok (.getfield 44, 3) := by decide +kernel
theorem dX12_explained_25 : decode cX12_explained 25 = .ok (.iload_n 2, 1) := by decide +kernel
theorem dX12_explained_26 : decode cX12_explained 26 = .ok (.iaload, 1) := by decide +kernel
theorem dX12_explained_27 : decode cX12_explained 27 = .ok (.ifCond .ne 9, 3) := by decide +kernel
theorem dX12_explained_30 : decode cX12_explained 30 = .ok (.aload_n 0, 1) := by decide +kernel
theorem dX12_explained_31 : decode cX12_explained 31 = .ok (.iconst 2, 1) := by decide +kernel
theorem dX12_explained_32 : decode cX12_explained 32 = .ok (.invokevirtual 119, 3) := by decide +kernel
theorem dX12_explained_35 : decode cX12_explained 35 = .ok (.ireturn, 1) := by decide +kernel
theorem dX12_explained_36 : decode cX12_explained 36 = .ok (.aload_n 0, 1) := by decide +kernel
theorem dX12_explained_37 : decode cX12_explained 37 = .ok (.iload_n 1, 1) := by decide +kernel
theorem dX12_explained_38 : decode cX12_explained 38 = .ok (.iconst 0, 1) := by decide +kernel
theorem dX12_explained_39 : decode cX12_explained 39 = .ok (.invokevirtual 150, 3) := by decide +kernel
theorem dX12_explained_42 : decode cX12_explained 42 = .ok (.istore_n 3, 1) := by decide +kernel
theorem dX12_explained_43 : decode cX12_explained 43 = .ok (.iconst (-1), 1) := by decide +kernel
theorem dX12_explained_44 : decode cX12_explained 44 = .ok (.istore 4, 2) := by decide +kernel
theorem dX12_explained_46 : decode cX12_explained 46 = .ok (.iconst 0, 1) := by decide +kernel
theorem dX12_explained_47 : decode cX12_explained 47 = .ok (.istore 5, 2) := by decide +kernel
theorem dX12_explained_49 : decode cX12_explained 49 = .ok (.iload 5, 2) := by decide +kernel
theorem dX12_explained_51 : decode cX12_explained 51 = .ok (.bipush 6, 2) := by decide +kernel
theorem dX12_explained_53 : decode cX12_explained 53 = .ok (.if_icmp .gt 39, 3) := by decide +kernel
theorem dX12_explained_56 : decode cX12_explained 56 = .ok (.iload 4, 2) := by decide +kernel
theorem dX12_explained_58 : decode cX12_explained 58 = .ok (.ifCond .ge 34, 3) := by decide +kernel
theorem dX12_explained_61 : decode cX12_explained 61 = .ok (.aload_n 0, 1) := by decide +kernel
theorem dX12_explained_62 : decode cX12_explained 62 = .ok (.iload_n 1, 1) := by decide +kernel
theorem dX12_explained_63 : decode cX12_explained 63 = .ok (.iconst 0, 1) := by decide +kernel
theorem dX12_explained_64 : decode cX12_explained 64 = .ok (.iload 5, 2) := by decide +kernel
theorem dX12_explained_66 : decode cX12_explained 66 = .ok (.invokevirtual 174, 3) := by decide +kernel
theorem dX12_explained_69 : decode cX12_explained 69 = .ok (.aload_n 0, 1) := by decide +kernel
theorem dX12_explained_70 : decode cX12_explained 70 = .ok (.iload_n 1, 1) := by decide +kernel
theorem dX12_explained_71 : decode cX12_explained 71 = .ok (.iload_n 2, 1) := by decide +kernel
theorem dX12_explained_72 : decode cX12_explained 72 = .ok (.invokevirtual 276, 3) := by decide +kernel
theorem dX12_explained_75 : decode cX12_explained 75 = .ok (.ifCond .eq 8, 3) := by decide +kernel
theorem dX12_explained_78 : decode cX12_explained 78 = .ok (.iload 5, 2) := by decide +kernel
theorem dX12_explained_80 : decode cX12_explained 80 = .ok (.goto 4, 3) := by decide +kernel
theorem dX12_explained_83 : decode cX12_explained 83 = .ok (.iconst (-1), 1) := by decide +kernel
theorem dX12_explained_84 : decode cX12_explained 84 = .ok (.istore 4, 2) := by decide +kernel
theorem dX12_explained_86 : decode cX12_explained 86 = .ok (.iinc 5 1, 3) := by decide +kernel
theorem dX12_explained_89 : decode cX12_explained 89 = .ok (.goto (-40), 3) := by decide +kernel
theorem dX12_explained_92 : decode cX12_explained 92 = .ok (.aload_n 0, 1) := by decide +kernel
theorem dX12_explained_93 : decode cX12_explained 93 = .ok (.iload_n 1, 1) := by decide +kernel
theorem dX12_explained_94 : decode cX12_explained 94 = .ok (.iconst 0, 1) := by decide +kernel
theorem dX12_explained_95 : decode cX12_explained 95 = .ok (.iload_n 3, 1) := by decide +kernel
theorem dX12_explained_96 : decode cX12_explained 96 = .ok (.invokevirtual 174, 3) := by decide +kernel
theorem dX12_explained_99 : decode cX12_explained 99 = .ok (.iload 4, 2) := by decide +kernel
theorem dX12_explained_101 : decode cX12_explained 101 = .ok (.ifCond .ge 11, 3) := by decide +kernel
theorem dX12_explained_104 : decode cX12_explained 104 = .ok (.aload_n 0, 1) := by decide +kernel
theorem dX12_explained_105 : decode cX12_explained 105 = .ok (.iconst 2, 1) := by decide +kernel
theorem dX12_explained_106 : decode cX12_explained 106 = .ok (.invokevirtual 119, 3) := by decide +kernel
theorem dX12_explained_109 : decode cX12_explained 109 = .ok (.goto 5, 3) := by decide +kernel
theorem dX12_explained_112 : decode cX12_explained 112 = .ok (.iload 4, 2) := by decide +kernel
theorem dX12_explained_114 : decode cX12_explained 114 = .ok (.ireturn, 1) := by decide +kernel
theorem dX12_meeting_0 : decode cX12_meeting 0 = .ok (.iload_n 1, 1) := by decide +kernel
theorem dX12_meeting_1 : decode cX12_meeting 1 = .ok (.i2l, 1) := by decide +kernel
theorem dX12_meeting_2 : decode cX12_meeting 2 = .ok (.lconst 0, 1) := by decide +kernel
theorem dX12_meeting_3 : decode cX12_meeting 3 = .ok (.ldc2_w 208, 3) := by decide +kernel
theorem dX12_meeting_6 : decode cX12_meeting 6 = .ok (.invokestatic 57, 3) := by decide +kernel
theorem dX12_meeting_9 : decode cX12_meeting 9 = .ok (.ifCond .eq 32, 3) := by decide +kernel
theorem dX12_meeting_12 : decode cX12_meeting 12 = .ok (.iload_n 2, 1) := by decide +kernel
theorem dX12_meeting_13 : decode cX12_meeting 13 = .ok (.i2l, 1) := by decide +kernel
theorem dX12_meeting_14 : decode cX12_meeting 14 = .ok (.lconst 0, 1) := by decide +kernel
theorem dX12_meeting_15 : decode cX12_meeting 15 = .ok (.ldc2_w 268, 3) := by decide +kernel
theorem dX12_meeting_18 : decode cX12_meeting 18 = .ok (.invokestatic 57, 3) := by decide +kernel
theorem dX12_meeting_21 : decode cX12_meeting 21 = .ok (.ifCond .eq 20, 3) := by decide +kernel
theorem dX12_meeting_24 : decode cX12_meeting 24 = .ok (.iload_n 3, 1) := by decide +kernel
theorem dX12_meeting_25 : decode cX12_meeting 25 = .ok (.i2l, 1) := by decide +kernel
theorem dX12_meeting_26 : decode cX12_meeting 26 = .ok (.lconst 0, 1) := by decide +kernel
theorem dX12_meeting_27 : decode cX12_meeting 27 = .ok (.ldc2_w 268, 3) := by decide +kernel
theorem dX12_meeting_30 : decode cX12_meeting 30 = .ok (.invokestatic 57, 3) := by decide +kernel
theorem dX12_meeting_33 : decode cX12_meeting 33 = .ok (.ifCond .eq 8, 3) := by decide +kernel
theorem dX12_meeting_36 : decode cX12_meeting 36 = .ok (.iload_n 2, 1) := by decide +kernel
theorem dX12_meeting_37 : decode cX12_meeting 37 = .ok (.iload_n 3, 1) := by decide +kernel
theorem dX12_meeting_38 : decode cX12_meeting 38 = .ok (.if_icmp .ne 9, 3) := by decide +kernel
theorem dX12_meeting_41 : decode cX12_meeting 41 = .ok (.aload_n 0, 1) := by decide +kernel
theorem dX12_meeting_42 : decode cX12_meeting 42 = .ok (.iconst 1, 1) := by decide +kernel
theorem dX12_meeting_43 : decode cX12_meeting 43 = .ok (.invokevirtual 119, 3) := by decide +kernel
theorem dX12_meeting_46 : decode cX12_meeting 46 = .ok (.ireturn, 1) := by decide +kernel
theorem dX12_meeting_47 : decode cX12_meeting 47 = .ok (.aload_n 0, 1) := by decide +kernel
theorem dX12_meeting_48 : decode cX12_meeting 48 = .ok (.getfield 7, 3) := by decide +kernel
theorem dX12_meeting_51 : decode cX12_meeting 51 = .ok (.iconst 2, 1) := by decide +kernel
theorem dX12_meeting_52 : decode cX12_meeting 52 = .ok (.iaload, 1) := by decide +kernel
theorem dX12_meeting_53 : decode cX12_meeting 53 = .ok (.bipush 12, 2) := by decide +kernel
theorem dX12_meeting_55 : decode cX12_meeting 55 = .ok (.if_icmp .ne 9, 3) := by decide +kernel
theorem dX12_meeting_58 : decode cX12_meeting 58 = .ok (.aload_n 0, 1) := by decide +kernel
theorem dX12_meeting_59 : decode cX12_meeting 59 = .ok (.iconst 4, 1) := by decide +kernel
theorem dX12_meeting_60 : decode cX12_meeting 60 = .ok (.invokevirtual 119, 3) := by decide +kernel
theorem dX12_meeting_63 : decode cX12_meeting 63 = .ok (.ireturn, 1) := by decide +kernel
theorem dX12_meeting_64 : decode cX12_meeting 64 = .ok (.aload_n 0, 1) := by decide +kernel
theorem dX12_meeting_65 : decode cX12_meeting 65 = .ok (.getfield 7, 3) := by decide +kernel
theorem dX12_meeting_68 : decode cX12_meeting 68 = .ok (.iconst 2, 1) := by decide +kernel
theorem dX12_meeting_69 : decode cX12_meeting 69 = .ok (.iaload, 1) := by decide +kernel
theorem dX12_meeting_70 : decode cX12_meeting 70 = .ok (.istore 4, 2) := by decide +kernel
theorem dX12_meeting_72 : decode cX12_meeting 72 = .ok (.aload_n 0, 1) := by decide +kernel
theorem dX12_meeting_73 : decode cX12_meeting 73 = .ok (.getfield 7, 3) := by decide +kernel
theorem dX12_meeting_76 : decode cX12_meeting 76 = .ok (.iconst 2, 1) := by decide +kernel
theorem dX12_meeting_77 : decode cX12_meeting 77 = .ok (.dup2, 1) := by decide +kernel
theorem dX12_meeting_78 : decode cX12_meeting 78 = .ok (.iaload, 1) := by decide +kernel
theorem dX12_meeting_79 : decode cX12_meeting 79 = .ok (.iconst 1, 1) := by decide +kernel
theorem dX12_meeting_80 : decode cX12_meeting 80 = .ok (.iadd, 1) := by decide +kernel
theorem dX12_meeting_81 : decode cX12_meeting 81 = .ok (.iastore, 1) := by decide +kernel
theorem dX12_meeting_82 : decode cX12_meeting 82 = .ok (.aload_n 0, 1) := by decide +kernel
theorem dX12_meeting_83 : decode cX12_meeting 83 = .ok (.getfield 7, 3) := by decide +kernel
theorem dX12_meeting_86 : decode cX12_meeting 86 = .ok (.sipush 134, 3) := by decide +kernel
theorem dX12_meeting_89 : decode cX12_meeting 89 = .ok (.iconst 3, 1) := by decide +kernel
theorem dX12_meeting_90 : decode cX12_meeting 90 = .ok (.iload 4, 2) := by decide +kernel
theorem dX12_meeting_92 : decode cX12_meeting 92 = .ok (.imul, 1) := by decide +kernel
theorem dX12_meeting_93 : decode cX12_meeting 93 = .ok (.iadd, 1) := by decide +kernel
theorem dX12_meeting_94 : decode cX12_meeting 94 = .ok (.iload_n 1, 1) := by decide +kernel
theorem dX12_meeting_95 : decode cX12_meeting 95 = .ok (.iastore, 1) := by decide +kernel
theorem dX12_meeting_96 : decode cX12_meeting 96 = .ok (.aload_n 0, 1) := by decide +kernel
theorem dX12_meeting_97 : decode cX12_meeting 97 = .ok (.getfield 7, 3) := by decide +kernel
theorem dX12_meeting_100 : decode cX12_meeting 100 = .ok (.sipush 134, 3) := by decide +kernel
theorem dX12_meeting_103 : decode cX12_meeting 103 = .ok (.iconst 3, 1) := by decide +kernel
theorem dX12_meeting_104 : decode cX12_meeting 104 = .ok (.iload 4, 2) := by decide +kernel
theorem dX12_meeting_106 : decode cX12_meeting 106 = .ok (.imul, 1) := by decide +kernel
theorem dX12_meeting_107 : decode cX12_meeting 107 = .ok (.iadd, 1) := by decide +kernel
theorem dX12_meeting_108 : decode cX12_meeting 108 = .ok (.iconst 1, 1) := by decide +kernel
theorem dX12_meeting_109 : decode cX12_meeting 109 = .ok (.iadd, 1) := by decide +kernel
theorem dX12_meeting_110 : decode cX12_meeting 110 = .ok (.iload_n 2, 1) := by decide +kernel
theorem dX12_meeting_111 : decode cX12_meeting 111 = .ok (.iastore, 1) := by decide +kernel
theorem dX12_meeting_112 : decode cX12_meeting 112 = .ok (.aload_n 0, 1) := by decide +kernel
theorem dX12_meeting_113 : decode cX12_meeting 113 = .ok (.getfield 7, 3) := by decide +kernel
theorem dX12_meeting_116 : decode cX12_meeting 116 = .ok (.sipush 134, 3) := by decide +kernel
theorem dX12_meeting_119 : decode cX12_meeting 119 = .ok (.iconst 3, 1) := by decide +kernel
theorem dX12_meeting_120 : decode cX12_meeting 120 = .ok (.iload 4, 2) := by decide +kernel
theorem dX12_meeting_122 : decode cX12_meeting 122 = .ok (.imul, 1) := by decide +kernel
theorem dX12_meeting_123 : decode cX12_meeting 123 = .ok (.iadd, 1) := by decide +kernel
theorem dX12_meeting_124 : decode cX12_meeting 124 = .ok (.iconst 2, 1) := by decide +kernel
theorem dX12_meeting_125 : decode cX12_meeting 125 = .ok (.iadd, 1) := by decide +kernel
theorem dX12_meeting_126 : decode cX12_meeting 126 = .ok (.iload_n 3, 1) := by decide +kernel
theorem dX12_meeting_127 : decode cX12_meeting 127 = .ok (.iastore, 1) := by decide +kernel
theorem dX12_meeting_128 : decode cX12_meeting 128 = .ok (.iload 4, 2) := by decide +kernel
theorem dX12_meeting_130 : decode cX12_meeting 130 = .ok (.ireturn, 1) := by decide +kernel
theorem dX12_saw_0 : decode cX12_saw 0 = .ok (.iconst 0, 1) := by decide +kernel
theorem dX12_saw_1 : decode cX12_saw 1 = .ok (.istore_n 3, 1) := by decide +kernel
theorem dX12_saw_2 : decode cX12_saw 2 = .ok (.iconst 0, 1) := by decide +kernel
theorem dX12_saw_3 : decode cX12_saw 3 = .ok (.istore 4, 2) := by decide +kernel
theorem dX12_saw_5 : decode cX12_saw 5 = .ok (.iload 4, 2) := by decide +kernel
theorem dX12_saw_7 : decode cX12_saw 7 = .ok (.aload_n 0, 1) := by decide +kernel
theorem dX12_saw_8 : decode cX12_saw 8 = .ok (.getfield 7, 3) := by decide +kernel
theorem dX12_saw_11 : decode cX12_saw 11 = .ok (.iconst 1, 1) := by decide +kernel
theorem dX12_saw_12 : decode cX12_saw 12 = .ok (.iaload, 1) := by decide +kernel
theorem dX12_saw_13 : decode cX12_saw 13 = .ok (.if_icmp .ge 83, 3) := by decide +kernel
theorem dX12_saw_16 : decode cX12_saw 16 = .ok (.iconst 0, 1) := by decide +kernel
theorem dX12_saw_17 : decode cX12_saw 17 = .ok (.istore 5, 2) := by decide +kernel
theorem dX12_saw_19 : decode cX12_saw 19 = .ok (.iload 5, 2) := by decide +kernel
theorem dX12_saw_21 : decode cX12_saw 21 = .ok (.aload_n 0, 1) := by decide +kernel
theorem dX12_saw_22 : decode cX12_saw 22 = .ok (.iload 4, 2) := by decide +kernel
theorem dX12_saw_24 : decode cX12_saw 24 = .ok (.iconst 4, 1) := by decide +kernel
theorem dX12_saw_25 : decode cX12_saw 25 = .ok (.invokevirtual 150, 3) := by decide +kernel
theorem dX12_saw_28 : decode cX12_saw 28 = .ok (.if_icmp .ge 62, 3) := by decide +kernel
theorem dX12_saw_31 : decode cX12_saw 31 = .ok (.aload_n 0, 1) := by decide +kernel
theorem dX12_saw_32 : decode cX12_saw 32 = .ok (.iload 4, 2) := by decide +kernel
theorem dX12_saw_34 : decode cX12_saw 34 = .ok (.iconst 5, 1) := by decide +kernel
theorem dX12_saw_35 : decode cX12_saw 35 = .ok (.iload 5, 2) := by decide +kernel
theorem dX12_saw_37 : decode cX12_saw 37 = .ok (.iadd, 1) := by decide +kernel
theorem dX12_saw_38 : decode cX12_saw 38 = .ok (.invokevirtual 150, 3) := by decide +kernel
theorem dX12_saw_41 : decode cX12_saw 41 = .ok (.istore 6, 2) := by decide +kernel
theorem dX12_saw_43 : decode cX12_saw 43 = .ok (.iload_n 3, 1) := by decide +kernel
theorem dX12_saw_44 : decode cX12_saw 44 = .ok (.aload_n 0, 1) := by decide +kernel
theorem dX12_saw_45 : decode cX12_saw 45 = .ok (.iload 4, 2) := by decide +kernel
theorem dX12_saw_47 : decode cX12_saw 47 = .ok (.bipush 13, 2) := by decide +kernel
theorem dX12_saw_49 : decode cX12_saw 49 = .ok (.iload 5, 2) := by decide +kernel
theorem dX12_saw_51 : decode cX12_saw 51 = .ok (.iadd, 1) := by decide +kernel
theorem dX12_saw_52 : decode cX12_saw 52 = .ok (.invokevirtual 150, 3) := by decide +kernel
theorem dX12_saw_55 : decode cX12_saw 55 = .ok (.iload_n 2, 1) := by decide +kernel
theorem dX12_saw_56 : decode cX12_saw 56 = .ok (.if_icmp .gt 25, 3) := by decide +kernel
theorem dX12_saw_59 : decode cX12_saw 59 = .ok (.aload_n 0, 1) := by decide +kernel
theorem dX12_saw_60 : decode cX12_saw 60 = .ok (.iload 6, 2) := by decide +kernel
theorem dX12_saw_62 : decode cX12_saw 62 = .ok (.iconst 4, 1) := by decide +kernel
theorem dX12_saw_63 : decode cX12_saw 63 = .ok (.invokevirtual 144, 3) := by decide +kernel
theorem dX12_saw_66 : decode cX12_saw 66 = .ok (.iload_n 1, 1) := by decide +kernel
theorem dX12_saw_67 : decode cX12_saw 67 = .ok (.ishr, 1) := by decide +kernel
theorem dX12_saw_68 : decode cX12_saw 68 = .ok (.iconst 1, 1) := by decide +kernel
theorem dX12_saw_69 : decode cX12_saw 69 = .ok (.iand, 1) := by decide +kernel
theorem dX12_saw_70 : decode cX12_saw 70 = .ok (.iconst 1, 1) := by decide +kernel
theorem dX12_saw_71 : decode cX12_saw 71 = .ok (.if_icmp .ne 10, 3) := by decide +kernel
theorem dX12_saw_74 : decode cX12_saw 74 = .ok (.iconst 1, 1) := by decide +kernel
theorem dX12_saw_75 : decode cX12_saw 75 = .ok (.iload 6, 2) := by decide +kernel
theorem dX12_saw_77 : decode cX12_saw 77 = .ok (.ishl, 1) := by decide +kernel
theorem dX12_saw_78 : decode cX12_saw 78 = .ok (.goto 4, 3) := by decide +kernel
theorem dX12_saw_81 : decode cX12_saw 81 = .ok (.iconst 0, 1) := by decide +kernel
theorem dX12_saw_82 : decode cX12_saw 82 = .ok (.ior, 1) := by decide +kernel
theorem dX12_saw_83 : decode cX12_saw 83 = .ok (.istore_n 3, 1) := by decide +kernel
theorem dX12_saw_84 : decode cX12_saw 84 = .ok (.iinc 5 1, 3) := by decide +kernel
theorem dX12_saw_87 : decode cX12_saw 87 = .ok (.goto (-68), 3) := by decide +kernel
theorem dX12_saw_90 : decode cX12_saw 90 = .ok (.iinc 4 1, 3) := by decide +kernel
theorem dX12_saw_93 : decode cX12_saw 93 = .ok (.goto (-88), 3) := by decide +kernel
theorem dX12_saw_96 : decode cX12_saw 96 = .ok (.iload_n 3, 1) := by decide +kernel
theorem dX12_saw_97 : decode cX12_saw 97 = .ok (.ireturn, 1) := by decide +kernel
theorem dX12_knownBy_0 : decode cX12_knownBy 0 = .ok (.iconst 0, 1) := by decide +kernel
theorem dX12_knownBy_1 : decode cX12_knownBy 1 = .ok (.istore_n 3, 1) := by decide +kernel
theorem dX12_knownBy_2 : decode cX12_knownBy 2 = .ok (.iload_n 3, 1) := by decide +kernel
theorem dX12_knownBy_3 : decode cX12_knownBy 3 = .ok (.iconst 5, 1) := by decide +kernel
theorem dX12_knownBy_4 : decode cX12_knownBy 4 = .ok (.if_icmp .ge 16, 3) := by decide +kernel
theorem dX12_knownBy_7 : decode cX12_knownBy 7 = .ok (.aload_n 0, 1) := by decide +kernel
theorem dX12_knownBy_8 : decode cX12_knownBy 8 = .ok (.getfield 38, 3) := by decide +kernel
theorem dX12_knownBy_11 : decode cX12_knownBy 11 = .ok (.iload_n 3, 1) := by decide +kernel
theorem dX12_knownBy_12 : decode cX12_knownBy 12 = .ok (.iconst 0, 1) := by decide +kernel
theorem dX12_knownBy_13 : decode cX12_knownBy 13 = .ok (.iastore, 1) := by decide +kernel
theorem dX12_knownBy_14 : decode cX12_knownBy 14 = .ok (.iinc 3 1, 3) := by decide +kernel
theorem dX12_knownBy_17 : decode cX12_knownBy 17 = .ok (.goto (-15), 3) := by decide +kernel
theorem dX12_knownBy_20 : decode cX12_knownBy 20 = .ok (.iconst (-1), 1) := by decide +kernel
theorem dX12_knownBy_21 : decode cX12_knownBy 21 = .ok (.istore_n 3, 1) := by decide +kernel
theorem dX12_knownBy_22 : decode cX12_knownBy 22 = .ok (.iconst 1, 1) := by decide +kernel
theorem dX12_knownBy_23 : decode cX12_knownBy 23 = .ok (.istore 4, 2) := by decide +kernel
theorem dX12_knownBy_25 : decode cX12_knownBy 25 = .ok (.iload 4, 2) := by decide +kernel
theorem dX12_knownBy_27 : decode cX12_knownBy 27 = .ok (.ifCond .eq 251, 3) := by decide +kernel
theorem dX12_knownBy_30 : decode cX12_knownBy 30 = .ok (.iconst (-1), 1) := by decide +kernel
theorem dX12_knownBy_31 : decode cX12_knownBy 31 = .ok (.istore 5, 2) := by decide +kernel
theorem dX12_knownBy_33 : decode cX12_knownBy 33 = .ok (.iconst 0, 1) := by decide +kernel
theorem dX12_knownBy_34 : decode cX12_knownBy 34 = .ok (.istore 6, 2) := by decide +kernel
theorem dX12_knownBy_36 : decode cX12_knownBy 36 = .ok (.iload 6, 2) := by decide +kernel
theorem dX12_knownBy_38 : decode cX12_knownBy 38 = .ok (.aload_n 0, 1) := by decide +kernel
theorem dX12_knownBy_39 : decode cX12_knownBy 39 = .ok (.getfield 7, 3) := by decide +kernel
theorem dX12_knownBy_42 : decode cX12_knownBy 42 = .ok (.iconst 2, 1) := by decide +kernel
theorem dX12_knownBy_43 : decode cX12_knownBy 43 = .ok (.iaload, 1) := by decide +kernel
theorem dX12_knownBy_44 : decode cX12_knownBy 44 = .ok (.if_icmp .ge 103, 3) := by decide +kernel
theorem dX12_knownBy_47 : decode cX12_knownBy 47 = .ok (.bipush 12, 2) := by decide +kernel
theorem dX12_knownBy_49 : decode cX12_knownBy 49 = .ok (.aload_n 0, 1) := by decide +kernel
theorem dX12_knownBy_50 : decode cX12_knownBy 50 = .ok (.getfield 7, 3) := by decide +kernel
theorem dX12_knownBy_53 : decode cX12_knownBy 53 = .ok (.sipush 134, 3) := by decide +kernel
theorem dX12_knownBy_56 : decode cX12_knownBy 56 = .ok (.iconst 3, 1) := by decide +kernel
theorem dX12_knownBy_57 : decode cX12_knownBy 57 = .ok (.iload 6, 2) := by decide +kernel
theorem dX12_knownBy_59 : decode cX12_knownBy 59 = .ok (.imul, 1) := by decide +kernel
theorem dX12_knownBy_60 : decode cX12_knownBy 60 = .ok (.iadd, 1) := by decide +kernel
theorem dX12_knownBy_61 : decode cX12_knownBy 61 = .ok (.iaload, 1) := by decide +kernel
theorem dX12_knownBy_62 : decode cX12_knownBy 62 = .ok (.imul, 1) := by decide +kernel
theorem dX12_knownBy_63 : decode cX12_knownBy 63 = .ok (.iload 6, 2) := by decide +kernel
theorem dX12_knownBy_65 : decode cX12_knownBy 65 = .ok (.iadd, 1) := by decide +kernel
theorem dX12_knownBy_66 : decode cX12_knownBy 66 = .ok (.istore 7, 2) := by decide +kernel
theorem dX12_knownBy_68 : decode cX12_knownBy 68 = .ok (.iload 5, 2) := by decide +kernel
theorem dX12_knownBy_70 : decode cX12_knownBy 70 = .ok (.ifCond .lt 27, 3) := by decide +kernel
theorem dX12_knownBy_73 : decode cX12_knownBy 73 = .ok (.iload 7, 2) := by decide +kernel
theorem dX12_knownBy_75 : decode cX12_knownBy 75 = .ok (.bipush 12, 2) := by decide +kernel
theorem dX12_knownBy_77 : decode cX12_knownBy 77 = .ok (.aload_n 0, 1) := by decide +kernel
theorem dX12_knownBy_78 : decode cX12_knownBy 78 = .ok (.getfield 7, 3) := by decide +kernel
theorem dX12_knownBy_81 : decode cX12_knownBy 81 = .ok (.sipush 134, 3) := by decide +kernel
theorem dX12_knownBy_84 : decode cX12_knownBy 84 = .ok (.iconst 3, 1) := by decide +kernel
theorem dX12_knownBy_85 : decode cX12_knownBy 85 = .ok (.iload 5, 2) := by decide +kernel
theorem dX12_knownBy_87 : decode cX12_knownBy 87 = .ok (.imul, 1) := by decide +kernel
theorem dX12_knownBy_88 : decode cX12_knownBy 88 = .ok (.iadd, 1) := by decide +kernel
theorem dX12_knownBy_89 : decode cX12_knownBy 89 = .ok (.iaload, 1) := by decide +kernel
theorem dX12_knownBy_90 : decode cX12_knownBy 90 = .ok (.imul, 1) := by decide +kernel
theorem dX12_knownBy_91 : decode cX12_knownBy 91 = .ok (.iload 5, 2) := by decide +kernel
theorem dX12_knownBy_93 : decode cX12_knownBy 93 = .ok (.iadd, 1) := by decide +kernel
theorem dX12_knownBy_94 : decode cX12_knownBy 94 = .ok (.if_icmp .ge 7, 3) := by decide +kernel
theorem dX12_knownBy_97 : decode cX12_knownBy 97 = .ok (.iconst 1, 1) := by decide +kernel
theorem dX12_knownBy_98 : decode cX12_knownBy 98 = .ok (.goto 4, 3) := by decide +kernel
theorem dX12_knownBy_101 : decode cX12_knownBy 101 = .ok (.iconst 0, 1) := by decide +kernel
theorem dX12_knownBy_102 : decode cX12_knownBy 102 = .ok (.istore 8, 2) := by decide +kernel
theorem dX12_knownBy_104 : decode cX12_knownBy 104 = .ok (.iload 7, 2) := by decide +kernel
theorem dX12_knownBy_106 : decode cX12_knownBy 106 = .ok (.iload_n 3, 1) := by decide +kernel
theorem dX12_knownBy_107 : decode cX12_knownBy 107 = .ok (.if_icmp .le 30, 3) := by decide +kernel
theorem dX12_knownBy_110 : decode cX12_knownBy 110 = .ok (.aload_n 0, 1) := by decide +kernel
theorem dX12_knownBy_111 : decode cX12_knownBy 111 = .ok (.getfield 7, 3) := by decide +kernel
theorem dX12_knownBy_114 : decode cX12_knownBy 114 = .ok (.sipush 134, 3) := by decide +kernel
theorem dX12_knownBy_117 : decode cX12_knownBy 117 = .ok (.iconst 3, 1) := by decide +kernel
theorem dX12_knownBy_118 : decode cX12_knownBy 118 = .ok (.iload 6, 2) := by decide +kernel
theorem dX12_knownBy_120 : decode cX12_knownBy 120 = .ok (.imul, 1) := by decide +kernel
theorem dX12_knownBy_121 : decode cX12_knownBy 121 = .ok (.iadd, 1) := by decide +kernel
theorem dX12_knownBy_122 : decode cX12_knownBy 122 = .ok (.iaload, 1) := by decide +kernel
theorem dX12_knownBy_123 : decode cX12_knownBy 123 = .ok (.iload_n 2, 1) := by decide +kernel
theorem dX12_knownBy_124 : decode cX12_knownBy 124 = .ok (.if_icmp .gt 13, 3) := by decide +kernel
theorem dX12_knownBy_127 : decode cX12_knownBy 127 = .ok (.iload 8, 2) := by decide +kernel
theorem dX12_knownBy_129 : decode cX12_knownBy 129 = .ok (.ifCond .eq 8, 3) := by decide +kernel
theorem dX12_knownBy_132 : decode cX12_knownBy 132 = .ok (.iload 6, 2) := by decide +kernel
theorem dX12_knownBy_134 : decode cX12_knownBy 134 = .ok (.goto 5, 3) := by decide +kernel
theorem dX12_knownBy_137 : decode cX12_knownBy 137 = .ok (.iload 5, 2) := by decide +kernel
theorem dX12_knownBy_139 : decode cX12_knownBy 139 = .ok (.istore 5, 2) := by decide +kernel
theorem dX12_knownBy_141 : decode cX12_knownBy 141 = .ok (.iinc 6 1, 3) := by decide +kernel
theorem dX12_knownBy_144 : decode cX12_knownBy 144 = .ok (.goto (-108), 3) := by decide +kernel
theorem dX12_knownBy_147 : decode cX12_knownBy 147 = .ok (.iload 5, 2) := by decide +kernel
theorem dX12_knownBy_149 : decode cX12_knownBy 149 = .ok (.ifCond .lt 7, 3) := by decide +kernel
theorem dX12_knownBy_152 : decode cX12_knownBy 152 = .ok (.iconst 1, 1) := by decide +kernel
theorem dX12_knownBy_153 : decode cX12_knownBy 153 = .ok (.goto 4, 3) := by decide +kernel
theorem dX12_knownBy_156 : decode cX12_knownBy 156 = .ok (.iconst 0, 1) := by decide +kernel
theorem dX12_knownBy_157 : decode cX12_knownBy 157 = .ok (.istore 4, 2) := by decide +kernel
theorem dX12_knownBy_159 : decode cX12_knownBy 159 = .ok (.iload 4, 2) := by decide +kernel
theorem dX12_knownBy_161 : decode cX12_knownBy 161 = .ok (.ifCond .eq 114, 3) := by decide +kernel
theorem dX12_knownBy_164 : decode cX12_knownBy 164 = .ok (.aload_n 0, 1) := by decide +kernel
theorem dX12_knownBy_165 : decode cX12_knownBy 165 = .ok (.getfield 7, 3) := by decide +kernel
theorem dX12_knownBy_168 : decode cX12_knownBy 168 = .ok (.sipush 134, 3) := by decide +kernel
theorem dX12_knownBy_171 : decode cX12_knownBy 171 = .ok (.iconst 3, 1) := by decide +kernel
theorem dX12_knownBy_172 : decode cX12_knownBy 172 = .ok (.iload 5, 2) := by decide +kernel
theorem dX12_knownBy_174 : decode cX12_knownBy 174 = .ok (.imul, 1) := by decide +kernel
theorem dX12_knownBy_175 : decode cX12_knownBy 175 = .ok (.iadd, 1) := by decide +kernel
theorem dX12_knownBy_176 : decode cX12_knownBy 176 = .ok (.iaload, 1) := by decide +kernel
theorem dX12_knownBy_177 : decode cX12_knownBy 177 = .ok (.istore 6, 2) := by decide +kernel
theorem dX12_knownBy_179 : decode cX12_knownBy 179 = .ok (.aload_n 0, 1) := by decide +kernel
theorem dX12_knownBy_180 : decode cX12_knownBy 180 = .ok (.getfield 7, 3) := by decide +kernel
theorem dX12_knownBy_183 : decode cX12_knownBy 183 = .ok (.sipush 134, 3) := by decide +kernel
theorem dX12_knownBy_186 : decode cX12_knownBy 186 = .ok (.iconst 3, 1) := by decide +kernel
theorem dX12_knownBy_187 : decode cX12_knownBy 187 = .ok (.iload 5, 2) := by decide +kernel
theorem dX12_knownBy_189 : decode cX12_knownBy 189 = .ok (.imul, 1) := by decide +kernel
theorem dX12_knownBy_190 : decode cX12_knownBy 190 = .ok (.iadd, 1) := by decide +kernel
theorem dX12_knownBy_191 : decode cX12_knownBy 191 = .ok (.iconst 1, 1) := by decide +kernel
theorem dX12_knownBy_192 : decode cX12_knownBy 192 = .ok (.iadd, 1) := by decide +kernel
theorem dX12_knownBy_193 : decode cX12_knownBy 193 = .ok (.iaload, 1) := by decide +kernel
theorem dX12_knownBy_194 : decode cX12_knownBy 194 = .ok (.istore 7, 2) := by decide +kernel
theorem dX12_knownBy_196 : decode cX12_knownBy 196 = .ok (.aload_n 0, 1) := by decide +kernel
theorem dX12_knownBy_197 : decode cX12_knownBy 197 = .ok (.getfield 7, 3) := by decide +kernel
theorem dX12_knownBy_200 : decode cX12_knownBy 200 = .ok (.sipush 134, 3) := by decide +kernel
theorem dX12_knownBy_203 : decode cX12_knownBy 203 = .ok (.iconst 3, 1) := by decide +kernel
theorem dX12_knownBy_204 : decode cX12_knownBy 204 = .ok (.iload 5, 2) := by decide +kernel
theorem dX12_knownBy_206 : decode cX12_knownBy 206 = .ok (.imul, 1) := by decide +kernel
theorem dX12_knownBy_207 : decode cX12_knownBy 207 = .ok (.iadd, 1) := by decide +kernel
theorem dX12_knownBy_208 : decode cX12_knownBy 208 = .ok (.iconst 2, 1) := by decide +kernel
theorem dX12_knownBy_209 : decode cX12_knownBy 209 = .ok (.iadd, 1) := by decide +kernel
theorem dX12_knownBy_210 : decode cX12_knownBy 210 = .ok (.iaload, 1) := by decide +kernel
theorem dX12_knownBy_211 : decode cX12_knownBy 211 = .ok (.istore 8, 2) := by decide +kernel
theorem dX12_knownBy_213 : decode cX12_knownBy 213 = .ok (.aload_n 0, 1) := by decide +kernel
theorem dX12_knownBy_214 : decode cX12_knownBy 214 = .ok (.getfield 38, 3) := by decide +kernel
theorem dX12_knownBy_217 : decode cX12_knownBy 217 = .ok (.iload 7, 2) := by decide +kernel
theorem dX12_knownBy_219 : decode cX12_knownBy 219 = .ok (.iaload, 1) := by decide +kernel
theorem dX12_knownBy_220 : decode cX12_knownBy 220 = .ok (.aload_n 0, 1) := by decide +kernel
theorem dX12_knownBy_221 : decode cX12_knownBy 221 = .ok (.getfield 38, 3) := by decide +kernel
theorem dX12_knownBy_224 : decode cX12_knownBy 224 = .ok (.iload 8, 2) := by decide +kernel
theorem dX12_knownBy_226 : decode cX12_knownBy 226 = .ok (.iaload, 1) := by decide +kernel
theorem dX12_knownBy_227 : decode cX12_knownBy 227 = .ok (.ior, 1) := by decide +kernel
theorem dX12_knownBy_228 : decode cX12_knownBy 228 = .ok (.aload_n 0, 1) := by decide +kernel
theorem dX12_knownBy_229 : decode cX12_knownBy 229 = .ok (.iload 7, 2) := by decide +kernel
theorem dX12_knownBy_231 : decode cX12_knownBy 231 = .ok (.iload 6, 2) := by decide +kernel
theorem dX12_knownBy_233 : decode cX12_knownBy 233 = .ok (.invokevirtual 279, 3) := by decide +kernel
theorem dX12_knownBy_236 : decode cX12_knownBy 236 = .ok (.ior, 1) := by decide +kernel
theorem dX12_knownBy_237 : decode cX12_knownBy 237 = .ok (.aload_n 0, 1) := by decide +kernel
theorem dX12_knownBy_238 : decode cX12_knownBy 238 = .ok (.iload 8, 2) := by decide +kernel
theorem dX12_knownBy_240 : decode cX12_knownBy 240 = .ok (.iload 6, 2) := by decide +kernel
