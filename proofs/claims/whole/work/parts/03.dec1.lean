theorem dX10_gatherKnown_15 : decode cX10_gatherKnown 15 = .ok (.if_icmp .ge 96, 3) := by decide +kernel
theorem dX10_gatherKnown_18 : decode cX10_gatherKnown 18 = .ok (.aload_n 0, 1) := by decide +kernel
theorem dX10_gatherKnown_19 : decode cX10_gatherKnown 19 = .ok (.getfield 42, 3) := by decide +kernel
theorem dX10_gatherKnown_22 : decode cX10_gatherKnown 22 = .ok (.getfield 126, 3) := by decide +kernel
theorem dX10_gatherKnown_25 : decode cX10_gatherKnown 25 = .ok (.iload_n 3, 1) := by decide +kernel
theorem dX10_gatherKnown_26 : decode cX10_gatherKnown 26 = .ok (.iaload, 1) := by decide +kernel
theorem dX10_gatherKnown_27 : decode cX10_gatherKnown 27 = .ok (.iload_n 1, 1) := by decide +kernel
theorem dX10_gatherKnown_28 : decode cX10_gatherKnown 28 = .ok (.if_icmp .gt 83, 3) := by decide +kernel
theorem dX10_gatherKnown_31 : decode cX10_gatherKnown 31 = .ok (.aload_n 0, 1) := by decide +kernel
theorem dX10_gatherKnown_32 : decode cX10_gatherKnown 32 = .ok (.getfield 42, 3) := by decide +kernel
theorem dX10_gatherKnown_35 : decode cX10_gatherKnown 35 = .ok (.getfield 129, 3) := by decide +kernel
theorem dX10_gatherKnown_38 : decode cX10_gatherKnown 38 = .ok (.iload_n 3, 1) := by decide +kernel
theorem dX10_gatherKnown_39 : decode cX10_gatherKnown 39 = .ok (.iaload, 1) := by decide +kernel
theorem dX10_gatherKnown_40 : decode cX10_gatherKnown 40 = .ok (.istore 4, 2) := by decide +kernel
theorem dX10_gatherKnown_42 : decode cX10_gatherKnown 42 = .ok (.aload_n 0, 1) := by decide +kernel
theorem dX10_gatherKnown_43 : decode cX10_gatherKnown 43 = .ok (.getfield 42, 3) := by decide +kernel
theorem dX10_gatherKnown_46 : decode cX10_gatherKnown 46 = .ok (.getfield 132, 3) := by decide +kernel
theorem dX10_gatherKnown_49 : decode cX10_gatherKnown 49 = .ok (.iload_n 3, 1) := by decide +kernel
theorem dX10_gatherKnown_50 : decode cX10_gatherKnown 50 = .ok (.iaload, 1) := by decide +kernel
theorem dX10_gatherKnown_51 : decode cX10_gatherKnown 51 = .ok (.istore 5, 2) := by decide +kernel
theorem dX10_gatherKnown_53 : decode cX10_gatherKnown 53 = .ok (.aload_n 0, 1) := by decide +kernel
theorem dX10_gatherKnown_54 : decode cX10_gatherKnown 54 = .ok (.getfield 42, 3) := by decide +kernel
theorem dX10_gatherKnown_57 : decode cX10_gatherKnown 57 = .ok (.getfield 126, 3) := by decide +kernel
theorem dX10_gatherKnown_60 : decode cX10_gatherKnown 60 = .ok (.iload_n 3, 1) := by decide +kernel
theorem dX10_gatherKnown_61 : decode cX10_gatherKnown 61 = .ok (.iaload, 1) := by decide +kernel
theorem dX10_gatherKnown_62 : decode cX10_gatherKnown 62 = .ok (.istore 6, 2) := by decide +kernel
theorem dX10_gatherKnown_64 : decode cX10_gatherKnown 64 = .ok (.aload_n 2, 1) := by decide +kernel
theorem dX10_gatherKnown_65 : decode cX10_gatherKnown 65 = .ok (.iload 4, 2) := by decide +kernel
theorem dX10_gatherKnown_67 : decode cX10_gatherKnown 67 = .ok (.iaload, 1) := by decide +kernel
theorem dX10_gatherKnown_68 : decode cX10_gatherKnown 68 = .ok (.aload_n 2, 1) := by decide +kernel
theorem dX10_gatherKnown_69 : decode cX10_gatherKnown 69 = .ok (.iload 5, 2) := by decide +kernel
theorem dX10_gatherKnown_71 : decode cX10_gatherKnown 71 = .ok (.iaload, 1) := by decide +kernel
theorem dX10_gatherKnown_72 : decode cX10_gatherKnown 72 = .ok (.ior, 1) := by decide +kernel
theorem dX10_gatherKnown_73 : decode cX10_gatherKnown 73 = .ok (.aload_n 0, 1) := by decide +kernel
theorem dX10_gatherKnown_74 : decode cX10_gatherKnown 74 = .ok (.iload 4, 2) := by decide +kernel
theorem dX10_gatherKnown_76 : decode cX10_gatherKnown 76 = .ok (.iload 6, 2) := by decide +kernel
theorem dX10_gatherKnown_78 : decode cX10_gatherKnown 78 = .ok (.invokevirtual 135, 3) := by decide +kernel
theorem dX10_gatherKnown_81 : decode cX10_gatherKnown 81 = .ok (.ior, 1) := by decide +kernel
theorem dX10_gatherKnown_82 : decode cX10_gatherKnown 82 = .ok (.aload_n 0, 1) := by decide +kernel
theorem dX10_gatherKnown_83 : decode cX10_gatherKnown 83 = .ok (.iload 5, 2) := by decide +kernel
theorem dX10_gatherKnown_85 : decode cX10_gatherKnown 85 = .ok (.iload 6, 2) := by decide +kernel
theorem dX10_gatherKnown_87 : decode cX10_gatherKnown 87 = .ok (.invokevirtual 135, 3) := by decide +kernel
theorem dX10_gatherKnown_90 : decode cX10_gatherKnown 90 = .ok (.ior, 1) := by decide +kernel
theorem dX10_gatherKnown_91 : decode cX10_gatherKnown 91 = .ok (.istore 7, 2) := by decide +kernel
theorem dX10_gatherKnown_93 : decode cX10_gatherKnown 93 = .ok (.aload_n 2, 1) := by decide +kernel
theorem dX10_gatherKnown_94 : decode cX10_gatherKnown 94 = .ok (.iload 4, 2) := by decide +kernel
theorem dX10_gatherKnown_96 : decode cX10_gatherKnown 96 = .ok (.iload 7, 2) := by decide +kernel
theorem dX10_gatherKnown_98 : decode cX10_gatherKnown 98 = .ok (.iastore, 1) := by decide +kernel
theorem dX10_gatherKnown_99 : decode cX10_gatherKnown 99 = .ok (.aload_n 2, 1) := by decide +kernel
theorem dX10_gatherKnown_100 : decode cX10_gatherKnown 100 = .ok (.iload 5, 2) := by decide +kernel
theorem dX10_gatherKnown_102 : decode cX10_gatherKnown 102 = .ok (.iload 7, 2) := by decide +kernel
theorem dX10_gatherKnown_104 : decode cX10_gatherKnown 104 = .ok (.iastore, 1) := by decide +kernel
theorem dX10_gatherKnown_105 : decode cX10_gatherKnown 105 = .ok (.iinc 3 1, 3) := by decide +kernel
theorem dX10_gatherKnown_108 : decode cX10_gatherKnown 108 = .ok (.goto (-101), 3) := by decide +kernel
theorem dX10_gatherKnown_111 : decode cX10_gatherKnown 111 = .ok (.iconst 0, 1) := by decide +kernel
theorem dX10_gatherKnown_112 : decode cX10_gatherKnown 112 = .ok (.istore_n 3, 1) := by decide +kernel
theorem dX10_gatherKnown_113 : decode cX10_gatherKnown 113 = .ok (.iload_n 3, 1) := by decide +kernel
theorem dX10_gatherKnown_114 : decode cX10_gatherKnown 114 = .ok (.iconst 5, 1) := by decide +kernel
theorem dX10_gatherKnown_115 : decode cX10_gatherKnown 115 = .ok (.if_icmp .ge 21, 3) := by decide +kernel
theorem dX10_gatherKnown_118 : decode cX10_gatherKnown 118 = .ok (.aload_n 2, 1) := by decide +kernel
theorem dX10_gatherKnown_119 : decode cX10_gatherKnown 119 = .ok (.iload_n 3, 1) := by decide +kernel
theorem dX10_gatherKnown_120 : decode cX10_gatherKnown 120 = .ok (.dup2, 1) := by decide +kernel
theorem dX10_gatherKnown_121 : decode cX10_gatherKnown 121 = .ok (.iaload, 1) := by decide +kernel
theorem dX10_gatherKnown_122 : decode cX10_gatherKnown 122 = .ok (.aload_n 0, 1) := by decide +kernel
theorem dX10_gatherKnown_123 : decode cX10_gatherKnown 123 = .ok (.iload_n 3, 1) := by decide +kernel
theorem dX10_gatherKnown_124 : decode cX10_gatherKnown 124 = .ok (.iload_n 1, 1) := by decide +kernel
theorem dX10_gatherKnown_125 : decode cX10_gatherKnown 125 = .ok (.invokevirtual 135, 3) := by decide +kernel
theorem dX10_gatherKnown_128 : decode cX10_gatherKnown 128 = .ok (.ior, 1) := by decide +kernel
theorem dX10_gatherKnown_129 : decode cX10_gatherKnown 129 = .ok (.iastore, 1) := by decide +kernel
theorem dX10_gatherKnown_130 : decode cX10_gatherKnown 130 = .ok (.iinc 3 1, 3) := by decide +kernel
theorem dX10_gatherKnown_133 : decode cX10_gatherKnown 133 = .ok (.goto (-20), 3) := by decide +kernel
theorem dX10_gatherKnown_136 : decode cX10_gatherKnown 136 = .ok (.return_, 1) := by decide +kernel
theorem dX10_gatherFirstWeeks_0 : decode cX10_gatherFirstWeeks 0 = .ok (.aload_n 0, 1) := by decide +kernel
theorem dX10_gatherFirstWeeks_1 : decode cX10_gatherFirstWeeks 1 = .ok (.getfield 35, 3) := by decide +kernel
theorem dX10_gatherFirstWeeks_4 : decode cX10_gatherFirstWeeks 4 = .ok (.iload_n 1, 1) := by decide +kernel
theorem dX10_gatherFirstWeeks_5 : decode cX10_gatherFirstWeeks 5 = .ok (.invokevirtual 113, 3) := by decide +kernel
theorem dX10_gatherFirstWeeks_8 : decode cX10_gatherFirstWeeks 8 = .ok (.istore_n 3, 1) := by decide +kernel
theorem dX10_gatherFirstWeeks_9 : decode cX10_gatherFirstWeeks 9 = .ok (.iconst 0, 1) := by decide +kernel
theorem dX10_gatherFirstWeeks_10 : decode cX10_gatherFirstWeeks 10 = .ok (.istore 4, 2) := by decide +kernel
theorem dX10_gatherFirstWeeks_12 : decode cX10_gatherFirstWeeks 12 = .ok (.iload 4, 2) := by decide +kernel
theorem dX10_gatherFirstWeeks_14 : decode cX10_gatherFirstWeeks 14 = .ok (.iconst 5, 1) := by decide +kernel
theorem dX10_gatherFirstWeeks_15 : decode cX10_gatherFirstWeeks 15 = .ok (.if_icmp .ge 54, 3) := by decide +kernel
theorem dX10_gatherFirstWeeks_18 : decode cX10_gatherFirstWeeks 18 = .ok (.aload_n 0, 1) := by decide +kernel
theorem dX10_gatherFirstWeeks_19 : decode cX10_gatherFirstWeeks 19 = .ok (.getfield 12, 3) := by decide +kernel
theorem dX10_gatherFirstWeeks_22 : decode cX10_gatherFirstWeeks 22 = .ok (.getfield 117, 3) := by decide +kernel
theorem dX10_gatherFirstWeeks_25 : decode cX10_gatherFirstWeeks 25 = .ok (.iload_n 1, 1) := by decide +kernel
theorem dX10_gatherFirstWeeks_26 : decode cX10_gatherFirstWeeks 26 = .ok (.iaload, 1) := by decide +kernel
theorem dX10_gatherFirstWeeks_27 : decode cX10_gatherFirstWeeks 27 = .ok (.iload 4, 2) := by decide +kernel
theorem dX10_gatherFirstWeeks_29 : decode cX10_gatherFirstWeeks 29 = .ok (.ishr, 1) := by decide +kernel
theorem dX10_gatherFirstWeeks_30 : decode cX10_gatherFirstWeeks 30 = .ok (.iconst 1, 1) := by decide +kernel
theorem dX10_gatherFirstWeeks_31 : decode cX10_gatherFirstWeeks 31 = .ok (.iand, 1) := by decide +kernel
theorem dX10_gatherFirstWeeks_32 : decode cX10_gatherFirstWeeks 32 = .ok (.iconst 1, 1) := by decide +kernel
theorem dX10_gatherFirstWeeks_33 : decode cX10_gatherFirstWeeks 33 = .ok (.if_icmp .ne 7, 3) := by decide +kernel
theorem dX10_gatherFirstWeeks_36 : decode cX10_gatherFirstWeeks 36 = .ok (.iconst 1, 1) := by decide +kernel
theorem dX10_gatherFirstWeeks_37 : decode cX10_gatherFirstWeeks 37 = .ok (.goto 4, 3) := by decide +kernel
theorem dX10_gatherFirstWeeks_40 : decode cX10_gatherFirstWeeks 40 = .ok (.iconst 0, 1) := by decide +kernel
theorem dX10_gatherFirstWeeks_41 : decode cX10_gatherFirstWeeks 41 = .ok (.istore 5, 2) := by decide +kernel
theorem dX10_gatherFirstWeeks_43 : decode cX10_gatherFirstWeeks 43 = .ok (.aload_n 2, 1) := by decide +kernel
theorem dX10_gatherFirstWeeks_44 : decode cX10_gatherFirstWeeks 44 = .ok (.iload 4, 2) := by decide +kernel
theorem dX10_gatherFirstWeeks_46 : decode cX10_gatherFirstWeeks 46 = .ok (.iload 5, 2) := by decide +kernel
theorem dX10_gatherFirstWeeks_48 : decode cX10_gatherFirstWeeks 48 = .ok (.ifCond .eq 11, 3) := by decide +kernel
theorem dX10_gatherFirstWeeks_51 : decode cX10_gatherFirstWeeks 51 = .ok (.iload_n 3, 1) := by decide +kernel
theorem dX10_gatherFirstWeeks_52 : decode cX10_gatherFirstWeeks 52 = .ok (.ifCond .lt 7, 3) := by decide +kernel
theorem dX10_gatherFirstWeeks_55 : decode cX10_gatherFirstWeeks 55 = .ok (.iload_n 3, 1) := by decide +kernel
theorem dX10_gatherFirstWeeks_56 : decode cX10_gatherFirstWeeks 56 = .ok (.goto 6, 3) := by decide +kernel
theorem dX10_gatherFirstWeeks_59 : decode cX10_gatherFirstWeeks 59 = .ok (.sipush 1000, 3) := by decide +kernel
theorem dX10_gatherFirstWeeks_62 : decode cX10_gatherFirstWeeks 62 = .ok (.iastore, 1) := by decide +kernel
theorem dX10_gatherFirstWeeks_63 : decode cX10_gatherFirstWeeks 63 = .ok (.iinc 4 1, 3) := by decide +kernel
theorem dX10_gatherFirstWeeks_66 : decode cX10_gatherFirstWeeks 66 = .ok (.goto (-54), 3) := by decide +kernel
theorem dX10_gatherFirstWeeks_69 : decode cX10_gatherFirstWeeks 69 = .ok (.iconst 0, 1) := by decide +kernel
theorem dX10_gatherFirstWeeks_70 : decode cX10_gatherFirstWeeks 70 = .ok (.istore 4, 2) := by decide +kernel
theorem dX10_gatherFirstWeeks_72 : decode cX10_gatherFirstWeeks 72 = .ok (.iload 4, 2) := by decide +kernel
theorem dX10_gatherFirstWeeks_74 : decode cX10_gatherFirstWeeks 74 = .ok (.aload_n 0, 1) := by decide +kernel
theorem dX10_gatherFirstWeeks_75 : decode cX10_gatherFirstWeeks 75 = .ok (.getfield 42, 3) := by decide +kernel
theorem dX10_gatherFirstWeeks_78 : decode cX10_gatherFirstWeeks 78 = .ok (.getfield 125, 3) := by decide +kernel
theorem dX10_gatherFirstWeeks_81 : decode cX10_gatherFirstWeeks 81 = .ok (.if_icmp .ge 89, 3) := by decide +kernel
theorem dX10_gatherFirstWeeks_84 : decode cX10_gatherFirstWeeks 84 = .ok (.aload_n 0, 1) := by decide +kernel
theorem dX10_gatherFirstWeeks_85 : decode cX10_gatherFirstWeeks 85 = .ok (.getfield 42, 3) := by decide +kernel
theorem dX10_gatherFirstWeeks_88 : decode cX10_gatherFirstWeeks 88 = .ok (.getfield 129, 3) := by decide +kernel
theorem dX10_gatherFirstWeeks_91 : decode cX10_gatherFirstWeeks 91 = .ok (.iload 4, 2) := by decide +kernel
theorem dX10_gatherFirstWeeks_93 : decode cX10_gatherFirstWeeks 93 = .ok (.iaload, 1) := by decide +kernel
theorem dX10_gatherFirstWeeks_94 : decode cX10_gatherFirstWeeks 94 = .ok (.istore 5, 2) := by decide +kernel
theorem dX10_gatherFirstWeeks_96 : decode cX10_gatherFirstWeeks 96 = .ok (.aload_n 0, 1) := by decide +kernel
theorem dX10_gatherFirstWeeks_97 : decode cX10_gatherFirstWeeks 97 = .ok (.getfield 42, 3) := by decide +kernel
theorem dX10_gatherFirstWeeks_100 : decode cX10_gatherFirstWeeks 100 = .ok (.getfield 132, 3) := by decide +kernel
theorem dX10_gatherFirstWeeks_103 : decode cX10_gatherFirstWeeks 103 = .ok (.iload 4, 2) := by decide +kernel
theorem dX10_gatherFirstWeeks_105 : decode cX10_gatherFirstWeeks 105 = .ok (.iaload, 1) := by decide +kernel
theorem dX10_gatherFirstWeeks_106 : decode cX10_gatherFirstWeeks 106 = .ok (.istore 6, 2) := by decide +kernel
theorem dX10_gatherFirstWeeks_108 : decode cX10_gatherFirstWeeks 108 = .ok (.aload_n 0, 1) := by decide +kernel
theorem dX10_gatherFirstWeeks_109 : decode cX10_gatherFirstWeeks 109 = .ok (.getfield 42, 3) := by decide +kernel
theorem dX10_gatherFirstWeeks_112 : decode cX10_gatherFirstWeeks 112 = .ok (.getfield 126, 3) := by decide +kernel
theorem dX10_gatherFirstWeeks_115 : decode cX10_gatherFirstWeeks 115 = .ok (.iload 4, 2) := by decide +kernel
theorem dX10_gatherFirstWeeks_117 : decode cX10_gatherFirstWeeks 117 = .ok (.iaload, 1) := by decide +kernel
theorem dX10_gatherFirstWeeks_118 : decode cX10_gatherFirstWeeks 118 = .ok (.istore 7, 2) := by decide +kernel
theorem dX10_gatherFirstWeeks_120 : decode cX10_gatherFirstWeeks 120 = .ok (.aload_n 2, 1) := by decide +kernel
theorem dX10_gatherFirstWeeks_121 : decode cX10_gatherFirstWeeks 121 = .ok (.iload 5, 2) := by decide +kernel
theorem dX10_gatherFirstWeeks_123 : decode cX10_gatherFirstWeeks 123 = .ok (.iaload, 1) := by decide +kernel
theorem dX10_gatherFirstWeeks_124 : decode cX10_gatherFirstWeeks 124 = .ok (.iload 7, 2) := by decide +kernel
theorem dX10_gatherFirstWeeks_126 : decode cX10_gatherFirstWeeks 126 = .ok (.if_icmp .le 12, 3) := by decide +kernel
theorem dX10_gatherFirstWeeks_129 : decode cX10_gatherFirstWeeks 129 = .ok (.aload_n 2, 1) := by decide +kernel
theorem dX10_gatherFirstWeeks_130 : decode cX10_gatherFirstWeeks 130 = .ok (.iload 6, 2) := by decide +kernel
theorem dX10_gatherFirstWeeks_132 : decode cX10_gatherFirstWeeks 132 = .ok (.iaload, 1) := by decide +kernel
theorem dX10_gatherFirstWeeks_133 : decode cX10_gatherFirstWeeks 133 = .ok (.iload 7, 2) := by decide +kernel
theorem dX10_gatherFirstWeeks_135 : decode cX10_gatherFirstWeeks 135 = .ok (.if_icmp .gt 29, 3) := by decide +kernel
theorem dX10_gatherFirstWeeks_138 : decode cX10_gatherFirstWeeks 138 = .ok (.aload_n 2, 1) := by decide +kernel
theorem dX10_gatherFirstWeeks_139 : decode cX10_gatherFirstWeeks 139 = .ok (.iload 5, 2) := by decide +kernel
theorem dX10_gatherFirstWeeks_141 : decode cX10_gatherFirstWeeks 141 = .ok (.aload_n 2, 1) := by decide +kernel
theorem dX10_gatherFirstWeeks_142 : decode cX10_gatherFirstWeeks 142 = .ok (.iload 5, 2) := by decide +kernel
theorem dX10_gatherFirstWeeks_144 : decode cX10_gatherFirstWeeks 144 = .ok (.iaload, 1) := by decide +kernel
theorem dX10_gatherFirstWeeks_145 : decode cX10_gatherFirstWeeks 145 = .ok (.iload 7, 2) := by decide +kernel
theorem dX10_gatherFirstWeeks_147 : decode cX10_gatherFirstWeeks 147 = .ok (.invokestatic 139, 3) := by decide +kernel
theorem dX10_gatherFirstWeeks_150 : decode cX10_gatherFirstWeeks 150 = .ok (.iastore, 1) := by decide +kernel
theorem dX10_gatherFirstWeeks_151 : decode cX10_gatherFirstWeeks 151 = .ok (.aload_n 2, 1) := by decide +kernel
theorem dX10_gatherFirstWeeks_152 : decode cX10_gatherFirstWeeks 152 = .ok (.iload 6, 2) := by decide +kernel
theorem dX10_gatherFirstWeeks_154 : decode cX10_gatherFirstWeeks 154 = .ok (.aload_n 2, 1) := by decide +kernel
theorem dX10_gatherFirstWeeks_155 : decode cX10_gatherFirstWeeks 155 = .ok (.iload 6, 2) := by decide +kernel
theorem dX10_gatherFirstWeeks_157 : decode cX10_gatherFirstWeeks 157 = .ok (.iaload, 1) := by decide +kernel
theorem dX10_gatherFirstWeeks_158 : decode cX10_gatherFirstWeeks 158 = .ok (.iload 7, 2) := by decide +kernel
theorem dX10_gatherFirstWeeks_160 : decode cX10_gatherFirstWeeks 160 = .ok (.invokestatic 139, 3) := by decide +kernel
theorem dX10_gatherFirstWeeks_163 : decode cX10_gatherFirstWeeks 163 = .ok (.iastore, 1) := by decide +kernel
theorem dX10_gatherFirstWeeks_164 : decode cX10_gatherFirstWeeks 164 = .ok (.iinc 4 1, 3) := by decide +kernel
theorem dX10_gatherFirstWeeks_167 : decode cX10_gatherFirstWeeks 167 = .ok (.goto (-95), 3) := by decide +kernel
theorem dX10_gatherFirstWeeks_170 : decode cX10_gatherFirstWeeks 170 = .ok (.return_, 1) := by decide +kernel
theorem dX11_init_0 : decode cX11_init 0 = .ok (.aload_n 0, 1) := by decide +kernel
theorem dX11_init_1 : decode cX11_init 1 = .ok (.invokespecial 1, 3) := by decide +kernel
theorem dX11_init_4 : decode cX11_init 4 = .ok (.aload_n 0, 1) := by decide +kernel
theorem dX11_init_5 : decode cX11_init 5 = .ok (.new 7, 3) := by decide +kernel
theorem dX11_init_8 : decode cX11_init 8 = .ok (.dup, 1) := by decide +kernel
theorem dX11_init_9 : decode cX11_init 9 = .ok (.invokespecial 9, 3) := by decide +kernel
theorem dX11_init_12 : decode cX11_init 12 = .ok (.putfield 10, 3) := by decide +kernel
theorem dX11_init_15 : decode cX11_init 15 = .ok (.aload_n 0, 1) := by decide +kernel
theorem dX11_init_16 : decode cX11_init 16 = .ok (.new 7, 3) := by decide +kernel
theorem dX11_init_19 : decode cX11_init 19 = .ok (.dup, 1) := by decide +kernel
theorem dX11_init_20 : decode cX11_init 20 = .ok (.invokespecial 9, 3) := by decide +kernel
theorem dX11_init_23 : decode cX11_init 23 = .ok (.putfield 16, 3) := by decide +kernel
theorem dX11_init_26 : decode cX11_init 26 = .ok (.aload_n 0, 1) := by decide +kernel
theorem dX11_init_27 : decode cX11_init 27 = .ok (.new 19, 3) := by decide +kernel
theorem dX11_init_30 : decode cX11_init 30 = .ok (.dup, 1) := by decide +kernel
theorem dX11_init_31 : decode cX11_init 31 = .ok (.aload_n 0, 1) := by decide +kernel
theorem dX11_init_32 : decode cX11_init 32 = .ok (.getfield 10, 3) := by decide +kernel
theorem dX11_init_35 : decode cX11_init 35 = .ok (.getfield 21, 3) := by decide +kernel
theorem dX11_init_38 : decode cX11_init 38 = .ok (.aload_n 0, 1) := by decide +kernel
theorem dX11_init_39 : decode cX11_init 39 = .ok (.getfield 10, 3) := by decide +kernel
theorem dX11_init_42 : decode cX11_init 42 = .ok (.getfield 25, 3) := by decide +kernel
theorem dX11_init_45 : decode cX11_init 45 = .ok (.invokespecial 29, 3) := by decide +kernel
theorem dX11_init_48 : decode cX11_init 48 = .ok (.putfield 32, 3) := by decide +kernel
theorem dX11_init_51 : decode cX11_init 51 = .ok (.aload_n 0, 1) := by decide +kernel
theorem dX11_init_52 : decode cX11_init 52 = .ok (.new 36, 3) := by decide +kernel
theorem dX11_init_55 : decode cX11_init 55 = .ok (.dup, 1) := by decide +kernel
theorem dX11_init_56 : decode cX11_init 56 = .ok (.aload_n 0, 1) := by decide +kernel
theorem dX11_init_57 : decode cX11_init 57 = .ok (.getfield 10, 3) := by decide +kernel
theorem dX11_init_60 : decode cX11_init 60 = .ok (.getfield 21, 3) := by decide +kernel
theorem dX11_init_63 : decode cX11_init 63 = .ok (.invokespecial 38, 3) := by decide +kernel
theorem dX11_init_66 : decode cX11_init 66 = .ok (.putfield 41, 3) := by decide +kernel
theorem dX11_init_69 : decode cX11_init 69 = .ok (.aload_n 0, 1) := by decide +kernel
theorem dX11_init_70 : decode cX11_init 70 = .ok (.new 45, 3) := by decide +kernel
theorem dX11_init_73 : decode cX11_init 73 = .ok (.dup, 1) := by decide +kernel
theorem dX11_init_74 : decode cX11_init 74 = .ok (.invokespecial 47, 3) := by decide +kernel
theorem dX11_init_77 : decode cX11_init 77 = .ok (.putfield 48, 3) := by decide +kernel
theorem dX11_init_80 : decode cX11_init 80 = .ok (.aload_n 0, 1) := by decide +kernel
theorem dX11_init_81 : decode cX11_init 81 = .ok (.new 52, 3) := by decide +kernel
theorem dX11_init_84 : decode cX11_init 84 = .ok (.dup, 1) := by decide +kernel
theorem dX11_init_85 : decode cX11_init 85 = .ok (.invokespecial 54, 3) := by decide +kernel
theorem dX11_init_88 : decode cX11_init 88 = .ok (.putfield 55, 3) := by decide +kernel
theorem dX11_init_91 : decode cX11_init 91 = .ok (.aload_n 0, 1) := by decide +kernel
theorem dX11_init_92 : decode cX11_init 92 = .ok (.iconst 4, 1) := by decide +kernel
theorem dX11_init_93 : decode cX11_init 93 = .ok (.anewarray 59, 3) := by decide +kernel
theorem dX11_init_96 : decode cX11_init 96 = .ok (.putfield 61, 3) := by decide +kernel
theorem dX11_init_99 : decode cX11_init 99 = .ok (.aload_n 0, 1) := by decide +kernel
theorem dX11_init_100 : decode cX11_init 100 = .ok (.iconst 5, 1) := by decide +kernel
theorem dX11_init_101 : decode cX11_init 101 = .ok (.newarray .int, 2) := by decide +kernel
theorem dX11_init_103 : decode cX11_init 103 = .ok (.putfield 65, 3) := by decide +kernel
theorem dX11_init_106 : decode cX11_init 106 = .ok (.aload_n 0, 1) := by decide +kernel
theorem dX11_init_107 : decode cX11_init 107 = .ok (.bipush 6, 2) := by decide +kernel
theorem dX11_init_109 : decode cX11_init 109 = .ok (.newarray .int, 2) := by decide +kernel
theorem dX11_init_111 : decode cX11_init 111 = .ok (.putfield 69, 3) := by decide +kernel
theorem dX11_init_114 : decode cX11_init 114 = .ok (.iconst 0, 1) := by decide +kernel
theorem dX11_init_115 : decode cX11_init 115 = .ok (.istore_n 1, 1) := by decide +kernel
theorem dX11_init_116 : decode cX11_init 116 = .ok (.iload_n 1, 1) := by decide +kernel
theorem dX11_init_117 : decode cX11_init 117 = .ok (.iconst 4, 1) := by decide +kernel
theorem dX11_init_118 : decode cX11_init 118 = .ok (.if_icmp .ge 22, 3) := by decide +kernel
theorem dX11_init_121 : decode cX11_init 121 = .ok (.aload_n 0, 1) := by decide +kernel
theorem dX11_init_122 : decode cX11_init 122 = .ok (.getfield 61, 3) := by decide +kernel
theorem dX11_init_125 : decode cX11_init 125 = .ok (.iload_n 1, 1) := by decide +kernel
theorem dX11_init_126 : decode cX11_init 126 = .ok (.new 59, 3) := by decide +kernel
theorem dX11_init_129 : decode cX11_init 129 = .ok (.dup, 1) := by decide +kernel
theorem dX11_init_130 : decode cX11_init 130 = .ok (.invokespecial 72, 3) := by decide +kernel
theorem dX11_init_133 : decode cX11_init 133 = .ok (.aastore, 1) := by decide +kernel
theorem dX11_init_134 : decode cX11_init 134 = .ok (.iinc 1 1, 3) := by decide +kernel
theorem dX11_init_137 : decode cX11_init 137 = .ok (.goto (-21), 3) := by decide +kernel
theorem dX11_init_140 : decode cX11_init 140 = .ok (.return_, 1) := by decide +kernel
theorem dX11_fact_0 : decode cX11_fact 0 = .ok (.aload_n 0, 1) := by decide +kernel
theorem dX11_fact_1 : decode cX11_fact 1 = .ok (.getfield 10, 3) := by decide +kernel
theorem dX11_fact_4 : decode cX11_fact 4 = .ok (.getfield 21, 3) := by decide +kernel
theorem dX11_fact_7 : decode cX11_fact 7 = .ok (.astore_n 3, 1) := by decide +kernel
theorem dX11_fact_8 : decode cX11_fact 8 = .ok (.iload_n 1, 1) := by decide +kernel
theorem dX11_fact_9 : decode cX11_fact 9 = .ok (.aload_n 3, 1) := by decide +kernel
theorem dX11_fact_10 : decode cX11_fact 10 = .ok (.getfield 73, 3) := by decide +kernel
theorem dX11_fact_13 : decode cX11_fact 13 = .ok (.ishr, 1) := by decide +kernel
theorem dX11_fact_14 : decode cX11_fact 14 = .ok (.iconst 1, 1) := by decide +kernel
theorem dX11_fact_15 : decode cX11_fact 15 = .ok (.iand, 1) := by decide +kernel
theorem dX11_fact_16 : decode cX11_fact 16 = .ok (.iconst 1, 1) := by decide +kernel
theorem dX11_fact_17 : decode cX11_fact 17 = .ok (.if_icmp .ne 7, 3) := by decide +kernel
theorem dX11_fact_20 : decode cX11_fact 20 = .ok (.iconst 1, 1) := by decide +kernel
theorem dX11_fact_21 : decode cX11_fact 21 = .ok (.goto 4, 3) := by decide +kernel
theorem dX11_fact_24 : decode cX11_fact 24 = .ok (.iconst 0, 1) := by decide +kernel
theorem dX11_fact_25 : decode cX11_fact 25 = .ok (.istore 4, 2) := by decide +kernel
theorem dX11_fact_27 : decode cX11_fact 27 = .ok (.iload_n 1, 1) := by decide +kernel
theorem dX11_fact_28 : decode cX11_fact 28 = .ok (.iconst 0, 1) := by decide +kernel
theorem dX11_fact_29 : decode cX11_fact 29 = .ok (.sipush 255, 3) := by decide +kernel
theorem dX11_fact_32 : decode cX11_fact 32 = .ok (.invokestatic 79, 3) := by decide +kernel
theorem dX11_fact_35 : decode cX11_fact 35 = .ok (.ifCond .eq 18, 3) := by decide +kernel
theorem dX11_fact_38 : decode cX11_fact 38 = .ok (.iload 4, 2) := by decide +kernel
theorem dX11_fact_40 : decode cX11_fact 40 = .ok (.ifCond .ne 13, 3) := by decide +kernel
theorem dX11_fact_43 : decode cX11_fact 43 = .ok (.iload_n 2, 1) := by decide +kernel
theorem dX11_fact_44 : decode cX11_fact 44 = .ok (.iconst 0, 1) := by decide +kernel
theorem dX11_fact_45 : decode cX11_fact 45 = .ok (.bipush 31, 2) := by decide +kernel
theorem dX11_fact_47 : decode cX11_fact 47 = .ok (.invokestatic 79, 3) := by decide +kernel
theorem dX11_fact_50 : decode cX11_fact 50 = .ok (.ifCond .ne 9, 3) := by decide +kernel
theorem dX11_fact_53 : decode cX11_fact 53 = .ok (.aload_n 0, 1) := by decide +kernel
theorem dX11_fact_54 : decode cX11_fact 54 = .ok (.iconst 1, 1) := by decide +kernel
theorem dX11_fact_55 : decode cX11_fact 55 = .ok (.invokevirtual 83, 3) := by decide +kernel
theorem dX11_fact_58 : decode cX11_fact 58 = .ok (.ireturn, 1) := by decide +kernel
theorem dX11_fact_59 : decode cX11_fact 59 = .ok (.aload_n 3, 1) := by decide +kernel
theorem dX11_fact_60 : decode cX11_fact 60 = .ok (.getfield 73, 3) := by decide +kernel
theorem dX11_fact_63 : decode cX11_fact 63 = .ok (.bipush 8, 2) := by decide +kernel
theorem dX11_fact_65 : decode cX11_fact 65 = .ok (.if_icmp .lt 9, 3) := by decide +kernel
theorem dX11_fact_68 : decode cX11_fact 68 = .ok (.aload_n 0, 1) := by decide +kernel
theorem dX11_fact_69 : decode cX11_fact 69 = .ok (.iconst 4, 1) := by decide +kernel
theorem dX11_fact_70 : decode cX11_fact 70 = .ok (.invokevirtual 83, 3) := by decide +kernel
theorem dX11_fact_73 : decode cX11_fact 73 = .ok (.ireturn, 1) := by decide +kernel
theorem dX11_fact_74 : decode cX11_fact 74 = .ok (.aload_n 3, 1) := by decide +kernel
theorem dX11_fact_75 : decode cX11_fact 75 = .ok (.iload_n 1, 1) := by decide +kernel
theorem dX11_fact_76 : decode cX11_fact 76 = .ok (.iload_n 2, 1) := by decide +kernel
theorem dX11_fact_77 : decode cX11_fact 77 = .ok (.invokevirtual 87, 3) := by decide +kernel
theorem dX11_fact_80 : decode cX11_fact 80 = .ok (.ireturn, 1) := by decide +kernel
theorem dX11_clash_0 : decode cX11_clash 0 = .ok (.aload_n 0, 1) := by decide +kernel
theorem dX11_clash_1 : decode cX11_clash 1 = .ok (.iload_n 1, 1) := by decide +kernel
theorem dX11_clash_2 : decode cX11_clash 2 = .ok (.invokevirtual 91, 3) := by decide +kernel
theorem dX11_clash_5 : decode cX11_clash 5 = .ok (.ifCond .eq 25, 3) := by decide +kernel
theorem dX11_clash_8 : decode cX11_clash 8 = .ok (.aload_n 0, 1) := by decide +kernel
theorem dX11_clash_9 : decode cX11_clash 9 = .ok (.iload_n 2, 1) := by decide +kernel
theorem dX11_clash_10 : decode cX11_clash 10 = .ok (.invokevirtual 91, 3) := by decide +kernel
theorem dX11_clash_13 : decode cX11_clash 13 = .ok (.ifCond .eq 17, 3) := by decide +kernel
theorem dX11_clash_16 : decode cX11_clash 16 = .ok (.iload_n 1, 1) := by decide +kernel
theorem dX11_clash_17 : decode cX11_clash 17 = .ok (.iload_n 2, 1) := by decide +kernel
theorem dX11_clash_18 : decode cX11_clash 18 = .ok (.if_icmp .eq 12, 3) := by decide +kernel
theorem dX11_clash_21 : decode cX11_clash 21 = .ok (.iload_n 3, 1) := by decide +kernel
theorem dX11_clash_22 : decode cX11_clash 22 = .ok (.iconst 0, 1) := by decide +kernel
theorem dX11_clash_23 : decode cX11_clash 23 = .ok (.iconst 1, 1) := by decide +kernel
theorem dX11_clash_24 : decode cX11_clash 24 = .ok (.invokestatic 79, 3) := by decide +kernel
theorem dX11_clash_27 : decode cX11_clash 27 = .ok (.ifCond .ne 9, 3) := by decide +kernel
theorem dX11_clash_30 : decode cX11_clash 30 = .ok (.aload_n 0, 1) := by decide +kernel
theorem dX11_clash_31 : decode cX11_clash 31 = .ok (.iconst 1, 1) := by decide +kernel
theorem dX11_clash_32 : decode cX11_clash 32 = .ok (.invokevirtual 83, 3) := by decide +kernel
theorem dX11_clash_35 : decode cX11_clash 35 = .ok (.ireturn, 1) := by decide +kernel
theorem dX11_clash_36 : decode cX11_clash 36 = .ok (.aload_n 0, 1) := by decide +kernel
theorem dX11_clash_37 : decode cX11_clash 37 = .ok (.getfield 10, 3) := by decide +kernel
theorem dX11_clash_40 : decode cX11_clash 40 = .ok (.getfield 21, 3) := by decide +kernel
theorem dX11_clash_43 : decode cX11_clash 43 = .ok (.getfield 95, 3) := by decide +kernel
theorem dX11_clash_46 : decode cX11_clash 46 = .ok (.iload_n 1, 1) := by decide +kernel
theorem dX11_clash_47 : decode cX11_clash 47 = .ok (.iaload, 1) := by decide +kernel
theorem dX11_clash_48 : decode cX11_clash 48 = .ok (.iload_n 2, 1) := by decide +kernel
theorem dX11_clash_49 : decode cX11_clash 49 = .ok (.ishr, 1) := by decide +kernel
theorem dX11_clash_50 : decode cX11_clash 50 = .ok (.iconst 1, 1) := by decide +kernel
theorem dX11_clash_51 : decode cX11_clash 51 = .ok (.iand, 1) := by decide +kernel
theorem dX11_clash_52 : decode cX11_clash 52 = .ok (.istore 4, 2) := by decide +kernel
theorem dX11_clash_54 : decode cX11_clash 54 = .ok (.aload_n 0, 1) := by decide +kernel
theorem dX11_clash_55 : decode cX11_clash 55 = .ok (.getfield 10, 3) := by decide +kernel
theorem dX11_clash_58 : decode cX11_clash 58 = .ok (.getfield 21, 3) := by decide +kernel
theorem dX11_clash_61 : decode cX11_clash 61 = .ok (.iload_n 1, 1) := by decide +kernel
theorem dX11_clash_62 : decode cX11_clash 62 = .ok (.iload_n 2, 1) := by decide +kernel
theorem dX11_clash_63 : decode cX11_clash 63 = .ok (.iload_n 3, 1) := by decide +kernel
theorem dX11_clash_64 : decode cX11_clash 64 = .ok (.invokevirtual 98, 3) := by decide +kernel
theorem dX11_clash_67 : decode cX11_clash 67 = .ok (.iload 4, 2) := by decide +kernel
theorem dX11_clash_69 : decode cX11_clash 69 = .ok (.ireturn, 1) := by decide +kernel
theorem dX11_explain_0 : decode cX11_explain 0 = .ok (.aload_n 0, 1) := by decide +kernel
theorem dX11_explain_1 : decode cX11_explain 1 = .ok (.iload_n 1, 1) := by decide +kernel
theorem dX11_explain_2 : decode cX11_explain 2 = .ok (.invokevirtual 91, 3) := by decide +kernel
theorem dX11_explain_5 : decode cX11_explain 5 = .ok (.ifCond .eq 13, 3) := by decide +kernel
theorem dX11_explain_8 : decode cX11_explain 8 = .ok (.iload_n 2, 1) := by decide +kernel
theorem dX11_explain_9 : decode cX11_explain 9 = .ok (.iconst 0, 1) := by decide +kernel
theorem dX11_explain_10 : decode cX11_explain 10 = .ok (.bipush 9, 2) := by decide +kernel
theorem dX11_explain_12 : decode cX11_explain 12 = .ok (.invokestatic 79, 3) := by decide +kernel
theorem dX11_explain_15 : decode cX11_explain 15 = .ok (.ifCond .ne 9, 3) := by decide +kernel
theorem dX11_explain_18 : decode cX11_explain 18 = .ok (.aload_n 0, 1) := by decide +kernel
theorem dX11_explain_19 : decode cX11_explain 19 = .ok (.iconst 1, 1) := by decide +kernel
theorem dX11_explain_20 : decode cX11_explain 20 = .ok (.invokevirtual 83, 3) := by decide +kernel
theorem dX11_explain_23 : decode cX11_explain 23 = .ok (.ireturn, 1) := by decide +kernel
theorem dX11_explain_24 : decode cX11_explain 24 = .ok (.iload_n 2, 1) := by decide +kernel
theorem dX11_explain_25 : decode cX11_explain 25 = .ok (.ifCond .le 22, 3) := by decide +kernel
theorem dX11_explain_28 : decode cX11_explain 28 = .ok (.aload_n 0, 1) := by decide +kernel
theorem dX11_explain_29 : decode cX11_explain 29 = .ok (.iload_n 3, 1) := by decide +kernel
theorem dX11_explain_30 : decode cX11_explain 30 = .ok (.invokevirtual 91, 3) := by decide +kernel
theorem dX11_explain_33 : decode cX11_explain 33 = .ok (.ifCond .eq 8, 3) := by decide +kernel
theorem dX11_explain_36 : decode cX11_explain 36 = .ok (.iload_n 3, 1) := by decide +kernel
theorem dX11_explain_37 : decode cX11_explain 37 = .ok (.iload_n 1, 1) := by decide +kernel
theorem dX11_explain_38 : decode cX11_explain 38 = .ok (.if_icmp .ne 9, 3) := by decide +kernel
theorem dX11_explain_41 : decode cX11_explain 41 = .ok (.aload_n 0, 1) := by decide +kernel
theorem dX11_explain_42 : decode cX11_explain 42 = .ok (.iconst 1, 1) := by decide +kernel
theorem dX11_explain_43 : decode cX11_explain 43 = .ok (.invokevirtual 83, 3) := by decide +kernel
theorem dX11_explain_46 : decode cX11_explain 46 = .ok (.ireturn, 1) := by decide +kernel
theorem dX11_explain_47 : decode cX11_explain 47 = .ok (.aload_n 0, 1) := by decide +kernel
theorem dX11_explain_48 : decode cX11_explain 48 = .ok (.getfield 10, 3) := by decide +kernel
theorem dX11_explain_51 : decode cX11_explain 51 = .ok (.getfield 21, 3) := by decide +kernel
theorem dX11_explain_54 : decode cX11_explain 54 = .ok (.getfield 102, 3) := by decide +kernel
theorem dX11_explain_57 : decode cX11_explain 57 = .ok (.iload_n 1, 1) := by decide +kernel
theorem dX11_explain_58 : decode cX11_explain 58 = .ok (.iaload, 1) := by decide +kernel
theorem dX11_explain_59 : decode cX11_explain 59 = .ok (.istore 4, 2) := by decide +kernel
theorem dX11_explain_61 : decode cX11_explain 61 = .ok (.aload_n 0, 1) := by decide +kernel
theorem dX11_explain_62 : decode cX11_explain 62 = .ok (.getfield 10, 3) := by decide +kernel
theorem dX11_explain_65 : decode cX11_explain 65 = .ok (.getfield 21, 3) := by decide +kernel
theorem dX11_explain_68 : decode cX11_explain 68 = .ok (.getfield 102, 3) := by decide +kernel
theorem dX11_explain_71 : decode cX11_explain 71 = .ok (.iload_n 1, 1) := by decide +kernel
theorem dX11_explain_72 : decode cX11_explain 72 = .ok (.iload_n 2, 1) := by decide +kernel
theorem dX11_explain_73 : decode cX11_explain 73 = .ok (.iastore, 1) := by decide +kernel
theorem dX11_explain_74 : decode cX11_explain 74 = .ok (.aload_n 0, 1) := by decide +kernel
theorem dX11_explain_75 : decode cX11_explain 75 = .ok (.getfield 10, 3) := by decide +kernel
theorem dX11_explain_78 : decode cX11_explain 78 = .ok (.getfield 21, 3) := by decide +kernel
theorem dX11_explain_81 : decode cX11_explain 81 = .ok (.getfield 105, 3) := by decide +kernel
theorem dX11_explain_84 : decode cX11_explain 84 = .ok (.iload_n 1, 1) := by decide +kernel
theorem dX11_explain_85 : decode cX11_explain 85 = .ok (.iload_n 2, 1) := by decide +kernel
theorem dX11_explain_86 : decode cX11_explain 86 = .ok (.ifCond .le 7, 3) := by decide +kernel
theorem dX11_explain_89 : decode cX11_explain 89 = .ok (.iload_n 3, 1) := by decide +kernel
theorem dX11_explain_90 : decode cX11_explain 90 = .ok (.goto 4, 3) := by decide +kernel
theorem dX11_explain_93 : decode cX11_explain 93 = .ok (.iconst (-1), 1) := by decide +kernel
theorem dX11_explain_94 : decode cX11_explain 94 = .ok (.iastore, 1) := by decide +kernel
theorem dX11_explain_95 : decode cX11_explain 95 = .ok (.iload 4, 2) := by decide +kernel
theorem dX11_explain_97 : decode cX11_explain 97 = .ok (.ireturn, 1) := by decide +kernel
theorem dX11_ofFact_0 : decode cX11_ofFact 0 = .ok (.aload_n 0, 1) := by decide +kernel
theorem dX11_ofFact_1 : decode cX11_ofFact 1 = .ok (.iload_n 1, 1) := by decide +kernel
theorem dX11_ofFact_2 : decode cX11_ofFact 2 = .ok (.invokevirtual 91, 3) := by decide +kernel
theorem dX11_ofFact_5 : decode cX11_ofFact 5 = .ok (.ifCond .ne 9, 3) := by decide +kernel
theorem dX11_ofFact_8 : decode cX11_ofFact 8 = .ok (.aload_n 0, 1) := by decide +kernel
theorem dX11_ofFact_9 : decode cX11_ofFact 9 = .ok (.iconst 1, 1) := by decide +kernel
theorem dX11_ofFact_10 : decode cX11_ofFact 10 = .ok (.invokevirtual 83, 3) := by decide +kernel
theorem dX11_ofFact_13 : decode cX11_ofFact 13 = .ok (.ireturn, 1) := by decide +kernel
theorem dX11_ofFact_14 : decode cX11_ofFact 14 = .ok (.iload_n 2, 1) := by decide +kernel
theorem dX11_ofFact_15 : decode cX11_ofFact 15 = .ok (.tableswitch 114 0 5 #[37, 50, 63, 76, 89, 102], 37) := by decide +kernel
theorem dX11_ofFact_52 : decode cX11_ofFact 52 = .ok (.aload_n 0, 1) := by decide +kernel
theorem dX11_ofFact_53 : decode cX11_ofFact 53 = .ok (.getfield 10, 3) := by decide +kernel
theorem dX11_ofFact_56 : decode cX11_ofFact 56 = .ok (.getfield 21, 3) := by decide +kernel
theorem dX11_ofFact_59 : decode cX11_ofFact 59 = .ok (.getfield 108, 3) := by decide +kernel
theorem dX11_ofFact_62 : decode cX11_ofFact 62 = .ok (.iload_n 1, 1) := by decide +kernel
theorem dX11_ofFact_63 : decode cX11_ofFact 63 = .ok (.iaload, 1) := by decide +kernel
theorem dX11_ofFact_64 : decode cX11_ofFact 64 = .ok (.ireturn, 1) := by decide +kernel
theorem dX11_ofFact_65 : decode cX11_ofFact 65 = .ok (.aload_n 0, 1) := by decide +kernel
theorem dX11_ofFact_66 : decode cX11_ofFact 66 = .ok (.getfield 10, 3) := by decide +kernel
theorem dX11_ofFact_69 : decode cX11_ofFact 69 = .ok (.getfield 21, 3) := by decide +kernel
theorem dX11_ofFact_72 : decode cX11_ofFact 72 = .ok (.getfield 95, 3) := by decide +kernel
theorem dX11_ofFact_75 : decode cX11_ofFact 75 = .ok (.iload_n 1, 1) := by decide +kernel
theorem dX11_ofFact_76 : decode cX11_ofFact 76 = .ok (.iaload, 1) := by decide +kernel
theorem dX11_ofFact_77 : decode cX11_ofFact 77 = .ok (.ireturn, 1) := by decide +kernel
theorem dX11_ofFact_78 : decode cX11_ofFact 78 = .ok (.aload_n 0, 1) := by decide +kernel
theorem dX11_ofFact_79 : decode cX11_ofFact 79 = .ok (.getfield 10, 3) := by decide +kernel
theorem dX11_ofFact_82 : decode cX11_ofFact 82 = .ok (.getfield 21, 3) := by decide +kernel
theorem dX11_ofFact_85 : decode cX11_ofFact 85 = .ok (.getfield 102, 3) := by decide +kernel
theorem dX11_ofFact_88 : decode cX11_ofFact 88 = .ok (.iload_n 1, 1) := by decide +kernel
theorem dX11_ofFact_89 : decode cX11_ofFact 89 = .ok (.iaload, 1) := by decide +kernel
theorem dX11_ofFact_90 : decode cX11_ofFact 90 = .ok (.ireturn, 1) := by decide +kernel
theorem dX11_ofFact_91 : decode cX11_ofFact 91 = .ok (.aload_n 0, 1) := by decide +kernel
theorem dX11_ofFact_92 : decode cX11_ofFact 92 = .ok (.getfield 10, 3) := by decide +kernel
theorem dX11_ofFact_95 : decode cX11_ofFact 95 = .ok (.getfield 21, 3) := by decide +kernel
theorem dX11_ofFact_98 : decode cX11_ofFact 98 = .ok (.getfield 105, 3) := by decide +kernel
theorem dX11_ofFact_101 : decode cX11_ofFact 101 = .ok (.iload_n 1, 1) := by decide +kernel
theorem dX11_ofFact_102 : decode cX11_ofFact 102 = .ok (.iaload, 1) := by decide +kernel
theorem dX11_ofFact_103 : decode cX11_ofFact 103 = .ok (.ireturn, 1) := by decide +kernel
theorem dX11_ofFact_104 : decode cX11_ofFact 104 = .ok (.aload_n 0, 1) := by decide +kernel
theorem dX11_ofFact_105 : decode cX11_ofFact 105 = .ok (.getfield 10, 3) := by decide +kernel
theorem dX11_ofFact_108 : decode cX11_ofFact 108 = .ok (.getfield 21, 3) := by decide +kernel
theorem dX11_ofFact_111 : decode cX11_ofFact 111 = .ok (.getfield 111, 3) := by decide +kernel
theorem dX11_ofFact_114 : decode cX11_ofFact 114 = .ok (.iload_n 1, 1) := by decide +kernel
theorem dX11_ofFact_115 : decode cX11_ofFact 115 = .ok (.iaload, 1) := by decide +kernel
theorem dX11_ofFact_116 : decode cX11_ofFact 116 = .ok (.ireturn, 1) := by decide +kernel
theorem dX11_ofFact_117 : decode cX11_ofFact 117 = .ok (.aload_n 0, 1) := by decide +kernel
theorem dX11_ofFact_118 : decode cX11_ofFact 118 = .ok (.getfield 10, 3) := by decide +kernel
theorem dX11_ofFact_121 : decode cX11_ofFact 121 = .ok (.getfield 114, 3) := by decide +kernel
theorem dX11_ofFact_124 : decode cX11_ofFact 124 = .ok (.iload_n 1, 1) := by decide +kernel
theorem dX11_ofFact_125 : decode cX11_ofFact 125 = .ok (.invokevirtual 117, 3) := by decide +kernel
theorem dX11_ofFact_128 : decode cX11_ofFact 128 = .ok (.ireturn, 1) := by decide +kernel
theorem dX11_ofFact_129 : decode cX11_ofFact 129 = .ok (.aload_n 0, 1) := by decide +kernel
theorem dX11_ofFact_130 : decode cX11_ofFact 130 = .ok (.iconst 1, 1) := by decide +kernel
theorem dX11_ofFact_131 : decode cX11_ofFact 131 = .ok (.invokevirtual 83, 3) := by decide +kernel
theorem dX11_ofFact_134 : decode cX11_ofFact 134 = .ok (.ireturn, 1) := by decide +kernel
theorem dX11_debtor_0 : decode cX11_debtor 0 = .ok (.iload_n 1, 1) := by decide +kernel
theorem dX11_debtor_1 : decode cX11_debtor 1 = .ok (.iconst 0, 1) := by decide +kernel
theorem dX11_debtor_2 : decode cX11_debtor 2 = .ok (.bipush 69, 2) := by decide +kernel
theorem dX11_debtor_4 : decode cX11_debtor 4 = .ok (.invokestatic 79, 3) := by decide +kernel
theorem dX11_debtor_7 : decode cX11_debtor 7 = .ok (.ifCond .eq 14, 3) := by decide +kernel
theorem dX11_debtor_10 : decode cX11_debtor 10 = .ok (.iload_n 2, 1) := by decide +kernel
theorem dX11_debtor_11 : decode cX11_debtor 11 = .ok (.iconst 0, 1) := by decide +kernel
theorem dX11_debtor_12 : decode cX11_debtor 12 = .ok (.sipush 9999, 3) := by decide +kernel
theorem dX11_debtor_15 : decode cX11_debtor 15 = .ok (.invokestatic 79, 3) := by decide +kernel
theorem dX11_debtor_18 : decode cX11_debtor 18 = .ok (.ifCond .ne 9, 3) := by decide +kernel
theorem dX11_debtor_21 : decode cX11_debtor 21 = .ok (.aload_n 0, 1) := by decide +kernel
theorem dX11_debtor_22 : decode cX11_debtor 22 = .ok (.iconst 1, 1) := by decide +kernel
theorem dX11_debtor_23 : decode cX11_debtor 23 = .ok (.invokevirtual 83, 3) := by decide +kernel
theorem dX11_debtor_26 : decode cX11_debtor 26 = .ok (.ireturn, 1) := by decide +kernel
theorem dX11_debtor_27 : decode cX11_debtor 27 = .ok (.aload_n 0, 1) := by decide +kernel
theorem dX11_debtor_28 : decode cX11_debtor 28 = .ok (.getfield 10, 3) := by decide +kernel
theorem dX11_debtor_31 : decode cX11_debtor 31 = .ok (.getfield 114, 3) := by decide +kernel
theorem dX11_debtor_34 : decode cX11_debtor 34 = .ok (.getfield 120, 3) := by decide +kernel
theorem dX11_debtor_37 : decode cX11_debtor 37 = .ok (.iconst 4, 1) := by decide +kernel
theorem dX11_debtor_38 : decode cX11_debtor 38 = .ok (.if_icmp .lt 9, 3) := by decide +kernel
theorem dX11_debtor_41 : decode cX11_debtor 41 = .ok (.aload_n 0, 1) := by decide +kernel
theorem dX11_debtor_42 : decode cX11_debtor 42 = .ok (.iconst 4, 1) := by decide +kernel
theorem dX11_debtor_43 : decode cX11_debtor 43 = .ok (.invokevirtual 83, 3) := by decide +kernel
theorem dX11_debtor_46 : decode cX11_debtor 46 = .ok (.ireturn, 1) := by decide +kernel
theorem dX11_debtor_47 : decode cX11_debtor 47 = .ok (.aload_n 0, 1) := by decide +kernel
theorem dX11_debtor_48 : decode cX11_debtor 48 = .ok (.getfield 10, 3) := by decide +kernel
theorem dX11_debtor_51 : decode cX11_debtor 51 = .ok (.getfield 114, 3) := by decide +kernel
theorem dX11_debtor_54 : decode cX11_debtor 54 = .ok (.iload_n 1, 1) := by decide +kernel
theorem dX11_debtor_55 : decode cX11_debtor 55 = .ok (.iload_n 2, 1) := by decide +kernel
theorem dX11_debtor_56 : decode cX11_debtor 56 = .ok (.invokevirtual 121, 3) := by decide +kernel
theorem dX11_debtor_59 : decode cX11_debtor 59 = .ok (.ireturn, 1) := by decide +kernel
theorem dX11_ofDebtor_0 : decode cX11_ofDebtor 0 = .ok (.aload_n 0, 1) := by decide +kernel
theorem dX11_ofDebtor_1 : decode cX11_ofDebtor 1 = .ok (.iload_n 1, 1) := by decide +kernel
theorem dX11_ofDebtor_2 : decode cX11_ofDebtor 2 = .ok (.invokevirtual 122, 3) := by decide +kernel
theorem dX11_ofDebtor_5 : decode cX11_ofDebtor 5 = .ok (.ifCond .eq 13, 3) := by decide +kernel
theorem dX11_ofDebtor_8 : decode cX11_ofDebtor 8 = .ok (.iload_n 2, 1) := by decide +kernel
theorem dX11_ofDebtor_9 : decode cX11_ofDebtor 9 = .ok (.iconst 0, 1) := by decide +kernel
theorem dX11_ofDebtor_10 : decode cX11_ofDebtor 10 = .ok (.bipush 9, 2) := by decide +kernel
theorem dX11_ofDebtor_12 : decode cX11_ofDebtor 12 = .ok (.invokestatic 79, 3) := by decide +kernel
theorem dX11_ofDebtor_15 : decode cX11_ofDebtor 15 = .ok (.ifCond .ne 9, 3) := by decide +kernel
theorem dX11_ofDebtor_18 : decode cX11_ofDebtor 18 = .ok (.aload_n 0, 1) := by decide +kernel
theorem dX11_ofDebtor_19 : decode cX11_ofDebtor 19 = .ok (.iconst 1, 1) := by decide +kernel
theorem dX11_ofDebtor_20 : decode cX11_ofDebtor 20 = .ok (.invokevirtual 83, 3) := by decide +kernel
theorem dX11_ofDebtor_23 : decode cX11_ofDebtor 23 = .ok (.ireturn, 1) := by decide +kernel
theorem dX11_ofDebtor_24 : decode cX11_ofDebtor 24 = .ok (.aload_n 0, 1) := by decide +kernel
theorem dX11_ofDebtor_25 : decode cX11_ofDebtor 25 = .ok (.getfield 10, 3) := by decide +kernel
theorem dX11_ofDebtor_28 : decode cX11_ofDebtor 28 = .ok (.getfield 114, 3) := by decide +kernel
theorem dX11_ofDebtor_31 : decode cX11_ofDebtor 31 = .ok (.getfield 125, 3) := by decide +kernel
theorem dX11_ofDebtor_34 : decode cX11_ofDebtor 34 = .ok (.iload_n 1, 1) := by decide +kernel
theorem dX11_ofDebtor_35 : decode cX11_ofDebtor 35 = .ok (.aaload, 1) := by decide +kernel
theorem dX11_ofDebtor_36 : decode cX11_ofDebtor 36 = .ok (.astore_n 3, 1) := by decide +kernel
theorem dX11_ofDebtor_37 : decode cX11_ofDebtor 37 = .ok (.iload_n 2, 1) := by decide +kernel
theorem dX11_ofDebtor_38 : decode cX11_ofDebtor 38 = .ok (.tableswitch 111 0 9 #[54, 59, 111, 111, 111, 111, 64, 111, 69, 81], 54) := by decide +kernel
theorem dX11_ofDebtor_92 : decode cX11_ofDebtor 92 = .ok (.aload_n 3, 1) := by decide +kernel
theorem dX11_ofDebtor_93 : decode cX11_ofDebtor 93 = .ok (.getfield 129, 3) := by decide +kernel
theorem dX11_ofDebtor_96 : decode cX11_ofDebtor 96 = .ok (.ireturn, 1) := by decide +kernel
theorem dX11_ofDebtor_97 : decode cX11_ofDebtor 97 = .ok (.aload_n 3, 1) := by decide +kernel
theorem dX11_ofDebtor_98 : decode cX11_ofDebtor 98 = .ok (.getfield 134, 3) := by decide +kernel
theorem dX11_ofDebtor_101 : decode cX11_ofDebtor 101 = .ok (.ireturn, 1) := by decide +kernel
theorem dX11_ofDebtor_102 : decode cX11_ofDebtor 102 = .ok (.aload_n 3, 1) := by decide +kernel
theorem dX11_ofDebtor_103 : decode cX11_ofDebtor 103 = .ok (.invokevirtual 137, 3) := by decide +kernel
theorem dX11_ofDebtor_106 : decode cX11_ofDebtor 106 = .ok (.ireturn, 1) := by decide +kernel
theorem dX11_ofDebtor_107 : decode cX11_ofDebtor 107 = .ok (.aload_n 0, 1) := by decide +kernel
theorem dX11_ofDebtor_108 : decode cX11_ofDebtor 108 = .ok (.getfield 10, 3) := by decide +kernel
theorem dX11_ofDebtor_111 : decode cX11_ofDebtor 111 = .ok (.getfield 114, 3) := by decide +kernel
theorem dX11_ofDebtor_114 : decode cX11_ofDebtor 114 = .ok (.iload_n 1, 1) := by decide +kernel
theorem dX11_ofDebtor_115 : decode cX11_ofDebtor 115 = .ok (.invokevirtual 141, 3) := by decide +kernel
theorem dX11_ofDebtor_118 : decode cX11_ofDebtor 118 = .ok (.ireturn, 1) := by decide +kernel
theorem dX11_ofDebtor_119 : decode cX11_ofDebtor 119 = .ok (.aload_n 0, 1) := by decide +kernel
theorem dX11_ofDebtor_120 : decode cX11_ofDebtor 120 = .ok (.getfield 10, 3) := by decide +kernel
theorem dX11_ofDebtor_123 : decode cX11_ofDebtor 123 = .ok (.getfield 144, 3) := by decide +kernel
theorem dX11_ofDebtor_126 : decode cX11_ofDebtor 126 = .ok (.aload_n 3, 1) := by decide +kernel
theorem dX11_ofDebtor_127 : decode cX11_ofDebtor 127 = .ok (.getfield 147, 3) := by decide +kernel
theorem dX11_ofDebtor_130 : decode cX11_ofDebtor 130 = .ok (.aload_n 0, 1) := by decide +kernel
theorem dX11_ofDebtor_131 : decode cX11_ofDebtor 131 = .ok (.getfield 10, 3) := by decide +kernel
theorem dX11_ofDebtor_134 : decode cX11_ofDebtor 134 = .ok (.getfield 114, 3) := by decide +kernel
theorem dX11_ofDebtor_137 : decode cX11_ofDebtor 137 = .ok (.iload_n 1, 1) := by decide +kernel
theorem dX11_ofDebtor_138 : decode cX11_ofDebtor 138 = .ok (.invokevirtual 150, 3) := by decide +kernel
theorem dX11_ofDebtor_141 : decode cX11_ofDebtor 141 = .ok (.aload_n 3, 1) := by decide +kernel
theorem dX11_ofDebtor_142 : decode cX11_ofDebtor 142 = .ok (.getfield 153, 3) := by decide +kernel
theorem dX11_ofDebtor_145 : decode cX11_ofDebtor 145 = .ok (.invokevirtual 154, 3) := by decide +kernel
theorem dX11_ofDebtor_148 : decode cX11_ofDebtor 148 = .ok (.ireturn, 1) := by decide +kernel
theorem dX11_ofDebtor_149 : decode cX11_ofDebtor 149 = .ok (.aload_n 0, 1) := by decide +kernel
theorem dX11_ofDebtor_150 : decode cX11_ofDebtor 150 = .ok (.getfield 10, 3) := by decide +kernel
theorem dX11_ofDebtor_153 : decode cX11_ofDebtor 153 = .ok (.getfield 114, 3) := by decide +kernel
theorem dX11_ofDebtor_156 : decode cX11_ofDebtor 156 = .ok (.iload_n 1, 1) := by decide +kernel
theorem dX11_ofDebtor_157 : decode cX11_ofDebtor 157 = .ok (.iload_n 2, 1) := by decide +kernel
theorem dX11_ofDebtor_158 : decode cX11_ofDebtor 158 = .ok (.invokestatic 160, 3) := by decide +kernel
theorem dX11_ofDebtor_161 : decode cX11_ofDebtor 161 = .ok (.ireturn, 1) := by decide +kernel
theorem dX11_book_0 : decode cX11_book 0 = .ok (.aload_n 0, 1) := by decide +kernel
theorem dX11_book_1 : decode cX11_book 1 = .ok (.iload_n 1, 1) := by decide +kernel
theorem dX11_book_2 : decode cX11_book 2 = .ok (.invokevirtual 122, 3) := by decide +kernel
theorem dX11_book_5 : decode cX11_book 5 = .ok (.ifCond .eq 12, 3) := by decide +kernel
theorem dX11_book_8 : decode cX11_book 8 = .ok (.iload_n 3, 1) := by decide +kernel
theorem dX11_book_9 : decode cX11_book 9 = .ok (.iconst 0, 1) := by decide +kernel
theorem dX11_book_10 : decode cX11_book 10 = .ok (.iconst 1, 1) := by decide +kernel
theorem dX11_book_11 : decode cX11_book 11 = .ok (.invokestatic 79, 3) := by decide +kernel
theorem dX11_book_14 : decode cX11_book 14 = .ok (.ifCond .ne 9, 3) := by decide +kernel
theorem dX11_book_17 : decode cX11_book 17 = .ok (.aload_n 0, 1) := by decide +kernel
theorem dX11_book_18 : decode cX11_book 18 = .ok (.iconst 1, 1) := by decide +kernel
theorem dX11_book_19 : decode cX11_book 19 = .ok (.invokevirtual 83, 3) := by decide +kernel
theorem dX11_book_22 : decode cX11_book 22 = .ok (.ireturn, 1) := by decide +kernel
theorem dX11_book_23 : decode cX11_book 23 = .ok (.aload_n 0, 1) := by decide +kernel
theorem dX11_book_24 : decode cX11_book 24 = .ok (.getfield 10, 3) := by decide +kernel
theorem dX11_book_27 : decode cX11_book 27 = .ok (.getfield 114, 3) := by decide +kernel
theorem dX11_book_30 : decode cX11_book 30 = .ok (.getfield 125, 3) := by decide +kernel
theorem dX11_book_33 : decode cX11_book 33 = .ok (.iload_n 1, 1) := by decide +kernel
theorem dX11_book_34 : decode cX11_book 34 = .ok (.aaload, 1) := by decide +kernel
theorem dX11_book_35 : decode cX11_book 35 = .ok (.astore 4, 2) := by decide +kernel
theorem dX11_book_37 : decode cX11_book 37 = .ok (.iload_n 2, 1) := by decide +kernel
theorem dX11_book_38 : decode cX11_book 38 = .ok (.iconst 0, 1) := by decide +kernel
theorem dX11_book_39 : decode cX11_book 39 = .ok (.aload 4, 2) := by decide +kernel
theorem dX11_book_41 : decode cX11_book 41 = .ok (.getfield 153, 3) := by decide +kernel
theorem dX11_book_44 : decode cX11_book 44 = .ok (.iconst 1, 1) := by decide +kernel
theorem dX11_book_45 : decode cX11_book 45 = .ok (.isub, 1) := by decide +kernel
theorem dX11_book_46 : decode cX11_book 46 = .ok (.invokestatic 79, 3) := by decide +kernel
theorem dX11_book_49 : decode cX11_book 49 = .ok (.ifCond .ne 9, 3) := by decide +kernel
theorem dX11_book_52 : decode cX11_book 52 = .ok (.aload_n 0, 1) := by decide +kernel
theorem dX11_book_53 : decode cX11_book 53 = .ok (.iconst 2, 1) := by decide +kernel
theorem dX11_book_54 : decode cX11_book 54 = .ok (.invokevirtual 83, 3) := by decide +kernel
theorem dX11_book_57 : decode cX11_book 57 = .ok (.ireturn, 1) := by decide +kernel
theorem dX11_book_58 : decode cX11_book 58 = .ok (.aload 4, 2) := by decide +kernel
theorem dX11_book_60 : decode cX11_book 60 = .ok (.getfield 164, 3) := by decide +kernel
theorem dX11_book_63 : decode cX11_book 63 = .ok (.iload_n 2, 1) := by decide +kernel
theorem dX11_book_64 : decode cX11_book 64 = .ok (.iaload, 1) := by decide +kernel
theorem dX11_book_65 : decode cX11_book 65 = .ok (.istore 5, 2) := by decide +kernel
theorem dX11_book_67 : decode cX11_book 67 = .ok (.iload_n 3, 1) := by decide +kernel
theorem dX11_book_68 : decode cX11_book 68 = .ok (.ifCond .ne 8, 3) := by decide +kernel
theorem dX11_book_71 : decode cX11_book 71 = .ok (.iload 5, 2) := by decide +kernel
theorem dX11_book_73 : decode cX11_book 73 = .ok (.goto 11, 3) := by decide +kernel
theorem dX11_book_76 : decode cX11_book 76 = .ok (.aload 4, 2) := by decide +kernel
theorem dX11_book_78 : decode cX11_book 78 = .ok (.getfield 167, 3) := by decide +kernel
theorem dX11_book_81 : decode cX11_book 81 = .ok (.iload 5, 2) := by decide +kernel
theorem dX11_book_83 : decode cX11_book 83 = .ok (.iaload, 1) := by decide +kernel
theorem dX11_book_84 : decode cX11_book 84 = .ok (.ireturn, 1) := by decide +kernel
theorem dX11_become_0 : decode cX11_become 0 = .ok (.aload_n 0, 1) := by decide +kernel
theorem dX11_become_1 : decode cX11_become 1 = .ok (.iload_n 1, 1) := by decide +kernel
theorem dX11_become_2 : decode cX11_become 2 = .ok (.invokevirtual 122, 3) := by decide +kernel
theorem dX11_become_5 : decode cX11_become 5 = .ok (.ifCond .eq 13, 3) := by decide +kernel
theorem dX11_become_8 : decode cX11_become 8 = .ok (.iload_n 2, 1) := by decide +kernel
theorem dX11_become_9 : decode cX11_become 9 = .ok (.iconst 0, 1) := by decide +kernel
theorem dX11_become_10 : decode cX11_become 10 = .ok (.bipush 69, 2) := by decide +kernel
theorem dX11_become_12 : decode cX11_become 12 = .ok (.invokestatic 79, 3) := by decide +kernel
theorem dX11_become_15 : decode cX11_become 15 = .ok (.ifCond .ne 9, 3) := by decide +kernel
theorem dX11_become_18 : decode cX11_become 18 = .ok (.aload_n 0, 1) := by decide +kernel
theorem dX11_become_19 : decode cX11_become 19 = .ok (.iconst 1, 1) := by decide +kernel
theorem dX11_become_20 : decode cX11_become 20 = .ok (.invokevirtual 83, 3) := by decide +kernel
theorem dX11_become_23 : decode cX11_become 23 = .ok (.ireturn, 1) := by decide +kernel
theorem dX11_become_24 : decode cX11_become 24 = .ok (.aload_n 0, 1) := by decide +kernel
theorem dX11_become_25 : decode cX11_become 25 = .ok (.getfield 10, 3) := by decide +kernel
theorem dX11_become_28 : decode cX11_become 28 = .ok (.getfield 114, 3) := by decide +kernel
theorem dX11_become_31 : decode cX11_become 31 = .ok (.getfield 125, 3) := by decide +kernel
theorem dX11_become_34 : decode cX11_become 34 = .ok (.iload_n 1, 1) := by decide +kernel
theorem dX11_become_35 : decode cX11_become 35 = .ok (.aaload, 1) := by decide +kernel
theorem dX11_become_36 : decode cX11_become 36 = .ok (.astore_n 3, 1) := by decide +kernel
theorem dX11_become_37 : decode cX11_become 37 = .ok (.aload_n 3, 1) := by decide +kernel
theorem dX11_become_38 : decode cX11_become 38 = .ok (.getfield 129, 3) := by decide +kernel
theorem dX11_become_41 : decode cX11_become 41 = .ok (.istore 4, 2) := by decide +kernel
theorem dX11_become_43 : decode cX11_become 43 = .ok (.aload_n 3, 1) := by decide +kernel
theorem dX11_become_44 : decode cX11_become 44 = .ok (.iload_n 2, 1) := by decide +kernel
theorem dX11_become_45 : decode cX11_become 45 = .ok (.bipush 10, 2) := by decide +kernel
theorem dX11_become_47 : decode cX11_become 47 = .ok (.idiv, 1) := by decide +kernel
theorem dX11_become_48 : decode cX11_become 48 = .ok (.putfield 129, 3) := by decide +kernel
theorem dX11_become_51 : decode cX11_become 51 = .ok (.aload_n 3, 1) := by decide +kernel
theorem dX11_become_52 : decode cX11_become 52 = .ok (.iload_n 2, 1) := by decide +kernel
theorem dX11_become_53 : decode cX11_become 53 = .ok (.bipush 10, 2) := by decide +kernel
theorem dX11_become_55 : decode cX11_become 55 = .ok (.irem, 1) := by decide +kernel
theorem dX11_become_56 : decode cX11_become 56 = .ok (.putfield 134, 3) := by decide +kernel
theorem dX11_become_59 : decode cX11_become 59 = .ok (.iload 4, 2) := by decide +kernel
theorem dX11_become_61 : decode cX11_become 61 = .ok (.ireturn, 1) := by decide +kernel
theorem dX11_as_0 : decode cX11_as 0 = .ok (.aload_n 0, 1) := by decide +kernel
theorem dX11_as_1 : decode cX11_as 1 = .ok (.iload_n 1, 1) := by decide +kernel
theorem dX11_as_2 : decode cX11_as 2 = .ok (.invokevirtual 122, 3) := by decide +kernel
theorem dX11_as_5 : decode cX11_as 5 = .ok (.ifCond .eq 10, 3) := by decide +kernel
theorem dX11_as_8 : decode cX11_as 8 = .ok (.iload_n 2, 1) := by decide +kernel
theorem dX11_as_9 : decode cX11_as 9 = .ok (.invokestatic 170, 3) := by decide +kernel
theorem dX11_as_12 : decode cX11_as 12 = .ok (.ifCond .ne 9, 3) := by decide +kernel
theorem dX11_as_15 : decode cX11_as 15 = .ok (.aload_n 0, 1) := by decide +kernel
theorem dX11_as_16 : decode cX11_as 16 = .ok (.iconst 1, 1) := by decide +kernel
theorem dX11_as_17 : decode cX11_as 17 = .ok (.invokevirtual 83, 3) := by decide +kernel
theorem dX11_as_20 : decode cX11_as 20 = .ok (.ireturn, 1) := by decide +kernel
theorem dX11_as_21 : decode cX11_as 21 = .ok (.aload_n 0, 1) := by decide +kernel
theorem dX11_as_22 : decode cX11_as 22 = .ok (.getfield 10, 3) := by decide +kernel
theorem dX11_as_25 : decode cX11_as 25 = .ok (.getfield 114, 3) := by decide +kernel
theorem dX11_as_28 : decode cX11_as 28 = .ok (.getfield 125, 3) := by decide +kernel
theorem dX11_as_31 : decode cX11_as 31 = .ok (.iload_n 1, 1) := by decide +kernel
theorem dX11_as_32 : decode cX11_as 32 = .ok (.aaload, 1) := by decide +kernel
theorem dX11_as_33 : decode cX11_as 33 = .ok (.astore_n 3, 1) := by decide +kernel
theorem dX11_as_34 : decode cX11_as 34 = .ok (.aload_n 3, 1) := by decide +kernel
theorem dX11_as_35 : decode cX11_as 35 = .ok (.iload_n 2, 1) := by decide +kernel
theorem dX11_as_36 : decode cX11_as 36 = .ok (.invokevirtual 173, 3) := by decide +kernel
theorem dX11_as_39 : decode cX11_as 39 = .ok (.ifCond .eq 10, 3) := by decide +kernel
theorem dX11_as_42 : decode cX11_as 42 = .ok (.aload_n 3, 1) := by decide +kernel
theorem dX11_as_43 : decode cX11_as 43 = .ok (.getfield 134, 3) := by decide +kernel
theorem dX11_as_46 : decode cX11_as 46 = .ok (.goto 8, 3) := by decide +kernel
theorem dX11_as_49 : decode cX11_as 49 = .ok (.aload_n 0, 1) := by decide +kernel
theorem dX11_as_50 : decode cX11_as 50 = .ok (.iconst 5, 1) := by decide +kernel
theorem dX11_as_51 : decode cX11_as 51 = .ok (.invokevirtual 83, 3) := by decide +kernel
theorem dX11_as_54 : decode cX11_as 54 = .ok (.ireturn, 1) := by decide +kernel
theorem dX11_lend_0 : decode cX11_lend 0 = .ok (.aload_n 0, 1) := by decide +kernel
theorem dX11_lend_1 : decode cX11_lend 1 = .ok (.iload_n 1, 1) := by decide +kernel
theorem dX11_lend_2 : decode cX11_lend 2 = .ok (.invokevirtual 122, 3) := by decide +kernel
theorem dX11_lend_5 : decode cX11_lend 5 = .ok (.ifCond .eq 14, 3) := by decide +kernel
theorem dX11_lend_8 : decode cX11_lend 8 = .ok (.iload_n 2, 1) := by decide +kernel
theorem dX11_lend_9 : decode cX11_lend 9 = .ok (.iconst 1, 1) := by decide +kernel
theorem dX11_lend_10 : decode cX11_lend 10 = .ok (.sipush 999, 3) := by decide +kernel
theorem dX11_lend_13 : decode cX11_lend 13 = .ok (.invokestatic 79, 3) := by decide +kernel
theorem dX11_lend_16 : decode cX11_lend 16 = .ok (.ifCond .ne 9, 3) := by decide +kernel
theorem dX11_lend_19 : decode cX11_lend 19 = .ok (.aload_n 0, 1) := by decide +kernel
theorem dX11_lend_20 : decode cX11_lend 20 = .ok (.iconst 1, 1) := by decide +kernel
theorem dX11_lend_21 : decode cX11_lend 21 = .ok (.invokevirtual 83, 3) := by decide +kernel
theorem dX11_lend_24 : decode cX11_lend 24 = .ok (.ireturn, 1) := by decide +kernel
theorem dX11_lend_25 : decode cX11_lend 25 = .ok (.aload_n 0, 1) := by decide +kernel
theorem dX11_lend_26 : decode cX11_lend 26 = .ok (.getfield 10, 3) := by decide +kernel
theorem dX11_lend_29 : decode cX11_lend 29 = .ok (.getfield 114, 3) := by decide +kernel
theorem dX11_lend_32 : decode cX11_lend 32 = .ok (.getfield 125, 3) := by decide +kernel
theorem dX11_lend_35 : decode cX11_lend 35 = .ok (.iload_n 1, 1) := by decide +kernel
theorem dX11_lend_36 : decode cX11_lend 36 = .ok (.aaload, 1) := by decide +kernel
theorem dX11_lend_37 : decode cX11_lend 37 = .ok (.astore_n 3, 1) := by decide +kernel
theorem dX11_lend_38 : decode cX11_lend 38 = .ok (.aload_n 3, 1) := by decide +kernel
theorem dX11_lend_39 : decode cX11_lend 39 = .ok (.getfield 176, 3) := by decide +kernel
theorem dX11_lend_42 : decode cX11_lend 42 = .ok (.ifCond .eq 9, 3) := by decide +kernel
theorem dX11_lend_45 : decode cX11_lend 45 = .ok (.aload_n 0, 1) := by decide +kernel
theorem dX11_lend_46 : decode cX11_lend 46 = .ok (.iconst 3, 1) := by decide +kernel
theorem dX11_lend_47 : decode cX11_lend 47 = .ok (.invokevirtual 83, 3) := by decide +kernel
theorem dX11_lend_50 : decode cX11_lend 50 = .ok (.ireturn, 1) := by decide +kernel
theorem dX11_lend_51 : decode cX11_lend 51 = .ok (.aload_n 3, 1) := by decide +kernel
theorem dX11_lend_52 : decode cX11_lend 52 = .ok (.iload_n 2, 1) := by decide +kernel
theorem dX11_lend_53 : decode cX11_lend 53 = .ok (.invokevirtual 180, 3) := by decide +kernel
theorem dX11_lend_56 : decode cX11_lend 56 = .ok (.aload_n 3, 1) := by decide +kernel
theorem dX11_lend_57 : decode cX11_lend 57 = .ok (.getfield 147, 3) := by decide +kernel
theorem dX11_lend_60 : decode cX11_lend 60 = .ok (.ireturn, 1) := by decide +kernel
theorem dX11_tells_0 : decode cX11_tells 0 = .ok (.aload_n 0, 1) := by decide +kernel
theorem dX11_tells_1 : decode cX11_tells 1 = .ok (.iload_n 1, 1) := by decide +kernel
theorem dX11_tells_2 : decode cX11_tells 2 = .ok (.invokevirtual 122, 3) := by decide +kernel
theorem dX11_tells_5 : decode cX11_tells 5 = .ok (.ifCond .eq 11, 3) := by decide +kernel
theorem dX11_tells_8 : decode cX11_tells 8 = .ok (.aload_n 0, 1) := by decide +kernel
theorem dX11_tells_9 : decode cX11_tells 9 = .ok (.iload_n 2, 1) := by decide +kernel
theorem dX11_tells_10 : decode cX11_tells 10 = .ok (.invokevirtual 91, 3) := by decide +kernel
theorem dX11_tells_13 : decode cX11_tells 13 = .ok (.ifCond .ne 9, 3) := by decide +kernel
theorem dX11_tells_16 : decode cX11_tells 16 = .ok (.aload_n 0, 1) := by decide +kernel
theorem dX11_tells_17 : decode cX11_tells 17 = .ok (.iconst 1, 1) := by decide +kernel
theorem dX11_tells_18 : decode cX11_tells 18 = .ok (.invokevirtual 83, 3) := by decide +kernel
theorem dX11_tells_21 : decode cX11_tells 21 = .ok (.ireturn, 1) := by decide +kernel
theorem dX11_tells_22 : decode cX11_tells 22 = .ok (.aload_n 0, 1) := by decide +kernel
theorem dX11_tells_23 : decode cX11_tells 23 = .ok (.iload_n 1, 1) := by decide +kernel
theorem dX11_tells_24 : decode cX11_tells 24 = .ok (.iload_n 2, 1) := by decide +kernel
theorem dX11_tells_25 : decode cX11_tells 25 = .ok (.invokevirtual 184, 3) := by decide +kernel
theorem dX11_tells_28 : decode cX11_tells 28 = .ok (.ifCond .ne 9, 3) := by decide +kernel
theorem dX11_tells_31 : decode cX11_tells 31 = .ok (.aload_n 0, 1) := by decide +kernel
theorem dX11_tells_32 : decode cX11_tells 32 = .ok (.iconst 3, 1) := by decide +kernel
theorem dX11_tells_33 : decode cX11_tells 33 = .ok (.invokevirtual 83, 3) := by decide +kernel
theorem dX11_tells_36 : decode cX11_tells 36 = .ok (.ireturn, 1) := by decide +kernel
theorem dX11_tells_37 : decode cX11_tells 37 = .ok (.aload_n 0, 1) := by decide +kernel
theorem dX11_tells_38 : decode cX11_tells 38 = .ok (.getfield 10, 3) := by decide +kernel
theorem dX11_tells_41 : decode cX11_tells 41 = .ok (.getfield 114, 3) := by decide +kernel
theorem dX11_tells_44 : decode cX11_tells 44 = .ok (.iload_n 1, 1) := by decide +kernel
theorem dX11_tells_45 : decode cX11_tells 45 = .ok (.iload_n 2, 1) := by decide +kernel
theorem dX11_tells_46 : decode cX11_tells 46 = .ok (.invokevirtual 188, 3) := by decide +kernel
theorem dX11_tells_49 : decode cX11_tells 49 = .ok (.aload_n 0, 1) := by decide +kernel
theorem dX11_tells_50 : decode cX11_tells 50 = .ok (.getfield 10, 3) := by decide +kernel
theorem dX11_tells_53 : decode cX11_tells 53 = .ok (.getfield 114, 3) := by decide +kernel
theorem dX11_tells_56 : decode cX11_tells 56 = .ok (.getfield 125, 3) := by decide +kernel
theorem dX11_tells_59 : decode cX11_tells 59 = .ok (.iload_n 1, 1) := by decide +kernel
theorem dX11_tells_60 : decode cX11_tells 60 = .ok (.aaload, 1) := by decide +kernel
theorem dX11_tells_61 : decode cX11_tells 61 = .ok (.getfield 147, 3) := by decide +kernel
theorem dX11_tells_64 : decode cX11_tells 64 = .ok (.ireturn, 1) := by decide +kernel
theorem dX11_pardon_0 : decode cX11_pardon 0 = .ok (.aload_n 0, 1) := by decide +kernel
theorem dX11_pardon_1 : decode cX11_pardon 1 = .ok (.iload_n 1, 1) := by decide +kernel
theorem dX11_pardon_2 : decode cX11_pardon 2 = .ok (.invokevirtual 122, 3) := by decide +kernel
theorem dX11_pardon_5 : decode cX11_pardon 5 = .ok (.ifCond .ne 9, 3) := by decide +kernel
theorem dX11_pardon_8 : decode cX11_pardon 8 = .ok (.aload_n 0, 1) := by decide +kernel
theorem dX11_pardon_9 : decode cX11_pardon 9 = .ok (.iconst 1, 1) := by decide +kernel
theorem dX11_pardon_10 : decode cX11_pardon 10 = .ok (.invokevirtual 83, 3) := by decide +kernel
theorem dX11_pardon_13 : decode cX11_pardon 13 = .ok (.ireturn, 1) := by decide +kernel
theorem dX11_pardon_14 : decode cX11_pardon 14 = .ok (.aload_n 0, 1) := by decide +kernel
theorem dX11_pardon_15 : decode cX11_pardon 15 = .ok (.getfield 10, 3) := by decide +kernel
theorem dX11_pardon_18 : decode cX11_pardon 18 = .ok (.getfield 114, 3) := by decide +kernel
theorem dX11_pardon_21 : decode cX11_pardon 21 = .ok (.getfield 125, 3) := by decide +kernel
theorem dX11_pardon_24 : decode cX11_pardon 24 = .ok (.iload_n 1, 1) := by decide +kernel
theorem dX11_pardon_25 : decode cX11_pardon 25 = .ok (.aaload, 1) := by decide +kernel
theorem dX11_pardon_26 : decode cX11_pardon 26 = .ok (.astore_n 2, 1) := by decide +kernel
theorem dX11_pardon_27 : decode cX11_pardon 27 = .ok (.aload_n 2, 1) := by decide +kernel
theorem dX11_pardon_28 : decode cX11_pardon 28 = .ok (.getfield 176, 3) := by decide +kernel
theorem dX11_pardon_31 : decode cX11_pardon 31 = .ok (.ifCond .ne 9, 3) := by decide +kernel
theorem dX11_pardon_34 : decode cX11_pardon 34 = .ok (.aload_n 0, 1) := by decide +kernel
theorem dX11_pardon_35 : decode cX11_pardon 35 = .ok (.iconst 3, 1) := by decide +kernel
theorem dX11_pardon_36 : decode cX11_pardon 36 = .ok (.invokevirtual 83, 3) := by decide +kernel
theorem dX11_pardon_39 : decode cX11_pardon 39 = .ok (.ireturn, 1) := by decide +kernel
theorem dX11_pardon_40 : decode cX11_pardon 40 = .ok (.aload_n 2, 1) := by decide +kernel
theorem dX11_pardon_41 : decode cX11_pardon 41 = .ok (.getfield 153, 3) := by decide +kernel
theorem dX11_pardon_44 : decode cX11_pardon 44 = .ok (.istore_n 3, 1) := by decide +kernel
theorem dX11_pardon_45 : decode cX11_pardon 45 = .ok (.aload_n 2, 1) := by decide +kernel
theorem dX11_pardon_46 : decode cX11_pardon 46 = .ok (.invokevirtual 192, 3) := by decide +kernel
theorem dX11_pardon_49 : decode cX11_pardon 49 = .ok (.iload_n 3, 1) := by decide +kernel
theorem dX11_pardon_50 : decode cX11_pardon 50 = .ok (.ireturn, 1) := by decide +kernel
theorem dX11_weeks_0 : decode cX11_weeks 0 = .ok (.iload_n 1, 1) := by decide +kernel
theorem dX11_weeks_1 : decode cX11_weeks 1 = .ok (.iconst 1, 1) := by decide +kernel
theorem dX11_weeks_2 : decode cX11_weeks 2 = .ok (.bipush 60, 2) := by decide +kernel
theorem dX11_weeks_4 : decode cX11_weeks 4 = .ok (.invokestatic 79, 3) := by decide +kernel
theorem dX11_weeks_7 : decode cX11_weeks 7 = .ok (.ifCond .ne 9, 3) := by decide +kernel
theorem dX11_weeks_10 : decode cX11_weeks 10 = .ok (.aload_n 0, 1) := by decide +kernel
theorem dX11_weeks_11 : decode cX11_weeks 11 = .ok (.iconst 1, 1) := by decide +kernel
theorem dX11_weeks_12 : decode cX11_weeks 12 = .ok (.invokevirtual 83, 3) := by decide +kernel
theorem dX11_weeks_15 : decode cX11_weeks 15 = .ok (.ireturn, 1) := by decide +kernel
theorem dX11_weeks_16 : decode cX11_weeks 16 = .ok (.aload_n 0, 1) := by decide +kernel
theorem dX11_weeks_17 : decode cX11_weeks 17 = .ok (.getfield 10, 3) := by decide +kernel
theorem dX11_weeks_20 : decode cX11_weeks 20 = .ok (.getfield 114, 3) := by decide +kernel
theorem dX11_weeks_23 : decode cX11_weeks 23 = .ok (.getfield 195, 3) := by decide +kernel
theorem dX11_weeks_26 : decode cX11_weeks 26 = .ok (.iload_n 1, 1) := by decide +kernel
theorem dX11_weeks_27 : decode cX11_weeks 27 = .ok (.iadd, 1) := by decide +kernel
theorem dX11_weeks_28 : decode cX11_weeks 28 = .ok (.sipush 999, 3) := by decide +kernel
theorem dX11_weeks_31 : decode cX11_weeks 31 = .ok (.if_icmp .le 9, 3) := by decide +kernel
theorem dX11_weeks_34 : decode cX11_weeks 34 = .ok (.aload_n 0, 1) := by decide +kernel
theorem dX11_weeks_35 : decode cX11_weeks 35 = .ok (.iconst 3, 1) := by decide +kernel
theorem dX11_weeks_36 : decode cX11_weeks 36 = .ok (.invokevirtual 83, 3) := by decide +kernel
theorem dX11_weeks_39 : decode cX11_weeks 39 = .ok (.ireturn, 1) := by decide +kernel
theorem dX11_weeks_40 : decode cX11_weeks 40 = .ok (.aload_n 0, 1) := by decide +kernel
theorem dX11_weeks_41 : decode cX11_weeks 41 = .ok (.getfield 10, 3) := by decide +kernel
theorem dX11_weeks_44 : decode cX11_weeks 44 = .ok (.getfield 114, 3) := by decide +kernel
theorem dX11_weeks_47 : decode cX11_weeks 47 = .ok (.iload_n 1, 1) := by decide +kernel
theorem dX11_weeks_48 : decode cX11_weeks 48 = .ok (.invokevirtual 198, 3) := by decide +kernel
theorem dX11_weeks_51 : decode cX11_weeks 51 = .ok (.aload_n 0, 1) := by decide +kernel
theorem dX11_weeks_52 : decode cX11_weeks 52 = .ok (.getfield 10, 3) := by decide +kernel
theorem dX11_weeks_55 : decode cX11_weeks 55 = .ok (.getfield 114, 3) := by decide +kernel
theorem dX11_weeks_58 : decode cX11_weeks 58 = .ok (.invokevirtual 201, 3) := by decide +kernel
theorem dX11_weeks_61 : decode cX11_weeks 61 = .ok (.ireturn, 1) := by decide +kernel
theorem dX11_loose_0 : decode cX11_loose 0 = .ok (.iload_n 1, 1) := by decide +kernel
theorem dX11_loose_1 : decode cX11_loose 1 = .ok (.iconst 1, 1) := by decide +kernel
theorem dX11_loose_2 : decode cX11_loose 2 = .ok (.bipush 60, 2) := by decide +kernel
theorem dX11_loose_4 : decode cX11_loose 4 = .ok (.invokestatic 79, 3) := by decide +kernel
theorem dX11_loose_7 : decode cX11_loose 7 = .ok (.ifCond .ne 9, 3) := by decide +kernel
theorem dX11_loose_10 : decode cX11_loose 10 = .ok (.aload_n 0, 1) := by decide +kernel
theorem dX11_loose_11 : decode cX11_loose 11 = .ok (.iconst 1, 1) := by decide +kernel
theorem dX11_loose_12 : decode cX11_loose 12 = .ok (.invokevirtual 83, 3) := by decide +kernel
theorem dX11_loose_15 : decode cX11_loose 15 = .ok (.ireturn, 1) := by decide +kernel
theorem dX11_loose_16 : decode cX11_loose 16 = .ok (.aload_n 0, 1) := by decide +kernel
theorem dX11_loose_17 : decode cX11_loose 17 = .ok (.getfield 10, 3) := by decide +kernel
theorem dX11_loose_20 : decode cX11_loose 20 = .ok (.getfield 114, 3) := by decide +kernel
theorem dX11_loose_23 : decode cX11_loose 23 = .ok (.getfield 195, 3) := by decide +kernel
theorem dX11_loose_26 : decode cX11_loose 26 = .ok (.iload_n 1, 1) := by decide +kernel
theorem dX11_loose_27 : decode cX11_loose 27 = .ok (.iadd, 1) := by decide +kernel
theorem dX11_loose_28 : decode cX11_loose 28 = .ok (.sipush 999, 3) := by decide +kernel
theorem dX11_loose_31 : decode cX11_loose 31 = .ok (.if_icmp .le 9, 3) := by decide +kernel
theorem dX11_loose_34 : decode cX11_loose 34 = .ok (.aload_n 0, 1) := by decide +kernel
theorem dX11_loose_35 : decode cX11_loose 35 = .ok (.iconst 3, 1) := by decide +kernel
theorem dX11_loose_36 : decode cX11_loose 36 = .ok (.invokevirtual 83, 3) := by decide +kernel
theorem dX11_loose_39 : decode cX11_loose 39 = .ok (.ireturn, 1) := by decide +kernel
theorem dX11_loose_40 : decode cX11_loose 40 = .ok (.iconst 0, 1) := by decide +kernel
theorem dX11_loose_41 : decode cX11_loose 41 = .ok (.istore_n 2, 1) := by decide +kernel
theorem dX11_loose_42 : decode cX11_loose 42 = .ok (.iload_n 2, 1) := by decide +kernel
theorem dX11_loose_43 : decode cX11_loose 43 = .ok (.iload_n 1, 1) := by decide +kernel
theorem dX11_loose_44 : decode cX11_loose 44 = .ok (.if_icmp .ge 27, 3) := by decide +kernel
theorem dX11_loose_47 : decode cX11_loose 47 = .ok (.aload_n 0, 1) := by decide +kernel
theorem dX11_loose_48 : decode cX11_loose 48 = .ok (.getfield 10, 3) := by decide +kernel
theorem dX11_loose_51 : decode cX11_loose 51 = .ok (.invokevirtual 203, 3) := by decide +kernel
theorem dX11_loose_54 : decode cX11_loose 54 = .ok (.aload_n 0, 1) := by decide +kernel
theorem dX11_loose_55 : decode cX11_loose 55 = .ok (.getfield 10, 3) := by decide +kernel
theorem dX11_loose_58 : decode cX11_loose 58 = .ok (.getfield 114, 3) := by decide +kernel
theorem dX11_loose_61 : decode cX11_loose 61 = .ok (.iconst 1, 1) := by decide +kernel
theorem dX11_loose_62 : decode cX11_loose 62 = .ok (.invokevirtual 198, 3) := by decide +kernel
theorem dX11_loose_65 : decode cX11_loose 65 = .ok (.iinc 2 1, 3) := by decide +kernel
theorem dX11_loose_68 : decode cX11_loose 68 = .ok (.goto (-26), 3) := by decide +kernel
theorem dX11_loose_71 : decode cX11_loose 71 = .ok (.aload_n 0, 1) := by decide +kernel
theorem dX11_loose_72 : decode cX11_loose 72 = .ok (.getfield 10, 3) := by decide +kernel
theorem dX11_loose_75 : decode cX11_loose 75 = .ok (.getfield 114, 3) := by decide +kernel
theorem dX11_loose_78 : decode cX11_loose 78 = .ok (.invokevirtual 201, 3) := by decide +kernel
theorem dX11_loose_81 : decode cX11_loose 81 = .ok (.ireturn, 1) := by decide +kernel
theorem dX11_then_0 : decode cX11_then 0 = .ok (.iload_n 1, 1) := by decide +kernel
theorem dX11_then_1 : decode cX11_then 1 = .ok (.iconst 0, 1) := by decide +kernel
theorem dX11_then_2 : decode cX11_then 2 = .ok (.bipush 60, 2) := by decide +kernel
theorem dX11_then_4 : decode cX11_then 4 = .ok (.invokestatic 79, 3) := by decide +kernel
theorem dX11_then_7 : decode cX11_then 7 = .ok (.ifCond .eq 27, 3) := by decide +kernel
theorem dX11_then_10 : decode cX11_then 10 = .ok (.aload_n 0, 1) := by decide +kernel
theorem dX11_then_11 : decode cX11_then 11 = .ok (.iload_n 2, 1) := by decide +kernel
theorem dX11_then_12 : decode cX11_then 12 = .ok (.invokevirtual 122, 3) := by decide +kernel
theorem dX11_then_15 : decode cX11_then 15 = .ok (.ifCond .eq 19, 3) := by decide +kernel
theorem dX11_then_18 : decode cX11_then 18 = .ok (.iload_n 3, 1) := by decide +kernel
theorem dX11_then_19 : decode cX11_then 19 = .ok (.iconst 2, 1) := by decide +kernel
theorem dX11_then_20 : decode cX11_then 20 = .ok (.bipush 7, 2) := by decide +kernel
theorem dX11_then_22 : decode cX11_then 22 = .ok (.invokestatic 79, 3) := by decide +kernel
theorem dX11_then_25 : decode cX11_then 25 = .ok (.ifCond .eq 9, 3) := by decide +kernel
theorem dX11_then_28 : decode cX11_then 28 = .ok (.iload_n 3, 1) := by decide +kernel
theorem dX11_then_29 : decode cX11_then 29 = .ok (.bipush 6, 2) := by decide +kernel
theorem dX11_then_31 : decode cX11_then 31 = .ok (.if_icmp .ne 9, 3) := by decide +kernel
theorem dX11_then_34 : decode cX11_then 34 = .ok (.aload_n 0, 1) := by decide +kernel
theorem dX11_then_35 : decode cX11_then 35 = .ok (.iconst 1, 1) := by decide +kernel
theorem dX11_then_36 : decode cX11_then 36 = .ok (.invokevirtual 83, 3) := by decide +kernel
theorem dX11_then_39 : decode cX11_then 39 = .ok (.ireturn, 1) := by decide +kernel
theorem dX11_then_40 : decode cX11_then 40 = .ok (.aload_n 0, 1) := by decide +kernel
theorem dX11_then_41 : decode cX11_then 41 = .ok (.getfield 32, 3) := by decide +kernel
theorem dX11_then_44 : decode cX11_then 44 = .ok (.aload_n 0, 1) := by decide +kernel
theorem dX11_then_45 : decode cX11_then 45 = .ok (.getfield 10, 3) := by decide +kernel
theorem dX11_then_48 : decode cX11_then 48 = .ok (.getfield 114, 3) := by decide +kernel
theorem dX11_then_51 : decode cX11_then 51 = .ok (.invokevirtual 206, 3) := by decide +kernel
theorem dX11_then_54 : decode cX11_then 54 = .ok (.aload_n 0, 1) := by decide +kernel
theorem dX11_then_55 : decode cX11_then 55 = .ok (.getfield 32, 3) := by decide +kernel
theorem dX11_then_58 : decode cX11_then 58 = .ok (.iload_n 1, 1) := by decide +kernel
theorem dX11_then_59 : decode cX11_then 59 = .ok (.invokevirtual 198, 3) := by decide +kernel
theorem dX11_then_62 : decode cX11_then 62 = .ok (.aload_n 0, 1) := by decide +kernel
theorem dX11_then_63 : decode cX11_then 63 = .ok (.getfield 32, 3) := by decide +kernel
theorem dX11_then_66 : decode cX11_then 66 = .ok (.iload_n 2, 1) := by decide +kernel
theorem dX11_then_67 : decode cX11_then 67 = .ok (.iload_n 3, 1) := by decide +kernel
theorem dX11_then_68 : decode cX11_then 68 = .ok (.invokestatic 160, 3) := by decide +kernel
theorem dX11_then_71 : decode cX11_then 71 = .ok (.ireturn, 1) := by decide +kernel
theorem dX11_feed_0 : decode cX11_feed 0 = .ok (.iload_n 3, 1) := by decide +kernel
theorem dX11_feed_1 : decode cX11_feed 1 = .ok (.iconst 1, 1) := by decide +kernel
theorem dX11_feed_2 : decode cX11_feed 2 = .ok (.bipush 8, 2) := by decide +kernel
theorem dX11_feed_4 : decode cX11_feed 4 = .ok (.invokestatic 79, 3) := by decide +kernel
theorem dX11_feed_7 : decode cX11_feed 7 = .ok (.ifCond .ne 9, 3) := by decide +kernel
theorem dX11_feed_10 : decode cX11_feed 10 = .ok (.aload_n 0, 1) := by decide +kernel
theorem dX11_feed_11 : decode cX11_feed 11 = .ok (.iconst 1, 1) := by decide +kernel
theorem dX11_feed_12 : decode cX11_feed 12 = .ok (.invokevirtual 83, 3) := by decide +kernel
theorem dX11_feed_15 : decode cX11_feed 15 = .ok (.ireturn, 1) := by decide +kernel
theorem dX11_feed_16 : decode cX11_feed 16 = .ok (.aload_n 0, 1) := by decide +kernel
theorem dX11_feed_17 : decode cX11_feed 17 = .ok (.getfield 10, 3) := by decide +kernel
theorem dX11_feed_20 : decode cX11_feed 20 = .ok (.getfield 210, 3) := by decide +kernel
theorem dX11_feed_23 : decode cX11_feed 23 = .ok (.astore 4, 2) := by decide +kernel
theorem dX11_feed_25 : decode cX11_feed 25 = .ok (.aload 4, 2) := by decide +kernel
theorem dX11_feed_27 : decode cX11_feed 27 = .ok (.getfield 214, 3) := by decide +kernel
theorem dX11_feed_30 : decode cX11_feed 30 = .ok (.iload_n 3, 1) := by decide +kernel
theorem dX11_feed_31 : decode cX11_feed 31 = .ok (.iadd, 1) := by decide +kernel
theorem dX11_feed_32 : decode cX11_feed 32 = .ok (.bipush 50, 2) := by decide +kernel
theorem dX11_feed_34 : decode cX11_feed 34 = .ok (.if_icmp .le 9, 3) := by decide +kernel
theorem dX11_feed_37 : decode cX11_feed 37 = .ok (.aload_n 0, 1) := by decide +kernel
theorem dX11_feed_38 : decode cX11_feed 38 = .ok (.iconst 4, 1) := by decide +kernel
theorem dX11_feed_39 : decode cX11_feed 39 = .ok (.invokevirtual 83, 3) := by decide +kernel
theorem dX11_feed_42 : decode cX11_feed 42 = .ok (.ireturn, 1) := by decide +kernel
theorem dX11_feed_43 : decode cX11_feed 43 = .ok (.iconst 0, 1) := by decide +kernel
theorem dX11_feed_44 : decode cX11_feed 44 = .ok (.istore 5, 2) := by decide +kernel
theorem dX11_feed_46 : decode cX11_feed 46 = .ok (.iload 5, 2) := by decide +kernel
theorem dX11_feed_48 : decode cX11_feed 48 = .ok (.iload_n 3, 1) := by decide +kernel
theorem dX11_feed_49 : decode cX11_feed 49 = .ok (.if_icmp .ge 26, 3) := by decide +kernel
theorem dX11_feed_52 : decode cX11_feed 52 = .ok (.aload 4, 2) := by decide +kernel
theorem dX11_feed_54 : decode cX11_feed 54 = .ok (.lload_n 1, 1) := by decide +kernel
theorem dX11_feed_55 : decode cX11_feed 55 = .ok (.bipush 8, 2) := by decide +kernel
theorem dX11_feed_57 : decode cX11_feed 57 = .ok (.iload 5, 2) := by decide +kernel
theorem dX11_feed_59 : decode cX11_feed 59 = .ok (.imul, 1) := by decide +kernel
theorem dX11_feed_60 : decode cX11_feed 60 = .ok (.lushr, 1) := by decide +kernel
theorem dX11_feed_61 : decode cX11_feed 61 = .ok (.l2i, 1) := by decide +kernel
theorem dX11_feed_62 : decode cX11_feed 62 = .ok (.sipush 255, 3) := by decide +kernel
theorem dX11_feed_65 : decode cX11_feed 65 = .ok (.iand, 1) := by decide +kernel
theorem dX11_feed_66 : decode cX11_feed 66 = .ok (.invokevirtual 217, 3) := by decide +kernel
theorem dX11_feed_69 : decode cX11_feed 69 = .ok (.iinc 5 1, 3) := by decide +kernel
theorem dX11_feed_72 : decode cX11_feed 72 = .ok (.goto (-26), 3) := by decide +kernel
theorem dX11_feed_75 : decode cX11_feed 75 = .ok (.aload 4, 2) := by decide +kernel
theorem dX11_feed_77 : decode cX11_feed 77 = .ok (.getfield 214, 3) := by decide +kernel
theorem dX11_feed_80 : decode cX11_feed 80 = .ok (.ireturn, 1) := by decide +kernel
theorem dX11_text_0 : decode cX11_text 0 = .ok (.iload_n 1, 1) := by decide +kernel
theorem dX11_text_1 : decode cX11_text 1 = .ok (.invokestatic 219, 3) := by decide +kernel
theorem dX11_text_4 : decode cX11_text 4 = .ok (.ifCond .ne 9, 3) := by decide +kernel
theorem dX11_text_7 : decode cX11_text 7 = .ok (.aload_n 0, 1) := by decide +kernel
theorem dX11_text_8 : decode cX11_text 8 = .ok (.iconst 1, 1) := by decide +kernel
theorem dX11_text_9 : decode cX11_text 9 = .ok (.invokevirtual 83, 3) := by decide +kernel
theorem dX11_text_12 : decode cX11_text 12 = .ok (.ireturn, 1) := by decide +kernel
theorem dX11_text_13 : decode cX11_text 13 = .ok (.aload_n 0, 1) := by decide +kernel
theorem dX11_text_14 : decode cX11_text 14 = .ok (.getfield 48, 3) := by decide +kernel
theorem dX11_text_17 : decode cX11_text 17 = .ok (.aload_n 0, 1) := by decide +kernel
theorem dX11_text_18 : decode cX11_text 18 = .ok (.getfield 10, 3) := by decide +kernel
theorem dX11_text_21 : decode cX11_text 21 = .ok (.getfield 210, 3) := by decide +kernel
theorem dX11_text_24 : decode cX11_text 24 = .ok (.iload_n 1, 1) := by decide +kernel
theorem dX11_text_25 : decode cX11_text 25 = .ok (.invokevirtual 222, 3) := by decide +kernel
theorem dX11_text_28 : decode cX11_text 28 = .ok (.istore_n 2, 1) := by decide +kernel
theorem dX11_text_29 : decode cX11_text 29 = .ok (.aload_n 0, 1) := by decide +kernel
theorem dX11_text_30 : decode cX11_text 30 = .ok (.getfield 10, 3) := by decide +kernel
theorem dX11_text_33 : decode cX11_text 33 = .ok (.getfield 210, 3) := by decide +kernel
theorem dX11_text_36 : decode cX11_text 36 = .ok (.iconst 0, 1) := by decide +kernel
theorem dX11_text_37 : decode cX11_text 37 = .ok (.putfield 214, 3) := by decide +kernel
theorem dX11_text_40 : decode cX11_text 40 = .ok (.iload_n 2, 1) := by decide +kernel
theorem dX11_text_41 : decode cX11_text 41 = .ok (.ifCond .lt 8, 3) := by decide +kernel
theorem dX11_text_44 : decode cX11_text 44 = .ok (.bipush (-10), 2) := by decide +kernel
theorem dX11_text_46 : decode cX11_text 46 = .ok (.iload_n 2, 1) := by decide +kernel
theorem dX11_text_47 : decode cX11_text 47 = .ok (.isub, 1) := by decide +kernel
theorem dX11_text_48 : decode cX11_text 48 = .ok (.ireturn, 1) := by decide +kernel
theorem dX11_text_49 : decode cX11_text 49 = .ok (.aload_n 0, 1) := by decide +kernel
theorem dX11_text_50 : decode cX11_text 50 = .ok (.iload_n 1, 1) := by decide +kernel
theorem dX11_text_51 : decode cX11_text 51 = .ok (.invokevirtual 226, 3) := by decide +kernel
theorem dX11_text_54 : decode cX11_text 54 = .ok (.aload_n 0, 1) := by decide +kernel
theorem dX11_text_55 : decode cX11_text 55 = .ok (.getfield 48, 3) := by decide +kernel
theorem dX11_text_58 : decode cX11_text 58 = .ok (.getfield 230, 3) := by decide +kernel
theorem dX11_text_61 : decode cX11_text 61 = .ok (.aload_n 0, 1) := by decide +kernel
theorem dX11_text_62 : decode cX11_text 62 = .ok (.getfield 48, 3) := by decide +kernel
theorem dX11_text_65 : decode cX11_text 65 = .ok (.getfield 233, 3) := by decide +kernel
theorem dX11_text_68 : decode cX11_text 68 = .ok (.invokevirtual 234, 3) := by decide +kernel
theorem dX11_text_71 : decode cX11_text 71 = .ok (.iconst 1, 1) := by decide +kernel
theorem dX11_text_72 : decode cX11_text 72 = .ok (.ireturn, 1) := by decide +kernel
theorem dX11_law_0 : decode cX11_law 0 = .ok (.iload_n 1, 1) := by decide +kernel
theorem dX11_law_1 : decode cX11_law 1 = .ok (.invokestatic 219, 3) := by decide +kernel
theorem dX11_law_4 : decode cX11_law 4 = .ok (.ifCond .eq 18, 3) := by decide +kernel
theorem dX11_law_7 : decode cX11_law 7 = .ok (.aload_n 0, 1) := by decide +kernel
theorem dX11_law_8 : decode cX11_law 8 = .ok (.iload_n 1, 1) := by decide +kernel
theorem dX11_law_9 : decode cX11_law 9 = .ok (.invokevirtual 226, 3) := by decide +kernel
theorem dX11_law_12 : decode cX11_law 12 = .ok (.iload_n 2, 1) := by decide +kernel
theorem dX11_law_13 : decode cX11_law 13 = .ok (.iload_n 3, 1) := by decide +kernel
theorem dX11_law_14 : decode cX11_law 14 = .ok (.iload 4, 2) := by decide +kernel
theorem dX11_law_16 : decode cX11_law 16 = .ok (.invokevirtual 154, 3) := by decide +kernel
theorem dX11_law_19 : decode cX11_law 19 = .ok (.goto 8, 3) := by decide +kernel
theorem dX11_law_22 : decode cX11_law 22 = .ok (.aload_n 0, 1) := by decide +kernel
theorem dX11_law_23 : decode cX11_law 23 = .ok (.iconst 1, 1) := by decide +kernel
theorem dX11_law_24 : decode cX11_law 24 = .ok (.invokevirtual 83, 3) := by decide +kernel
theorem dX11_law_27 : decode cX11_law 27 = .ok (.ireturn, 1) := by decide +kernel
theorem dX11_served_0 : decode cX11_served 0 = .ok (.aload_n 0, 1) := by decide +kernel
theorem dX11_served_1 : decode cX11_served 1 = .ok (.iload_n 1, 1) := by decide +kernel
theorem dX11_served_2 : decode cX11_served 2 = .ok (.iload_n 2, 1) := by decide +kernel
theorem dX11_served_3 : decode cX11_served 3 = .ok (.iconst 0, 1) := by decide +kernel
theorem dX11_served_4 : decode cX11_served 4 = .ok (.invokevirtual 238, 3) := by decide +kernel
theorem dX11_served_7 : decode cX11_served 7 = .ok (.ireturn, 1) := by decide +kernel
theorem dX11_closed_0 : decode cX11_closed 0 = .ok (.aload_n 0, 1) := by decide +kernel
theorem dX11_closed_1 : decode cX11_closed 1 = .ok (.iload_n 1, 1) := by decide +kernel
theorem dX11_closed_2 : decode cX11_closed 2 = .ok (.iload_n 2, 1) := by decide +kernel
theorem dX11_closed_3 : decode cX11_closed 3 = .ok (.iconst 1, 1) := by decide +kernel
theorem dX11_closed_4 : decode cX11_closed 4 = .ok (.invokevirtual 238, 3) := by decide +kernel
theorem dX11_closed_7 : decode cX11_closed 7 = .ok (.ireturn, 1) := by decide +kernel
theorem dX11_clashOf_0 : decode cX11_clashOf 0 = .ok (.iload_n 1, 1) := by decide +kernel
theorem dX11_clashOf_1 : decode cX11_clashOf 1 = .ok (.iconst 0, 1) := by decide +kernel
theorem dX11_clashOf_2 : decode cX11_clashOf 2 = .ok (.iconst 1, 1) := by decide +kernel
theorem dX11_clashOf_3 : decode cX11_clashOf 3 = .ok (.aload_n 0, 1) := by decide +kernel
theorem dX11_clashOf_4 : decode cX11_clashOf 4 = .ok (.getfield 10, 3) := by decide +kernel
theorem dX11_clashOf_7 : decode cX11_clashOf 7 = .ok (.getfield 21, 3) := by decide +kernel
theorem dX11_clashOf_10 : decode cX11_clashOf 10 = .ok (.getfield 73, 3) := by decide +kernel
theorem dX11_clashOf_13 : decode cX11_clashOf 13 = .ok (.ishl, 1) := by decide +kernel
theorem dX11_clashOf_14 : decode cX11_clashOf 14 = .ok (.iconst 1, 1) := by decide +kernel
theorem dX11_clashOf_15 : decode cX11_clashOf 15 = .ok (.isub, 1) := by decide +kernel
theorem dX11_clashOf_16 : decode cX11_clashOf 16 = .ok (.invokestatic 79, 3) := by decide +kernel
theorem dX11_clashOf_19 : decode cX11_clashOf 19 = .ok (.ifCond .ne 9, 3) := by decide +kernel
theorem dX11_clashOf_22 : decode cX11_clashOf 22 = .ok (.aload_n 0, 1) := by decide +kernel
theorem dX11_clashOf_23 : decode cX11_clashOf 23 = .ok (.iconst 1, 1) := by decide +kernel
theorem dX11_clashOf_24 : decode cX11_clashOf 24 = .ok (.invokevirtual 83, 3) := by decide +kernel
theorem dX11_clashOf_27 : decode cX11_clashOf 27 = .ok (.ireturn, 1) := by decide +kernel
theorem dX11_clashOf_28 : decode cX11_clashOf 28 = .ok (.aload_n 0, 1) := by decide +kernel
theorem dX11_clashOf_29 : decode cX11_clashOf 29 = .ok (.getfield 10, 3) := by decide +kernel
theorem dX11_clashOf_32 : decode cX11_clashOf 32 = .ok (.getfield 21, 3) := by decide +kernel
theorem dX11_clashOf_35 : decode cX11_clashOf 35 = .ok (.iload_n 1, 1) := by decide +kernel
theorem dX11_clashOf_36 : decode cX11_clashOf 36 = .ok (.invokevirtual 242, 3) := by decide +kernel
theorem dX11_clashOf_39 : decode cX11_clashOf 39 = .ok (.istore_n 2, 1) := by decide +kernel
theorem dX11_clashOf_40 : decode cX11_clashOf 40 = .ok (.iload_n 2, 1) := by decide +kernel
theorem dX11_clashOf_41 : decode cX11_clashOf 41 = .ok (.ifCond .ge 11, 3) := by decide +kernel
theorem dX11_clashOf_44 : decode cX11_clashOf 44 = .ok (.aload_n 0, 1) := by decide +kernel
theorem dX11_clashOf_45 : decode cX11_clashOf 45 = .ok (.iconst 2, 1) := by decide +kernel
theorem dX11_clashOf_46 : decode cX11_clashOf 46 = .ok (.invokevirtual 83, 3) := by decide +kernel
theorem dX11_clashOf_49 : decode cX11_clashOf 49 = .ok (.goto 4, 3) := by decide +kernel
theorem dX11_clashOf_52 : decode cX11_clashOf 52 = .ok (.iload_n 2, 1) := by decide +kernel
theorem dX11_clashOf_53 : decode cX11_clashOf 53 = .ok (.ireturn, 1) := by decide +kernel
theorem dX11_joined_0 : decode cX11_joined 0 = .ok (.aload_n 0, 1) := by decide +kernel
theorem dX11_joined_1 : decode cX11_joined 1 = .ok (.iload_n 1, 1) := by decide +kernel
theorem dX11_joined_2 : decode cX11_joined 2 = .ok (.invokevirtual 122, 3) := by decide +kernel
theorem dX11_joined_5 : decode cX11_joined 5 = .ok (.ifCond .eq 16, 3) := by decide +kernel
theorem dX11_joined_8 : decode cX11_joined 8 = .ok (.aload_n 0, 1) := by decide +kernel
theorem dX11_joined_9 : decode cX11_joined 9 = .ok (.iload_n 2, 1) := by decide +kernel
theorem dX11_joined_10 : decode cX11_joined 10 = .ok (.invokevirtual 122, 3) := by decide +kernel
theorem dX11_joined_13 : decode cX11_joined 13 = .ok (.ifCond .eq 8, 3) := by decide +kernel
theorem dX11_joined_16 : decode cX11_joined 16 = .ok (.iload_n 1, 1) := by decide +kernel
theorem dX11_joined_17 : decode cX11_joined 17 = .ok (.iload_n 2, 1) := by decide +kernel
theorem dX11_joined_18 : decode cX11_joined 18 = .ok (.if_icmp .ne 9, 3) := by decide +kernel
theorem dX11_joined_21 : decode cX11_joined 21 = .ok (.aload_n 0, 1) := by decide +kernel
theorem dX11_joined_22 : decode cX11_joined 22 = .ok (.iconst 1, 1) := by decide +kernel
theorem dX11_joined_23 : decode cX11_joined 23 = .ok (.invokevirtual 83, 3) := by decide +kernel
theorem dX11_joined_26 : decode cX11_joined 26 = .ok (.ireturn, 1) := by decide +kernel
theorem dX11_joined_27 : decode cX11_joined 27 = .ok (.aload_n 0, 1) := by decide +kernel
theorem dX11_joined_28 : decode cX11_joined 28 = .ok (.getfield 10, 3) := by decide +kernel
theorem dX11_joined_31 : decode cX11_joined 31 = .ok (.getfield 114, 3) := by decide +kernel
theorem dX11_joined_34 : decode cX11_joined 34 = .ok (.getfield 125, 3) := by decide +kernel
theorem dX11_joined_37 : decode cX11_joined 37 = .ok (.iload_n 1, 1) := by decide +kernel
theorem dX11_joined_38 : decode cX11_joined 38 = .ok (.aaload, 1) := by decide +kernel
theorem dX11_joined_39 : decode cX11_joined 39 = .ok (.getfield 245, 3) := by decide +kernel
theorem dX11_joined_42 : decode cX11_joined 42 = .ok (.istore_n 3, 1) := by decide +kernel
theorem dX11_joined_43 : decode cX11_joined 43 = .ok (.aload_n 0, 1) := by decide +kernel
theorem dX11_joined_44 : decode cX11_joined 44 = .ok (.getfield 10, 3) := by decide +kernel
theorem dX11_joined_47 : decode cX11_joined 47 = .ok (.getfield 114, 3) := by decide +kernel
theorem dX11_joined_50 : decode cX11_joined 50 = .ok (.getfield 125, 3) := by decide +kernel
theorem dX11_joined_53 : decode cX11_joined 53 = .ok (.iload_n 2, 1) := by decide +kernel
theorem dX11_joined_54 : decode cX11_joined 54 = .ok (.aaload, 1) := by decide +kernel
theorem dX11_joined_55 : decode cX11_joined 55 = .ok (.getfield 245, 3) := by decide +kernel
theorem dX11_joined_58 : decode cX11_joined 58 = .ok (.istore 4, 2) := by decide +kernel
theorem dX11_joined_60 : decode cX11_joined 60 = .ok (.aload_n 0, 1) := by decide +kernel
theorem dX11_joined_61 : decode cX11_joined 61 = .ok (.getfield 10, 3) := by decide +kernel
theorem dX11_joined_64 : decode cX11_joined 64 = .ok (.getfield 21, 3) := by decide +kernel
theorem dX11_joined_67 : decode cX11_joined 67 = .ok (.iload_n 3, 1) := by decide +kernel
theorem dX11_joined_68 : decode cX11_joined 68 = .ok (.iload 4, 2) := by decide +kernel
theorem dX11_joined_70 : decode cX11_joined 70 = .ok (.invokevirtual 248, 3) := by decide +kernel
theorem dX11_joined_73 : decode cX11_joined 73 = .ok (.ifCond .eq 11, 3) := by decide +kernel
theorem dX11_joined_76 : decode cX11_joined 76 = .ok (.aload_n 0, 1) := by decide +kernel
theorem dX11_joined_77 : decode cX11_joined 77 = .ok (.iconst 2, 1) := by decide +kernel
theorem dX11_joined_78 : decode cX11_joined 78 = .ok (.invokevirtual 83, 3) := by decide +kernel
theorem dX11_joined_81 : decode cX11_joined 81 = .ok (.goto 7, 3) := by decide +kernel
theorem dX11_joined_84 : decode cX11_joined 84 = .ok (.iload_n 3, 1) := by decide +kernel
theorem dX11_joined_85 : decode cX11_joined 85 = .ok (.iload 4, 2) := by decide +kernel
theorem dX11_joined_87 : decode cX11_joined 87 = .ok (.ior, 1) := by decide +kernel
theorem dX11_joined_88 : decode cX11_joined 88 = .ok (.ireturn, 1) := by decide +kernel
theorem dX11_rated_0 : decode cX11_rated 0 = .ok (.aload_n 0, 1) := by decide +kernel
theorem dX11_rated_1 : decode cX11_rated 1 = .ok (.iload_n 1, 1) := by decide +kernel
theorem dX11_rated_2 : decode cX11_rated 2 = .ok (.invokevirtual 122, 3) := by decide +kernel
theorem dX11_rated_5 : decode cX11_rated 5 = .ok (.ifCond .eq 21, 3) := by decide +kernel
theorem dX11_rated_8 : decode cX11_rated 8 = .ok (.iload_n 2, 1) := by decide +kernel
theorem dX11_rated_9 : decode cX11_rated 9 = .ok (.iconst 1, 1) := by decide +kernel
theorem dX11_rated_10 : decode cX11_rated 10 = .ok (.iconst 4, 1) := by decide +kernel
theorem dX11_rated_11 : decode cX11_rated 11 = .ok (.invokestatic 79, 3) := by decide +kernel
theorem dX11_rated_14 : decode cX11_rated 14 = .ok (.ifCond .eq 12, 3) := by decide +kernel
theorem dX11_rated_17 : decode cX11_rated 17 = .ok (.iload_n 3, 1) := by decide +kernel
theorem dX11_rated_18 : decode cX11_rated 18 = .ok (.iconst 0, 1) := by decide +kernel
theorem dX11_rated_19 : decode cX11_rated 19 = .ok (.iconst 1, 1) := by decide +kernel
theorem dX11_rated_20 : decode cX11_rated 20 = .ok (.invokestatic 79, 3) := by decide +kernel
theorem dX11_rated_23 : decode cX11_rated 23 = .ok (.ifCond .ne 9, 3) := by decide +kernel
theorem dX11_rated_26 : decode cX11_rated 26 = .ok (.aload_n 0, 1) := by decide +kernel
theorem dX11_rated_27 : decode cX11_rated 27 = .ok (.iconst 1, 1) := by decide +kernel
theorem dX11_rated_28 : decode cX11_rated 28 = .ok (.invokevirtual 83, 3) := by decide +kernel
theorem dX11_rated_31 : decode cX11_rated 31 = .ok (.ireturn, 1) := by decide +kernel
theorem dX11_rated_32 : decode cX11_rated 32 = .ok (.iload_n 3, 1) := by decide +kernel
theorem dX11_rated_33 : decode cX11_rated 33 = .ok (.ifCond .ne 12, 3) := by decide +kernel
theorem dX11_rated_36 : decode cX11_rated 36 = .ok (.aload_n 0, 1) := by decide +kernel
theorem dX11_rated_37 : decode cX11_rated 37 = .ok (.iload_n 1, 1) := by decide +kernel
theorem dX11_rated_38 : decode cX11_rated 38 = .ok (.iload_n 2, 1) := by decide +kernel
theorem dX11_rated_39 : decode cX11_rated 39 = .ok (.invokevirtual 251, 3) := by decide +kernel
theorem dX11_rated_42 : decode cX11_rated 42 = .ok (.goto 8, 3) := by decide +kernel
theorem dX11_rated_45 : decode cX11_rated 45 = .ok (.aload_n 0, 1) := by decide +kernel
theorem dX11_rated_46 : decode cX11_rated 46 = .ok (.iload_n 1, 1) := by decide +kernel
theorem dX11_rated_47 : decode cX11_rated 47 = .ok (.invokevirtual 254, 3) := by decide +kernel
theorem dX11_rated_50 : decode cX11_rated 50 = .ok (.istore 4, 2) := by decide +kernel
theorem dX11_rated_52 : decode cX11_rated 52 = .ok (.iload 4, 2) := by decide +kernel
theorem dX11_rated_54 : decode cX11_rated 54 = .ok (.ifCond .ge 11, 3) := by decide +kernel
theorem dX11_rated_57 : decode cX11_rated 57 = .ok (.aload_n 0, 1) := by decide +kernel
theorem dX11_rated_58 : decode cX11_rated 58 = .ok (.iconst 2, 1) := by decide +kernel
theorem dX11_rated_59 : decode cX11_rated 59 = .ok (.invokevirtual 83, 3) := by decide +kernel
theorem dX11_rated_62 : decode cX11_rated 62 = .ok (.goto 5, 3) := by decide +kernel
theorem dX11_rated_65 : decode cX11_rated 65 = .ok (.iload 4, 2) := by decide +kernel
theorem dX11_rated_67 : decode cX11_rated 67 = .ok (.ireturn, 1) := by decide +kernel
theorem dX11_explained_0 : decode cX11_explained 0 = .ok (.aload_n 0, 1) := by decide +kernel
theorem dX11_explained_1 : decode cX11_explained 1 = .ok (.iload_n 1, 1) := by decide +kernel
theorem dX11_explained_2 : decode cX11_explained 2 = .ok (.invokevirtual 122, 3) := by decide +kernel
theorem dX11_explained_5 : decode cX11_explained 5 = .ok (.ifCond .eq 10, 3) := by decide +kernel
theorem dX11_explained_8 : decode cX11_explained 8 = .ok (.iload_n 2, 1) := by decide +kernel
theorem dX11_explained_9 : decode cX11_explained 9 = .ok (.invokestatic 257, 3) := by decide +kernel
theorem dX11_explained_12 : decode cX11_explained 12 = .ok (.ifCond .ne 9, 3) := by decide +kernel
theorem dX11_explained_15 : decode cX11_explained 15 = .ok (.aload_n 0, 1) := by decide +kernel
theorem dX11_explained_16 : decode cX11_explained 16 = .ok (.iconst 1, 1) := by decide +kernel
theorem dX11_explained_17 : decode cX11_explained 17 = .ok (.invokevirtual 83, 3) := by decide +kernel
theorem dX11_explained_20 : decode cX11_explained 20 = .ok (.ireturn, 1) := by decide +kernel
theorem dX11_explained_21 : decode cX11_explained 21 = .ok (.aload_n 0, 1) := by decide +kernel
theorem dX11_explained_22 : decode cX11_explained 22 = .ok (.getfield 61, 3) := by decide +kernel
theorem dX11_explained_25 : decode cX11_explained 25 = .ok (.iload_n 2, 1) := by decide +kernel
theorem dX11_explained_26 : decode cX11_explained 26 = .ok (.aaload, 1) := by decide +kernel
theorem dX11_explained_27 : decode cX11_explained 27 = .ok (.invokevirtual 260, 3) := by decide +kernel
theorem dX11_explained_30 : decode cX11_explained 30 = .ok (.ifCond .eq 9, 3) := by decide +kernel
theorem dX11_explained_33 : decode cX11_explained 33 = .ok (.aload_n 0, 1) := by decide +kernel
theorem dX11_explained_34 : decode cX11_explained 34 = .ok (.iconst 2, 1) := by decide +kernel
theorem dX11_explained_35 : decode cX11_explained 35 = .ok (.invokevirtual 83, 3) := by decide +kernel
theorem dX11_explained_38 : decode cX11_explained 38 = .ok (.ireturn, 1) := by decide +kernel
theorem dX11_explained_39 : decode cX11_explained 39 = .ok (.iconst 0, 1) := by decide +kernel
theorem dX11_explained_40 : decode cX11_explained 40 = .ok (.istore_n 3, 1) := by decide +kernel
theorem dX11_explained_41 : decode cX11_explained 41 = .ok (.iload_n 3, 1) := by decide +kernel
theorem dX11_explained_42 : decode cX11_explained 42 = .ok (.bipush 7, 2) := by decide +kernel
theorem dX11_explained_44 : decode cX11_explained 44 = .ok (.if_icmp .ge 26, 3) := by decide +kernel
theorem dX11_explained_47 : decode cX11_explained 47 = .ok (.aload_n 0, 1) := by decide +kernel
theorem dX11_explained_48 : decode cX11_explained 48 = .ok (.iload_n 1, 1) := by decide +kernel
theorem dX11_explained_49 : decode cX11_explained 49 = .ok (.iload_n 3, 1) := by decide +kernel
theorem dX11_explained_50 : decode cX11_explained 50 = .ok (.aload_n 0, 1) := by decide +kernel
theorem dX11_explained_51 : decode cX11_explained 51 = .ok (.getfield 61, 3) := by decide +kernel
theorem dX11_explained_54 : decode cX11_explained 54 = .ok (.iload_n 2, 1) := by decide +kernel
theorem dX11_explained_55 : decode cX11_explained 55 = .ok (.aaload, 1) := by decide +kernel
theorem dX11_explained_56 : decode cX11_explained 56 = .ok (.invokevirtual 264, 3) := by decide +kernel
theorem dX11_explained_59 : decode cX11_explained 59 = .ok (.ifCond .eq 5, 3) := by decide +kernel
theorem dX11_explained_62 : decode cX11_explained 62 = .ok (.iload_n 3, 1) := by decide +kernel
theorem dX11_explained_63 : decode cX11_explained 63 = .ok (.ireturn, 1) := by decide +kernel
theorem dX11_explained_64 : decode cX11_explained 64 = .ok (.iinc 3 1, 3) := by decide +kernel
theorem dX11_explained_67 : decode cX11_explained 67 = .ok (.goto (-26), 3) := by decide +kernel
theorem dX11_explained_70 : decode cX11_explained 70 = .ok (.aload_n 0, 1) := by decide +kernel
theorem dX11_explained_71 : decode cX11_explained 71 = .ok (.iconst 2, 1) := by decide +kernel
theorem dX11_explained_72 : decode cX11_explained 72 = .ok (.invokevirtual 83, 3) := by decide +kernel
theorem dX11_explained_75 : decode cX11_explained 75 = .ok (.ireturn, 1) := by decide +kernel
theorem dX11_meeting_0 : decode cX11_meeting 0 = .ok (.iload_n 1, 1) := by decide +kernel
theorem dX11_meeting_1 : decode cX11_meeting 1 = .ok (.iconst 0, 1) := by decide +kernel
theorem dX11_meeting_2 : decode cX11_meeting 2 = .ok (.sipush 999, 3) := by decide +kernel
theorem dX11_meeting_5 : decode cX11_meeting 5 = .ok (.invokestatic 79, 3) := by decide +kernel
theorem dX11_meeting_8 : decode cX11_meeting 8 = .ok (.ifCond .eq 22, 3) := by decide +kernel
theorem dX11_meeting_11 : decode cX11_meeting 11 = .ok (.iload_n 2, 1) := by decide +kernel
theorem dX11_meeting_12 : decode cX11_meeting 12 = .ok (.invokestatic 268, 3) := by decide +kernel
theorem dX11_meeting_15 : decode cX11_meeting 15 = .ok (.ifCond .eq 15, 3) := by decide +kernel
theorem dX11_meeting_18 : decode cX11_meeting 18 = .ok (.iload_n 3, 1) := by decide +kernel
theorem dX11_meeting_19 : decode cX11_meeting 19 = .ok (.invokestatic 268, 3) := by decide +kernel
theorem dX11_meeting_22 : decode cX11_meeting 22 = .ok (.ifCond .eq 8, 3) := by decide +kernel
theorem dX11_meeting_25 : decode cX11_meeting 25 = .ok (.iload_n 2, 1) := by decide +kernel
theorem dX11_meeting_26 : decode cX11_meeting 26 = .ok (.iload_n 3, 1) := by decide +kernel
theorem dX11_meeting_27 : decode cX11_meeting 27 = .ok (.if_icmp .ne 9, 3) := by decide +kernel
theorem dX11_meeting_30 : decode cX11_meeting 30 = .ok (.aload_n 0, 1) := by decide +kernel
theorem dX11_meeting_31 : decode cX11_meeting 31 = .ok (.iconst 1, 1) := by decide +kernel
theorem dX11_meeting_32 : decode cX11_meeting 32 = .ok (.invokevirtual 83, 3) := by decide +kernel
theorem dX11_meeting_35 : decode cX11_meeting 35 = .ok (.ireturn, 1) := by decide +kernel
theorem dX11_meeting_36 : decode cX11_meeting 36 = .ok (.aload_n 0, 1) := by decide +kernel
theorem dX11_meeting_37 : decode cX11_meeting 37 = .ok (.getfield 10, 3) := by decide +kernel
theorem dX11_meeting_40 : decode cX11_meeting 40 = .ok (.getfield 271, 3) := by decide +kernel
theorem dX11_meeting_43 : decode cX11_meeting 43 = .ok (.getfield 275, 3) := by decide +kernel
theorem dX11_meeting_46 : decode cX11_meeting 46 = .ok (.bipush 12, 2) := by decide +kernel
theorem dX11_meeting_48 : decode cX11_meeting 48 = .ok (.if_icmp .lt 9, 3) := by decide +kernel
theorem dX11_meeting_51 : decode cX11_meeting 51 = .ok (.aload_n 0, 1) := by decide +kernel
theorem dX11_meeting_52 : decode cX11_meeting 52 = .ok (.iconst 4, 1) := by decide +kernel
theorem dX11_meeting_53 : decode cX11_meeting 53 = .ok (.invokevirtual 83, 3) := by decide +kernel
theorem dX11_meeting_56 : decode cX11_meeting 56 = .ok (.ireturn, 1) := by decide +kernel
theorem dX11_meeting_57 : decode cX11_meeting 57 = .ok (.aload_n 0, 1) := by decide +kernel
theorem dX11_meeting_58 : decode cX11_meeting 58 = .ok (.getfield 10, 3) := by decide +kernel
theorem dX11_meeting_61 : decode cX11_meeting 61 = .ok (.getfield 271, 3) := by decide +kernel
theorem dX11_meeting_64 : decode cX11_meeting 64 = .ok (.iload_n 1, 1) := by decide +kernel
theorem dX11_meeting_65 : decode cX11_meeting 65 = .ok (.iload_n 2, 1) := by decide +kernel
theorem dX11_meeting_66 : decode cX11_meeting 66 = .ok (.iload_n 3, 1) := by decide +kernel
theorem dX11_meeting_67 : decode cX11_meeting 67 = .ok (.invokevirtual 278, 3) := by decide +kernel
theorem dX11_meeting_70 : decode cX11_meeting 70 = .ok (.ireturn, 1) := by decide +kernel
theorem dX11_knows_0 : decode cX11_knows 0 = .ok (.iload_n 1, 1) := by decide +kernel
theorem dX11_knows_1 : decode cX11_knows 1 = .ok (.invokestatic 268, 3) := by decide +kernel
theorem dX11_knows_4 : decode cX11_knows 4 = .ok (.ifCond .eq 14, 3) := by decide +kernel
theorem dX11_knows_7 : decode cX11_knows 7 = .ok (.iload_n 2, 1) := by decide +kernel
theorem dX11_knows_8 : decode cX11_knows 8 = .ok (.iconst 0, 1) := by decide +kernel
theorem dX11_knows_9 : decode cX11_knows 9 = .ok (.sipush 999, 3) := by decide +kernel
theorem dX11_knows_12 : decode cX11_knows 12 = .ok (.invokestatic 79, 3) := by decide +kernel
theorem dX11_knows_15 : decode cX11_knows 15 = .ok (.ifCond .ne 9, 3) := by decide +kernel
theorem dX11_knows_18 : decode cX11_knows 18 = .ok (.aload_n 0, 1) := by decide +kernel
theorem dX11_knows_19 : decode cX11_knows 19 = .ok (.iconst 1, 1) := by decide +kernel
theorem dX11_knows_20 : decode cX11_knows 20 = .ok (.invokevirtual 83, 3) := by decide +kernel
theorem dX11_knows_23 : decode cX11_knows 23 = .ok (.ireturn, 1) := by decide +kernel
theorem dX11_knows_24 : decode cX11_knows 24 = .ok (.aload_n 0, 1) := by decide +kernel
theorem dX11_knows_25 : decode cX11_knows 25 = .ok (.getfield 10, 3) := by decide +kernel
theorem dX11_knows_28 : decode cX11_knows 28 = .ok (.iload_n 2, 1) := by decide +kernel
theorem dX11_knows_29 : decode cX11_knows 29 = .ok (.aload_n 0, 1) := by decide +kernel
theorem dX11_knows_30 : decode cX11_knows 30 = .ok (.getfield 65, 3) := by decide +kernel
theorem dX11_knows_33 : decode cX11_knows 33 = .ok (.invokevirtual 280, 3) := by decide +kernel
theorem dX11_knows_36 : decode cX11_knows 36 = .ok (.aload_n 0, 1) := by decide +kernel
theorem dX11_knows_37 : decode cX11_knows 37 = .ok (.getfield 65, 3) := by decide +kernel
theorem dX11_knows_40 : decode cX11_knows 40 = .ok (.iload_n 1, 1) := by decide +kernel
theorem dX11_knows_41 : decode cX11_knows 41 = .ok (.iaload, 1) := by decide +kernel
theorem dX11_knows_42 : decode cX11_knows 42 = .ok (.ireturn, 1) := by decide +kernel
theorem dX11_common_0 : decode cX11_common 0 = .ok (.iload_n 1, 1) := by decide +kernel
theorem dX11_common_1 : decode cX11_common 1 = .ok (.iconst 1, 1) := by decide +kernel
theorem dX11_common_2 : decode cX11_common 2 = .ok (.bipush 31, 2) := by decide +kernel
theorem dX11_common_4 : decode cX11_common 4 = .ok (.invokestatic 79, 3) := by decide +kernel
theorem dX11_common_7 : decode cX11_common 7 = .ok (.ifCond .eq 14, 3) := by decide +kernel
theorem dX11_common_10 : decode cX11_common 10 = .ok (.iload_n 2, 1) := by decide +kernel
theorem dX11_common_11 : decode cX11_common 11 = .ok (.iconst 0, 1) := by decide +kernel
theorem dX11_common_12 : decode cX11_common 12 = .ok (.sipush 999, 3) := by decide +kernel
theorem dX11_common_15 : decode cX11_common 15 = .ok (.invokestatic 79, 3) := by decide +kernel
theorem dX11_common_18 : decode cX11_common 18 = .ok (.ifCond .ne 9, 3) := by decide +kernel
theorem dX11_common_21 : decode cX11_common 21 = .ok (.aload_n 0, 1) := by decide +kernel
theorem dX11_common_22 : decode cX11_common 22 = .ok (.iconst 1, 1) := by decide +kernel
theorem dX11_common_23 : decode cX11_common 23 = .ok (.invokevirtual 83, 3) := by decide +kernel
theorem dX11_common_26 : decode cX11_common 26 = .ok (.ireturn, 1) := by decide +kernel
theorem dX11_common_27 : decode cX11_common 27 = .ok (.aload_n 0, 1) := by decide +kernel
theorem dX11_common_28 : decode cX11_common 28 = .ok (.getfield 10, 3) := by decide +kernel
theorem dX11_common_31 : decode cX11_common 31 = .ok (.iload_n 2, 1) := by decide +kernel
theorem dX11_common_32 : decode cX11_common 32 = .ok (.aload_n 0, 1) := by decide +kernel
theorem dX11_common_33 : decode cX11_common 33 = .ok (.getfield 65, 3) := by decide +kernel
theorem dX11_common_36 : decode cX11_common 36 = .ok (.invokevirtual 280, 3) := by decide +kernel
theorem dX11_common_39 : decode cX11_common 39 = .ok (.sipush 255, 3) := by decide +kernel
theorem dX11_common_42 : decode cX11_common 42 = .ok (.istore_n 3, 1) := by decide +kernel
theorem dX11_common_43 : decode cX11_common 43 = .ok (.iconst 0, 1) := by decide +kernel
theorem dX11_common_44 : decode cX11_common 44 = .ok (.istore 4, 2) := by decide +kernel
theorem dX11_common_46 : decode cX11_common 46 = .ok (.iload 4, 2) := by decide +kernel
theorem dX11_common_48 : decode cX11_common 48 = .ok (.iconst 5, 1) := by decide +kernel
theorem dX11_common_49 : decode cX11_common 49 = .ok (.if_icmp .ge 29, 3) := by decide +kernel
theorem dX11_common_52 : decode cX11_common 52 = .ok (.iload_n 1, 1) := by decide +kernel
theorem dX11_common_53 : decode cX11_common 53 = .ok (.iload 4, 2) := by decide +kernel
theorem dX11_common_55 : decode cX11_common 55 = .ok (.ishr, 1) := by decide +kernel
theorem dX11_common_56 : decode cX11_common 56 = .ok (.iconst 1, 1) := by decide +kernel
theorem dX11_common_57 : decode cX11_common 57 = .ok (.iand, 1) := by decide +kernel
theorem dX11_common_58 : decode cX11_common 58 = .ok (.iconst 1, 1) := by decide +kernel
theorem dX11_common_59 : decode cX11_common 59 = .ok (.if_icmp .ne 13, 3) := by decide +kernel
theorem dX11_common_62 : decode cX11_common 62 = .ok (.iload_n 3, 1) := by decide +kernel
theorem dX11_common_63 : decode cX11_common 63 = .ok (.aload_n 0, 1) := by decide +kernel
theorem dX11_common_64 : decode cX11_common 64 = .ok (.getfield 65, 3) := by decide +kernel
theorem dX11_common_67 : decode cX11_common 67 = .ok (.iload 4, 2) := by decide +kernel
theorem dX11_common_69 : decode cX11_common 69 = .ok (.iaload, 1) := by decide +kernel
theorem dX11_common_70 : decode cX11_common 70 = .ok (.iand, 1) := by decide +kernel
theorem dX11_common_71 : decode cX11_common 71 = .ok (.istore_n 3, 1) := by decide +kernel
theorem dX11_common_72 : decode cX11_common 72 = .ok (.iinc 4 1, 3) := by decide +kernel
theorem dX11_common_75 : decode cX11_common 75 = .ok (.goto (-29), 3) := by decide +kernel
theorem dX11_common_78 : decode cX11_common 78 = .ok (.iload_n 3, 1) := by decide +kernel
theorem dX11_common_79 : decode cX11_common 79 = .ok (.ireturn, 1) := by decide +kernel
theorem dX11_since_0 : decode cX11_since 0 = .ok (.iload_n 1, 1) := by decide +kernel
theorem dX11_since_1 : decode cX11_since 1 = .ok (.invokestatic 268, 3) := by decide +kernel
theorem dX11_since_4 : decode cX11_since 4 = .ok (.ifCond .eq 11, 3) := by decide +kernel
theorem dX11_since_7 : decode cX11_since 7 = .ok (.aload_n 0, 1) := by decide +kernel
theorem dX11_since_8 : decode cX11_since 8 = .ok (.iload_n 2, 1) := by decide +kernel
theorem dX11_since_9 : decode cX11_since 9 = .ok (.invokevirtual 91, 3) := by decide +kernel
theorem dX11_since_12 : decode cX11_since 12 = .ok (.ifCond .ne 9, 3) := by decide +kernel
theorem dX11_since_15 : decode cX11_since 15 = .ok (.aload_n 0, 1) := by decide +kernel
theorem dX11_since_16 : decode cX11_since 16 = .ok (.iconst 1, 1) := by decide +kernel
theorem dX11_since_17 : decode cX11_since 17 = .ok (.invokevirtual 83, 3) := by decide +kernel
theorem dX11_since_20 : decode cX11_since 20 = .ok (.ireturn, 1) := by decide +kernel
theorem dX11_since_21 : decode cX11_since 21 = .ok (.aload_n 0, 1) := by decide +kernel
theorem dX11_since_22 : decode cX11_since 22 = .ok (.getfield 10, 3) := by decide +kernel
theorem dX11_since_25 : decode cX11_since 25 = .ok (.iload_n 2, 1) := by decide +kernel
theorem dX11_since_26 : decode cX11_since 26 = .ok (.aload_n 0, 1) := by decide +kernel
theorem dX11_since_27 : decode cX11_since 27 = .ok (.getfield 65, 3) := by decide +kernel
theorem dX11_since_30 : decode cX11_since 30 = .ok (.invokevirtual 284, 3) := by decide +kernel
theorem dX11_since_33 : decode cX11_since 33 = .ok (.aload_n 0, 1) := by decide +kernel
theorem dX11_since_34 : decode cX11_since 34 = .ok (.getfield 65, 3) := by decide +kernel
theorem dX11_since_37 : decode cX11_since 37 = .ok (.iload_n 1, 1) := by decide +kernel
theorem dX11_since_38 : decode cX11_since 38 = .ok (.iaload, 1) := by decide +kernel
theorem dX11_since_39 : decode cX11_since 39 = .ok (.sipush 999, 3) := by decide +kernel
theorem dX11_since_42 : decode cX11_since 42 = .ok (.if_icmp .le 11, 3) := by decide +kernel
theorem dX11_since_45 : decode cX11_since 45 = .ok (.aload_n 0, 1) := by decide +kernel
theorem dX11_since_46 : decode cX11_since 46 = .ok (.iconst 2, 1) := by decide +kernel
theorem dX11_since_47 : decode cX11_since 47 = .ok (.invokevirtual 83, 3) := by decide +kernel
theorem dX11_since_50 : decode cX11_since 50 = .ok (.goto 9, 3) := by decide +kernel
theorem dX11_since_53 : decode cX11_since 53 = .ok (.aload_n 0, 1) := by decide +kernel
theorem dX11_since_54 : decode cX11_since 54 = .ok (.getfield 65, 3) := by decide +kernel
theorem dX11_since_57 : decode cX11_since 57 = .ok (.iload_n 1, 1) := by decide +kernel
theorem dX11_since_58 : decode cX11_since 58 = .ok (.iaload, 1) := by decide +kernel
theorem dX11_since_59 : decode cX11_since 59 = .ok (.ireturn, 1) := by decide +kernel
theorem dX11_seed_0 : decode cX11_seed 0 = .ok (.aload_n 0, 1) := by decide +kernel
theorem dX11_seed_1 : decode cX11_seed 1 = .ok (.getfield 10, 3) := by decide +kernel
theorem dX11_seed_4 : decode cX11_seed 4 = .ok (.getfield 287, 3) := by decide +kernel
theorem dX11_seed_7 : decode cX11_seed 7 = .ok (.istore_n 2, 1) := by decide +kernel
theorem dX11_seed_8 : decode cX11_seed 8 = .ok (.aload_n 0, 1) := by decide +kernel
theorem dX11_seed_9 : decode cX11_seed 9 = .ok (.getfield 10, 3) := by decide +kernel
theorem dX11_seed_12 : decode cX11_seed 12 = .ok (.iload_n 1, 1) := by decide +kernel
theorem dX11_seed_13 : decode cX11_seed 13 = .ok (.putfield 287, 3) := by decide +kernel
theorem dX11_seed_16 : decode cX11_seed 16 = .ok (.iload_n 2, 1) := by decide +kernel
theorem dX11_seed_17 : decode cX11_seed 17 = .ok (.ireturn, 1) := by decide +kernel
theorem dX11_voice_0 : decode cX11_voice 0 = .ok (.aload_n 0, 1) := by decide +kernel
theorem dX11_voice_1 : decode cX11_voice 1 = .ok (.iload_n 1, 1) := by decide +kernel
theorem dX11_voice_2 : decode cX11_voice 2 = .ok (.invokevirtual 122, 3) := by decide +kernel
theorem dX11_voice_5 : decode cX11_voice 5 = .ok (.ifCond .eq 12, 3) := by decide +kernel
theorem dX11_voice_8 : decode cX11_voice 8 = .ok (.iload_n 2, 1) := by decide +kernel
theorem dX11_voice_9 : decode cX11_voice 9 = .ok (.iconst 0, 1) := by decide +kernel
theorem dX11_voice_10 : decode cX11_voice 10 = .ok (.iconst 3, 1) := by decide +kernel
theorem dX11_voice_11 : decode cX11_voice 11 = .ok (.invokestatic 79, 3) := by decide +kernel
theorem dX11_voice_14 : decode cX11_voice 14 = .ok (.ifCond .ne 9, 3) := by decide +kernel
theorem dX11_voice_17 : decode cX11_voice 17 = .ok (.aload_n 0, 1) := by decide +kernel
theorem dX11_voice_18 : decode cX11_voice 18 = .ok (.iconst 1, 1) := by decide +kernel
theorem dX11_voice_19 : decode cX11_voice 19 = .ok (.invokevirtual 83, 3) := by decide +kernel
theorem dX11_voice_22 : decode cX11_voice 22 = .ok (.ireturn, 1) := by decide +kernel
theorem dX11_voice_23 : decode cX11_voice 23 = .ok (.aload_n 0, 1) := by decide +kernel
theorem dX11_voice_24 : decode cX11_voice 24 = .ok (.getfield 10, 3) := by decide +kernel
theorem dX11_voice_27 : decode cX11_voice 27 = .ok (.getfield 114, 3) := by decide +kernel
theorem dX11_voice_30 : decode cX11_voice 30 = .ok (.getfield 125, 3) := by decide +kernel
theorem dX11_voice_33 : decode cX11_voice 33 = .ok (.iload_n 1, 1) := by decide +kernel
theorem dX11_voice_34 : decode cX11_voice 34 = .ok (.aaload, 1) := by decide +kernel
theorem dX11_voice_35 : decode cX11_voice 35 = .ok (.astore 4, 2) := by decide +kernel
theorem dX11_voice_37 : decode cX11_voice 37 = .ok (.aload_n 0, 1) := by decide +kernel
theorem dX11_voice_38 : decode cX11_voice 38 = .ok (.getfield 55, 3) := by decide +kernel
theorem dX11_voice_41 : decode cX11_voice 41 = .ok (.aload 4, 2) := by decide +kernel
theorem dX11_voice_43 : decode cX11_voice 43 = .ok (.getfield 129, 3) := by decide +kernel
theorem dX11_voice_46 : decode cX11_voice 46 = .ok (.iload_n 1, 1) := by decide +kernel
theorem dX11_voice_47 : decode cX11_voice 47 = .ok (.aload 4, 2) := by decide +kernel
theorem dX11_voice_49 : decode cX11_voice 49 = .ok (.getfield 134, 3) := by decide +kernel
theorem dX11_voice_52 : decode cX11_voice 52 = .ok (.iload_n 2, 1) := by decide +kernel
theorem dX11_voice_53 : decode cX11_voice 53 = .ok (.iload_n 3, 1) := by decide +kernel
theorem dX11_voice_54 : decode cX11_voice 54 = .ok (.invokevirtual 290, 3) := by decide +kernel
theorem dX11_voice_57 : decode cX11_voice 57 = .ok (.ireturn, 1) := by decide +kernel
theorem dX11_trace_0 : decode cX11_trace 0 = .ok (.iload_n 1, 1) := by decide +kernel
theorem dX11_trace_1 : decode cX11_trace 1 = .ok (.iconst 0, 1) := by decide +kernel
theorem dX11_trace_2 : decode cX11_trace 2 = .ok (.aload_n 0, 1) := by decide +kernel
theorem dX11_trace_3 : decode cX11_trace 3 = .ok (.getfield 55, 3) := by decide +kernel
theorem dX11_trace_6 : decode cX11_trace 6 = .ok (.getfield 294, 3) := by decide +kernel
theorem dX11_trace_9 : decode cX11_trace 9 = .ok (.iconst 1, 1) := by decide +kernel
theorem dX11_trace_10 : decode cX11_trace 10 = .ok (.isub, 1) := by decide +kernel
theorem dX11_trace_11 : decode cX11_trace 11 = .ok (.invokestatic 79, 3) := by decide +kernel
theorem dX11_trace_14 : decode cX11_trace 14 = .ok (.ifCond .eq 15, 3) := by decide +kernel
theorem dX11_trace_17 : decode cX11_trace 17 = .ok (.aload_n 0, 1) := by decide +kernel
theorem dX11_trace_18 : decode cX11_trace 18 = .ok (.getfield 55, 3) := by decide +kernel
theorem dX11_trace_21 : decode cX11_trace 21 = .ok (.getfield 295, 3) := by decide +kernel
theorem dX11_trace_24 : decode cX11_trace 24 = .ok (.iload_n 1, 1) := by decide +kernel
theorem dX11_trace_25 : decode cX11_trace 25 = .ok (.iaload, 1) := by decide +kernel
theorem dX11_trace_26 : decode cX11_trace 26 = .ok (.goto 8, 3) := by decide +kernel
theorem dX11_trace_29 : decode cX11_trace 29 = .ok (.aload_n 0, 1) := by decide +kernel
theorem dX11_trace_30 : decode cX11_trace 30 = .ok (.iconst 2, 1) := by decide +kernel
theorem dX11_trace_31 : decode cX11_trace 31 = .ok (.invokevirtual 83, 3) := by decide +kernel
theorem dX11_trace_34 : decode cX11_trace 34 = .ok (.ireturn, 1) := by decide +kernel
theorem dX11_sheet_0 : decode cX11_sheet 0 = .ok (.iload_n 1, 1) := by decide +kernel
theorem dX11_sheet_1 : decode cX11_sheet 1 = .ok (.invokestatic 257, 3) := by decide +kernel
theorem dX11_sheet_4 : decode cX11_sheet 4 = .ok (.ifCond .eq 25, 3) := by decide +kernel
theorem dX11_sheet_7 : decode cX11_sheet 7 = .ok (.iload_n 2, 1) := by decide +kernel
theorem dX11_sheet_8 : decode cX11_sheet 8 = .ok (.ifCond .eq 27, 3) := by decide +kernel
theorem dX11_sheet_11 : decode cX11_sheet 11 = .ok (.iload_n 2, 1) := by decide +kernel
theorem dX11_sheet_12 : decode cX11_sheet 12 = .ok (.bipush 8, 2) := by decide +kernel
theorem dX11_sheet_14 : decode cX11_sheet 14 = .ok (.if_icmp .eq 21, 3) := by decide +kernel
theorem dX11_sheet_17 : decode cX11_sheet 17 = .ok (.iload_n 2, 1) := by decide +kernel
theorem dX11_sheet_18 : decode cX11_sheet 18 = .ok (.bipush 16, 2) := by decide +kernel
theorem dX11_sheet_20 : decode cX11_sheet 20 = .ok (.if_icmp .eq 15, 3) := by decide +kernel
theorem dX11_sheet_23 : decode cX11_sheet 23 = .ok (.iload_n 2, 1) := by decide +kernel
theorem dX11_sheet_24 : decode cX11_sheet 24 = .ok (.bipush 32, 2) := by decide +kernel
theorem dX11_sheet_26 : decode cX11_sheet 26 = .ok (.if_icmp .eq 9, 3) := by decide +kernel
theorem dX11_sheet_29 : decode cX11_sheet 29 = .ok (.aload_n 0, 1) := by decide +kernel
theorem dX11_sheet_30 : decode cX11_sheet 30 = .ok (.iconst 1, 1) := by decide +kernel
theorem dX11_sheet_31 : decode cX11_sheet 31 = .ok (.invokevirtual 83, 3) := by decide +kernel
theorem dX11_sheet_34 : decode cX11_sheet 34 = .ok (.ireturn, 1) := by decide +kernel
theorem dX11_sheet_35 : decode cX11_sheet 35 = .ok (.iload_n 2, 1) := by decide +kernel
theorem dX11_sheet_36 : decode cX11_sheet 36 = .ok (.ifCond .eq 13, 3) := by decide +kernel
theorem dX11_sheet_39 : decode cX11_sheet 39 = .ok (.iload_n 3, 1) := by decide +kernel
theorem dX11_sheet_40 : decode cX11_sheet 40 = .ok (.ifCond .ge 9, 3) := by decide +kernel
theorem dX11_sheet_43 : decode cX11_sheet 43 = .ok (.aload_n 0, 1) := by decide +kernel
theorem dX11_sheet_44 : decode cX11_sheet 44 = .ok (.iconst 3, 1) := by decide +kernel
theorem dX11_sheet_45 : decode cX11_sheet 45 = .ok (.invokevirtual 83, 3) := by decide +kernel
theorem dX11_sheet_48 : decode cX11_sheet 48 = .ok (.ireturn, 1) := by decide +kernel
theorem dX11_sheet_49 : decode cX11_sheet 49 = .ok (.iload_n 2, 1) := by decide +kernel
theorem dX11_sheet_50 : decode cX11_sheet 50 = .ok (.ifCond .eq 15, 3) := by decide +kernel
theorem dX11_sheet_53 : decode cX11_sheet 53 = .ok (.iload_n 3, 1) := by decide +kernel
theorem dX11_sheet_54 : decode cX11_sheet 54 = .ok (.bipush 40, 2) := by decide +kernel
theorem dX11_sheet_56 : decode cX11_sheet 56 = .ok (.if_icmp .le 9, 3) := by decide +kernel
theorem dX11_sheet_59 : decode cX11_sheet 59 = .ok (.aload_n 0, 1) := by decide +kernel
theorem dX11_sheet_60 : decode cX11_sheet 60 = .ok (.iconst 1, 1) := by decide +kernel
theorem dX11_sheet_61 : decode cX11_sheet 61 = .ok (.invokevirtual 83, 3) := by decide +kernel
theorem dX11_sheet_64 : decode cX11_sheet 64 = .ok (.ireturn, 1) := by decide +kernel
theorem dX11_sheet_65 : decode cX11_sheet 65 = .ok (.aload_n 0, 1) := by decide +kernel
theorem dX11_sheet_66 : decode cX11_sheet 66 = .ok (.getfield 61, 3) := by decide +kernel
theorem dX11_sheet_69 : decode cX11_sheet 69 = .ok (.iload_n 1, 1) := by decide +kernel
theorem dX11_sheet_70 : decode cX11_sheet 70 = .ok (.aaload, 1) := by decide +kernel
theorem dX11_sheet_71 : decode cX11_sheet 71 = .ok (.iload_n 2, 1) := by decide +kernel
theorem dX11_sheet_72 : decode cX11_sheet 72 = .ok (.iload_n 2, 1) := by decide +kernel
theorem dX11_sheet_73 : decode cX11_sheet 73 = .ok (.ifCond .ne 7, 3) := by decide +kernel
theorem dX11_sheet_76 : decode cX11_sheet 76 = .ok (.iconst 0, 1) := by decide +kernel
theorem dX11_sheet_77 : decode cX11_sheet 77 = .ok (.goto 4, 3) := by decide +kernel
theorem dX11_sheet_80 : decode cX11_sheet 80 = .ok (.iload_n 3, 1) := by decide +kernel
theorem dX11_sheet_81 : decode cX11_sheet 81 = .ok (.invokevirtual 298, 3) := by decide +kernel
theorem dX11_sheet_84 : decode cX11_sheet 84 = .ok (.iconst 1, 1) := by decide +kernel
theorem dX11_sheet_85 : decode cX11_sheet 85 = .ok (.ireturn, 1) := by decide +kernel
theorem dX11_put_0 : decode cX11_put 0 = .ok (.iload_n 1, 1) := by decide +kernel
theorem dX11_put_1 : decode cX11_put 1 = .ok (.invokestatic 257, 3) := by decide +kernel
theorem dX11_put_4 : decode cX11_put 4 = .ok (.ifCond .ne 9, 3) := by decide +kernel
theorem dX11_put_7 : decode cX11_put 7 = .ok (.aload_n 0, 1) := by decide +kernel
theorem dX11_put_8 : decode cX11_put 8 = .ok (.iconst 1, 1) := by decide +kernel
theorem dX11_put_9 : decode cX11_put 9 = .ok (.invokevirtual 83, 3) := by decide +kernel
theorem dX11_put_12 : decode cX11_put 12 = .ok (.ireturn, 1) := by decide +kernel
theorem dX11_put_13 : decode cX11_put 13 = .ok (.aload_n 0, 1) := by decide +kernel
theorem dX11_put_14 : decode cX11_put 14 = .ok (.getfield 61, 3) := by decide +kernel
theorem dX11_put_17 : decode cX11_put 17 = .ok (.iload_n 1, 1) := by decide +kernel
theorem dX11_put_18 : decode cX11_put 18 = .ok (.aaload, 1) := by decide +kernel
theorem dX11_put_19 : decode cX11_put 19 = .ok (.astore 4, 2) := by decide +kernel
theorem dX11_put_21 : decode cX11_put 21 = .ok (.aload 4, 2) := by decide +kernel
theorem dX11_put_23 : decode cX11_put 23 = .ok (.invokevirtual 260, 3) := by decide +kernel
theorem dX11_put_26 : decode cX11_put 26 = .ok (.ifCond .eq 9, 3) := by decide +kernel
theorem dX11_put_29 : decode cX11_put 29 = .ok (.aload_n 0, 1) := by decide +kernel
theorem dX11_put_30 : decode cX11_put 30 = .ok (.iconst 2, 1) := by decide +kernel
theorem dX11_put_31 : decode cX11_put 31 = .ok (.invokevirtual 83, 3) := by decide +kernel
theorem dX11_put_34 : decode cX11_put 34 = .ok (.ireturn, 1) := by decide +kernel
theorem dX11_put_35 : decode cX11_put 35 = .ok (.iload_n 2, 1) := by decide +kernel
theorem dX11_put_36 : decode cX11_put 36 = .ok (.iconst 0, 1) := by decide +kernel
theorem dX11_put_37 : decode cX11_put 37 = .ok (.aload 4, 2) := by decide +kernel
theorem dX11_put_39 : decode cX11_put 39 = .ok (.getfield 300, 3) := by decide +kernel
theorem dX11_put_42 : decode cX11_put 42 = .ok (.iconst 1, 1) := by decide +kernel
theorem dX11_put_43 : decode cX11_put 43 = .ok (.isub, 1) := by decide +kernel
theorem dX11_put_44 : decode cX11_put 44 = .ok (.invokestatic 79, 3) := by decide +kernel
theorem dX11_put_47 : decode cX11_put 47 = .ok (.ifCond .ne 9, 3) := by decide +kernel
theorem dX11_put_50 : decode cX11_put 50 = .ok (.aload_n 0, 1) := by decide +kernel
theorem dX11_put_51 : decode cX11_put 51 = .ok (.iconst 1, 1) := by decide +kernel
theorem dX11_put_52 : decode cX11_put 52 = .ok (.invokevirtual 83, 3) := by decide +kernel
theorem dX11_put_55 : decode cX11_put 55 = .ok (.ireturn, 1) := by decide +kernel
theorem dX11_put_56 : decode cX11_put 56 = .ok (.aload 4, 2) := by decide +kernel
theorem dX11_put_58 : decode cX11_put 58 = .ok (.getfield 301, 3) := by decide +kernel
theorem dX11_put_61 : decode cX11_put 61 = .ok (.iload_n 2, 1) := by decide +kernel
theorem dX11_put_62 : decode cX11_put 62 = .ok (.aload 4, 2) := by decide +kernel
theorem dX11_put_64 : decode cX11_put 64 = .ok (.iload_n 3, 1) := by decide +kernel
theorem dX11_put_65 : decode cX11_put 65 = .ok (.invokevirtual 304, 3) := by decide +kernel
theorem dX11_put_68 : decode cX11_put 68 = .ok (.iastore, 1) := by decide +kernel
theorem dX11_put_69 : decode cX11_put 69 = .ok (.iconst 1, 1) := by decide +kernel
theorem dX11_put_70 : decode cX11_put 70 = .ok (.ireturn, 1) := by decide +kernel
theorem dX11_move_0 : decode cX11_move 0 = .ok (.iload_n 1, 1) := by decide +kernel
theorem dX11_move_1 : decode cX11_move 1 = .ok (.invokestatic 257, 3) := by decide +kernel
theorem dX11_move_4 : decode cX11_move 4 = .ok (.ifCond .eq 10, 3) := by decide +kernel
theorem dX11_move_7 : decode cX11_move 7 = .ok (.iload_n 3, 1) := by decide +kernel
theorem dX11_move_8 : decode cX11_move 8 = .ok (.invokestatic 257, 3) := by decide +kernel
theorem dX11_move_11 : decode cX11_move 11 = .ok (.ifCond .ne 9, 3) := by decide +kernel
theorem dX11_move_14 : decode cX11_move 14 = .ok (.aload_n 0, 1) := by decide +kernel
theorem dX11_move_15 : decode cX11_move 15 = .ok (.iconst 1, 1) := by decide +kernel
theorem dX11_move_16 : decode cX11_move 16 = .ok (.invokevirtual 83, 3) := by decide +kernel
theorem dX11_move_19 : decode cX11_move 19 = .ok (.ireturn, 1) := by decide +kernel
theorem dX11_move_20 : decode cX11_move 20 = .ok (.aload_n 0, 1) := by decide +kernel
theorem dX11_move_21 : decode cX11_move 21 = .ok (.getfield 61, 3) := by decide +kernel
theorem dX11_move_24 : decode cX11_move 24 = .ok (.iload_n 1, 1) := by decide +kernel
theorem dX11_move_25 : decode cX11_move 25 = .ok (.aaload, 1) := by decide +kernel
theorem dX11_move_26 : decode cX11_move 26 = .ok (.astore 6, 2) := by decide +kernel
theorem dX11_move_28 : decode cX11_move 28 = .ok (.aload_n 0, 1) := by decide +kernel
theorem dX11_move_29 : decode cX11_move 29 = .ok (.getfield 61, 3) := by decide +kernel
theorem dX11_move_32 : decode cX11_move 32 = .ok (.iload_n 3, 1) := by decide +kernel
theorem dX11_move_33 : decode cX11_move 33 = .ok (.aaload, 1) := by decide +kernel
theorem dX11_move_34 : decode cX11_move 34 = .ok (.astore 7, 2) := by decide +kernel
theorem dX11_move_36 : decode cX11_move 36 = .ok (.aload 6, 2) := by decide +kernel
theorem dX11_move_38 : decode cX11_move 38 = .ok (.invokevirtual 260, 3) := by decide +kernel
theorem dX11_move_41 : decode cX11_move 41 = .ok (.ifCond .ne 11, 3) := by decide +kernel
theorem dX11_move_44 : decode cX11_move 44 = .ok (.aload 7, 2) := by decide +kernel
theorem dX11_move_46 : decode cX11_move 46 = .ok (.invokevirtual 260, 3) := by decide +kernel
theorem dX11_move_49 : decode cX11_move 49 = .ok (.ifCond .eq 9, 3) := by decide +kernel
theorem dX11_move_52 : decode cX11_move 52 = .ok (.aload_n 0, 1) := by decide +kernel
theorem dX11_move_53 : decode cX11_move 53 = .ok (.iconst 2, 1) := by decide +kernel
theorem dX11_move_54 : decode cX11_move 54 = .ok (.invokevirtual 83, 3) := by decide +kernel
theorem dX11_move_57 : decode cX11_move 57 = .ok (.ireturn, 1) := by decide +kernel
theorem dX11_move_58 : decode cX11_move 58 = .ok (.aload 6, 2) := by decide +kernel
theorem dX11_move_60 : decode cX11_move 60 = .ok (.getfield 307, 3) := by decide +kernel
theorem dX11_move_63 : decode cX11_move 63 = .ok (.aload 7, 2) := by decide +kernel
theorem dX11_move_65 : decode cX11_move 65 = .ok (.getfield 307, 3) := by decide +kernel
theorem dX11_move_68 : decode cX11_move 68 = .ok (.if_icmp .eq 9, 3) := by decide +kernel
theorem dX11_move_71 : decode cX11_move 71 = .ok (.aload_n 0, 1) := by decide +kernel
theorem dX11_move_72 : decode cX11_move 72 = .ok (.iconst 5, 1) := by decide +kernel
theorem dX11_move_73 : decode cX11_move 73 = .ok (.invokevirtual 83, 3) := by decide +kernel
theorem dX11_move_76 : decode cX11_move 76 = .ok (.ireturn, 1) := by decide +kernel
theorem dX11_move_77 : decode cX11_move 77 = .ok (.aload 6, 2) := by decide +kernel
theorem dX11_move_79 : decode cX11_move 79 = .ok (.iload_n 2, 1) := by decide +kernel
theorem dX11_move_80 : decode cX11_move 80 = .ok (.iload 5, 2) := by decide +kernel
theorem dX11_move_82 : decode cX11_move 82 = .ok (.invokevirtual 310, 3) := by decide +kernel
theorem dX11_move_85 : decode cX11_move 85 = .ok (.ifCond .eq 15, 3) := by decide +kernel
theorem dX11_move_88 : decode cX11_move 88 = .ok (.aload 7, 2) := by decide +kernel
theorem dX11_move_90 : decode cX11_move 90 = .ok (.iload 4, 2) := by decide +kernel
theorem dX11_move_92 : decode cX11_move 92 = .ok (.iload 5, 2) := by decide +kernel
theorem dX11_move_94 : decode cX11_move 94 = .ok (.invokevirtual 310, 3) := by decide +kernel
theorem dX11_move_97 : decode cX11_move 97 = .ok (.ifCond .ne 9, 3) := by decide +kernel
theorem dX11_move_100 : decode cX11_move 100 = .ok (.aload_n 0, 1) := by decide +kernel
theorem dX11_move_101 : decode cX11_move 101 = .ok (.iconst 1, 1) := by decide +kernel
theorem dX11_move_102 : decode cX11_move 102 = .ok (.invokevirtual 83, 3) := by decide +kernel
theorem dX11_move_105 : decode cX11_move 105 = .ok (.ireturn, 1) := by decide +kernel
theorem dX11_move_106 : decode cX11_move 106 = .ok (.aload 6, 2) := by decide +kernel
theorem dX11_move_108 : decode cX11_move 108 = .ok (.getfield 301, 3) := by decide +kernel
theorem dX11_move_111 : decode cX11_move 111 = .ok (.iload_n 2, 1) := by decide +kernel
theorem dX11_move_112 : decode cX11_move 112 = .ok (.aload 7, 2) := by decide +kernel
theorem dX11_move_114 : decode cX11_move 114 = .ok (.getfield 301, 3) := by decide +kernel
theorem dX11_move_117 : decode cX11_move 117 = .ok (.iload 4, 2) := by decide +kernel
theorem dX11_move_119 : decode cX11_move 119 = .ok (.iload 5, 2) := by decide +kernel
theorem dX11_move_121 : decode cX11_move 121 = .ok (.invokestatic 313, 3) := by decide +kernel
theorem dX11_move_124 : decode cX11_move 124 = .ok (.iload 5, 2) := by decide +kernel
theorem dX11_move_126 : decode cX11_move 126 = .ok (.ireturn, 1) := by decide +kernel
theorem dX11_reads_0 : decode cX11_reads 0 = .ok (.iload_n 1, 1) := by decide +kernel
theorem dX11_reads_1 : decode cX11_reads 1 = .ok (.invokestatic 257, 3) := by decide +kernel
theorem dX11_reads_4 : decode cX11_reads 4 = .ok (.ifCond .ne 9, 3) := by decide +kernel
theorem dX11_reads_7 : decode cX11_reads 7 = .ok (.aload_n 0, 1) := by decide +kernel
theorem dX11_reads_8 : decode cX11_reads 8 = .ok (.iconst 1, 1) := by decide +kernel
theorem dX11_reads_9 : decode cX11_reads 9 = .ok (.invokevirtual 83, 3) := by decide +kernel
theorem dX11_reads_12 : decode cX11_reads 12 = .ok (.ireturn, 1) := by decide +kernel
theorem dX11_reads_13 : decode cX11_reads 13 = .ok (.aload_n 0, 1) := by decide +kernel
theorem dX11_reads_14 : decode cX11_reads 14 = .ok (.getfield 61, 3) := by decide +kernel
theorem dX11_reads_17 : decode cX11_reads 17 = .ok (.iload_n 1, 1) := by decide +kernel
theorem dX11_reads_18 : decode cX11_reads 18 = .ok (.aaload, 1) := by decide +kernel
theorem dX11_reads_19 : decode cX11_reads 19 = .ok (.astore_n 2, 1) := by decide +kernel
theorem dX11_reads_20 : decode cX11_reads 20 = .ok (.aload_n 2, 1) := by decide +kernel
theorem dX11_reads_21 : decode cX11_reads 21 = .ok (.invokevirtual 260, 3) := by decide +kernel
theorem dX11_reads_24 : decode cX11_reads 24 = .ok (.ifCond .eq 9, 3) := by decide +kernel
theorem dX11_reads_27 : decode cX11_reads 27 = .ok (.aload_n 0, 1) := by decide +kernel
theorem dX11_reads_28 : decode cX11_reads 28 = .ok (.iconst 2, 1) := by decide +kernel
theorem dX11_reads_29 : decode cX11_reads 29 = .ok (.invokevirtual 83, 3) := by decide +kernel
theorem dX11_reads_32 : decode cX11_reads 32 = .ok (.ireturn, 1) := by decide +kernel
theorem dX11_reads_33 : decode cX11_reads 33 = .ok (.iconst 0, 1) := by decide +kernel
theorem dX11_reads_34 : decode cX11_reads 34 = .ok (.istore_n 3, 1) := by decide +kernel
theorem dX11_reads_35 : decode cX11_reads 35 = .ok (.iload_n 3, 1) := by decide +kernel
theorem dX11_reads_36 : decode cX11_reads 36 = .ok (.aload_n 2, 1) := by decide +kernel
theorem dX11_reads_37 : decode cX11_reads 37 = .ok (.getfield 300, 3) := by decide +kernel
theorem dX11_reads_40 : decode cX11_reads 40 = .ok (.if_icmp .ge 40, 3) := by decide +kernel
theorem dX11_reads_43 : decode cX11_reads 43 = .ok (.aload_n 0, 1) := by decide +kernel
theorem dX11_reads_44 : decode cX11_reads 44 = .ok (.iconst 0, 1) := by decide +kernel
theorem dX11_reads_45 : decode cX11_reads 45 = .ok (.aload_n 2, 1) := by decide +kernel
theorem dX11_reads_46 : decode cX11_reads 46 = .ok (.getfield 301, 3) := by decide +kernel
theorem dX11_reads_49 : decode cX11_reads 49 = .ok (.iload_n 3, 1) := by decide +kernel
theorem dX11_reads_50 : decode cX11_reads 50 = .ok (.iaload, 1) := by decide +kernel
theorem dX11_reads_51 : decode cX11_reads 51 = .ok (.invokevirtual 184, 3) := by decide +kernel
theorem dX11_reads_54 : decode cX11_reads 54 = .ok (.ifCond .eq 26, 3) := by decide +kernel
theorem dX11_reads_57 : decode cX11_reads 57 = .ok (.aload_n 0, 1) := by decide +kernel
theorem dX11_reads_58 : decode cX11_reads 58 = .ok (.getfield 10, 3) := by decide +kernel
theorem dX11_reads_61 : decode cX11_reads 61 = .ok (.getfield 114, 3) := by decide +kernel
theorem dX11_reads_64 : decode cX11_reads 64 = .ok (.iconst 0, 1) := by decide +kernel
theorem dX11_reads_65 : decode cX11_reads 65 = .ok (.aload_n 2, 1) := by decide +kernel
theorem dX11_reads_66 : decode cX11_reads 66 = .ok (.getfield 301, 3) := by decide +kernel
theorem dX11_reads_69 : decode cX11_reads 69 = .ok (.iload_n 3, 1) := by decide +kernel
theorem dX11_reads_70 : decode cX11_reads 70 = .ok (.iaload, 1) := by decide +kernel
theorem dX11_reads_71 : decode cX11_reads 71 = .ok (.invokevirtual 188, 3) := by decide +kernel
theorem dX11_reads_74 : decode cX11_reads 74 = .ok (.iinc 3 1, 3) := by decide +kernel
theorem dX11_reads_77 : decode cX11_reads 77 = .ok (.goto (-42), 3) := by decide +kernel
theorem dX11_reads_80 : decode cX11_reads 80 = .ok (.iload_n 3, 1) := by decide +kernel
theorem dX11_reads_81 : decode cX11_reads 81 = .ok (.ireturn, 1) := by decide +kernel
theorem dX11_judge_0 : decode cX11_judge 0 = .ok (.iload_n 1, 1) := by decide +kernel
theorem dX11_judge_1 : decode cX11_judge 1 = .ok (.invokestatic 257, 3) := by decide +kernel
theorem dX11_judge_4 : decode cX11_judge 4 = .ok (.ifCond .eq 11, 3) := by decide +kernel
theorem dX11_judge_7 : decode cX11_judge 7 = .ok (.aload_n 0, 1) := by decide +kernel
theorem dX11_judge_8 : decode cX11_judge 8 = .ok (.iload_n 2, 1) := by decide +kernel
theorem dX11_judge_9 : decode cX11_judge 9 = .ok (.invokevirtual 122, 3) := by decide +kernel
theorem dX11_judge_12 : decode cX11_judge 12 = .ok (.ifCond .ne 9, 3) := by decide +kernel
theorem dX11_judge_15 : decode cX11_judge 15 = .ok (.aload_n 0, 1) := by decide +kernel
theorem dX11_judge_16 : decode cX11_judge 16 = .ok (.iconst 1, 1) := by decide +kernel
theorem dX11_judge_17 : decode cX11_judge 17 = .ok (.invokevirtual 83, 3) := by decide +kernel
theorem dX11_judge_20 : decode cX11_judge 20 = .ok (.ireturn, 1) := by decide +kernel
theorem dX11_judge_21 : decode cX11_judge 21 = .ok (.aload_n 0, 1) := by decide +kernel
theorem dX11_judge_22 : decode cX11_judge 22 = .ok (.getfield 61, 3) := by decide +kernel
theorem dX11_judge_25 : decode cX11_judge 25 = .ok (.iload_n 1, 1) := by decide +kernel
theorem dX11_judge_26 : decode cX11_judge 26 = .ok (.aaload, 1) := by decide +kernel
theorem dX11_judge_27 : decode cX11_judge 27 = .ok (.astore_n 3, 1) := by decide +kernel
theorem dX11_judge_28 : decode cX11_judge 28 = .ok (.aload_n 3, 1) := by decide +kernel
theorem dX11_judge_29 : decode cX11_judge 29 = .ok (.invokevirtual 260, 3) := by decide +kernel
theorem dX11_judge_32 : decode cX11_judge 32 = .ok (.ifCond .eq 9, 3) := by decide +kernel
theorem dX11_judge_35 : decode cX11_judge 35 = .ok (.aload_n 0, 1) := by decide +kernel
theorem dX11_judge_36 : decode cX11_judge 36 = .ok (.iconst 2, 1) := by decide +kernel
theorem dX11_judge_37 : decode cX11_judge 37 = .ok (.invokevirtual 83, 3) := by decide +kernel
theorem dX11_judge_40 : decode cX11_judge 40 = .ok (.ireturn, 1) := by decide +kernel
theorem dX11_judge_41 : decode cX11_judge 41 = .ok (.aload_n 0, 1) := by decide +kernel
theorem dX11_judge_42 : decode cX11_judge 42 = .ok (.getfield 10, 3) := by decide +kernel
theorem dX11_judge_45 : decode cX11_judge 45 = .ok (.getfield 114, 3) := by decide +kernel
theorem dX11_judge_48 : decode cX11_judge 48 = .ok (.getfield 125, 3) := by decide +kernel
theorem dX11_judge_51 : decode cX11_judge 51 = .ok (.iload_n 2, 1) := by decide +kernel
theorem dX11_judge_52 : decode cX11_judge 52 = .ok (.aaload, 1) := by decide +kernel
theorem dX11_judge_53 : decode cX11_judge 53 = .ok (.astore 4, 2) := by decide +kernel
theorem dX11_judge_55 : decode cX11_judge 55 = .ok (.aload 4, 2) := by decide +kernel
theorem dX11_judge_57 : decode cX11_judge 57 = .ok (.iconst 0, 1) := by decide +kernel
theorem dX11_judge_58 : decode cX11_judge 58 = .ok (.aload_n 3, 1) := by decide +kernel
theorem dX11_judge_59 : decode cX11_judge 59 = .ok (.invokevirtual 319, 3) := by decide +kernel
theorem dX11_judge_62 : decode cX11_judge 62 = .ok (.istore 5, 2) := by decide +kernel
theorem dX11_judge_64 : decode cX11_judge 64 = .ok (.iload 5, 2) := by decide +kernel
theorem dX11_judge_66 : decode cX11_judge 66 = .ok (.aload_n 3, 1) := by decide +kernel
theorem dX11_judge_67 : decode cX11_judge 67 = .ok (.getfield 300, 3) := by decide +kernel
theorem dX11_judge_70 : decode cX11_judge 70 = .ok (.if_icmp .ne 17, 3) := by decide +kernel
theorem dX11_judge_73 : decode cX11_judge 73 = .ok (.iload 5, 2) := by decide +kernel
theorem dX11_judge_75 : decode cX11_judge 75 = .ok (.aload 4, 2) := by decide +kernel
theorem dX11_judge_77 : decode cX11_judge 77 = .ok (.getfield 153, 3) := by decide +kernel
theorem dX11_judge_80 : decode cX11_judge 80 = .ok (.if_icmp .ne 7, 3) := by decide +kernel
theorem dX11_judge_83 : decode cX11_judge 83 = .ok (.iconst (-1), 1) := by decide +kernel
theorem dX11_judge_84 : decode cX11_judge 84 = .ok (.goto 5, 3) := by decide +kernel
theorem dX11_judge_87 : decode cX11_judge 87 = .ok (.iload 5, 2) := by decide +kernel
theorem dX11_judge_89 : decode cX11_judge 89 = .ok (.ireturn, 1) := by decide +kernel
theorem dX11_image_0 : decode cX11_image 0 = .ok (.aload_n 0, 1) := by decide +kernel
theorem dX11_image_1 : decode cX11_image 1 = .ok (.getfield 16, 3) := by decide +kernel
theorem dX11_image_4 : decode cX11_image 4 = .ok (.aload_n 0, 1) := by decide +kernel
theorem dX11_image_5 : decode cX11_image 5 = .ok (.getfield 10, 3) := by decide +kernel
theorem dX11_image_8 : decode cX11_image 8 = .ok (.invokevirtual 323, 3) := by decide +kernel
theorem dX11_image_11 : decode cX11_image 11 = .ok (.aload_n 0, 1) := by decide +kernel
theorem dX11_image_12 : decode cX11_image 12 = .ok (.dup, 1) := by decide +kernel
theorem dX11_image_13 : decode cX11_image 13 = .ok (.getfield 326, 3) := by decide +kernel
theorem dX11_image_16 : decode cX11_image 16 = .ok (.iconst 1, 1) := by decide +kernel
theorem dX11_image_17 : decode cX11_image 17 = .ok (.iadd, 1) := by decide +kernel
theorem dX11_image_18 : decode cX11_image 18 = .ok (.putfield 326, 3) := by decide +kernel
theorem dX11_image_21 : decode cX11_image 21 = .ok (.aload_n 0, 1) := by decide +kernel
theorem dX11_image_22 : decode cX11_image 22 = .ok (.getfield 326, 3) := by decide +kernel
theorem dX11_image_25 : decode cX11_image 25 = .ok (.ireturn, 1) := by decide +kernel
theorem dX11_restore_0 : decode cX11_restore 0 = .ok (.aload_n 0, 1) := by decide +kernel
theorem dX11_restore_1 : decode cX11_restore 1 = .ok (.getfield 326, 3) := by decide +kernel
theorem dX11_restore_4 : decode cX11_restore 4 = .ok (.ifCond .ne 9, 3) := by decide +kernel
theorem dX11_restore_7 : decode cX11_restore 7 = .ok (.aload_n 0, 1) := by decide +kernel
theorem dX11_restore_8 : decode cX11_restore 8 = .ok (.iconst 2, 1) := by decide +kernel
theorem dX11_restore_9 : decode cX11_restore 9 = .ok (.invokevirtual 83, 3) := by decide +kernel
theorem dX11_restore_12 : decode cX11_restore 12 = .ok (.ireturn, 1) := by decide +kernel
theorem dX11_restore_13 : decode cX11_restore 13 = .ok (.aload_n 0, 1) := by decide +kernel
theorem dX11_restore_14 : decode cX11_restore 14 = .ok (.getfield 10, 3) := by decide +kernel
theorem dX11_restore_17 : decode cX11_restore 17 = .ok (.aload_n 0, 1) := by decide +kernel
theorem dX11_restore_18 : decode cX11_restore 18 = .ok (.getfield 16, 3) := by decide +kernel
theorem dX11_restore_21 : decode cX11_restore 21 = .ok (.invokevirtual 323, 3) := by decide +kernel
theorem dX11_restore_24 : decode cX11_restore 24 = .ok (.aload_n 0, 1) := by decide +kernel
theorem dX11_restore_25 : decode cX11_restore 25 = .ok (.getfield 10, 3) := by decide +kernel
theorem dX11_restore_28 : decode cX11_restore 28 = .ok (.getfield 114, 3) := by decide +kernel
theorem dX11_restore_31 : decode cX11_restore 31 = .ok (.getfield 195, 3) := by decide +kernel
theorem dX11_restore_34 : decode cX11_restore 34 = .ok (.ireturn, 1) := by decide +kernel
theorem dX11_tell_0 : decode cX11_tell 0 = .ok (.aload_n 0, 1) := by decide +kernel
theorem dX11_tell_1 : decode cX11_tell 1 = .ok (.getfield 10, 3) := by decide +kernel
theorem dX11_tell_4 : decode cX11_tell 4 = .ok (.getfield 329, 3) := by decide +kernel
theorem dX11_tell_7 : decode cX11_tell 7 = .ok (.bipush 20, 2) := by decide +kernel
theorem dX11_tell_9 : decode cX11_tell 9 = .ok (.if_icmp .lt 9, 3) := by decide +kernel
theorem dX11_tell_12 : decode cX11_tell 12 = .ok (.aload_n 0, 1) := by decide +kernel
theorem dX11_tell_13 : decode cX11_tell 13 = .ok (.iconst 4, 1) := by decide +kernel
theorem dX11_tell_14 : decode cX11_tell 14 = .ok (.invokevirtual 83, 3) := by decide +kernel
theorem dX11_tell_17 : decode cX11_tell 17 = .ok (.ireturn, 1) := by decide +kernel
theorem dX11_tell_18 : decode cX11_tell 18 = .ok (.aload_n 0, 1) := by decide +kernel
theorem dX11_tell_19 : decode cX11_tell 19 = .ok (.getfield 10, 3) := by decide +kernel
theorem dX11_tell_22 : decode cX11_tell 22 = .ok (.getfield 332, 3) := by decide +kernel
theorem dX11_tell_25 : decode cX11_tell 25 = .ok (.aload_n 0, 1) := by decide +kernel
theorem dX11_tell_26 : decode cX11_tell 26 = .ok (.getfield 10, 3) := by decide +kernel
theorem dX11_tell_29 : decode cX11_tell 29 = .ok (.getfield 329, 3) := by decide +kernel
theorem dX11_tell_32 : decode cX11_tell 32 = .ok (.iload_n 1, 1) := by decide +kernel
theorem dX11_tell_33 : decode cX11_tell 33 = .ok (.iastore, 1) := by decide +kernel
theorem dX11_tell_34 : decode cX11_tell 34 = .ok (.aload_n 0, 1) := by decide +kernel
theorem dX11_tell_35 : decode cX11_tell 35 = .ok (.getfield 10, 3) := by decide +kernel
theorem dX11_tell_38 : decode cX11_tell 38 = .ok (.dup, 1) := by decide +kernel
theorem dX11_tell_39 : decode cX11_tell 39 = .ok (.getfield 329, 3) := by decide +kernel
theorem dX11_tell_42 : decode cX11_tell 42 = .ok (.iconst 1, 1) := by decide +kernel
theorem dX11_tell_43 : decode cX11_tell 43 = .ok (.iadd, 1) := by decide +kernel
theorem dX11_tell_44 : decode cX11_tell 44 = .ok (.putfield 329, 3) := by decide +kernel
theorem dX11_tell_47 : decode cX11_tell 47 = .ok (.aload_n 0, 1) := by decide +kernel
theorem dX11_tell_48 : decode cX11_tell 48 = .ok (.getfield 10, 3) := by decide +kernel
theorem dX11_tell_51 : decode cX11_tell 51 = .ok (.getfield 329, 3) := by decide +kernel
theorem dX11_tell_54 : decode cX11_tell 54 = .ok (.ireturn, 1) := by decide +kernel
theorem dX11_check_0 : decode cX11_check 0 = .ok (.aload_n 0, 1) := by decide +kernel
theorem dX11_check_1 : decode cX11_check 1 = .ok (.getfield 10, 3) := by decide +kernel
theorem dX11_check_4 : decode cX11_check 4 = .ok (.getfield 329, 3) := by decide +kernel
theorem dX11_check_7 : decode cX11_check 7 = .ok (.istore_n 1, 1) := by decide +kernel
theorem dX11_check_8 : decode cX11_check 8 = .ok (.aload_n 0, 1) := by decide +kernel
theorem dX11_check_9 : decode cX11_check 9 = .ok (.getfield 10, 3) := by decide +kernel
theorem dX11_check_12 : decode cX11_check 12 = .ok (.iconst 0, 1) := by decide +kernel
theorem dX11_check_13 : decode cX11_check 13 = .ok (.putfield 329, 3) := by decide +kernel
theorem dX11_check_16 : decode cX11_check 16 = .ok (.aload_n 0, 1) := by decide +kernel
theorem dX11_check_17 : decode cX11_check 17 = .ok (.getfield 32, 3) := by decide +kernel
theorem dX11_check_20 : decode cX11_check 20 = .ok (.aload_n 0, 1) := by decide +kernel
theorem dX11_check_21 : decode cX11_check 21 = .ok (.getfield 10, 3) := by decide +kernel
theorem dX11_check_24 : decode cX11_check 24 = .ok (.getfield 114, 3) := by decide +kernel
theorem dX11_check_27 : decode cX11_check 27 = .ok (.invokevirtual 206, 3) := by decide +kernel
theorem dX11_check_30 : decode cX11_check 30 = .ok (.iconst 0, 1) := by decide +kernel
theorem dX11_check_31 : decode cX11_check 31 = .ok (.istore_n 2, 1) := by decide +kernel
theorem dX11_check_32 : decode cX11_check 32 = .ok (.iload_n 2, 1) := by decide +kernel
theorem dX11_check_33 : decode cX11_check 33 = .ok (.iload_n 1, 1) := by decide +kernel
theorem dX11_check_34 : decode cX11_check 34 = .ok (.if_icmp .ge 46, 3) := by decide +kernel
theorem dX11_check_37 : decode cX11_check 37 = .ok (.iload_n 2, 1) := by decide +kernel
theorem dX11_check_38 : decode cX11_check 38 = .ok (.bipush 20, 2) := by decide +kernel
theorem dX11_check_40 : decode cX11_check 40 = .ok (.if_icmp .ge 40, 3) := by decide +kernel
theorem dX11_check_43 : decode cX11_check 43 = .ok (.aload_n 0, 1) := by decide +kernel
theorem dX11_check_44 : decode cX11_check 44 = .ok (.getfield 32, 3) := by decide +kernel
theorem dX11_check_47 : decode cX11_check 47 = .ok (.iconst 1, 1) := by decide +kernel
theorem dX11_check_48 : decode cX11_check 48 = .ok (.invokevirtual 198, 3) := by decide +kernel
theorem dX11_check_51 : decode cX11_check 51 = .ok (.aload_n 0, 1) := by decide +kernel
theorem dX11_check_52 : decode cX11_check 52 = .ok (.getfield 32, 3) := by decide +kernel
theorem dX11_check_55 : decode cX11_check 55 = .ok (.invokevirtual 335, 3) := by decide +kernel
theorem dX11_check_58 : decode cX11_check 58 = .ok (.aload_n 0, 1) := by decide +kernel
theorem dX11_check_59 : decode cX11_check 59 = .ok (.getfield 10, 3) := by decide +kernel
theorem dX11_check_62 : decode cX11_check 62 = .ok (.getfield 332, 3) := by decide +kernel
theorem dX11_check_65 : decode cX11_check 65 = .ok (.iload_n 2, 1) := by decide +kernel
theorem dX11_check_66 : decode cX11_check 66 = .ok (.iaload, 1) := by decide +kernel
theorem dX11_check_67 : decode cX11_check 67 = .ok (.if_icmp .eq 7, 3) := by decide +kernel
theorem dX11_check_70 : decode cX11_check 70 = .ok (.iconst 1, 1) := by decide +kernel
theorem dX11_check_71 : decode cX11_check 71 = .ok (.iload_n 2, 1) := by decide +kernel
theorem dX11_check_72 : decode cX11_check 72 = .ok (.iadd, 1) := by decide +kernel
theorem dX11_check_73 : decode cX11_check 73 = .ok (.ireturn, 1) := by decide +kernel
theorem dX11_check_74 : decode cX11_check 74 = .ok (.iinc 2 1, 3) := by decide +kernel
theorem dX11_check_77 : decode cX11_check 77 = .ok (.goto (-45), 3) := by decide +kernel
theorem dX11_check_80 : decode cX11_check 80 = .ok (.iconst 0, 1) := by decide +kernel
theorem dX11_check_81 : decode cX11_check 81 = .ok (.ireturn, 1) := by decide +kernel
theorem dX11_count_0 : decode cX11_count 0 = .ok (.iload_n 1, 1) := by decide +kernel
theorem dX11_count_1 : decode cX11_count 1 = .ok (.tableswitch 156 0 9 #[55, 66, 77, 88, 99, 110, 121, 132, 140, 148], 55) := by decide +kernel
theorem dX11_count_56 : decode cX11_count 56 = .ok (.aload_n 0, 1) := by decide +kernel
theorem dX11_count_57 : decode cX11_count 57 = .ok (.getfield 10, 3) := by decide +kernel
theorem dX11_count_60 : decode cX11_count 60 = .ok (.getfield 21, 3) := by decide +kernel
theorem dX11_count_63 : decode cX11_count 63 = .ok (.getfield 73, 3) := by decide +kernel
theorem dX11_count_66 : decode cX11_count 66 = .ok (.ireturn, 1) := by decide +kernel
theorem dX11_count_67 : decode cX11_count 67 = .ok (.aload_n 0, 1) := by decide +kernel
theorem dX11_count_68 : decode cX11_count 68 = .ok (.getfield 10, 3) := by decide +kernel
theorem dX11_count_71 : decode cX11_count 71 = .ok (.getfield 114, 3) := by decide +kernel
theorem dX11_count_74 : decode cX11_count 74 = .ok (.getfield 120, 3) := by decide +kernel
theorem dX11_count_77 : decode cX11_count 77 = .ok (.ireturn, 1) := by decide +kernel
theorem dX11_count_78 : decode cX11_count 78 = .ok (.aload_n 0, 1) := by decide +kernel
theorem dX11_count_79 : decode cX11_count 79 = .ok (.getfield 10, 3) := by decide +kernel
theorem dX11_count_82 : decode cX11_count 82 = .ok (.getfield 114, 3) := by decide +kernel
theorem dX11_count_85 : decode cX11_count 85 = .ok (.getfield 195, 3) := by decide +kernel
theorem dX11_count_88 : decode cX11_count 88 = .ok (.ireturn, 1) := by decide +kernel
theorem dX11_count_89 : decode cX11_count 89 = .ok (.aload_n 0, 1) := by decide +kernel
theorem dX11_count_90 : decode cX11_count 90 = .ok (.getfield 10, 3) := by decide +kernel
theorem dX11_count_93 : decode cX11_count 93 = .ok (.getfield 271, 3) := by decide +kernel
theorem dX11_count_96 : decode cX11_count 96 = .ok (.getfield 275, 3) := by decide +kernel
theorem dX11_count_99 : decode cX11_count 99 = .ok (.ireturn, 1) := by decide +kernel
theorem dX11_count_100 : decode cX11_count 100 = .ok (.aload_n 0, 1) := by decide +kernel
theorem dX11_count_101 : decode cX11_count 101 = .ok (.getfield 10, 3) := by decide +kernel
theorem dX11_count_104 : decode cX11_count 104 = .ok (.getfield 114, 3) := by decide +kernel
theorem dX11_count_107 : decode cX11_count 107 = .ok (.invokevirtual 335, 3) := by decide +kernel
theorem dX11_count_110 : decode cX11_count 110 = .ok (.ireturn, 1) := by decide +kernel
theorem dX11_count_111 : decode cX11_count 111 = .ok (.aload_n 0, 1) := by decide +kernel
theorem dX11_count_112 : decode cX11_count 112 = .ok (.getfield 10, 3) := by decide +kernel
theorem dX11_count_115 : decode cX11_count 115 = .ok (.getfield 114, 3) := by decide +kernel
theorem dX11_count_118 : decode cX11_count 118 = .ok (.invokevirtual 201, 3) := by decide +kernel
theorem dX11_count_121 : decode cX11_count 121 = .ok (.ireturn, 1) := by decide +kernel
theorem dX11_count_122 : decode cX11_count 122 = .ok (.aload_n 0, 1) := by decide +kernel
theorem dX11_count_123 : decode cX11_count 123 = .ok (.getfield 10, 3) := by decide +kernel
theorem dX11_count_126 : decode cX11_count 126 = .ok (.getfield 210, 3) := by decide +kernel
theorem dX11_count_129 : decode cX11_count 129 = .ok (.getfield 214, 3) := by decide +kernel
theorem dX11_count_132 : decode cX11_count 132 = .ok (.ireturn, 1) := by decide +kernel
theorem dX11_count_133 : decode cX11_count 133 = .ok (.aload_n 0, 1) := by decide +kernel
theorem dX11_count_134 : decode cX11_count 134 = .ok (.getfield 10, 3) := by decide +kernel
theorem dX11_count_137 : decode cX11_count 137 = .ok (.getfield 329, 3) := by decide +kernel
theorem dX11_count_140 : decode cX11_count 140 = .ok (.ireturn, 1) := by decide +kernel
theorem dX11_count_141 : decode cX11_count 141 = .ok (.aload_n 0, 1) := by decide +kernel
theorem dX11_count_142 : decode cX11_count 142 = .ok (.getfield 55, 3) := by decide +kernel
theorem dX11_count_145 : decode cX11_count 145 = .ok (.getfield 294, 3) := by decide +kernel
theorem dX11_count_148 : decode cX11_count 148 = .ok (.ireturn, 1) := by decide +kernel
theorem dX11_count_149 : decode cX11_count 149 = .ok (.aload_n 0, 1) := by decide +kernel
theorem dX11_count_150 : decode cX11_count 150 = .ok (.getfield 10, 3) := by decide +kernel
theorem dX11_count_153 : decode cX11_count 153 = .ok (.getfield 287, 3) := by decide +kernel
theorem dX11_count_156 : decode cX11_count 156 = .ok (.ireturn, 1) := by decide +kernel
theorem dX11_count_157 : decode cX11_count 157 = .ok (.aload_n 0, 1) := by decide +kernel
theorem dX11_count_158 : decode cX11_count 158 = .ok (.iconst 1, 1) := by decide +kernel
theorem dX11_count_159 : decode cX11_count 159 = .ok (.invokevirtual 83, 3) := by decide +kernel
theorem dX11_count_162 : decode cX11_count 162 = .ok (.ireturn, 1) := by decide +kernel
theorem dX11_told_0 : decode cX11_told 0 = .ok (.iload_n 1, 1) := by decide +kernel
theorem dX11_told_1 : decode cX11_told 1 = .ok (.iconst 1, 1) := by decide +kernel
theorem dX11_told_2 : decode cX11_told 2 = .ok (.iconst 5, 1) := by decide +kernel
theorem dX11_told_3 : decode cX11_told 3 = .ok (.invokestatic 79, 3) := by decide +kernel
theorem dX11_told_6 : decode cX11_told 6 = .ok (.ifCond .eq 12, 3) := by decide +kernel
theorem dX11_told_9 : decode cX11_told 9 = .ok (.aload_n 0, 1) := by decide +kernel
theorem dX11_told_10 : decode cX11_told 10 = .ok (.getfield 69, 3) := by decide +kernel
theorem dX11_told_13 : decode cX11_told 13 = .ok (.iload_n 1, 1) := by decide +kernel
theorem dX11_told_14 : decode cX11_told 14 = .ok (.iaload, 1) := by decide +kernel
theorem dX11_told_15 : decode cX11_told 15 = .ok (.goto 8, 3) := by decide +kernel
theorem dX11_told_18 : decode cX11_told 18 = .ok (.aload_n 0, 1) := by decide +kernel
theorem dX11_told_19 : decode cX11_told 19 = .ok (.iconst 1, 1) := by decide +kernel
theorem dX11_told_20 : decode cX11_told 20 = .ok (.invokevirtual 83, 3) := by decide +kernel
theorem dX11_told_23 : decode cX11_told 23 = .ok (.ireturn, 1) := by decide +kernel
theorem dX11_among_0 : decode cX11_among 0 = .ok (.iload_n 0, 1) := by decide +kernel
theorem dX11_among_1 : decode cX11_among 1 = .ok (.iload_n 1, 1) := by decide +kernel
theorem dX11_among_2 : decode cX11_among 2 = .ok (.if_icmp .lt 12, 3) := by decide +kernel
theorem dX11_among_5 : decode cX11_among 5 = .ok (.iload_n 0, 1) := by decide +kernel
theorem dX11_among_6 : decode cX11_among 6 = .ok (.iload_n 2, 1) := by decide +kernel
theorem dX11_among_7 : decode cX11_among 7 = .ok (.if_icmp .gt 7, 3) := by decide +kernel
theorem dX11_among_10 : decode cX11_among 10 = .ok (.iconst 1, 1) := by decide +kernel
theorem dX11_among_11 : decode cX11_among 11 = .ok (.goto 4, 3) := by decide +kernel
theorem dX11_among_14 : decode cX11_among 14 = .ok (.iconst 0, 1) := by decide +kernel
theorem dX11_among_15 : decode cX11_among 15 = .ok (.ireturn, 1) := by decide +kernel
theorem dX11_isFact_0 : decode cX11_isFact 0 = .ok (.iload_n 1, 1) := by decide +kernel
theorem dX11_isFact_1 : decode cX11_isFact 1 = .ok (.iconst 0, 1) := by decide +kernel
theorem dX11_isFact_2 : decode cX11_isFact 2 = .ok (.aload_n 0, 1) := by decide +kernel
theorem dX11_isFact_3 : decode cX11_isFact 3 = .ok (.getfield 10, 3) := by decide +kernel
theorem dX11_isFact_6 : decode cX11_isFact 6 = .ok (.getfield 21, 3) := by decide +kernel
theorem dX11_isFact_9 : decode cX11_isFact 9 = .ok (.getfield 73, 3) := by decide +kernel
theorem dX11_isFact_12 : decode cX11_isFact 12 = .ok (.iconst 1, 1) := by decide +kernel
theorem dX11_isFact_13 : decode cX11_isFact 13 = .ok (.isub, 1) := by decide +kernel
theorem dX11_isFact_14 : decode cX11_isFact 14 = .ok (.invokestatic 79, 3) := by decide +kernel
theorem dX11_isFact_17 : decode cX11_isFact 17 = .ok (.ireturn, 1) := by decide +kernel
theorem dX11_isDebtor_0 : decode cX11_isDebtor 0 = .ok (.iload_n 1, 1) := by decide +kernel
theorem dX11_isDebtor_1 : decode cX11_isDebtor 1 = .ok (.iconst 0, 1) := by decide +kernel
theorem dX11_isDebtor_2 : decode cX11_isDebtor 2 = .ok (.aload_n 0, 1) := by decide +kernel
theorem dX11_isDebtor_3 : decode cX11_isDebtor 3 = .ok (.getfield 10, 3) := by decide +kernel
theorem dX11_isDebtor_6 : decode cX11_isDebtor 6 = .ok (.getfield 114, 3) := by decide +kernel
theorem dX11_isDebtor_9 : decode cX11_isDebtor 9 = .ok (.getfield 120, 3) := by decide +kernel
theorem dX11_isDebtor_12 : decode cX11_isDebtor 12 = .ok (.iconst 1, 1) := by decide +kernel
theorem dX11_isDebtor_13 : decode cX11_isDebtor 13 = .ok (.isub, 1) := by decide +kernel
theorem dX11_isDebtor_14 : decode cX11_isDebtor 14 = .ok (.invokestatic 79, 3) := by decide +kernel
theorem dX11_isDebtor_17 : decode cX11_isDebtor 17 = .ok (.ireturn, 1) := by decide +kernel
theorem dX11_isKind_0 : decode cX11_isKind 0 = .ok (.iload_n 0, 1) := by decide +kernel
theorem dX11_isKind_1 : decode cX11_isKind 1 = .ok (.iconst 0, 1) := by decide +kernel
theorem dX11_isKind_2 : decode cX11_isKind 2 = .ok (.bipush 6, 2) := by decide +kernel
theorem dX11_isKind_4 : decode cX11_isKind 4 = .ok (.invokestatic 79, 3) := by decide +kernel
theorem dX11_isKind_7 : decode cX11_isKind 7 = .ok (.ireturn, 1) := by decide +kernel
theorem dX11_isFigure_0 : decode cX11_isFigure 0 = .ok (.iload_n 0, 1) := by decide +kernel
theorem dX11_isFigure_1 : decode cX11_isFigure 1 = .ok (.iconst 0, 1) := by decide +kernel
theorem dX11_isFigure_2 : decode cX11_isFigure 2 = .ok (.iconst 4, 1) := by decide +kernel
theorem dX11_isFigure_3 : decode cX11_isFigure 3 = .ok (.invokestatic 79, 3) := by decide +kernel
theorem dX11_isFigure_6 : decode cX11_isFigure 6 = .ok (.ireturn, 1) := by decide +kernel
theorem dX11_isSheet_0 : decode cX11_isSheet 0 = .ok (.iload_n 0, 1) := by decide +kernel
theorem dX11_isSheet_1 : decode cX11_isSheet 1 = .ok (.iconst 0, 1) := by decide +kernel
theorem dX11_isSheet_2 : decode cX11_isSheet 2 = .ok (.iconst 3, 1) := by decide +kernel
theorem dX11_isSheet_3 : decode cX11_isSheet 3 = .ok (.invokestatic 79, 3) := by decide +kernel
theorem dX11_isSheet_6 : decode cX11_isSheet 6 = .ok (.ireturn, 1) := by decide +kernel
theorem dX11_isUse_0 : decode cX11_isUse 0 = .ok (.iload_n 0, 1) := by decide +kernel
theorem dX11_isUse_1 : decode cX11_isUse 1 = .ok (.ifCond .eq 8, 3) := by decide +kernel
theorem dX11_isUse_4 : decode cX11_isUse 4 = .ok (.iload_n 0, 1) := by decide +kernel
theorem dX11_isUse_5 : decode cX11_isUse 5 = .ok (.iconst 1, 1) := by decide +kernel
theorem dX11_isUse_6 : decode cX11_isUse 6 = .ok (.if_icmp .ne 7, 3) := by decide +kernel
theorem dX11_isUse_9 : decode cX11_isUse 9 = .ok (.iconst 1, 1) := by decide +kernel
theorem dX11_isUse_10 : decode cX11_isUse 10 = .ok (.goto 4, 3) := by decide +kernel
theorem dX11_isUse_13 : decode cX11_isUse 13 = .ok (.iconst 0, 1) := by decide +kernel
theorem dX11_isUse_14 : decode cX11_isUse 14 = .ok (.ireturn, 1) := by decide +kernel
theorem dX11_refuse_0 : decode cX11_refuse 0 = .ok (.aload_n 0, 1) := by decide +kernel
theorem dX11_refuse_1 : decode cX11_refuse 1 = .ok (.getfield 69, 3) := by decide +kernel
theorem dX11_refuse_4 : decode cX11_refuse 4 = .ok (.iload_n 1, 1) := by decide +kernel
theorem dX11_refuse_5 : decode cX11_refuse 5 = .ok (.dup2, 1) := by decide +kernel
theorem dX11_refuse_6 : decode cX11_refuse 6 = .ok (.iaload, 1) := by decide +kernel
theorem dX11_refuse_7 : decode cX11_refuse 7 = .ok (.iconst 1, 1) := by decide +kernel
theorem dX11_refuse_8 : decode cX11_refuse 8 = .ok (.iadd, 1) := by decide +kernel
theorem dX11_refuse_9 : decode cX11_refuse 9 = .ok (.iastore, 1) := by decide +kernel
theorem dX11_refuse_10 : decode cX11_refuse 10 = .ok (.ldc_w 338, 3) := by decide +kernel
theorem dX11_refuse_13 : decode cX11_refuse 13 = .ok (.iload_n 1, 1) := by decide +kernel
theorem dX11_refuse_14 : decode cX11_refuse 14 = .ok (.isub, 1) := by decide +kernel
theorem dX11_refuse_15 : decode cX11_refuse 15 = .ok (.ireturn, 1) := by decide +kernel
theorem dX11_lawOf_0 : decode cX11_lawOf 0 = .ok (.iload_n 1, 1) := by decide +kernel
theorem dX11_lawOf_1 : decode cX11_lawOf 1 = .ok (.ifCond .ne 13, 3) := by decide +kernel
theorem dX11_lawOf_4 : decode cX11_lawOf 4 = .ok (.aload_n 0, 1) := by decide +kernel
theorem dX11_lawOf_5 : decode cX11_lawOf 5 = .ok (.getfield 10, 3) := by decide +kernel
theorem dX11_lawOf_8 : decode cX11_lawOf 8 = .ok (.getfield 25, 3) := by decide +kernel
theorem dX11_lawOf_11 : decode cX11_lawOf 11 = .ok (.goto 10, 3) := by decide +kernel
theorem dX11_lawOf_14 : decode cX11_lawOf 14 = .ok (.aload_n 0, 1) := by decide +kernel
theorem dX11_lawOf_15 : decode cX11_lawOf 15 = .ok (.getfield 10, 3) := by decide +kernel
theorem dX11_lawOf_18 : decode cX11_lawOf 18 = .ok (.getfield 144, 3) := by decide +kernel
theorem dX11_lawOf_21 : decode cX11_lawOf 21 = .ok (.areturn, 1) := by decide +kernel
theorem dX11_canTell_0 : decode cX11_canTell 0 = .ok (.aload_n 0, 1) := by decide +kernel
theorem dX11_canTell_1 : decode cX11_canTell 1 = .ok (.iload_n 1, 1) := by decide +kernel
theorem dX11_canTell_2 : decode cX11_canTell 2 = .ok (.invokevirtual 122, 3) := by decide +kernel
theorem dX11_canTell_5 : decode cX11_canTell 5 = .ok (.ifCond .eq 52, 3) := by decide +kernel
theorem dX11_canTell_8 : decode cX11_canTell 8 = .ok (.aload_n 0, 1) := by decide +kernel
theorem dX11_canTell_9 : decode cX11_canTell 9 = .ok (.iload_n 2, 1) := by decide +kernel
theorem dX11_canTell_10 : decode cX11_canTell 10 = .ok (.invokevirtual 91, 3) := by decide +kernel
theorem dX11_canTell_13 : decode cX11_canTell 13 = .ok (.ifCond .eq 44, 3) := by decide +kernel
theorem dX11_canTell_16 : decode cX11_canTell 16 = .ok (.aload_n 0, 1) := by decide +kernel
theorem dX11_canTell_17 : decode cX11_canTell 17 = .ok (.getfield 10, 3) := by decide +kernel
theorem dX11_canTell_20 : decode cX11_canTell 20 = .ok (.getfield 114, 3) := by decide +kernel
theorem dX11_canTell_23 : decode cX11_canTell 23 = .ok (.getfield 125, 3) := by decide +kernel
theorem dX11_canTell_26 : decode cX11_canTell 26 = .ok (.iload_n 1, 1) := by decide +kernel
theorem dX11_canTell_27 : decode cX11_canTell 27 = .ok (.aaload, 1) := by decide +kernel
theorem dX11_canTell_28 : decode cX11_canTell 28 = .ok (.getfield 176, 3) := by decide +kernel
theorem dX11_canTell_31 : decode cX11_canTell 31 = .ok (.ifCond .ne 26, 3) := by decide +kernel
theorem dX11_canTell_34 : decode cX11_canTell 34 = .ok (.aload_n 0, 1) := by decide +kernel
theorem dX11_canTell_35 : decode cX11_canTell 35 = .ok (.getfield 10, 3) := by decide +kernel
theorem dX11_canTell_38 : decode cX11_canTell 38 = .ok (.getfield 114, 3) := by decide +kernel
theorem dX11_canTell_41 : decode cX11_canTell 41 = .ok (.iload_n 1, 1) := by decide +kernel
theorem dX11_canTell_42 : decode cX11_canTell 42 = .ok (.invokevirtual 141, 3) := by decide +kernel
theorem dX11_canTell_45 : decode cX11_canTell 45 = .ok (.iload_n 2, 1) := by decide +kernel
theorem dX11_canTell_46 : decode cX11_canTell 46 = .ok (.ishr, 1) := by decide +kernel
theorem dX11_canTell_47 : decode cX11_canTell 47 = .ok (.iconst 1, 1) := by decide +kernel
theorem dX11_canTell_48 : decode cX11_canTell 48 = .ok (.iand, 1) := by decide +kernel
theorem dX11_canTell_49 : decode cX11_canTell 49 = .ok (.iconst 1, 1) := by decide +kernel
theorem dX11_canTell_50 : decode cX11_canTell 50 = .ok (.if_icmp .ne 7, 3) := by decide +kernel
theorem dX11_canTell_53 : decode cX11_canTell 53 = .ok (.iconst 1, 1) := by decide +kernel
theorem dX11_canTell_54 : decode cX11_canTell 54 = .ok (.goto 4, 3) := by decide +kernel
theorem dX11_canTell_57 : decode cX11_canTell 57 = .ok (.iconst 0, 1) := by decide +kernel
theorem dX11_canTell_58 : decode cX11_canTell 58 = .ok (.ireturn, 1) := by decide +kernel
theorem dX11_stateOf_0 : decode cX11_stateOf 0 = .ok (.aload_n 0, 1) := by decide +kernel
theorem dX11_stateOf_1 : decode cX11_stateOf 1 = .ok (.getfield 125, 3) := by decide +kernel
theorem dX11_stateOf_4 : decode cX11_stateOf 4 = .ok (.iload_n 1, 1) := by decide +kernel
theorem dX11_stateOf_5 : decode cX11_stateOf 5 = .ok (.aaload, 1) := by decide +kernel
theorem dX11_stateOf_6 : decode cX11_stateOf 6 = .ok (.astore_n 3, 1) := by decide +kernel
theorem dX11_stateOf_7 : decode cX11_stateOf 7 = .ok (.iload_n 2, 1) := by decide +kernel
theorem dX11_stateOf_8 : decode cX11_stateOf 8 = .ok (.tableswitch 60 2 5 #[32, 37, 42, 47], 32) := by decide +kernel
theorem dX11_stateOf_40 : decode cX11_stateOf 40 = .ok (.aload_n 3, 1) := by decide +kernel
theorem dX11_stateOf_41 : decode cX11_stateOf 41 = .ok (.getfield 147, 3) := by decide +kernel
theorem dX11_stateOf_44 : decode cX11_stateOf 44 = .ok (.ireturn, 1) := by decide +kernel
theorem dX11_stateOf_45 : decode cX11_stateOf 45 = .ok (.aload_n 3, 1) := by decide +kernel
theorem dX11_stateOf_46 : decode cX11_stateOf 46 = .ok (.getfield 153, 3) := by decide +kernel
theorem dX11_stateOf_49 : decode cX11_stateOf 49 = .ok (.ireturn, 1) := by decide +kernel
theorem dX11_stateOf_50 : decode cX11_stateOf 50 = .ok (.aload_n 3, 1) := by decide +kernel
theorem dX11_stateOf_51 : decode cX11_stateOf 51 = .ok (.getfield 245, 3) := by decide +kernel
theorem dX11_stateOf_54 : decode cX11_stateOf 54 = .ok (.ireturn, 1) := by decide +kernel
theorem dX11_stateOf_55 : decode cX11_stateOf 55 = .ok (.aload_n 3, 1) := by decide +kernel
theorem dX11_stateOf_56 : decode cX11_stateOf 56 = .ok (.getfield 176, 3) := by decide +kernel
theorem dX11_stateOf_59 : decode cX11_stateOf 59 = .ok (.ifCond .eq 7, 3) := by decide +kernel
theorem dX11_stateOf_62 : decode cX11_stateOf 62 = .ok (.iconst 1, 1) := by decide +kernel
theorem dX11_stateOf_63 : decode cX11_stateOf 63 = .ok (.goto 4, 3) := by decide +kernel
theorem dX11_stateOf_66 : decode cX11_stateOf 66 = .ok (.iconst 0, 1) := by decide +kernel
theorem dX11_stateOf_67 : decode cX11_stateOf 67 = .ok (.ireturn, 1) := by decide +kernel
theorem dX11_stateOf_68 : decode cX11_stateOf 68 = .ok (.aload_n 0, 1) := by decide +kernel
theorem dX11_stateOf_69 : decode cX11_stateOf 69 = .ok (.iload_n 1, 1) := by decide +kernel
theorem dX11_stateOf_70 : decode cX11_stateOf 70 = .ok (.invokevirtual 150, 3) := by decide +kernel
theorem dX11_stateOf_73 : decode cX11_stateOf 73 = .ok (.ireturn, 1) := by decide +kernel
theorem dX11_searched_0 : decode cX11_searched 0 = .ok (.aload_n 0, 1) := by decide +kernel
theorem dX11_searched_1 : decode cX11_searched 1 = .ok (.iload_n 1, 1) := by decide +kernel
theorem dX11_searched_2 : decode cX11_searched 2 = .ok (.invokevirtual 122, 3) := by decide +kernel
theorem dX11_searched_5 : decode cX11_searched 5 = .ok (.ifCond .eq 13, 3) := by decide +kernel
theorem dX11_searched_8 : decode cX11_searched 8 = .ok (.iload_n 2, 1) := by decide +kernel
theorem dX11_searched_9 : decode cX11_searched 9 = .ok (.iconst (-1), 1) := by decide +kernel
theorem dX11_searched_10 : decode cX11_searched 10 = .ok (.bipush 7, 2) := by decide +kernel
theorem dX11_searched_12 : decode cX11_searched 12 = .ok (.invokestatic 79, 3) := by decide +kernel
theorem dX11_searched_15 : decode cX11_searched 15 = .ok (.ifCond .ne 9, 3) := by decide +kernel
theorem dX11_searched_18 : decode cX11_searched 18 = .ok (.aload_n 0, 1) := by decide +kernel
theorem dX11_searched_19 : decode cX11_searched 19 = .ok (.iconst 1, 1) := by decide +kernel
theorem dX11_searched_20 : decode cX11_searched 20 = .ok (.invokevirtual 83, 3) := by decide +kernel
theorem dX11_searched_23 : decode cX11_searched 23 = .ok (.ireturn, 1) := by decide +kernel
theorem dX11_searched_24 : decode cX11_searched 24 = .ok (.aload_n 0, 1) := by decide +kernel
theorem dX11_searched_25 : decode cX11_searched 25 = .ok (.getfield 10, 3) := by decide +kernel
theorem dX11_searched_28 : decode cX11_searched 28 = .ok (.getfield 114, 3) := by decide +kernel
theorem dX11_searched_31 : decode cX11_searched 31 = .ok (.getfield 125, 3) := by decide +kernel
theorem dX11_searched_34 : decode cX11_searched 34 = .ok (.iload_n 1, 1) := by decide +kernel
theorem dX11_searched_35 : decode cX11_searched 35 = .ok (.aaload, 1) := by decide +kernel
theorem dX11_searched_36 : decode cX11_searched 36 = .ok (.astore 4, 2) := by decide +kernel
theorem dX11_searched_38 : decode cX11_searched 38 = .ok (.aload 4, 2) := by decide +kernel
theorem dX11_searched_40 : decode cX11_searched 40 = .ok (.getfield 176, 3) := by decide +kernel
theorem dX11_searched_43 : decode cX11_searched 43 = .ok (.ifCond .eq 9, 3) := by decide +kernel
theorem dX11_searched_46 : decode cX11_searched 46 = .ok (.aload_n 0, 1) := by decide +kernel
theorem dX11_searched_47 : decode cX11_searched 47 = .ok (.iconst 3, 1) := by decide +kernel
theorem dX11_searched_48 : decode cX11_searched 48 = .ok (.invokevirtual 83, 3) := by decide +kernel
theorem dX11_searched_51 : decode cX11_searched 51 = .ok (.ireturn, 1) := by decide +kernel
theorem dX11_searched_52 : decode cX11_searched 52 = .ok (.aload_n 0, 1) := by decide +kernel
theorem dX11_searched_53 : decode cX11_searched 53 = .ok (.getfield 41, 3) := by decide +kernel
theorem dX11_searched_56 : decode cX11_searched 56 = .ok (.aload 4, 2) := by decide +kernel
theorem dX11_searched_58 : decode cX11_searched 58 = .ok (.aload_n 0, 1) := by decide +kernel
theorem dX11_searched_59 : decode cX11_searched 59 = .ok (.getfield 10, 3) := by decide +kernel
theorem dX11_searched_62 : decode cX11_searched 62 = .ok (.getfield 114, 3) := by decide +kernel
theorem dX11_searched_65 : decode cX11_searched 65 = .ok (.iload_n 1, 1) := by decide +kernel
theorem dX11_searched_66 : decode cX11_searched 66 = .ok (.invokevirtual 339, 3) := by decide +kernel
theorem dX11_searched_69 : decode cX11_searched 69 = .ok (.aload_n 0, 1) := by decide +kernel
theorem dX11_searched_70 : decode cX11_searched 70 = .ok (.getfield 10, 3) := by decide +kernel
theorem dX11_searched_73 : decode cX11_searched 73 = .ok (.getfield 114, 3) := by decide +kernel
theorem dX11_searched_76 : decode cX11_searched 76 = .ok (.getfield 195, 3) := by decide +kernel
theorem dX11_searched_79 : decode cX11_searched 79 = .ok (.iload_n 3, 1) := by decide +kernel
theorem dX11_searched_80 : decode cX11_searched 80 = .ok (.invokevirtual 342, 3) := by decide +kernel
theorem dX11_searched_83 : decode cX11_searched 83 = .ok (.aload_n 0, 1) := by decide +kernel
theorem dX11_searched_84 : decode cX11_searched 84 = .ok (.getfield 41, 3) := by decide +kernel
theorem dX11_searched_87 : decode cX11_searched 87 = .ok (.getfield 345, 3) := by decide +kernel
theorem dX11_searched_90 : decode cX11_searched 90 = .ok (.ifCond .lt 14, 3) := by decide +kernel
theorem dX11_searched_93 : decode cX11_searched 93 = .ok (.iload_n 2, 1) := by decide +kernel
theorem dX11_searched_94 : decode cX11_searched 94 = .ok (.aload_n 0, 1) := by decide +kernel
theorem dX11_searched_95 : decode cX11_searched 95 = .ok (.getfield 41, 3) := by decide +kernel
theorem dX11_searched_98 : decode cX11_searched 98 = .ok (.getfield 345, 3) := by decide +kernel
theorem dX11_searched_101 : decode cX11_searched 101 = .ok (.if_icmp .lt 9, 3) := by decide +kernel
theorem dX11_searched_104 : decode cX11_searched 104 = .ok (.aload_n 0, 1) := by decide +kernel
theorem dX11_searched_105 : decode cX11_searched 105 = .ok (.iconst 2, 1) := by decide +kernel
theorem dX11_searched_106 : decode cX11_searched 106 = .ok (.invokevirtual 83, 3) := by decide +kernel
theorem dX11_searched_109 : decode cX11_searched 109 = .ok (.ireturn, 1) := by decide +kernel
theorem dX11_searched_110 : decode cX11_searched 110 = .ok (.iload_n 2, 1) := by decide +kernel
theorem dX11_searched_111 : decode cX11_searched 111 = .ok (.ifCond .ge 13, 3) := by decide +kernel
theorem dX11_searched_114 : decode cX11_searched 114 = .ok (.aload_n 0, 1) := by decide +kernel
theorem dX11_searched_115 : decode cX11_searched 115 = .ok (.getfield 41, 3) := by decide +kernel
theorem dX11_searched_118 : decode cX11_searched 118 = .ok (.getfield 345, 3) := by decide +kernel
theorem dX11_searched_121 : decode cX11_searched 121 = .ok (.goto 12, 3) := by decide +kernel
theorem dX11_searched_124 : decode cX11_searched 124 = .ok (.aload_n 0, 1) := by decide +kernel
theorem dX11_searched_125 : decode cX11_searched 125 = .ok (.getfield 41, 3) := by decide +kernel
theorem dX11_searched_128 : decode cX11_searched 128 = .ok (.getfield 348, 3) := by decide +kernel
theorem dX11_searched_131 : decode cX11_searched 131 = .ok (.iload_n 2, 1) := by decide +kernel
theorem dX11_searched_132 : decode cX11_searched 132 = .ok (.iaload, 1) := by decide +kernel
theorem dX11_searched_133 : decode cX11_searched 133 = .ok (.ireturn, 1) := by decide +kernel
theorem dX11_weeksUntilFree_0 : decode cX11_weeksUntilFree 0 = .ok (.aload_n 0, 1) := by decide +kernel
theorem dX11_weeksUntilFree_1 : decode cX11_weeksUntilFree 1 = .ok (.getfield 32, 3) := by decide +kernel
theorem dX11_weeksUntilFree_4 : decode cX11_weeksUntilFree 4 = .ok (.aload_n 0, 1) := by decide +kernel
theorem dX11_weeksUntilFree_5 : decode cX11_weeksUntilFree 5 = .ok (.getfield 10, 3) := by decide +kernel
theorem dX11_weeksUntilFree_8 : decode cX11_weeksUntilFree 8 = .ok (.getfield 114, 3) := by decide +kernel
theorem dX11_weeksUntilFree_11 : decode cX11_weeksUntilFree 11 = .ok (.invokevirtual 206, 3) := by decide +kernel
theorem dX11_weeksUntilFree_14 : decode cX11_weeksUntilFree 14 = .ok (.iconst 0, 1) := by decide +kernel
theorem dX11_weeksUntilFree_15 : decode cX11_weeksUntilFree 15 = .ok (.istore_n 3, 1) := by decide +kernel
theorem dX11_weeksUntilFree_16 : decode cX11_weeksUntilFree 16 = .ok (.iload_n 3, 1) := by decide +kernel
theorem dX11_weeksUntilFree_17 : decode cX11_weeksUntilFree 17 = .ok (.bipush 60, 2) := by decide +kernel
theorem dX11_weeksUntilFree_19 : decode cX11_weeksUntilFree 19 = .ok (.if_icmp .gt 35, 3) := by decide +kernel
theorem dX11_weeksUntilFree_22 : decode cX11_weeksUntilFree 22 = .ok (.aload_n 0, 1) := by decide +kernel
theorem dX11_weeksUntilFree_23 : decode cX11_weeksUntilFree 23 = .ok (.getfield 32, 3) := by decide +kernel
theorem dX11_weeksUntilFree_26 : decode cX11_weeksUntilFree 26 = .ok (.getfield 125, 3) := by decide +kernel
theorem dX11_weeksUntilFree_29 : decode cX11_weeksUntilFree 29 = .ok (.iload_n 1, 1) := by decide +kernel
theorem dX11_weeksUntilFree_30 : decode cX11_weeksUntilFree 30 = .ok (.aaload, 1) := by decide +kernel
theorem dX11_weeksUntilFree_31 : decode cX11_weeksUntilFree 31 = .ok (.getfield 147, 3) := by decide +kernel
theorem dX11_weeksUntilFree_34 : decode cX11_weeksUntilFree 34 = .ok (.ifCond .ne 5, 3) := by decide +kernel
theorem dX11_weeksUntilFree_37 : decode cX11_weeksUntilFree 37 = .ok (.iload_n 3, 1) := by decide +kernel
theorem dX11_weeksUntilFree_38 : decode cX11_weeksUntilFree 38 = .ok (.ireturn, 1) := by decide +kernel
theorem dX11_weeksUntilFree_39 : decode cX11_weeksUntilFree 39 = .ok (.aload_n 0, 1) := by decide +kernel
theorem dX11_weeksUntilFree_40 : decode cX11_weeksUntilFree 40 = .ok (.getfield 32, 3) := by decide +kernel
theorem dX11_weeksUntilFree_43 : decode cX11_weeksUntilFree 43 = .ok (.iload_n 1, 1) := by decide +kernel
theorem dX11_weeksUntilFree_44 : decode cX11_weeksUntilFree 44 = .ok (.iload_n 2, 1) := by decide +kernel
theorem dX11_weeksUntilFree_45 : decode cX11_weeksUntilFree 45 = .ok (.invokevirtual 351, 3) := by decide +kernel
theorem dX11_weeksUntilFree_48 : decode cX11_weeksUntilFree 48 = .ok (.iinc 3 1, 3) := by decide +kernel
theorem dX11_weeksUntilFree_51 : decode cX11_weeksUntilFree 51 = .ok (.goto (-35), 3) := by decide +kernel
theorem dX11_weeksUntilFree_54 : decode cX11_weeksUntilFree 54 = .ok (.iconst (-1), 1) := by decide +kernel
theorem dX11_weeksUntilFree_55 : decode cX11_weeksUntilFree 55 = .ok (.ireturn, 1) := by decide +kernel
theorem dX11_bestRate_0 : decode cX11_bestRate 0 = .ok (.iconst (-1), 1) := by decide +kernel
theorem dX11_bestRate_1 : decode cX11_bestRate 1 = .ok (.istore_n 2, 1) := by decide +kernel
theorem dX11_bestRate_2 : decode cX11_bestRate 2 = .ok (.bipush 61, 2) := by decide +kernel
theorem dX11_bestRate_4 : decode cX11_bestRate 4 = .ok (.istore_n 3, 1) := by decide +kernel
theorem dX11_bestRate_5 : decode cX11_bestRate 5 = .ok (.iconst 1, 1) := by decide +kernel
theorem dX11_bestRate_6 : decode cX11_bestRate 6 = .ok (.istore 4, 2) := by decide +kernel
theorem dX11_bestRate_8 : decode cX11_bestRate 8 = .ok (.iload 4, 2) := by decide +kernel
theorem dX11_bestRate_10 : decode cX11_bestRate 10 = .ok (.iconst 4, 1) := by decide +kernel
theorem dX11_bestRate_11 : decode cX11_bestRate 11 = .ok (.if_icmp .gt 35, 3) := by decide +kernel
theorem dX11_bestRate_14 : decode cX11_bestRate 14 = .ok (.aload_n 0, 1) := by decide +kernel
theorem dX11_bestRate_15 : decode cX11_bestRate 15 = .ok (.iload_n 1, 1) := by decide +kernel
theorem dX11_bestRate_16 : decode cX11_bestRate 16 = .ok (.iload 4, 2) := by decide +kernel
theorem dX11_bestRate_18 : decode cX11_bestRate 18 = .ok (.invokevirtual 251, 3) := by decide +kernel
theorem dX11_bestRate_21 : decode cX11_bestRate 21 = .ok (.istore 5, 2) := by decide +kernel
theorem dX11_bestRate_23 : decode cX11_bestRate 23 = .ok (.iload 5, 2) := by decide +kernel
theorem dX11_bestRate_25 : decode cX11_bestRate 25 = .ok (.ifCond .lt 15, 3) := by decide +kernel
theorem dX11_bestRate_28 : decode cX11_bestRate 28 = .ok (.iload 5, 2) := by decide +kernel
theorem dX11_bestRate_30 : decode cX11_bestRate 30 = .ok (.iload_n 3, 1) := by decide +kernel
theorem dX11_bestRate_31 : decode cX11_bestRate 31 = .ok (.if_icmp .ge 9, 3) := by decide +kernel
theorem dX11_bestRate_34 : decode cX11_bestRate 34 = .ok (.iload 5, 2) := by decide +kernel
theorem dX11_bestRate_36 : decode cX11_bestRate 36 = .ok (.istore_n 3, 1) := by decide +kernel
theorem dX11_bestRate_37 : decode cX11_bestRate 37 = .ok (.iload 4, 2) := by decide +kernel
theorem dX11_bestRate_39 : decode cX11_bestRate 39 = .ok (.istore_n 2, 1) := by decide +kernel
theorem dX11_bestRate_40 : decode cX11_bestRate 40 = .ok (.iinc 4 1, 3) := by decide +kernel
theorem dX11_bestRate_43 : decode cX11_bestRate 43 = .ok (.goto (-35), 3) := by decide +kernel
theorem dX11_bestRate_46 : decode cX11_bestRate 46 = .ok (.iload_n 2, 1) := by decide +kernel
theorem dX11_bestRate_47 : decode cX11_bestRate 47 = .ok (.ireturn, 1) := by decide +kernel
theorem dX11_wouldTell_0 : decode cX11_wouldTell 0 = .ok (.aload_n 0, 1) := by decide +kernel
theorem dX11_wouldTell_1 : decode cX11_wouldTell 1 = .ok (.getfield 32, 3) := by decide +kernel
theorem dX11_wouldTell_4 : decode cX11_wouldTell 4 = .ok (.aload_n 0, 1) := by decide +kernel
theorem dX11_wouldTell_5 : decode cX11_wouldTell 5 = .ok (.getfield 10, 3) := by decide +kernel
theorem dX11_wouldTell_8 : decode cX11_wouldTell 8 = .ok (.getfield 114, 3) := by decide +kernel
theorem dX11_wouldTell_11 : decode cX11_wouldTell 11 = .ok (.invokevirtual 206, 3) := by decide +kernel
theorem dX11_wouldTell_14 : decode cX11_wouldTell 14 = .ok (.aload_n 0, 1) := by decide +kernel
theorem dX11_wouldTell_15 : decode cX11_wouldTell 15 = .ok (.getfield 32, 3) := by decide +kernel
theorem dX11_wouldTell_18 : decode cX11_wouldTell 18 = .ok (.getfield 125, 3) := by decide +kernel
theorem dX11_wouldTell_21 : decode cX11_wouldTell 21 = .ok (.iload_n 1, 1) := by decide +kernel
theorem dX11_wouldTell_22 : decode cX11_wouldTell 22 = .ok (.aaload, 1) := by decide +kernel
theorem dX11_wouldTell_23 : decode cX11_wouldTell 23 = .ok (.astore 4, 2) := by decide +kernel
theorem dX11_wouldTell_25 : decode cX11_wouldTell 25 = .ok (.aload 4, 2) := by decide +kernel
theorem dX11_wouldTell_27 : decode cX11_wouldTell 27 = .ok (.getfield 153, 3) := by decide +kernel
theorem dX11_wouldTell_30 : decode cX11_wouldTell 30 = .ok (.istore 5, 2) := by decide +kernel
theorem dX11_wouldTell_32 : decode cX11_wouldTell 32 = .ok (.aload 4, 2) := by decide +kernel
theorem dX11_wouldTell_34 : decode cX11_wouldTell 34 = .ok (.iload_n 2, 1) := by decide +kernel
theorem dX11_wouldTell_35 : decode cX11_wouldTell 35 = .ok (.putfield 129, 3) := by decide +kernel
theorem dX11_wouldTell_38 : decode cX11_wouldTell 38 = .ok (.aload_n 0, 1) := by decide +kernel
theorem dX11_wouldTell_39 : decode cX11_wouldTell 39 = .ok (.getfield 32, 3) := by decide +kernel
theorem dX11_wouldTell_42 : decode cX11_wouldTell 42 = .ok (.bipush 60, 2) := by decide +kernel
theorem dX11_wouldTell_44 : decode cX11_wouldTell 44 = .ok (.invokevirtual 198, 3) := by decide +kernel
theorem dX11_wouldTell_47 : decode cX11_wouldTell 47 = .ok (.aload 4, 2) := by decide +kernel
theorem dX11_wouldTell_49 : decode cX11_wouldTell 49 = .ok (.iload 5, 2) := by decide +kernel
theorem dX11_wouldTell_51 : decode cX11_wouldTell 51 = .ok (.aload_n 3, 1) := by decide +kernel
theorem dX11_wouldTell_52 : decode cX11_wouldTell 52 = .ok (.invokevirtual 319, 3) := by decide +kernel
theorem dX11_wouldTell_55 : decode cX11_wouldTell 55 = .ok (.aload_n 3, 1) := by decide +kernel
theorem dX11_wouldTell_56 : decode cX11_wouldTell 56 = .ok (.getfield 300, 3) := by decide +kernel
theorem dX11_wouldTell_59 : decode cX11_wouldTell 59 = .ok (.if_icmp .ne 7, 3) := by decide +kernel
theorem dX11_wouldTell_62 : decode cX11_wouldTell 62 = .ok (.iconst 1, 1) := by decide +kernel
theorem dX11_wouldTell_63 : decode cX11_wouldTell 63 = .ok (.goto 4, 3) := by decide +kernel
theorem dX11_wouldTell_66 : decode cX11_wouldTell 66 = .ok (.iconst 0, 1) := by decide +kernel
theorem dX11_wouldTell_67 : decode cX11_wouldTell 67 = .ok (.ireturn, 1) := by decide +kernel
theorem dX12_init_0 : decode cX12_init 0 = .ok (.aload_n 0, 1) := by decide +kernel
theorem dX12_init_1 : decode cX12_init 1 = .ok (.invokespecial 1, 3) := by decide +kernel
theorem dX12_init_4 : decode cX12_init 4 = .ok (.aload_n 0, 1) := by decide +kernel
theorem dX12_init_5 : decode cX12_init 5 = .ok (.sipush 342, 3) := by decide +kernel
theorem dX12_init_8 : decode cX12_init 8 = .ok (.newarray .int, 2) := by decide +kernel
theorem dX12_init_10 : decode cX12_init 10 = .ok (.putfield 7, 3) := by decide +kernel
theorem dX12_init_13 : decode cX12_init 13 = .ok (.aload_n 0, 1) := by decide +kernel
theorem dX12_init_14 : decode cX12_init 14 = .ok (.sipush 342, 3) := by decide +kernel
theorem dX12_init_17 : decode cX12_init 17 = .ok (.newarray .int, 2) := by decide +kernel
theorem dX12_init_19 : decode cX12_init 19 = .ok (.putfield 13, 3) := by decide +kernel
theorem dX12_init_22 : decode cX12_init 22 = .ok (.aload_n 0, 1) := by decide +kernel
theorem dX12_init_23 : decode cX12_init 23 = .ok (.sipush 170, 3) := by decide +kernel
theorem dX12_init_26 : decode cX12_init 26 = .ok (.newarray .int, 2) := by decide +kernel
theorem dX12_init_28 : decode cX12_init 28 = .ok (.putfield 16, 3) := by decide +kernel
theorem dX12_init_31 : decode cX12_init 31 = .ok (.aload_n 0, 1) := by decide +kernel
theorem dX12_init_32 : decode cX12_init 32 = .ok (.bipush 6, 2) := by decide +kernel
theorem dX12_init_34 : decode cX12_init 34 = .ok (.newarray .int, 2) := by decide +kernel
theorem dX12_init_36 : decode cX12_init 36 = .ok (.putfield 19, 3) := by decide +kernel
theorem dX12_init_39 : decode cX12_init 39 = .ok (.aload_n 0, 1) := by decide +kernel
theorem dX12_init_40 : decode cX12_init 40 = .ok (.iconst 3, 1) := by decide +kernel
theorem dX12_init_41 : decode cX12_init 41 = .ok (.newarray .int, 2) := by decide +kernel
theorem dX12_init_43 : decode cX12_init 43 = .ok (.putfield 22, 3) := by decide +kernel
theorem dX12_init_46 : decode cX12_init 46 = .ok (.aload_n 0, 1) := by decide +kernel
theorem dX12_init_47 : decode cX12_init 47 = .ok (.iconst (-1), 1) := by decide +kernel
theorem dX12_init_48 : decode cX12_init 48 = .ok (.putfield 25, 3) := by decide +kernel
theorem dX12_init_51 : decode cX12_init 51 = .ok (.aload_n 0, 1) := by decide +kernel
theorem dX12_init_52 : decode cX12_init 52 = .ok (.bipush 9, 2) := by decide +kernel
theorem dX12_init_54 : decode cX12_init 54 = .ok (.newarray .int, 2) := by decide +kernel
theorem dX12_init_56 : decode cX12_init 56 = .ok (.putfield 29, 3) := by decide +kernel
theorem dX12_init_59 : decode cX12_init 59 = .ok (.aload_n 0, 1) := by decide +kernel
theorem dX12_init_60 : decode cX12_init 60 = .ok (.bipush 9, 2) := by decide +kernel
theorem dX12_init_62 : decode cX12_init 62 = .ok (.newarray .int, 2) := by decide +kernel
theorem dX12_init_64 : decode cX12_init 64 = .ok (.putfield 32, 3) := by decide +kernel
theorem dX12_init_67 : decode cX12_init 67 = .ok (.aload_n 0, 1) := by decide +kernel
theorem dX12_init_68 : decode cX12_init 68 = .ok (.bipush 9, 2) := by decide +kernel
theorem dX12_init_70 : decode cX12_init 70 = .ok (.newarray .int, 2) := by decide +kernel
theorem dX12_init_72 : decode cX12_init 72 = .ok (.putfield 35, 3) := by decide +kernel
theorem dX12_init_75 : decode cX12_init 75 = .ok (.aload_n 0, 1) := by decide +kernel
theorem dX12_init_76 : decode cX12_init 76 = .ok (.iconst 5, 1) := by decide +kernel
theorem dX12_init_77 : decode cX12_init 77 = .ok (.newarray .int, 2) := by decide +kernel
theorem dX12_init_79 : decode cX12_init 79 = .ok (.putfield 38, 3) := by decide +kernel
theorem dX12_init_82 : decode cX12_init 82 = .ok (.aload_n 0, 1) := by decide +kernel
theorem dX12_init_83 : decode cX12_init 83 = .ok (.bipush 40, 2) := by decide +kernel
theorem dX12_init_85 : decode cX12_init 85 = .ok (.newarray .int, 2) := by decide +kernel
theorem dX12_init_87 : decode cX12_init 87 = .ok (.putfield 41, 3) := by decide +kernel
theorem dX12_init_90 : decode cX12_init 90 = .ok (.aload_n 0, 1) := by decide +kernel
theorem dX12_init_91 : decode cX12_init 91 = .ok (.iconst 4, 1) := by decide +kernel
theorem dX12_init_92 : decode cX12_init 92 = .ok (.newarray .int, 2) := by decide +kernel
theorem dX12_init_94 : decode cX12_init 94 = .ok (.putfield 44, 3) := by decide +kernel
theorem dX12_init_97 : decode cX12_init 97 = .ok (.aload_n 0, 1) := by decide +kernel
theorem dX12_init_98 : decode cX12_init 98 = .ok (.iconst 4, 1) := by decide +kernel
theorem dX12_init_99 : decode cX12_init 99 = .ok (.newarray .int, 2) := by decide +kernel
theorem dX12_init_101 : decode cX12_init 101 = .ok (.putfield 47, 3) := by decide +kernel
theorem dX12_init_104 : decode cX12_init 104 = .ok (.aload_n 0, 1) := by decide +kernel
theorem dX12_init_105 : decode cX12_init 105 = .ok (.sipush 160, 3) := by decide +kernel
theorem dX12_init_108 : decode cX12_init 108 = .ok (.newarray .int, 2) := by decide +kernel
theorem dX12_init_110 : decode cX12_init 110 = .ok (.putfield 50, 3) := by decide +kernel
theorem dX12_init_113 : decode cX12_init 113 = .ok (.aload_n 0, 1) := by decide +kernel
theorem dX12_init_114 : decode cX12_init 114 = .ok (.bipush 40, 2) := by decide +kernel
theorem dX12_init_116 : decode cX12_init 116 = .ok (.newarray .int, 2) := by decide +kernel
theorem dX12_init_118 : decode cX12_init 118 = .ok (.putfield 53, 3) := by decide +kernel
theorem dX12_init_121 : decode cX12_init 121 = .ok (.aload_n 0, 1) := by decide +kernel
theorem dX12_init_122 : decode cX12_init 122 = .ok (.getfield 7, 3) := by decide +kernel
theorem dX12_init_125 : decode cX12_init 125 = .ok (.iconst 4, 1) := by decide +kernel
theorem dX12_init_126 : decode cX12_init 126 = .ok (.iconst 1, 1) := by decide +kernel
theorem dX12_init_127 : decode cX12_init 127 = .ok (.iastore, 1) := by decide +kernel
theorem dX12_init_128 : decode cX12_init 128 = .ok (.return_, 1) := by decide +kernel
theorem dX12_finds_0 : decode cX12_finds 0 = .ok (.aload_n 0, 1) := by decide +kernel
theorem dX12_finds_1 : decode cX12_finds 1 = .ok (.getfield 19, 3) := by decide +kernel
theorem dX12_finds_4 : decode cX12_finds 4 = .ok (.iload_n 1, 1) := by decide +kernel
theorem dX12_finds_5 : decode cX12_finds 5 = .ok (.dup2, 1) := by decide +kernel
theorem dX12_finds_6 : decode cX12_finds 6 = .ok (.iaload, 1) := by decide +kernel
theorem dX12_finds_7 : decode cX12_finds 7 = .ok (.iconst 1, 1) := by decide +kernel
theorem dX12_finds_8 : decode cX12_finds 8 = .ok (.iadd, 1) := by decide +kernel
theorem dX12_finds_9 : decode cX12_finds 9 = .ok (.iastore, 1) := by decide +kernel
theorem dX12_finds_10 : decode cX12_finds 10 = .ok (.ldc 56, 2) := by decide +kernel
theorem dX12_finds_12 : decode cX12_finds 12 = .ok (.iload_n 1, 1) := by decide +kernel
theorem dX12_finds_13 : decode cX12_finds 13 = .ok (.isub, 1) := by decide +kernel
theorem dX12_finds_14 : decode cX12_finds 14 = .ok (.ireturn, 1) := by decide +kernel
theorem dX12_in_0 : decode cX12_in 0 = .ok (.lload_n 0, 1) := by decide +kernel
theorem dX12_in_1 : decode cX12_in 1 = .ok (.lload_n 2, 1) := by decide +kernel
theorem dX12_in_2 : decode cX12_in 2 = .ok (.lcmp, 1) := by decide +kernel
theorem dX12_in_3 : decode cX12_in 3 = .ok (.ifCond .lt 14, 3) := by decide +kernel
theorem dX12_in_6 : decode cX12_in 6 = .ok (.lload_n 0, 1) := by decide +kernel
theorem dX12_in_7 : decode cX12_in 7 = .ok (.lload 4, 2) := by decide +kernel
theorem dX12_in_9 : decode cX12_in 9 = .ok (.lcmp, 1) := by decide +kernel
theorem dX12_in_10 : decode cX12_in 10 = .ok (.ifCond .gt 7, 3) := by decide +kernel
theorem dX12_in_13 : decode cX12_in 13 = .ok (.iconst 1, 1) := by decide +kernel
theorem dX12_in_14 : decode cX12_in 14 = .ok (.goto 4, 3) := by decide +kernel
theorem dX12_in_17 : decode cX12_in 17 = .ok (.iconst 0, 1) := by decide +kernel
theorem dX12_in_18 : decode cX12_in 18 = .ok (.ireturn, 1) := by decide +kernel
theorem dX12_held_0 : decode cX12_held 0 = .ok (.iload_n 0, 1) := by decide +kernel
theorem dX12_held_1 : decode cX12_held 1 = .ok (.iload_n 1, 1) := by decide +kernel
theorem dX12_held_2 : decode cX12_held 2 = .ok (.if_icmp .ge 7, 3) := by decide +kernel
theorem dX12_held_5 : decode cX12_held 5 = .ok (.iload_n 1, 1) := by decide +kernel
theorem dX12_held_6 : decode cX12_held 6 = .ok (.goto 13, 3) := by decide +kernel
theorem dX12_held_9 : decode cX12_held 9 = .ok (.iload_n 0, 1) := by decide +kernel
theorem dX12_held_10 : decode cX12_held 10 = .ok (.iload_n 2, 1) := by decide +kernel
theorem dX12_held_11 : decode cX12_held 11 = .ok (.if_icmp .le 7, 3) := by decide +kernel
theorem dX12_held_14 : decode cX12_held 14 = .ok (.iload_n 2, 1) := by decide +kernel
theorem dX12_held_15 : decode cX12_held 15 = .ok (.goto 4, 3) := by decide +kernel
theorem dX12_held_18 : decode cX12_held 18 = .ok (.iload_n 0, 1) := by decide +kernel
theorem dX12_held_19 : decode cX12_held 19 = .ok (.ireturn, 1) := by decide +kernel
theorem dX12_isFact_0 : decode cX12_isFact 0 = .ok (.iload_n 1, 1) := by decide +kernel
theorem dX12_isFact_1 : decode cX12_isFact 1 = .ok (.i2l, 1) := by decide +kernel
theorem dX12_isFact_2 : decode cX12_isFact 2 = .ok (.lconst 0, 1) := by decide +kernel
theorem dX12_isFact_3 : decode cX12_isFact 3 = .ok (.aload_n 0, 1) := by decide +kernel
theorem dX12_isFact_4 : decode cX12_isFact 4 = .ok (.getfield 7, 3) := by decide +kernel
theorem dX12_isFact_7 : decode cX12_isFact 7 = .ok (.iconst 0, 1) := by decide +kernel
theorem dX12_isFact_8 : decode cX12_isFact 8 = .ok (.iaload, 1) := by decide +kernel
theorem dX12_isFact_9 : decode cX12_isFact 9 = .ok (.iconst 1, 1) := by decide +kernel
theorem dX12_isFact_10 : decode cX12_isFact 10 = .ok (.isub, 1) := by decide +kernel
theorem dX12_isFact_11 : decode cX12_isFact 11 = .ok (.i2l, 1) := by decide +kernel
theorem dX12_isFact_12 : decode cX12_isFact 12 = .ok (.invokestatic 57, 3) := by decide +kernel
theorem dX12_isFact_15 : decode cX12_isFact 15 = .ok (.ireturn, 1) := by decide +kernel
theorem dX12_isDebtor_0 : decode cX12_isDebtor 0 = .ok (.iload_n 1, 1) := by decide +kernel
theorem dX12_isDebtor_1 : decode cX12_isDebtor 1 = .ok (.i2l, 1) := by decide +kernel
theorem dX12_isDebtor_2 : decode cX12_isDebtor 2 = .ok (.lconst 0, 1) := by decide +kernel
theorem dX12_isDebtor_3 : decode cX12_isDebtor 3 = .ok (.aload_n 0, 1) := by decide +kernel
theorem dX12_isDebtor_4 : decode cX12_isDebtor 4 = .ok (.getfield 7, 3) := by decide +kernel
theorem dX12_isDebtor_7 : decode cX12_isDebtor 7 = .ok (.iconst 1, 1) := by decide +kernel
theorem dX12_isDebtor_8 : decode cX12_isDebtor 8 = .ok (.iaload, 1) := by decide +kernel
theorem dX12_isDebtor_9 : decode cX12_isDebtor 9 = .ok (.iconst 1, 1) := by decide +kernel
theorem dX12_isDebtor_10 : decode cX12_isDebtor 10 = .ok (.isub, 1) := by decide +kernel
theorem dX12_isDebtor_11 : decode cX12_isDebtor 11 = .ok (.i2l, 1) := by decide +kernel
theorem dX12_isDebtor_12 : decode cX12_isDebtor 12 = .ok (.invokestatic 57, 3) := by decide +kernel
theorem dX12_isDebtor_15 : decode cX12_isDebtor 15 = .ok (.ireturn, 1) := by decide +kernel
theorem dX12_its_0 : decode cX12_its 0 = .ok (.aload_n 0, 1) := by decide +kernel
theorem dX12_its_1 : decode cX12_its 1 = .ok (.getfield 7, 3) := by decide +kernel
theorem dX12_its_4 : decode cX12_its 4 = .ok (.bipush 10, 2) := by decide +kernel
theorem dX12_its_6 : decode cX12_its 6 = .ok (.iconst 5, 1) := by decide +kernel
theorem dX12_its_7 : decode cX12_its 7 = .ok (.iload_n 1, 1) := by decide +kernel
theorem dX12_its_8 : decode cX12_its 8 = .ok (.imul, 1) := by decide +kernel
theorem dX12_its_9 : decode cX12_its 9 = .ok (.iadd, 1) := by decide +kernel
theorem dX12_its_10 : decode cX12_its 10 = .ok (.iload_n 2, 1) := by decide +kernel
theorem dX12_its_11 : decode cX12_its 11 = .ok (.iadd, 1) := by decide +kernel
theorem dX12_its_12 : decode cX12_its 12 = .ok (.iaload, 1) := by decide +kernel
theorem dX12_its_13 : decode cX12_its 13 = .ok (.ireturn, 1) := by decide +kernel
theorem dX12_puts_0 : decode cX12_puts 0 = .ok (.aload_n 0, 1) := by decide +kernel
theorem dX12_puts_1 : decode cX12_puts 1 = .ok (.getfield 7, 3) := by decide +kernel
theorem dX12_puts_4 : decode cX12_puts 4 = .ok (.bipush 10, 2) := by decide +kernel
theorem dX12_puts_6 : decode cX12_puts 6 = .ok (.iconst 5, 1) := by decide +kernel
theorem dX12_puts_7 : decode cX12_puts 7 = .ok (.iload_n 1, 1) := by decide +kernel
theorem dX12_puts_8 : decode cX12_puts 8 = .ok (.imul, 1) := by decide +kernel
theorem dX12_puts_9 : decode cX12_puts 9 = .ok (.iadd, 1) := by decide +kernel
theorem dX12_puts_10 : decode cX12_puts 10 = .ok (.iload_n 2, 1) := by decide +kernel
theorem dX12_puts_11 : decode cX12_puts 11 = .ok (.iadd, 1) := by decide +kernel
theorem dX12_puts_12 : decode cX12_puts 12 = .ok (.iload_n 3, 1) := by decide +kernel
theorem dX12_puts_13 : decode cX12_puts 13 = .ok (.iastore, 1) := by decide +kernel
theorem dX12_puts_14 : decode cX12_puts 14 = .ok (.return_, 1) := by decide +kernel
theorem dX12_of_0 : decode cX12_of 0 = .ok (.aload_n 0, 1) := by decide +kernel
theorem dX12_of_1 : decode cX12_of 1 = .ok (.getfield 7, 3) := by decide +kernel
theorem dX12_of_4 : decode cX12_of 4 = .ok (.bipush 50, 2) := by decide +kernel
theorem dX12_of_6 : decode cX12_of 6 = .ok (.bipush 21, 2) := by decide +kernel
theorem dX12_of_8 : decode cX12_of 8 = .ok (.iload_n 1, 1) := by decide +kernel
theorem dX12_of_9 : decode cX12_of 9 = .ok (.imul, 1) := by decide +kernel
theorem dX12_of_10 : decode cX12_of 10 = .ok (.iadd, 1) := by decide +kernel
theorem dX12_of_11 : decode cX12_of 11 = .ok (.iload_n 2, 1) := by decide +kernel
theorem dX12_of_12 : decode cX12_of 12 = .ok (.iadd, 1) := by decide +kernel
theorem dX12_of_13 : decode cX12_of 13 = .ok (.iaload, 1) := by decide +kernel
theorem dX12_of_14 : decode cX12_of 14 = .ok (.ireturn, 1) := by decide +kernel
theorem dX12_sets_0 : decode cX12_sets 0 = .ok (.aload_n 0, 1) := by decide +kernel
theorem dX12_sets_1 : decode cX12_sets 1 = .ok (.getfield 7, 3) := by decide +kernel
theorem dX12_sets_4 : decode cX12_sets 4 = .ok (.bipush 50, 2) := by decide +kernel
theorem dX12_sets_6 : decode cX12_sets 6 = .ok (.bipush 21, 2) := by decide +kernel
theorem dX12_sets_8 : decode cX12_sets 8 = .ok (.iload_n 1, 1) := by decide +kernel
theorem dX12_sets_9 : decode cX12_sets 9 = .ok (.imul, 1) := by decide +kernel
theorem dX12_sets_10 : decode cX12_sets 10 = .ok (.iadd, 1) := by decide +kernel
theorem dX12_sets_11 : decode cX12_sets 11 = .ok (.iload_n 2, 1) := by decide +kernel
theorem dX12_sets_12 : decode cX12_sets 12 = .ok (.iadd, 1) := by decide +kernel
theorem dX12_sets_13 : decode cX12_sets 13 = .ok (.iload_n 3, 1) := by decide +kernel
theorem dX12_sets_14 : decode cX12_sets 14 = .ok (.iastore, 1) := by decide +kernel
theorem dX12_sets_15 : decode cX12_sets 15 = .ok (.return_, 1) := by decide +kernel
theorem dX12_ones_0 : decode cX12_ones 0 = .ok (.iconst 0, 1) := by decide +kernel
theorem dX12_ones_1 : decode cX12_ones 1 = .ok (.istore_n 1, 1) := by decide +kernel
theorem dX12_ones_2 : decode cX12_ones 2 = .ok (.iconst 0, 1) := by decide +kernel
theorem dX12_ones_3 : decode cX12_ones 3 = .ok (.istore_n 2, 1) := by decide +kernel
theorem dX12_ones_4 : decode cX12_ones 4 = .ok (.iload_n 2, 1) := by decide +kernel
theorem dX12_ones_5 : decode cX12_ones 5 = .ok (.bipush 8, 2) := by decide +kernel
theorem dX12_ones_7 : decode cX12_ones 7 = .ok (.if_icmp .ge 17, 3) := by decide +kernel
theorem dX12_ones_10 : decode cX12_ones 10 = .ok (.iload_n 1, 1) := by decide +kernel
theorem dX12_ones_11 : decode cX12_ones 11 = .ok (.iload_n 0, 1) := by decide +kernel
theorem dX12_ones_12 : decode cX12_ones 12 = .ok (.iload_n 2, 1) := by decide +kernel
theorem dX12_ones_13 : decode cX12_ones 13 = .ok (.ishr, 1) := by decide +kernel
theorem dX12_ones_14 : decode cX12_ones 14 = .ok (.iconst 1, 1) := by decide +kernel
theorem dX12_ones_15 : decode cX12_ones 15 = .ok (.iand, 1) := by decide +kernel
theorem dX12_ones_16 : decode cX12_ones 16 = .ok (.iadd, 1) := by decide +kernel
theorem dX12_ones_17 : decode cX12_ones 17 = .ok (.istore_n 1, 1) := by decide +kernel
theorem dX12_ones_18 : decode cX12_ones 18 = .ok (.iinc 2 1, 3) := by decide +kernel
theorem dX12_ones_21 : decode cX12_ones 21 = .ok (.goto (-17), 3) := by decide +kernel
theorem dX12_ones_24 : decode cX12_ones 24 = .ok (.iload_n 1, 1) := by decide +kernel
theorem dX12_ones_25 : decode cX12_ones 25 = .ok (.ireturn, 1) := by decide +kernel
theorem dX12_keepAside_0 : decode cX12_keepAside 0 = .ok (.iconst 0, 1) := by decide +kernel
theorem dX12_keepAside_1 : decode cX12_keepAside 1 = .ok (.istore_n 1, 1) := by decide +kernel
theorem dX12_keepAside_2 : decode cX12_keepAside 2 = .ok (.iload_n 1, 1) := by decide +kernel
theorem dX12_keepAside_3 : decode cX12_keepAside 3 = .ok (.sipush 170, 3) := by decide +kernel
theorem dX12_keepAside_6 : decode cX12_keepAside 6 = .ok (.if_icmp .ge 21, 3) := by decide +kernel
theorem dX12_keepAside_9 : decode cX12_keepAside 9 = .ok (.aload_n 0, 1) := by decide +kernel
theorem dX12_keepAside_10 : decode cX12_keepAside 10 = .ok (.getfield 16, 3) := by decide +kernel
theorem dX12_keepAside_13 : decode cX12_keepAside 13 = .ok (.iload_n 1, 1) := by decide +kernel
theorem dX12_keepAside_14 : decode cX12_keepAside 14 = .ok (.aload_n 0, 1) := by decide +kernel
theorem dX12_keepAside_15 : decode cX12_keepAside 15 = .ok (.getfield 7, 3) := by decide +kernel
theorem dX12_keepAside_18 : decode cX12_keepAside 18 = .ok (.iload_n 1, 1) := by decide +kernel
theorem dX12_keepAside_19 : decode cX12_keepAside 19 = .ok (.iaload, 1) := by decide +kernel
theorem dX12_keepAside_20 : decode cX12_keepAside 20 = .ok (.iastore, 1) := by decide +kernel
theorem dX12_keepAside_21 : decode cX12_keepAside 21 = .ok (.iinc 1 1, 3) := by decide +kernel
theorem dX12_keepAside_24 : decode cX12_keepAside 24 = .ok (.goto (-22), 3) := by decide +kernel
theorem dX12_keepAside_27 : decode cX12_keepAside 27 = .ok (.return_, 1) := by decide +kernel
theorem dX12_putBack_0 : decode cX12_putBack 0 = .ok (.iconst 0, 1) := by decide +kernel
theorem dX12_putBack_1 : decode cX12_putBack 1 = .ok (.istore_n 1, 1) := by decide +kernel
theorem dX12_putBack_2 : decode cX12_putBack 2 = .ok (.iload_n 1, 1) := by decide +kernel
theorem dX12_putBack_3 : decode cX12_putBack 3 = .ok (.sipush 170, 3) := by decide +kernel
theorem dX12_putBack_6 : decode cX12_putBack 6 = .ok (.if_icmp .ge 21, 3) := by decide +kernel
theorem dX12_putBack_9 : decode cX12_putBack 9 = .ok (.aload_n 0, 1) := by decide +kernel
theorem dX12_putBack_10 : decode cX12_putBack 10 = .ok (.getfield 7, 3) := by decide +kernel
theorem dX12_putBack_13 : decode cX12_putBack 13 = .ok (.iload_n 1, 1) := by decide +kernel
theorem dX12_putBack_14 : decode cX12_putBack 14 = .ok (.aload_n 0, 1) := by decide +kernel
theorem dX12_putBack_15 : decode cX12_putBack 15 = .ok (.getfield 16, 3) := by decide +kernel
theorem dX12_putBack_18 : decode cX12_putBack 18 = .ok (.iload_n 1, 1) := by decide +kernel
theorem dX12_putBack_19 : decode cX12_putBack 19 = .ok (.iaload, 1) := by decide +kernel
theorem dX12_putBack_20 : decode cX12_putBack 20 = .ok (.iastore, 1) := by decide +kernel
theorem dX12_putBack_21 : decode cX12_putBack 21 = .ok (.iinc 1 1, 3) := by decide +kernel
theorem dX12_putBack_24 : decode cX12_putBack 24 = .ok (.goto (-22), 3) := by decide +kernel
theorem dX12_putBack_27 : decode cX12_putBack 27 = .ok (.return_, 1) := by decide +kernel
theorem dX12_here_0 : decode cX12_here 0 = .ok (.aload_n 0, 1) := by decide +kernel
theorem dX12_here_1 : decode cX12_here 1 = .ok (.getfield 61, 3) := by decide +kernel
theorem dX12_here_4 : decode cX12_here 4 = .ok (.aload_n 0, 1) := by decide +kernel
theorem dX12_here_5 : decode cX12_here 5 = .ok (.getfield 64, 3) := by decide +kernel
theorem dX12_here_8 : decode cX12_here 8 = .ok (.if_icmp .ge 27, 3) := by decide +kernel
theorem dX12_here_11 : decode cX12_here 11 = .ok (.aload_n 0, 1) := by decide +kernel
theorem dX12_here_12 : decode cX12_here 12 = .ok (.getfield 67, 3) := by decide +kernel
theorem dX12_here_15 : decode cX12_here 15 = .ok (.ifCond .ge 20, 3) := by decide +kernel
theorem dX12_here_18 : decode cX12_here 18 = .ok (.aload_n 0, 1) := by decide +kernel
theorem dX12_here_19 : decode cX12_here 19 = .ok (.getfield 7, 3) := by decide +kernel
theorem dX12_here_22 : decode cX12_here 22 = .ok (.aload_n 0, 1) := by decide +kernel
theorem dX12_here_23 : decode cX12_here 23 = .ok (.getfield 70, 3) := by decide +kernel
theorem dX12_here_26 : decode cX12_here 26 = .ok (.aload_n 0, 1) := by decide +kernel
theorem dX12_here_27 : decode cX12_here 27 = .ok (.getfield 61, 3) := by decide +kernel
theorem dX12_here_30 : decode cX12_here 30 = .ok (.iadd, 1) := by decide +kernel
theorem dX12_here_31 : decode cX12_here 31 = .ok (.iaload, 1) := by decide +kernel
theorem dX12_here_32 : decode cX12_here 32 = .ok (.goto 4, 3) := by decide +kernel
theorem dX12_here_35 : decode cX12_here 35 = .ok (.iconst (-1), 1) := by decide +kernel
theorem dX12_here_36 : decode cX12_here 36 = .ok (.ireturn, 1) := by decide +kernel
theorem dX12_wrong_0 : decode cX12_wrong 0 = .ok (.aload_n 0, 1) := by decide +kernel
theorem dX12_wrong_1 : decode cX12_wrong 1 = .ok (.aload_n 0, 1) := by decide +kernel
theorem dX12_wrong_2 : decode cX12_wrong 2 = .ok (.getfield 67, 3) := by decide +kernel
theorem dX12_wrong_5 : decode cX12_wrong 5 = .ok (.ifCond .ge 10, 3) := by decide +kernel
theorem dX12_wrong_8 : decode cX12_wrong 8 = .ok (.aload_n 0, 1) := by decide +kernel
theorem dX12_wrong_9 : decode cX12_wrong 9 = .ok (.getfield 61, 3) := by decide +kernel
theorem dX12_wrong_12 : decode cX12_wrong 12 = .ok (.goto 7, 3) := by decide +kernel
theorem dX12_wrong_15 : decode cX12_wrong 15 = .ok (.aload_n 0, 1) := by decide +kernel
theorem dX12_wrong_16 : decode cX12_wrong 16 = .ok (.getfield 67, 3) := by decide +kernel
theorem dX12_wrong_19 : decode cX12_wrong 19 = .ok (.putfield 67, 3) := by decide +kernel
theorem dX12_wrong_22 : decode cX12_wrong 22 = .ok (.iconst 0, 1) := by decide +kernel
theorem dX12_wrong_23 : decode cX12_wrong 23 = .ok (.ireturn, 1) := by decide +kernel
theorem dX12_takes_0 : decode cX12_takes 0 = .ok (.aload_n 0, 1) := by decide +kernel
theorem dX12_takes_1 : decode cX12_takes 1 = .ok (.invokevirtual 73, 3) := by decide +kernel
theorem dX12_takes_4 : decode cX12_takes 4 = .ok (.iload_n 1, 1) := by decide +kernel
theorem dX12_takes_5 : decode cX12_takes 5 = .ok (.if_icmp .eq 5, 3) := by decide +kernel
theorem dX12_takes_8 : decode cX12_takes 8 = .ok (.iconst 0, 1) := by decide +kernel
theorem dX12_takes_9 : decode cX12_takes 9 = .ok (.ireturn, 1) := by decide +kernel
theorem dX12_takes_10 : decode cX12_takes 10 = .ok (.aload_n 0, 1) := by decide +kernel
theorem dX12_takes_11 : decode cX12_takes 11 = .ok (.dup, 1) := by decide +kernel
theorem dX12_takes_12 : decode cX12_takes 12 = .ok (.getfield 61, 3) := by decide +kernel
theorem dX12_takes_15 : decode cX12_takes 15 = .ok (.iconst 1, 1) := by decide +kernel
theorem dX12_takes_16 : decode cX12_takes 16 = .ok (.iadd, 1) := by decide +kernel
theorem dX12_takes_17 : decode cX12_takes 17 = .ok (.putfield 61, 3) := by decide +kernel
theorem dX12_takes_20 : decode cX12_takes 20 = .ok (.iconst 1, 1) := by decide +kernel
theorem dX12_takes_21 : decode cX12_takes 21 = .ok (.ireturn, 1) := by decide +kernel
theorem dX12_nameOf_0 : decode cX12_nameOf 0 = .ok (.aload_n 0, 1) := by decide +kernel
theorem dX12_nameOf_1 : decode cX12_nameOf 1 = .ok (.getfield 77, 3) := by decide +kernel
theorem dX12_nameOf_4 : decode cX12_nameOf 4 = .ok (.ifCond .eq 35, 3) := by decide +kernel
theorem dX12_nameOf_7 : decode cX12_nameOf 7 = .ok (.iload_n 1, 1) := by decide +kernel
theorem dX12_nameOf_8 : decode cX12_nameOf 8 = .ok (.bipush 100, 2) := by decide +kernel
theorem dX12_nameOf_10 : decode cX12_nameOf 10 = .ok (.if_icmp .ne 7, 3) := by decide +kernel
theorem dX12_nameOf_13 : decode cX12_nameOf 13 = .ok (.iconst 0, 1) := by decide +kernel
theorem dX12_nameOf_14 : decode cX12_nameOf 14 = .ok (.goto 24, 3) := by decide +kernel
theorem dX12_nameOf_17 : decode cX12_nameOf 17 = .ok (.iload_n 1, 1) := by decide +kernel
theorem dX12_nameOf_18 : decode cX12_nameOf 18 = .ok (.bipush 111, 2) := by decide +kernel
theorem dX12_nameOf_20 : decode cX12_nameOf 20 = .ok (.if_icmp .ne 7, 3) := by decide +kernel
theorem dX12_nameOf_23 : decode cX12_nameOf 23 = .ok (.iconst 1, 1) := by decide +kernel
theorem dX12_nameOf_24 : decode cX12_nameOf 24 = .ok (.goto 14, 3) := by decide +kernel
theorem dX12_nameOf_27 : decode cX12_nameOf 27 = .ok (.iload_n 1, 1) := by decide +kernel
theorem dX12_nameOf_28 : decode cX12_nameOf 28 = .ok (.bipush 110, 2) := by decide +kernel
theorem dX12_nameOf_30 : decode cX12_nameOf 30 = .ok (.if_icmp .ne 7, 3) := by decide +kernel
theorem dX12_nameOf_33 : decode cX12_nameOf 33 = .ok (.iconst 2, 1) := by decide +kernel
theorem dX12_nameOf_34 : decode cX12_nameOf 34 = .ok (.goto 4, 3) := by decide +kernel
theorem dX12_nameOf_37 : decode cX12_nameOf 37 = .ok (.iconst (-1), 1) := by decide +kernel
theorem dX12_nameOf_38 : decode cX12_nameOf 38 = .ok (.ireturn, 1) := by decide +kernel
theorem dX12_nameOf_39 : decode cX12_nameOf 39 = .ok (.iload_n 1, 1) := by decide +kernel
theorem dX12_nameOf_40 : decode cX12_nameOf 40 = .ok (.bipush 102, 2) := by decide +kernel
theorem dX12_nameOf_42 : decode cX12_nameOf 42 = .ok (.if_icmp .ne 7, 3) := by decide +kernel
theorem dX12_nameOf_45 : decode cX12_nameOf 45 = .ok (.iconst 0, 1) := by decide +kernel
theorem dX12_nameOf_46 : decode cX12_nameOf 46 = .ok (.goto 24, 3) := by decide +kernel
theorem dX12_nameOf_49 : decode cX12_nameOf 49 = .ok (.iload_n 1, 1) := by decide +kernel
theorem dX12_nameOf_50 : decode cX12_nameOf 50 = .ok (.bipush 119, 2) := by decide +kernel
theorem dX12_nameOf_52 : decode cX12_nameOf 52 = .ok (.if_icmp .ne 7, 3) := by decide +kernel
theorem dX12_nameOf_55 : decode cX12_nameOf 55 = .ok (.iconst 1, 1) := by decide +kernel
theorem dX12_nameOf_56 : decode cX12_nameOf 56 = .ok (.goto 14, 3) := by decide +kernel
theorem dX12_nameOf_59 : decode cX12_nameOf 59 = .ok (.iload_n 1, 1) := by decide +kernel
theorem dX12_nameOf_60 : decode cX12_nameOf 60 = .ok (.bipush 100, 2) := by decide +kernel
theorem dX12_nameOf_62 : decode cX12_nameOf 62 = .ok (.if_icmp .ne 7, 3) := by decide +kernel
theorem dX12_nameOf_65 : decode cX12_nameOf 65 = .ok (.iconst 2, 1) := by decide +kernel
theorem dX12_nameOf_66 : decode cX12_nameOf 66 = .ok (.goto 4, 3) := by decide +kernel
theorem dX12_nameOf_69 : decode cX12_nameOf 69 = .ok (.iconst (-1), 1) := by decide +kernel
theorem dX12_nameOf_70 : decode cX12_nameOf 70 = .ok (.ireturn, 1) := by decide +kernel
theorem dX12_either_0 : decode cX12_either 0 = .ok (.aload_n 0, 1) := by decide +kernel
theorem dX12_either_1 : decode cX12_either 1 = .ok (.invokevirtual 81, 3) := by decide +kernel
theorem dX12_either_4 : decode cX12_either 4 = .ok (.istore_n 1, 1) := by decide +kernel
theorem dX12_either_5 : decode cX12_either 5 = .ok (.aload_n 0, 1) := by decide +kernel
theorem dX12_either_6 : decode cX12_either 6 = .ok (.bipush 124, 2) := by decide +kernel
theorem dX12_either_8 : decode cX12_either 8 = .ok (.invokevirtual 84, 3) := by decide +kernel
theorem dX12_either_11 : decode cX12_either 11 = .ok (.ifCond .eq 25, 3) := by decide +kernel
theorem dX12_either_14 : decode cX12_either 14 = .ok (.aload_n 0, 1) := by decide +kernel
theorem dX12_either_15 : decode cX12_either 15 = .ok (.invokevirtual 81, 3) := by decide +kernel
theorem dX12_either_18 : decode cX12_either 18 = .ok (.istore_n 2, 1) := by decide +kernel
theorem dX12_either_19 : decode cX12_either 19 = .ok (.iload_n 1, 1) := by decide +kernel
theorem dX12_either_20 : decode cX12_either 20 = .ok (.ifCond .ne 7, 3) := by decide +kernel
theorem dX12_either_23 : decode cX12_either 23 = .ok (.iload_n 2, 1) := by decide +kernel
theorem dX12_either_24 : decode cX12_either 24 = .ok (.ifCond .eq 7, 3) := by decide +kernel
theorem dX12_either_27 : decode cX12_either 27 = .ok (.iconst 1, 1) := by decide +kernel
theorem dX12_either_28 : decode cX12_either 28 = .ok (.goto 4, 3) := by decide +kernel
theorem dX12_either_31 : decode cX12_either 31 = .ok (.iconst 0, 1) := by decide +kernel
theorem dX12_either_32 : decode cX12_either 32 = .ok (.istore_n 1, 1) := by decide +kernel
theorem dX12_either_33 : decode cX12_either 33 = .ok (.goto (-28), 3) := by decide +kernel
theorem dX12_either_36 : decode cX12_either 36 = .ok (.iload_n 1, 1) := by decide +kernel
theorem dX12_either_37 : decode cX12_either 37 = .ok (.ireturn, 1) := by decide +kernel
theorem dX12_both_0 : decode cX12_both 0 = .ok (.aload_n 0, 1) := by decide +kernel
theorem dX12_both_1 : decode cX12_both 1 = .ok (.invokevirtual 88, 3) := by decide +kernel
theorem dX12_both_4 : decode cX12_both 4 = .ok (.istore_n 1, 1) := by decide +kernel
theorem dX12_both_5 : decode cX12_both 5 = .ok (.aload_n 0, 1) := by decide +kernel
theorem dX12_both_6 : decode cX12_both 6 = .ok (.bipush 38, 2) := by decide +kernel
theorem dX12_both_8 : decode cX12_both 8 = .ok (.invokevirtual 84, 3) := by decide +kernel
theorem dX12_both_11 : decode cX12_both 11 = .ok (.ifCond .eq 25, 3) := by decide +kernel
theorem dX12_both_14 : decode cX12_both 14 = .ok (.aload_n 0, 1) := by decide +kernel
theorem dX12_both_15 : decode cX12_both 15 = .ok (.invokevirtual 88, 3) := by decide +kernel
theorem dX12_both_18 : decode cX12_both 18 = .ok (.istore_n 2, 1) := by decide +kernel
theorem dX12_both_19 : decode cX12_both 19 = .ok (.iload_n 1, 1) := by decide +kernel
theorem dX12_both_20 : decode cX12_both 20 = .ok (.ifCond .eq 11, 3) := by decide +kernel
theorem dX12_both_23 : decode cX12_both 23 = .ok (.iload_n 2, 1) := by decide +kernel
theorem dX12_both_24 : decode cX12_both 24 = .ok (.ifCond .eq 7, 3) := by decide +kernel
theorem dX12_both_27 : decode cX12_both 27 = .ok (.iconst 1, 1) := by decide +kernel
theorem dX12_both_28 : decode cX12_both 28 = .ok (.goto 4, 3) := by decide +kernel
theorem dX12_both_31 : decode cX12_both 31 = .ok (.iconst 0, 1) := by decide +kernel
theorem dX12_both_32 : decode cX12_both 32 = .ok (.istore_n 1, 1) := by decide +kernel
theorem dX12_both_33 : decode cX12_both 33 = .ok (.goto (-28), 3) := by decide +kernel
theorem dX12_both_36 : decode cX12_both 36 = .ok (.iload_n 1, 1) := by decide +kernel
theorem dX12_both_37 : decode cX12_both 37 = .ok (.ireturn, 1) := by decide +kernel
theorem dX12_compared_0 : decode cX12_compared 0 = .ok (.aload_n 0, 1) := by decide +kernel
theorem dX12_compared_1 : decode cX12_compared 1 = .ok (.invokevirtual 91, 3) := by decide +kernel
theorem dX12_compared_4 : decode cX12_compared 4 = .ok (.istore_n 1, 1) := by decide +kernel
theorem dX12_compared_5 : decode cX12_compared 5 = .ok (.aload_n 0, 1) := by decide +kernel
theorem dX12_compared_6 : decode cX12_compared 6 = .ok (.invokevirtual 73, 3) := by decide +kernel
theorem dX12_compared_9 : decode cX12_compared 9 = .ok (.istore_n 2, 1) := by decide +kernel
theorem dX12_compared_10 : decode cX12_compared 10 = .ok (.iload_n 2, 1) := by decide +kernel
theorem dX12_compared_11 : decode cX12_compared 11 = .ok (.bipush 60, 2) := by decide +kernel
theorem dX12_compared_13 : decode cX12_compared 13 = .ok (.if_icmp .eq 17, 3) := by decide +kernel
theorem dX12_compared_16 : decode cX12_compared 16 = .ok (.iload_n 2, 1) := by decide +kernel
theorem dX12_compared_17 : decode cX12_compared 17 = .ok (.bipush 61, 2) := by decide +kernel
theorem dX12_compared_19 : decode cX12_compared 19 = .ok (.if_icmp .eq 11, 3) := by decide +kernel
theorem dX12_compared_22 : decode cX12_compared 22 = .ok (.iload_n 2, 1) := by decide +kernel
theorem dX12_compared_23 : decode cX12_compared 23 = .ok (.bipush 62, 2) := by decide +kernel
theorem dX12_compared_25 : decode cX12_compared 25 = .ok (.if_icmp .eq 5, 3) := by decide +kernel
theorem dX12_compared_28 : decode cX12_compared 28 = .ok (.iload_n 1, 1) := by decide +kernel
theorem dX12_compared_29 : decode cX12_compared 29 = .ok (.ireturn, 1) := by decide +kernel
theorem dX12_compared_30 : decode cX12_compared 30 = .ok (.aload_n 0, 1) := by decide +kernel
theorem dX12_compared_31 : decode cX12_compared 31 = .ok (.dup, 1) := by decide +kernel
theorem dX12_compared_32 : decode cX12_compared 32 = .ok (.getfield 61, 3) := by decide +kernel
theorem dX12_compared_35 : decode cX12_compared 35 = .ok (.iconst 1, 1) := by decide +kernel
theorem dX12_compared_36 : decode cX12_compared 36 = .ok (.iadd, 1) := by decide +kernel
theorem dX12_compared_37 : decode cX12_compared 37 = .ok (.putfield 61, 3) := by decide +kernel
theorem dX12_compared_40 : decode cX12_compared 40 = .ok (.aload_n 0, 1) := by decide +kernel
theorem dX12_compared_41 : decode cX12_compared 41 = .ok (.invokevirtual 91, 3) := by decide +kernel
theorem dX12_compared_44 : decode cX12_compared 44 = .ok (.istore_n 3, 1) := by decide +kernel
theorem dX12_compared_45 : decode cX12_compared 45 = .ok (.iload_n 2, 1) := by decide +kernel
theorem dX12_compared_46 : decode cX12_compared 46 = .ok (.bipush 60, 2) := by decide +kernel
theorem dX12_compared_48 : decode cX12_compared 48 = .ok (.if_icmp .ne 11, 3) := by decide +kernel
theorem dX12_compared_51 : decode cX12_compared 51 = .ok (.iload_n 1, 1) := by decide +kernel
theorem dX12_compared_52 : decode cX12_compared 52 = .ok (.iload_n 3, 1) := by decide +kernel
theorem dX12_compared_53 : decode cX12_compared 53 = .ok (.if_icmp .ge 29, 3) := by decide +kernel
theorem dX12_compared_56 : decode cX12_compared 56 = .ok (.goto 22, 3) := by decide +kernel
theorem dX12_compared_59 : decode cX12_compared 59 = .ok (.iload_n 2, 1) := by decide +kernel
theorem dX12_compared_60 : decode cX12_compared 60 = .ok (.bipush 61, 2) := by decide +kernel
theorem dX12_compared_62 : decode cX12_compared 62 = .ok (.if_icmp .ne 11, 3) := by decide +kernel
theorem dX12_compared_65 : decode cX12_compared 65 = .ok (.iload_n 1, 1) := by decide +kernel
theorem dX12_compared_66 : decode cX12_compared 66 = .ok (.iload_n 3, 1) := by decide +kernel
theorem dX12_compared_67 : decode cX12_compared 67 = .ok (.if_icmp .ne 15, 3) := by decide +kernel
theorem dX12_compared_70 : decode cX12_compared 70 = .ok (.goto 8, 3) := by decide +kernel
theorem dX12_compared_73 : decode cX12_compared 73 = .ok (.iload_n 1, 1) := by decide +kernel
theorem dX12_compared_74 : decode cX12_compared 74 = .ok (.iload_n 3, 1) := by decide +kernel
theorem dX12_compared_75 : decode cX12_compared 75 = .ok (.if_icmp .le 7, 3) := by decide +kernel
theorem dX12_compared_78 : decode cX12_compared 78 = .ok (.iconst 1, 1) := by decide +kernel
theorem dX12_compared_79 : decode cX12_compared 79 = .ok (.goto 4, 3) := by decide +kernel
theorem dX12_compared_82 : decode cX12_compared 82 = .ok (.iconst 0, 1) := by decide +kernel
theorem dX12_compared_83 : decode cX12_compared 83 = .ok (.ireturn, 1) := by decide +kernel
theorem dX12_sum_0 : decode cX12_sum 0 = .ok (.aload_n 0, 1) := by decide +kernel
theorem dX12_sum_1 : decode cX12_sum 1 = .ok (.invokevirtual 94, 3) := by decide +kernel
theorem dX12_sum_4 : decode cX12_sum 4 = .ok (.istore_n 1, 1) := by decide +kernel
theorem dX12_sum_5 : decode cX12_sum 5 = .ok (.aload_n 0, 1) := by decide +kernel
theorem dX12_sum_6 : decode cX12_sum 6 = .ok (.invokevirtual 73, 3) := by decide +kernel
theorem dX12_sum_9 : decode cX12_sum 9 = .ok (.bipush 43, 2) := by decide +kernel
theorem dX12_sum_11 : decode cX12_sum 11 = .ok (.if_icmp .eq 12, 3) := by decide +kernel
theorem dX12_sum_14 : decode cX12_sum 14 = .ok (.aload_n 0, 1) := by decide +kernel
theorem dX12_sum_15 : decode cX12_sum 15 = .ok (.invokevirtual 73, 3) := by decide +kernel
theorem dX12_sum_18 : decode cX12_sum 18 = .ok (.bipush 45, 2) := by decide +kernel
theorem dX12_sum_20 : decode cX12_sum 20 = .ok (.if_icmp .ne 42, 3) := by decide +kernel
theorem dX12_sum_23 : decode cX12_sum 23 = .ok (.aload_n 0, 1) := by decide +kernel
theorem dX12_sum_24 : decode cX12_sum 24 = .ok (.invokevirtual 73, 3) := by decide +kernel
theorem dX12_sum_27 : decode cX12_sum 27 = .ok (.istore_n 2, 1) := by decide +kernel
theorem dX12_sum_28 : decode cX12_sum 28 = .ok (.aload_n 0, 1) := by decide +kernel
theorem dX12_sum_29 : decode cX12_sum 29 = .ok (.dup, 1) := by decide +kernel
theorem dX12_sum_30 : decode cX12_sum 30 = .ok (.getfield 61, 3) := by decide +kernel
theorem dX12_sum_33 : decode cX12_sum 33 = .ok (.iconst 1, 1) := by decide +kernel
theorem dX12_sum_34 : decode cX12_sum 34 = .ok (.iadd, 1) := by decide +kernel
theorem dX12_sum_35 : decode cX12_sum 35 = .ok (.putfield 61, 3) := by decide +kernel
theorem dX12_sum_38 : decode cX12_sum 38 = .ok (.aload_n 0, 1) := by decide +kernel
theorem dX12_sum_39 : decode cX12_sum 39 = .ok (.invokevirtual 94, 3) := by decide +kernel
theorem dX12_sum_42 : decode cX12_sum 42 = .ok (.istore_n 3, 1) := by decide +kernel
theorem dX12_sum_43 : decode cX12_sum 43 = .ok (.iload_n 2, 1) := by decide +kernel
theorem dX12_sum_44 : decode cX12_sum 44 = .ok (.bipush 43, 2) := by decide +kernel
theorem dX12_sum_46 : decode cX12_sum 46 = .ok (.if_icmp .ne 9, 3) := by decide +kernel
theorem dX12_sum_49 : decode cX12_sum 49 = .ok (.iload_n 1, 1) := by decide +kernel
theorem dX12_sum_50 : decode cX12_sum 50 = .ok (.iload_n 3, 1) := by decide +kernel
theorem dX12_sum_51 : decode cX12_sum 51 = .ok (.iadd, 1) := by decide +kernel
theorem dX12_sum_52 : decode cX12_sum 52 = .ok (.goto 6, 3) := by decide +kernel
theorem dX12_sum_55 : decode cX12_sum 55 = .ok (.iload_n 1, 1) := by decide +kernel
theorem dX12_sum_56 : decode cX12_sum 56 = .ok (.iload_n 3, 1) := by decide +kernel
theorem dX12_sum_57 : decode cX12_sum 57 = .ok (.isub, 1) := by decide +kernel
theorem dX12_sum_58 : decode cX12_sum 58 = .ok (.istore_n 1, 1) := by decide +kernel
theorem dX12_sum_59 : decode cX12_sum 59 = .ok (.goto (-54), 3) := by decide +kernel
theorem dX12_sum_62 : decode cX12_sum 62 = .ok (.iload_n 1, 1) := by decide +kernel
theorem dX12_sum_63 : decode cX12_sum 63 = .ok (.ireturn, 1) := by decide +kernel
theorem dX12_product_0 : decode cX12_product 0 = .ok (.aload_n 0, 1) := by decide +kernel
theorem dX12_product_1 : decode cX12_product 1 = .ok (.invokevirtual 97, 3) := by decide +kernel
theorem dX12_product_4 : decode cX12_product 4 = .ok (.istore_n 1, 1) := by decide +kernel
theorem dX12_product_5 : decode cX12_product 5 = .ok (.aload_n 0, 1) := by decide +kernel
theorem dX12_product_6 : decode cX12_product 6 = .ok (.invokevirtual 73, 3) := by decide +kernel
theorem dX12_product_9 : decode cX12_product 9 = .ok (.bipush 42, 2) := by decide +kernel
theorem dX12_product_11 : decode cX12_product 11 = .ok (.if_icmp .eq 21, 3) := by decide +kernel
theorem dX12_product_14 : decode cX12_product 14 = .ok (.aload_n 0, 1) := by decide +kernel
theorem dX12_product_15 : decode cX12_product 15 = .ok (.invokevirtual 73, 3) := by decide +kernel
theorem dX12_product_18 : decode cX12_product 18 = .ok (.bipush 47, 2) := by decide +kernel
theorem dX12_product_20 : decode cX12_product 20 = .ok (.if_icmp .eq 12, 3) := by decide +kernel
theorem dX12_product_23 : decode cX12_product 23 = .ok (.aload_n 0, 1) := by decide +kernel
theorem dX12_product_24 : decode cX12_product 24 = .ok (.invokevirtual 73, 3) := by decide +kernel
theorem dX12_product_27 : decode cX12_product 27 = .ok (.bipush 37, 2) := by decide +kernel
theorem dX12_product_29 : decode cX12_product 29 = .ok (.if_icmp .ne 62, 3) := by decide +kernel
theorem dX12_product_32 : decode cX12_product 32 = .ok (.aload_n 0, 1) := by decide +kernel
theorem dX12_product_33 : decode cX12_product 33 = .ok (.invokevirtual 73, 3) := by decide +kernel
theorem dX12_product_36 : decode cX12_product 36 = .ok (.istore_n 2, 1) := by decide +kernel
theorem dX12_product_37 : decode cX12_product 37 = .ok (.aload_n 0, 1) := by decide +kernel
theorem dX12_product_38 : decode cX12_product 38 = .ok (.dup, 1) := by decide +kernel
theorem dX12_product_39 : decode cX12_product 39 = .ok (.getfield 61, 3) := by decide +kernel
theorem dX12_product_42 : decode cX12_product 42 = .ok (.iconst 1, 1) := by decide +kernel
theorem dX12_product_43 : decode cX12_product 43 = .ok (.iadd, 1) := by decide +kernel
theorem dX12_product_44 : decode cX12_product 44 = .ok (.putfield 61, 3) := by decide +kernel
theorem dX12_product_47 : decode cX12_product 47 = .ok (.aload_n 0, 1) := by decide +kernel
theorem dX12_product_48 : decode cX12_product 48 = .ok (.invokevirtual 97, 3) := by decide +kernel
theorem dX12_product_51 : decode cX12_product 51 = .ok (.istore_n 3, 1) := by decide +kernel
theorem dX12_product_52 : decode cX12_product 52 = .ok (.iload_n 2, 1) := by decide +kernel
theorem dX12_product_53 : decode cX12_product 53 = .ok (.bipush 42, 2) := by decide +kernel
theorem dX12_product_55 : decode cX12_product 55 = .ok (.if_icmp .ne 9, 3) := by decide +kernel
theorem dX12_product_58 : decode cX12_product 58 = .ok (.iload_n 1, 1) := by decide +kernel
theorem dX12_product_59 : decode cX12_product 59 = .ok (.iload_n 3, 1) := by decide +kernel
theorem dX12_product_60 : decode cX12_product 60 = .ok (.imul, 1) := by decide +kernel
theorem dX12_product_61 : decode cX12_product 61 = .ok (.goto 26, 3) := by decide +kernel
theorem dX12_product_64 : decode cX12_product 64 = .ok (.iload_n 3, 1) := by decide +kernel
theorem dX12_product_65 : decode cX12_product 65 = .ok (.ifCond .ne 7, 3) := by decide +kernel
theorem dX12_product_68 : decode cX12_product 68 = .ok (.iconst 0, 1) := by decide +kernel
theorem dX12_product_69 : decode cX12_product 69 = .ok (.goto 18, 3) := by decide +kernel
theorem dX12_product_72 : decode cX12_product 72 = .ok (.iload_n 2, 1) := by decide +kernel
theorem dX12_product_73 : decode cX12_product 73 = .ok (.bipush 47, 2) := by decide +kernel
theorem dX12_product_75 : decode cX12_product 75 = .ok (.if_icmp .ne 9, 3) := by decide +kernel
theorem dX12_product_78 : decode cX12_product 78 = .ok (.iload_n 1, 1) := by decide +kernel
theorem dX12_product_79 : decode cX12_product 79 = .ok (.iload_n 3, 1) := by decide +kernel
theorem dX12_product_80 : decode cX12_product 80 = .ok (.idiv, 1) := by decide +kernel
theorem dX12_product_81 : decode cX12_product 81 = .ok (.goto 6, 3) := by decide +kernel
theorem dX12_product_84 : decode cX12_product 84 = .ok (.iload_n 1, 1) := by decide +kernel
theorem dX12_product_85 : decode cX12_product 85 = .ok (.iload_n 3, 1) := by decide +kernel
theorem dX12_product_86 : decode cX12_product 86 = .ok (.irem, 1) := by decide +kernel
theorem dX12_product_87 : decode cX12_product 87 = .ok (.istore_n 1, 1) := by decide +kernel
theorem dX12_product_88 : decode cX12_product 88 = .ok (.goto (-83), 3) := by decide +kernel
theorem dX12_product_91 : decode cX12_product 91 = .ok (.iload_n 1, 1) := by decide +kernel
theorem dX12_product_92 : decode cX12_product 92 = .ok (.ireturn, 1) := by decide +kernel
theorem dX12_unit_0 : decode cX12_unit 0 = .ok (.aload_n 0, 1) := by decide +kernel
theorem dX12_unit_1 : decode cX12_unit 1 = .ok (.invokevirtual 73, 3) := by decide +kernel
theorem dX12_unit_4 : decode cX12_unit 4 = .ok (.istore_n 1, 1) := by decide +kernel
theorem dX12_unit_5 : decode cX12_unit 5 = .ok (.iload_n 1, 1) := by decide +kernel
theorem dX12_unit_6 : decode cX12_unit 6 = .ok (.bipush 33, 2) := by decide +kernel
theorem dX12_unit_8 : decode cX12_unit 8 = .ok (.if_icmp .eq 9, 3) := by decide +kernel
theorem dX12_unit_11 : decode cX12_unit 11 = .ok (.iload_n 1, 1) := by decide +kernel
theorem dX12_unit_12 : decode cX12_unit 12 = .ok (.bipush 40, 2) := by decide +kernel
theorem dX12_unit_14 : decode cX12_unit 14 = .ok (.if_icmp .ne 104, 3) := by decide +kernel
theorem dX12_unit_17 : decode cX12_unit 17 = .ok (.aload_n 0, 1) := by decide +kernel
theorem dX12_unit_18 : decode cX12_unit 18 = .ok (.getfield 100, 3) := by decide +kernel
theorem dX12_unit_21 : decode cX12_unit 21 = .ok (.iconst 5, 1) := by decide +kernel
theorem dX12_unit_22 : decode cX12_unit 22 = .ok (.if_icmp .ne 8, 3) := by decide +kernel
theorem dX12_unit_25 : decode cX12_unit 25 = .ok (.aload_n 0, 1) := by decide +kernel
theorem dX12_unit_26 : decode cX12_unit 26 = .ok (.invokevirtual 103, 3) := by decide +kernel
theorem dX12_unit_29 : decode cX12_unit 29 = .ok (.ireturn, 1) := by decide +kernel
theorem dX12_unit_30 : decode cX12_unit 30 = .ok (.aload_n 0, 1) := by decide +kernel
theorem dX12_unit_31 : decode cX12_unit 31 = .ok (.dup, 1) := by decide +kernel
theorem dX12_unit_32 : decode cX12_unit 32 = .ok (.getfield 100, 3) := by decide +kernel
theorem dX12_unit_35 : decode cX12_unit 35 = .ok (.iconst 1, 1) := by decide +kernel
theorem dX12_unit_36 : decode cX12_unit 36 = .ok (.iadd, 1) := by decide +kernel
theorem dX12_unit_37 : decode cX12_unit 37 = .ok (.putfield 100, 3) := by decide +kernel
theorem dX12_unit_40 : decode cX12_unit 40 = .ok (.aload_n 0, 1) := by decide +kernel
theorem dX12_unit_41 : decode cX12_unit 41 = .ok (.dup, 1) := by decide +kernel
theorem dX12_unit_42 : decode cX12_unit 42 = .ok (.getfield 61, 3) := by decide +kernel
