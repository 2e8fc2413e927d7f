theorem dX12_debtor_37 : decode cX12_debtor 37 = .ok (.if_icmp .ne 9, 3) := by decide +kernel
theorem dX12_debtor_40 : decode cX12_debtor 40 = .ok (.aload_n 0, 1) := by decide +kernel
theorem dX12_debtor_41 : decode cX12_debtor 41 = .ok (.iconst 4, 1) := by decide +kernel
theorem dX12_debtor_42 : decode cX12_debtor 42 = .ok (.invokevirtual 119, 3) := by decide +kernel
theorem dX12_debtor_45 : decode cX12_debtor 45 = .ok (.ireturn, 1) := by decide +kernel
theorem dX12_debtor_46 : decode cX12_debtor 46 = .ok (.aload_n 0, 1) := by decide +kernel
theorem dX12_debtor_47 : decode cX12_debtor 47 = .ok (.getfield 7, 3) := by decide +kernel
theorem dX12_debtor_50 : decode cX12_debtor 50 = .ok (.iconst 1, 1) := by decide +kernel
theorem dX12_debtor_51 : decode cX12_debtor 51 = .ok (.iaload, 1) := by decide +kernel
theorem dX12_debtor_52 : decode cX12_debtor 52 = .ok (.istore_n 3, 1) := by decide +kernel
theorem dX12_debtor_53 : decode cX12_debtor 53 = .ok (.aload_n 0, 1) := by decide +kernel
theorem dX12_debtor_54 : decode cX12_debtor 54 = .ok (.getfield 7, 3) := by decide +kernel
theorem dX12_debtor_57 : decode cX12_debtor 57 = .ok (.iconst 1, 1) := by decide +kernel
theorem dX12_debtor_58 : decode cX12_debtor 58 = .ok (.dup2, 1) := by decide +kernel
theorem dX12_debtor_59 : decode cX12_debtor 59 = .ok (.iaload, 1) := by decide +kernel
theorem dX12_debtor_60 : decode cX12_debtor 60 = .ok (.iconst 1, 1) := by decide +kernel
theorem dX12_debtor_61 : decode cX12_debtor 61 = .ok (.iadd, 1) := by decide +kernel
theorem dX12_debtor_62 : decode cX12_debtor 62 = .ok (.iastore, 1) := by decide +kernel
theorem dX12_debtor_63 : decode cX12_debtor 63 = .ok (.aload_n 0, 1) := by decide +kernel
theorem dX12_debtor_64 : decode cX12_debtor 64 = .ok (.iload_n 3, 1) := by decide +kernel
theorem dX12_debtor_65 : decode cX12_debtor 65 = .ok (.iconst 0, 1) := by decide +kernel
theorem dX12_debtor_66 : decode cX12_debtor 66 = .ok (.iload_n 1, 1) := by decide +kernel
theorem dX12_debtor_67 : decode cX12_debtor 67 = .ok (.bipush 10, 2) := by decide +kernel
theorem dX12_debtor_69 : decode cX12_debtor 69 = .ok (.idiv, 1) := by decide +kernel
theorem dX12_debtor_70 : decode cX12_debtor 70 = .ok (.invokevirtual 174, 3) := by decide +kernel
theorem dX12_debtor_73 : decode cX12_debtor 73 = .ok (.aload_n 0, 1) := by decide +kernel
theorem dX12_debtor_74 : decode cX12_debtor 74 = .ok (.iload_n 3, 1) := by decide +kernel
theorem dX12_debtor_75 : decode cX12_debtor 75 = .ok (.iconst 1, 1) := by decide +kernel
theorem dX12_debtor_76 : decode cX12_debtor 76 = .ok (.iload_n 1, 1) := by decide +kernel
theorem dX12_debtor_77 : decode cX12_debtor 77 = .ok (.bipush 10, 2) := by decide +kernel
theorem dX12_debtor_79 : decode cX12_debtor 79 = .ok (.irem, 1) := by decide +kernel
theorem dX12_debtor_80 : decode cX12_debtor 80 = .ok (.invokevirtual 174, 3) := by decide +kernel
theorem dX12_debtor_83 : decode cX12_debtor 83 = .ok (.aload_n 0, 1) := by decide +kernel
theorem dX12_debtor_84 : decode cX12_debtor 84 = .ok (.iload_n 3, 1) := by decide +kernel
theorem dX12_debtor_85 : decode cX12_debtor 85 = .ok (.iconst 2, 1) := by decide +kernel
theorem dX12_debtor_86 : decode cX12_debtor 86 = .ok (.iload_n 2, 1) := by decide +kernel
theorem dX12_debtor_87 : decode cX12_debtor 87 = .ok (.invokevirtual 174, 3) := by decide +kernel
theorem dX12_debtor_90 : decode cX12_debtor 90 = .ok (.aload_n 0, 1) := by decide +kernel
theorem dX12_debtor_91 : decode cX12_debtor 91 = .ok (.iload_n 3, 1) := by decide +kernel
theorem dX12_debtor_92 : decode cX12_debtor 92 = .ok (.iconst 3, 1) := by decide +kernel
theorem dX12_debtor_93 : decode cX12_debtor 93 = .ok (.iconst 0, 1) := by decide +kernel
theorem dX12_debtor_94 : decode cX12_debtor 94 = .ok (.invokevirtual 174, 3) := by decide +kernel
theorem dX12_debtor_97 : decode cX12_debtor 97 = .ok (.aload_n 0, 1) := by decide +kernel
theorem dX12_debtor_98 : decode cX12_debtor 98 = .ok (.iload_n 3, 1) := by decide +kernel
theorem dX12_debtor_99 : decode cX12_debtor 99 = .ok (.iconst 4, 1) := by decide +kernel
theorem dX12_debtor_100 : decode cX12_debtor 100 = .ok (.iconst 0, 1) := by decide +kernel
theorem dX12_debtor_101 : decode cX12_debtor 101 = .ok (.invokevirtual 174, 3) := by decide +kernel
theorem dX12_debtor_104 : decode cX12_debtor 104 = .ok (.iload_n 3, 1) := by decide +kernel
theorem dX12_debtor_105 : decode cX12_debtor 105 = .ok (.ireturn, 1) := by decide +kernel
theorem dX12_toldOf_0 : decode cX12_toldOf 0 = .ok (.iload_n 2, 1) := by decide +kernel
theorem dX12_toldOf_1 : decode cX12_toldOf 1 = .ok (.tableswitch 110 0 8 #[51, 58, 65, 72, 79, 85, 92, 98, 104], 51) := by decide +kernel
theorem dX12_toldOf_52 : decode cX12_toldOf 52 = .ok (.aload_n 0, 1) := by decide +kernel
theorem dX12_toldOf_53 : decode cX12_toldOf 53 = .ok (.iload_n 1, 1) := by decide +kernel
theorem dX12_toldOf_54 : decode cX12_toldOf 54 = .ok (.iconst 0, 1) := by decide +kernel
theorem dX12_toldOf_55 : decode cX12_toldOf 55 = .ok (.invokevirtual 150, 3) := by decide +kernel
theorem dX12_toldOf_58 : decode cX12_toldOf 58 = .ok (.ireturn, 1) := by decide +kernel
theorem dX12_toldOf_59 : decode cX12_toldOf 59 = .ok (.aload_n 0, 1) := by decide +kernel
theorem dX12_toldOf_60 : decode cX12_toldOf 60 = .ok (.iload_n 1, 1) := by decide +kernel
theorem dX12_toldOf_61 : decode cX12_toldOf 61 = .ok (.iconst 1, 1) := by decide +kernel
theorem dX12_toldOf_62 : decode cX12_toldOf 62 = .ok (.invokevirtual 150, 3) := by decide +kernel
theorem dX12_toldOf_65 : decode cX12_toldOf 65 = .ok (.ireturn, 1) := by decide +kernel
theorem dX12_toldOf_66 : decode cX12_toldOf 66 = .ok (.aload_n 0, 1) := by decide +kernel
theorem dX12_toldOf_67 : decode cX12_toldOf 67 = .ok (.iload_n 1, 1) := by decide +kernel
theorem dX12_toldOf_68 : decode cX12_toldOf 68 = .ok (.iconst 2, 1) := by decide +kernel
theorem dX12_toldOf_69 : decode cX12_toldOf 69 = .ok (.invokevirtual 150, 3) := by decide +kernel
theorem dX12_toldOf_72 : decode cX12_toldOf 72 = .ok (.ireturn, 1) := by decide +kernel
theorem dX12_toldOf_73 : decode cX12_toldOf 73 = .ok (.aload_n 0, 1) := by decide +kernel
theorem dX12_toldOf_74 : decode cX12_toldOf 74 = .ok (.iload_n 1, 1) := by decide +kernel
theorem dX12_toldOf_75 : decode cX12_toldOf 75 = .ok (.iconst 4, 1) := by decide +kernel
theorem dX12_toldOf_76 : decode cX12_toldOf 76 = .ok (.invokevirtual 150, 3) := by decide +kernel
theorem dX12_toldOf_79 : decode cX12_toldOf 79 = .ok (.ireturn, 1) := by decide +kernel
theorem dX12_toldOf_80 : decode cX12_toldOf 80 = .ok (.aload_n 0, 1) := by decide +kernel
theorem dX12_toldOf_81 : decode cX12_toldOf 81 = .ok (.iload_n 1, 1) := by decide +kernel
theorem dX12_toldOf_82 : decode cX12_toldOf 82 = .ok (.invokevirtual 153, 3) := by decide +kernel
theorem dX12_toldOf_85 : decode cX12_toldOf 85 = .ok (.ireturn, 1) := by decide +kernel
theorem dX12_toldOf_86 : decode cX12_toldOf 86 = .ok (.aload_n 0, 1) := by decide +kernel
theorem dX12_toldOf_87 : decode cX12_toldOf 87 = .ok (.iload_n 1, 1) := by decide +kernel
theorem dX12_toldOf_88 : decode cX12_toldOf 88 = .ok (.iconst 3, 1) := by decide +kernel
theorem dX12_toldOf_89 : decode cX12_toldOf 89 = .ok (.invokevirtual 150, 3) := by decide +kernel
theorem dX12_toldOf_92 : decode cX12_toldOf 92 = .ok (.ireturn, 1) := by decide +kernel
theorem dX12_toldOf_93 : decode cX12_toldOf 93 = .ok (.aload_n 0, 1) := by decide +kernel
theorem dX12_toldOf_94 : decode cX12_toldOf 94 = .ok (.iload_n 1, 1) := by decide +kernel
theorem dX12_toldOf_95 : decode cX12_toldOf 95 = .ok (.invokevirtual 188, 3) := by decide +kernel
theorem dX12_toldOf_98 : decode cX12_toldOf 98 = .ok (.ireturn, 1) := by decide +kernel
theorem dX12_toldOf_99 : decode cX12_toldOf 99 = .ok (.aload_n 0, 1) := by decide +kernel
theorem dX12_toldOf_100 : decode cX12_toldOf 100 = .ok (.iload_n 1, 1) := by decide +kernel
theorem dX12_toldOf_101 : decode cX12_toldOf 101 = .ok (.invokevirtual 191, 3) := by decide +kernel
theorem dX12_toldOf_104 : decode cX12_toldOf 104 = .ok (.ireturn, 1) := by decide +kernel
theorem dX12_toldOf_105 : decode cX12_toldOf 105 = .ok (.aload_n 0, 1) := by decide +kernel
theorem dX12_toldOf_106 : decode cX12_toldOf 106 = .ok (.iload_n 1, 1) := by decide +kernel
theorem dX12_toldOf_107 : decode cX12_toldOf 107 = .ok (.invokevirtual 194, 3) := by decide +kernel
theorem dX12_toldOf_110 : decode cX12_toldOf 110 = .ok (.ireturn, 1) := by decide +kernel
theorem dX12_toldOf_111 : decode cX12_toldOf 111 = .ok (.aload_n 0, 1) := by decide +kernel
theorem dX12_toldOf_112 : decode cX12_toldOf 112 = .ok (.iconst 1, 1) := by decide +kernel
theorem dX12_toldOf_113 : decode cX12_toldOf 113 = .ok (.aload_n 0, 1) := by decide +kernel
theorem dX12_toldOf_114 : decode cX12_toldOf 114 = .ok (.iload_n 1, 1) := by decide +kernel
theorem dX12_toldOf_115 : decode cX12_toldOf 115 = .ok (.iconst 2, 1) := by decide +kernel
theorem dX12_toldOf_116 : decode cX12_toldOf 116 = .ok (.invokevirtual 150, 3) := by decide +kernel
theorem dX12_toldOf_119 : decode cX12_toldOf 119 = .ok (.aload_n 0, 1) := by decide +kernel
theorem dX12_toldOf_120 : decode cX12_toldOf 120 = .ok (.iload_n 1, 1) := by decide +kernel
theorem dX12_toldOf_121 : decode cX12_toldOf 121 = .ok (.invokevirtual 191, 3) := by decide +kernel
theorem dX12_toldOf_124 : decode cX12_toldOf 124 = .ok (.aload_n 0, 1) := by decide +kernel
theorem dX12_toldOf_125 : decode cX12_toldOf 125 = .ok (.iload_n 1, 1) := by decide +kernel
theorem dX12_toldOf_126 : decode cX12_toldOf 126 = .ok (.iconst 4, 1) := by decide +kernel
theorem dX12_toldOf_127 : decode cX12_toldOf 127 = .ok (.invokevirtual 150, 3) := by decide +kernel
theorem dX12_toldOf_130 : decode cX12_toldOf 130 = .ok (.invokevirtual 131, 3) := by decide +kernel
theorem dX12_toldOf_133 : decode cX12_toldOf 133 = .ok (.ireturn, 1) := by decide +kernel
theorem dX12_ofDebtor_0 : decode cX12_ofDebtor 0 = .ok (.aload_n 0, 1) := by decide +kernel
theorem dX12_ofDebtor_1 : decode cX12_ofDebtor 1 = .ok (.iload_n 1, 1) := by decide +kernel
theorem dX12_ofDebtor_2 : decode cX12_ofDebtor 2 = .ok (.invokevirtual 197, 3) := by decide +kernel
theorem dX12_ofDebtor_5 : decode cX12_ofDebtor 5 = .ok (.ifCond .eq 24, 3) := by decide +kernel
theorem dX12_ofDebtor_8 : decode cX12_ofDebtor 8 = .ok (.iload_n 2, 1) := by decide +kernel
theorem dX12_ofDebtor_9 : decode cX12_ofDebtor 9 = .ok (.i2l, 1) := by decide +kernel
theorem dX12_ofDebtor_10 : decode cX12_ofDebtor 10 = .ok (.lconst 0, 1) := by decide +kernel
theorem dX12_ofDebtor_11 : decode cX12_ofDebtor 11 = .ok (.ldc2_w 148, 3) := by decide +kernel
theorem dX12_ofDebtor_14 : decode cX12_ofDebtor 14 = .ok (.invokestatic 57, 3) := by decide +kernel
theorem dX12_ofDebtor_17 : decode cX12_ofDebtor 17 = .ok (.ifCond .eq 12, 3) := by decide +kernel
theorem dX12_ofDebtor_20 : decode cX12_ofDebtor 20 = .ok (.aload_n 0, 1) := by decide +kernel
theorem dX12_ofDebtor_21 : decode cX12_ofDebtor 21 = .ok (.iload_n 1, 1) := by decide +kernel
theorem dX12_ofDebtor_22 : decode cX12_ofDebtor 22 = .ok (.iload_n 2, 1) := by decide +kernel
theorem dX12_ofDebtor_23 : decode cX12_ofDebtor 23 = .ok (.invokevirtual 200, 3) := by decide +kernel
theorem dX12_ofDebtor_26 : decode cX12_ofDebtor 26 = .ok (.goto 8, 3) := by decide +kernel
theorem dX12_ofDebtor_29 : decode cX12_ofDebtor 29 = .ok (.aload_n 0, 1) := by decide +kernel
theorem dX12_ofDebtor_30 : decode cX12_ofDebtor 30 = .ok (.iconst 1, 1) := by decide +kernel
theorem dX12_ofDebtor_31 : decode cX12_ofDebtor 31 = .ok (.invokevirtual 119, 3) := by decide +kernel
theorem dX12_ofDebtor_34 : decode cX12_ofDebtor 34 = .ok (.ireturn, 1) := by decide +kernel
theorem dX12_book_0 : decode cX12_book 0 = .ok (.aload_n 0, 1) := by decide +kernel
theorem dX12_book_1 : decode cX12_book 1 = .ok (.iload_n 1, 1) := by decide +kernel
theorem dX12_book_2 : decode cX12_book 2 = .ok (.invokevirtual 197, 3) := by decide +kernel
theorem dX12_book_5 : decode cX12_book 5 = .ok (.ifCond .eq 13, 3) := by decide +kernel
theorem dX12_book_8 : decode cX12_book 8 = .ok (.iload_n 3, 1) := by decide +kernel
theorem dX12_book_9 : decode cX12_book 9 = .ok (.i2l, 1) := by decide +kernel
theorem dX12_book_10 : decode cX12_book 10 = .ok (.lconst 0, 1) := by decide +kernel
theorem dX12_book_11 : decode cX12_book 11 = .ok (.lconst 1, 1) := by decide +kernel
theorem dX12_book_12 : decode cX12_book 12 = .ok (.invokestatic 57, 3) := by decide +kernel
theorem dX12_book_15 : decode cX12_book 15 = .ok (.ifCond .ne 9, 3) := by decide +kernel
theorem dX12_book_18 : decode cX12_book 18 = .ok (.aload_n 0, 1) := by decide +kernel
theorem dX12_book_19 : decode cX12_book 19 = .ok (.iconst 1, 1) := by decide +kernel
theorem dX12_book_20 : decode cX12_book 20 = .ok (.invokevirtual 119, 3) := by decide +kernel
theorem dX12_book_23 : decode cX12_book 23 = .ok (.ireturn, 1) := by decide +kernel
theorem dX12_book_24 : decode cX12_book 24 = .ok (.iload_n 2, 1) := by decide +kernel
theorem dX12_book_25 : decode cX12_book 25 = .ok (.i2l, 1) := by decide +kernel
theorem dX12_book_26 : decode cX12_book 26 = .ok (.lconst 0, 1) := by decide +kernel
theorem dX12_book_27 : decode cX12_book 27 = .ok (.aload_n 0, 1) := by decide +kernel
theorem dX12_book_28 : decode cX12_book 28 = .ok (.iload_n 1, 1) := by decide +kernel
theorem dX12_book_29 : decode cX12_book 29 = .ok (.iconst 4, 1) := by decide +kernel
theorem dX12_book_30 : decode cX12_book 30 = .ok (.invokevirtual 150, 3) := by decide +kernel
theorem dX12_book_33 : decode cX12_book 33 = .ok (.iconst 1, 1) := by decide +kernel
theorem dX12_book_34 : decode cX12_book 34 = .ok (.isub, 1) := by decide +kernel
theorem dX12_book_35 : decode cX12_book 35 = .ok (.i2l, 1) := by decide +kernel
theorem dX12_book_36 : decode cX12_book 36 = .ok (.invokestatic 57, 3) := by decide +kernel
theorem dX12_book_39 : decode cX12_book 39 = .ok (.ifCond .ne 9, 3) := by decide +kernel
theorem dX12_book_42 : decode cX12_book 42 = .ok (.aload_n 0, 1) := by decide +kernel
theorem dX12_book_43 : decode cX12_book 43 = .ok (.iconst 2, 1) := by decide +kernel
theorem dX12_book_44 : decode cX12_book 44 = .ok (.invokevirtual 119, 3) := by decide +kernel
theorem dX12_book_47 : decode cX12_book 47 = .ok (.ireturn, 1) := by decide +kernel
theorem dX12_book_48 : decode cX12_book 48 = .ok (.aload_n 0, 1) := by decide +kernel
theorem dX12_book_49 : decode cX12_book 49 = .ok (.iload_n 1, 1) := by decide +kernel
theorem dX12_book_50 : decode cX12_book 50 = .ok (.iload_n 3, 1) := by decide +kernel
theorem dX12_book_51 : decode cX12_book 51 = .ok (.ifCond .ne 9, 3) := by decide +kernel
theorem dX12_book_54 : decode cX12_book 54 = .ok (.iconst 5, 1) := by decide +kernel
theorem dX12_book_55 : decode cX12_book 55 = .ok (.iload_n 2, 1) := by decide +kernel
theorem dX12_book_56 : decode cX12_book 56 = .ok (.iadd, 1) := by decide +kernel
theorem dX12_book_57 : decode cX12_book 57 = .ok (.goto 7, 3) := by decide +kernel
theorem dX12_book_60 : decode cX12_book 60 = .ok (.bipush 13, 2) := by decide +kernel
theorem dX12_book_62 : decode cX12_book 62 = .ok (.iload_n 2, 1) := by decide +kernel
theorem dX12_book_63 : decode cX12_book 63 = .ok (.iadd, 1) := by decide +kernel
theorem dX12_book_64 : decode cX12_book 64 = .ok (.invokevirtual 150, 3) := by decide +kernel
theorem dX12_book_67 : decode cX12_book 67 = .ok (.ireturn, 1) := by decide +kernel
theorem dX12_become_0 : decode cX12_become 0 = .ok (.aload_n 0, 1) := by decide +kernel
theorem dX12_become_1 : decode cX12_become 1 = .ok (.iload_n 1, 1) := by decide +kernel
theorem dX12_become_2 : decode cX12_become 2 = .ok (.invokevirtual 197, 3) := by decide +kernel
theorem dX12_become_5 : decode cX12_become 5 = .ok (.ifCond .eq 15, 3) := by decide +kernel
theorem dX12_become_8 : decode cX12_become 8 = .ok (.iload_n 2, 1) := by decide +kernel
theorem dX12_become_9 : decode cX12_become 9 = .ok (.i2l, 1) := by decide +kernel
theorem dX12_become_10 : decode cX12_become 10 = .ok (.lconst 0, 1) := by decide +kernel
theorem dX12_become_11 : decode cX12_become 11 = .ok (.ldc2_w 184, 3) := by decide +kernel
theorem dX12_become_14 : decode cX12_become 14 = .ok (.invokestatic 57, 3) := by decide +kernel
theorem dX12_become_17 : decode cX12_become 17 = .ok (.ifCond .ne 9, 3) := by decide +kernel
theorem dX12_become_20 : decode cX12_become 20 = .ok (.aload_n 0, 1) := by decide +kernel
theorem dX12_become_21 : decode cX12_become 21 = .ok (.iconst 1, 1) := by decide +kernel
theorem dX12_become_22 : decode cX12_become 22 = .ok (.invokevirtual 119, 3) := by decide +kernel
theorem dX12_become_25 : decode cX12_become 25 = .ok (.ireturn, 1) := by decide +kernel
theorem dX12_become_26 : decode cX12_become 26 = .ok (.aload_n 0, 1) := by decide +kernel
theorem dX12_become_27 : decode cX12_become 27 = .ok (.iload_n 1, 1) := by decide +kernel
theorem dX12_become_28 : decode cX12_become 28 = .ok (.iconst 0, 1) := by decide +kernel
theorem dX12_become_29 : decode cX12_become 29 = .ok (.invokevirtual 150, 3) := by decide +kernel
theorem dX12_become_32 : decode cX12_become 32 = .ok (.istore_n 3, 1) := by decide +kernel
theorem dX12_become_33 : decode cX12_become 33 = .ok (.aload_n 0, 1) := by decide +kernel
theorem dX12_become_34 : decode cX12_become 34 = .ok (.iload_n 1, 1) := by decide +kernel
theorem dX12_become_35 : decode cX12_become 35 = .ok (.iconst 0, 1) := by decide +kernel
theorem dX12_become_36 : decode cX12_become 36 = .ok (.iload_n 2, 1) := by decide +kernel
theorem dX12_become_37 : decode cX12_become 37 = .ok (.bipush 10, 2) := by decide +kernel
theorem dX12_become_39 : decode cX12_become 39 = .ok (.idiv, 1) := by decide +kernel
theorem dX12_become_40 : decode cX12_become 40 = .ok (.invokevirtual 174, 3) := by decide +kernel
theorem dX12_become_43 : decode cX12_become 43 = .ok (.aload_n 0, 1) := by decide +kernel
theorem dX12_become_44 : decode cX12_become 44 = .ok (.iload_n 1, 1) := by decide +kernel
theorem dX12_become_45 : decode cX12_become 45 = .ok (.iconst 1, 1) := by decide +kernel
theorem dX12_become_46 : decode cX12_become 46 = .ok (.iload_n 2, 1) := by decide +kernel
theorem dX12_become_47 : decode cX12_become 47 = .ok (.bipush 10, 2) := by decide +kernel
theorem dX12_become_49 : decode cX12_become 49 = .ok (.irem, 1) := by decide +kernel
theorem dX12_become_50 : decode cX12_become 50 = .ok (.invokevirtual 174, 3) := by decide +kernel
theorem dX12_become_53 : decode cX12_become 53 = .ok (.iload_n 3, 1) := by decide +kernel
theorem dX12_become_54 : decode cX12_become 54 = .ok (.ireturn, 1) := by decide +kernel
theorem dX12_above_0 : decode cX12_above 0 = .ok (.iload_n 0, 1) := by decide +kernel
theorem dX12_above_1 : decode cX12_above 1 = .ok (.iconst 4, 1) := by decide +kernel
theorem dX12_above_2 : decode cX12_above 2 = .ok (.if_icmp .ge 7, 3) := by decide +kernel
theorem dX12_above_5 : decode cX12_above 5 = .ok (.iconst 0, 1) := by decide +kernel
theorem dX12_above_6 : decode cX12_above 6 = .ok (.goto 6, 3) := by decide +kernel
theorem dX12_above_9 : decode cX12_above 9 = .ok (.iload_n 0, 1) := by decide +kernel
theorem dX12_above_10 : decode cX12_above 10 = .ok (.iconst 3, 1) := by decide +kernel
theorem dX12_above_11 : decode cX12_above 11 = .ok (.isub, 1) := by decide +kernel
theorem dX12_above_12 : decode cX12_above 12 = .ok (.ireturn, 1) := by decide +kernel
theorem dX12_as_0 : decode cX12_as 0 = .ok (.aload_n 0, 1) := by decide +kernel
theorem dX12_as_1 : decode cX12_as 1 = .ok (.iload_n 1, 1) := by decide +kernel
theorem dX12_as_2 : decode cX12_as 2 = .ok (.invokevirtual 197, 3) := by decide +kernel
theorem dX12_as_5 : decode cX12_as 5 = .ok (.ifCond .eq 15, 3) := by decide +kernel
theorem dX12_as_8 : decode cX12_as 8 = .ok (.iload_n 2, 1) := by decide +kernel
theorem dX12_as_9 : decode cX12_as 9 = .ok (.i2l, 1) := by decide +kernel
theorem dX12_as_10 : decode cX12_as 10 = .ok (.lconst 0, 1) := by decide +kernel
theorem dX12_as_11 : decode cX12_as 11 = .ok (.ldc2_w 203, 3) := by decide +kernel
theorem dX12_as_14 : decode cX12_as 14 = .ok (.invokestatic 57, 3) := by decide +kernel
theorem dX12_as_17 : decode cX12_as 17 = .ok (.ifCond .ne 9, 3) := by decide +kernel
theorem dX12_as_20 : decode cX12_as 20 = .ok (.aload_n 0, 1) := by decide +kernel
theorem dX12_as_21 : decode cX12_as 21 = .ok (.iconst 1, 1) := by decide +kernel
theorem dX12_as_22 : decode cX12_as 22 = .ok (.invokevirtual 119, 3) := by decide +kernel
theorem dX12_as_25 : decode cX12_as 25 = .ok (.ireturn, 1) := by decide +kernel
theorem dX12_as_26 : decode cX12_as 26 = .ok (.aload_n 0, 1) := by decide +kernel
theorem dX12_as_27 : decode cX12_as 27 = .ok (.iload_n 1, 1) := by decide +kernel
theorem dX12_as_28 : decode cX12_as 28 = .ok (.iconst 0, 1) := by decide +kernel
theorem dX12_as_29 : decode cX12_as 29 = .ok (.invokevirtual 150, 3) := by decide +kernel
theorem dX12_as_32 : decode cX12_as 32 = .ok (.istore_n 3, 1) := by decide +kernel
theorem dX12_as_33 : decode cX12_as 33 = .ok (.iload_n 2, 1) := by decide +kernel
theorem dX12_as_34 : decode cX12_as 34 = .ok (.ifCond .eq 16, 3) := by decide +kernel
theorem dX12_as_37 : decode cX12_as 37 = .ok (.iload_n 2, 1) := by decide +kernel
theorem dX12_as_38 : decode cX12_as 38 = .ok (.iload_n 3, 1) := by decide +kernel
theorem dX12_as_39 : decode cX12_as 39 = .ok (.if_icmp .eq 11, 3) := by decide +kernel
theorem dX12_as_42 : decode cX12_as 42 = .ok (.iload_n 2, 1) := by decide +kernel
theorem dX12_as_43 : decode cX12_as 43 = .ok (.iload_n 3, 1) := by decide +kernel
theorem dX12_as_44 : decode cX12_as 44 = .ok (.invokestatic 205, 3) := by decide +kernel
theorem dX12_as_47 : decode cX12_as 47 = .ok (.if_icmp .ne 12, 3) := by decide +kernel
theorem dX12_as_50 : decode cX12_as 50 = .ok (.aload_n 0, 1) := by decide +kernel
theorem dX12_as_51 : decode cX12_as 51 = .ok (.iload_n 1, 1) := by decide +kernel
theorem dX12_as_52 : decode cX12_as 52 = .ok (.iconst 1, 1) := by decide +kernel
theorem dX12_as_53 : decode cX12_as 53 = .ok (.invokevirtual 150, 3) := by decide +kernel
theorem dX12_as_56 : decode cX12_as 56 = .ok (.goto 8, 3) := by decide +kernel
theorem dX12_as_59 : decode cX12_as 59 = .ok (.aload_n 0, 1) := by decide +kernel
theorem dX12_as_60 : decode cX12_as 60 = .ok (.iconst 5, 1) := by decide +kernel
theorem dX12_as_61 : decode cX12_as 61 = .ok (.invokevirtual 119, 3) := by decide +kernel
theorem dX12_as_64 : decode cX12_as 64 = .ok (.ireturn, 1) := by decide +kernel
theorem dX12_lends_0 : decode cX12_lends 0 = .ok (.aload_n 0, 1) := by decide +kernel
theorem dX12_lends_1 : decode cX12_lends 1 = .ok (.iload_n 1, 1) := by decide +kernel
theorem dX12_lends_2 : decode cX12_lends 2 = .ok (.iconst 2, 1) := by decide +kernel
theorem dX12_lends_3 : decode cX12_lends 3 = .ok (.aload_n 0, 1) := by decide +kernel
theorem dX12_lends_4 : decode cX12_lends 4 = .ok (.iload_n 1, 1) := by decide +kernel
theorem dX12_lends_5 : decode cX12_lends 5 = .ok (.iconst 2, 1) := by decide +kernel
theorem dX12_lends_6 : decode cX12_lends 6 = .ok (.invokevirtual 150, 3) := by decide +kernel
theorem dX12_lends_9 : decode cX12_lends 9 = .ok (.iload_n 2, 1) := by decide +kernel
theorem dX12_lends_10 : decode cX12_lends 10 = .ok (.iadd, 1) := by decide +kernel
theorem dX12_lends_11 : decode cX12_lends 11 = .ok (.iconst 0, 1) := by decide +kernel
theorem dX12_lends_12 : decode cX12_lends 12 = .ok (.sipush 9999, 3) := by decide +kernel
theorem dX12_lends_15 : decode cX12_lends 15 = .ok (.invokestatic 128, 3) := by decide +kernel
theorem dX12_lends_18 : decode cX12_lends 18 = .ok (.invokevirtual 174, 3) := by decide +kernel
theorem dX12_lends_21 : decode cX12_lends 21 = .ok (.return_, 1) := by decide +kernel
theorem dX12_lend_0 : decode cX12_lend 0 = .ok (.aload_n 0, 1) := by decide +kernel
theorem dX12_lend_1 : decode cX12_lend 1 = .ok (.iload_n 1, 1) := by decide +kernel
theorem dX12_lend_2 : decode cX12_lend 2 = .ok (.invokevirtual 197, 3) := by decide +kernel
theorem dX12_lend_5 : decode cX12_lend 5 = .ok (.ifCond .eq 15, 3) := by decide +kernel
theorem dX12_lend_8 : decode cX12_lend 8 = .ok (.iload_n 2, 1) := by decide +kernel
theorem dX12_lend_9 : decode cX12_lend 9 = .ok (.i2l, 1) := by decide +kernel
theorem dX12_lend_10 : decode cX12_lend 10 = .ok (.lconst 1, 1) := by decide +kernel
theorem dX12_lend_11 : decode cX12_lend 11 = .ok (.ldc2_w 208, 3) := by decide +kernel
theorem dX12_lend_14 : decode cX12_lend 14 = .ok (.invokestatic 57, 3) := by decide +kernel
theorem dX12_lend_17 : decode cX12_lend 17 = .ok (.ifCond .ne 9, 3) := by decide +kernel
theorem dX12_lend_20 : decode cX12_lend 20 = .ok (.aload_n 0, 1) := by decide +kernel
theorem dX12_lend_21 : decode cX12_lend 21 = .ok (.iconst 1, 1) := by decide +kernel
theorem dX12_lend_22 : decode cX12_lend 22 = .ok (.invokevirtual 119, 3) := by decide +kernel
theorem dX12_lend_25 : decode cX12_lend 25 = .ok (.ireturn, 1) := by decide +kernel
theorem dX12_lend_26 : decode cX12_lend 26 = .ok (.aload_n 0, 1) := by decide +kernel
theorem dX12_lend_27 : decode cX12_lend 27 = .ok (.iload_n 1, 1) := by decide +kernel
theorem dX12_lend_28 : decode cX12_lend 28 = .ok (.iconst 3, 1) := by decide +kernel
theorem dX12_lend_29 : decode cX12_lend 29 = .ok (.invokevirtual 150, 3) := by decide +kernel
theorem dX12_lend_32 : decode cX12_lend 32 = .ok (.iconst 1, 1) := by decide +kernel
theorem dX12_lend_33 : decode cX12_lend 33 = .ok (.if_icmp .ne 9, 3) := by decide +kernel
theorem dX12_lend_36 : decode cX12_lend 36 = .ok (.aload_n 0, 1) := by decide +kernel
theorem dX12_lend_37 : decode cX12_lend 37 = .ok (.iconst 3, 1) := by decide +kernel
theorem dX12_lend_38 : decode cX12_lend 38 = .ok (.invokevirtual 119, 3) := by decide +kernel
theorem dX12_lend_41 : decode cX12_lend 41 = .ok (.ireturn, 1) := by decide +kernel
theorem dX12_lend_42 : decode cX12_lend 42 = .ok (.aload_n 0, 1) := by decide +kernel
theorem dX12_lend_43 : decode cX12_lend 43 = .ok (.iload_n 1, 1) := by decide +kernel
theorem dX12_lend_44 : decode cX12_lend 44 = .ok (.iload_n 2, 1) := by decide +kernel
theorem dX12_lend_45 : decode cX12_lend 45 = .ok (.invokevirtual 210, 3) := by decide +kernel
theorem dX12_lend_48 : decode cX12_lend 48 = .ok (.aload_n 0, 1) := by decide +kernel
theorem dX12_lend_49 : decode cX12_lend 49 = .ok (.iload_n 1, 1) := by decide +kernel
theorem dX12_lend_50 : decode cX12_lend 50 = .ok (.iconst 2, 1) := by decide +kernel
theorem dX12_lend_51 : decode cX12_lend 51 = .ok (.invokevirtual 150, 3) := by decide +kernel
theorem dX12_lend_54 : decode cX12_lend 54 = .ok (.ireturn, 1) := by decide +kernel
theorem dX12_tells_0 : decode cX12_tells 0 = .ok (.aload_n 0, 1) := by decide +kernel
theorem dX12_tells_1 : decode cX12_tells 1 = .ok (.iload_n 1, 1) := by decide +kernel
theorem dX12_tells_2 : decode cX12_tells 2 = .ok (.invokevirtual 197, 3) := by decide +kernel
theorem dX12_tells_5 : decode cX12_tells 5 = .ok (.ifCond .eq 11, 3) := by decide +kernel
theorem dX12_tells_8 : decode cX12_tells 8 = .ok (.aload_n 0, 1) := by decide +kernel
theorem dX12_tells_9 : decode cX12_tells 9 = .ok (.iload_n 2, 1) := by decide +kernel
theorem dX12_tells_10 : decode cX12_tells 10 = .ok (.invokevirtual 141, 3) := by decide +kernel
theorem dX12_tells_13 : decode cX12_tells 13 = .ok (.ifCond .ne 9, 3) := by decide +kernel
theorem dX12_tells_16 : decode cX12_tells 16 = .ok (.aload_n 0, 1) := by decide +kernel
theorem dX12_tells_17 : decode cX12_tells 17 = .ok (.iconst 1, 1) := by decide +kernel
theorem dX12_tells_18 : decode cX12_tells 18 = .ok (.invokevirtual 119, 3) := by decide +kernel
theorem dX12_tells_21 : decode cX12_tells 21 = .ok (.ireturn, 1) := by decide +kernel
theorem dX12_tells_22 : decode cX12_tells 22 = .ok (.aload_n 0, 1) := by decide +kernel
theorem dX12_tells_23 : decode cX12_tells 23 = .ok (.iload_n 1, 1) := by decide +kernel
theorem dX12_tells_24 : decode cX12_tells 24 = .ok (.iconst 3, 1) := by decide +kernel
theorem dX12_tells_25 : decode cX12_tells 25 = .ok (.invokevirtual 150, 3) := by decide +kernel
theorem dX12_tells_28 : decode cX12_tells 28 = .ok (.iconst 1, 1) := by decide +kernel
theorem dX12_tells_29 : decode cX12_tells 29 = .ok (.if_icmp .eq 12, 3) := by decide +kernel
theorem dX12_tells_32 : decode cX12_tells 32 = .ok (.aload_n 0, 1) := by decide +kernel
theorem dX12_tells_33 : decode cX12_tells 33 = .ok (.iload_n 1, 1) := by decide +kernel
theorem dX12_tells_34 : decode cX12_tells 34 = .ok (.iload_n 2, 1) := by decide +kernel
theorem dX12_tells_35 : decode cX12_tells 35 = .ok (.invokevirtual 164, 3) := by decide +kernel
theorem dX12_tells_38 : decode cX12_tells 38 = .ok (.ifCond .ne 9, 3) := by decide +kernel
theorem dX12_tells_41 : decode cX12_tells 41 = .ok (.aload_n 0, 1) := by decide +kernel
theorem dX12_tells_42 : decode cX12_tells 42 = .ok (.iconst 3, 1) := by decide +kernel
theorem dX12_tells_43 : decode cX12_tells 43 = .ok (.invokevirtual 119, 3) := by decide +kernel
theorem dX12_tells_46 : decode cX12_tells 46 = .ok (.ireturn, 1) := by decide +kernel
theorem dX12_tells_47 : decode cX12_tells 47 = .ok (.aload_n 0, 1) := by decide +kernel
theorem dX12_tells_48 : decode cX12_tells 48 = .ok (.iload_n 1, 1) := by decide +kernel
theorem dX12_tells_49 : decode cX12_tells 49 = .ok (.iload_n 2, 1) := by decide +kernel
theorem dX12_tells_50 : decode cX12_tells 50 = .ok (.invokevirtual 213, 3) := by decide +kernel
theorem dX12_tells_53 : decode cX12_tells 53 = .ok (.aload_n 0, 1) := by decide +kernel
theorem dX12_tells_54 : decode cX12_tells 54 = .ok (.iload_n 1, 1) := by decide +kernel
theorem dX12_tells_55 : decode cX12_tells 55 = .ok (.iconst 2, 1) := by decide +kernel
theorem dX12_tells_56 : decode cX12_tells 56 = .ok (.invokevirtual 150, 3) := by decide +kernel
theorem dX12_tells_59 : decode cX12_tells 59 = .ok (.ireturn, 1) := by decide +kernel
theorem dX12_pardon_0 : decode cX12_pardon 0 = .ok (.aload_n 0, 1) := by decide +kernel
theorem dX12_pardon_1 : decode cX12_pardon 1 = .ok (.iload_n 1, 1) := by decide +kernel
theorem dX12_pardon_2 : decode cX12_pardon 2 = .ok (.invokevirtual 197, 3) := by decide +kernel
theorem dX12_pardon_5 : decode cX12_pardon 5 = .ok (.ifCond .ne 9, 3) := by decide +kernel
theorem dX12_pardon_8 : decode cX12_pardon 8 = .ok (.aload_n 0, 1) := by decide +kernel
theorem dX12_pardon_9 : decode cX12_pardon 9 = .ok (.iconst 1, 1) := by decide +kernel
theorem dX12_pardon_10 : decode cX12_pardon 10 = .ok (.invokevirtual 119, 3) := by decide +kernel
theorem dX12_pardon_13 : decode cX12_pardon 13 = .ok (.ireturn, 1) := by decide +kernel
theorem dX12_pardon_14 : decode cX12_pardon 14 = .ok (.aload_n 0, 1) := by decide +kernel
theorem dX12_pardon_15 : decode cX12_pardon 15 = .ok (.iload_n 1, 1) := by decide +kernel
theorem dX12_pardon_16 : decode cX12_pardon 16 = .ok (.iconst 3, 1) := by decide +kernel
theorem dX12_pardon_17 : decode cX12_pardon 17 = .ok (.invokevirtual 150, 3) := by decide +kernel
theorem dX12_pardon_20 : decode cX12_pardon 20 = .ok (.ifCond .ne 9, 3) := by decide +kernel
theorem dX12_pardon_23 : decode cX12_pardon 23 = .ok (.aload_n 0, 1) := by decide +kernel
theorem dX12_pardon_24 : decode cX12_pardon 24 = .ok (.iconst 3, 1) := by decide +kernel
theorem dX12_pardon_25 : decode cX12_pardon 25 = .ok (.invokevirtual 119, 3) := by decide +kernel
theorem dX12_pardon_28 : decode cX12_pardon 28 = .ok (.ireturn, 1) := by decide +kernel
theorem dX12_pardon_29 : decode cX12_pardon 29 = .ok (.aload_n 0, 1) := by decide +kernel
theorem dX12_pardon_30 : decode cX12_pardon 30 = .ok (.iload_n 1, 1) := by decide +kernel
theorem dX12_pardon_31 : decode cX12_pardon 31 = .ok (.iconst 4, 1) := by decide +kernel
theorem dX12_pardon_32 : decode cX12_pardon 32 = .ok (.invokevirtual 150, 3) := by decide +kernel
theorem dX12_pardon_35 : decode cX12_pardon 35 = .ok (.istore_n 2, 1) := by decide +kernel
theorem dX12_pardon_36 : decode cX12_pardon 36 = .ok (.aload_n 0, 1) := by decide +kernel
theorem dX12_pardon_37 : decode cX12_pardon 37 = .ok (.iload_n 1, 1) := by decide +kernel
theorem dX12_pardon_38 : decode cX12_pardon 38 = .ok (.iconst 2, 1) := by decide +kernel
theorem dX12_pardon_39 : decode cX12_pardon 39 = .ok (.iconst 0, 1) := by decide +kernel
theorem dX12_pardon_40 : decode cX12_pardon 40 = .ok (.invokevirtual 174, 3) := by decide +kernel
theorem dX12_pardon_43 : decode cX12_pardon 43 = .ok (.aload_n 0, 1) := by decide +kernel
theorem dX12_pardon_44 : decode cX12_pardon 44 = .ok (.iload_n 1, 1) := by decide +kernel
theorem dX12_pardon_45 : decode cX12_pardon 45 = .ok (.iconst 3, 1) := by decide +kernel
theorem dX12_pardon_46 : decode cX12_pardon 46 = .ok (.iconst 0, 1) := by decide +kernel
theorem dX12_pardon_47 : decode cX12_pardon 47 = .ok (.invokevirtual 174, 3) := by decide +kernel
theorem dX12_pardon_50 : decode cX12_pardon 50 = .ok (.aload_n 0, 1) := by decide +kernel
theorem dX12_pardon_51 : decode cX12_pardon 51 = .ok (.iload_n 1, 1) := by decide +kernel
theorem dX12_pardon_52 : decode cX12_pardon 52 = .ok (.iconst 4, 1) := by decide +kernel
theorem dX12_pardon_53 : decode cX12_pardon 53 = .ok (.iconst 0, 1) := by decide +kernel
theorem dX12_pardon_54 : decode cX12_pardon 54 = .ok (.invokevirtual 174, 3) := by decide +kernel
theorem dX12_pardon_57 : decode cX12_pardon 57 = .ok (.iload_n 2, 1) := by decide +kernel
theorem dX12_pardon_58 : decode cX12_pardon 58 = .ok (.ireturn, 1) := by decide +kernel
theorem dX12_serves_0 : decode cX12_serves 0 = .ok (.aload_n 0, 1) := by decide +kernel
theorem dX12_serves_1 : decode cX12_serves 1 = .ok (.iload_n 1, 1) := by decide +kernel
theorem dX12_serves_2 : decode cX12_serves 2 = .ok (.invokevirtual 188, 3) := by decide +kernel
theorem dX12_serves_5 : decode cX12_serves 5 = .ok (.istore_n 2, 1) := by decide +kernel
theorem dX12_serves_6 : decode cX12_serves 6 = .ok (.iconst 0, 1) := by decide +kernel
theorem dX12_serves_7 : decode cX12_serves 7 = .ok (.istore_n 3, 1) := by decide +kernel
theorem dX12_serves_8 : decode cX12_serves 8 = .ok (.iload_n 3, 1) := by decide +kernel
theorem dX12_serves_9 : decode cX12_serves 9 = .ok (.iload_n 2, 1) := by decide +kernel
theorem dX12_serves_10 : decode cX12_serves 10 = .ok (.if_icmp .ge 85, 3) := by decide +kernel
theorem dX12_serves_13 : decode cX12_serves 13 = .ok (.aload_n 0, 1) := by decide +kernel
theorem dX12_serves_14 : decode cX12_serves 14 = .ok (.iload_n 1, 1) := by decide +kernel
theorem dX12_serves_15 : decode cX12_serves 15 = .ok (.iconst 2, 1) := by decide +kernel
theorem dX12_serves_16 : decode cX12_serves 16 = .ok (.invokevirtual 150, 3) := by decide +kernel
theorem dX12_serves_19 : decode cX12_serves 19 = .ok (.ifCond .le 76, 3) := by decide +kernel
theorem dX12_serves_22 : decode cX12_serves 22 = .ok (.aload_n 0, 1) := by decide +kernel
theorem dX12_serves_23 : decode cX12_serves 23 = .ok (.iload_n 1, 1) := by decide +kernel
theorem dX12_serves_24 : decode cX12_serves 24 = .ok (.iconst 3, 1) := by decide +kernel
theorem dX12_serves_25 : decode cX12_serves 25 = .ok (.invokevirtual 150, 3) := by decide +kernel
theorem dX12_serves_28 : decode cX12_serves 28 = .ok (.ifCond .ne 67, 3) := by decide +kernel
theorem dX12_serves_31 : decode cX12_serves 31 = .ok (.iconst 0, 1) := by decide +kernel
theorem dX12_serves_32 : decode cX12_serves 32 = .ok (.istore 4, 2) := by decide +kernel
theorem dX12_serves_34 : decode cX12_serves 34 = .ok (.iload 4, 2) := by decide +kernel
theorem dX12_serves_36 : decode cX12_serves 36 = .ok (.aload_n 0, 1) := by decide +kernel
theorem dX12_serves_37 : decode cX12_serves 37 = .ok (.getfield 7, 3) := by decide +kernel
theorem dX12_serves_40 : decode cX12_serves 40 = .ok (.iconst 0, 1) := by decide +kernel
theorem dX12_serves_41 : decode cX12_serves 41 = .ok (.iaload, 1) := by decide +kernel
theorem dX12_serves_42 : decode cX12_serves 42 = .ok (.if_icmp .ge 19, 3) := by decide +kernel
theorem dX12_serves_45 : decode cX12_serves 45 = .ok (.aload_n 0, 1) := by decide +kernel
theorem dX12_serves_46 : decode cX12_serves 46 = .ok (.iload_n 1, 1) := by decide +kernel
theorem dX12_serves_47 : decode cX12_serves 47 = .ok (.iload 4, 2) := by decide +kernel
theorem dX12_serves_49 : decode cX12_serves 49 = .ok (.invokevirtual 164, 3) := by decide +kernel
theorem dX12_serves_52 : decode cX12_serves 52 = .ok (.ifCond .ne 9, 3) := by decide +kernel
theorem dX12_serves_55 : decode cX12_serves 55 = .ok (.iinc 4 1, 3) := by decide +kernel
theorem dX12_serves_58 : decode cX12_serves 58 = .ok (.goto (-24), 3) := by decide +kernel
theorem dX12_serves_61 : decode cX12_serves 61 = .ok (.iload 4, 2) := by decide +kernel
theorem dX12_serves_63 : decode cX12_serves 63 = .ok (.aload_n 0, 1) := by decide +kernel
theorem dX12_serves_64 : decode cX12_serves 64 = .ok (.getfield 7, 3) := by decide +kernel
theorem dX12_serves_67 : decode cX12_serves 67 = .ok (.iconst 0, 1) := by decide +kernel
theorem dX12_serves_68 : decode cX12_serves 68 = .ok (.iaload, 1) := by decide +kernel
theorem dX12_serves_69 : decode cX12_serves 69 = .ok (.if_icmp .ge 13, 3) := by decide +kernel
theorem dX12_serves_72 : decode cX12_serves 72 = .ok (.aload_n 0, 1) := by decide +kernel
theorem dX12_serves_73 : decode cX12_serves 73 = .ok (.iload_n 1, 1) := by decide +kernel
theorem dX12_serves_74 : decode cX12_serves 74 = .ok (.iload 4, 2) := by decide +kernel
theorem dX12_serves_76 : decode cX12_serves 76 = .ok (.invokevirtual 213, 3) := by decide +kernel
theorem dX12_serves_79 : decode cX12_serves 79 = .ok (.goto 10, 3) := by decide +kernel
theorem dX12_serves_82 : decode cX12_serves 82 = .ok (.aload_n 0, 1) := by decide +kernel
theorem dX12_serves_83 : decode cX12_serves 83 = .ok (.iload_n 1, 1) := by decide +kernel
theorem dX12_serves_84 : decode cX12_serves 84 = .ok (.iconst 3, 1) := by decide +kernel
theorem dX12_serves_85 : decode cX12_serves 85 = .ok (.iconst 1, 1) := by decide +kernel
theorem dX12_serves_86 : decode cX12_serves 86 = .ok (.invokevirtual 174, 3) := by decide +kernel
theorem dX12_serves_89 : decode cX12_serves 89 = .ok (.iinc 3 1, 3) := by decide +kernel
theorem dX12_serves_92 : decode cX12_serves 92 = .ok (.goto (-84), 3) := by decide +kernel
theorem dX12_serves_95 : decode cX12_serves 95 = .ok (.aload_n 0, 1) := by decide +kernel
theorem dX12_serves_96 : decode cX12_serves 96 = .ok (.iload_n 1, 1) := by decide +kernel
theorem dX12_serves_97 : decode cX12_serves 97 = .ok (.invokevirtual 216, 3) := by decide +kernel
theorem dX12_serves_100 : decode cX12_serves 100 = .ok (.ifCond .eq 10, 3) := by decide +kernel
theorem dX12_serves_103 : decode cX12_serves 103 = .ok (.aload_n 0, 1) := by decide +kernel
theorem dX12_serves_104 : decode cX12_serves 104 = .ok (.iload_n 1, 1) := by decide +kernel
theorem dX12_serves_105 : decode cX12_serves 105 = .ok (.iconst 3, 1) := by decide +kernel
theorem dX12_serves_106 : decode cX12_serves 106 = .ok (.iconst 1, 1) := by decide +kernel
theorem dX12_serves_107 : decode cX12_serves 107 = .ok (.invokevirtual 174, 3) := by decide +kernel
theorem dX12_serves_110 : decode cX12_serves 110 = .ok (.return_, 1) := by decide +kernel
theorem dX12_aWeek_0 : decode cX12_aWeek 0 = .ok (.iconst 0, 1) := by decide +kernel
theorem dX12_aWeek_1 : decode cX12_aWeek 1 = .ok (.istore_n 1, 1) := by decide +kernel
theorem dX12_aWeek_2 : decode cX12_aWeek 2 = .ok (.iload_n 1, 1) := by decide +kernel
theorem dX12_aWeek_3 : decode cX12_aWeek 3 = .ok (.aload_n 0, 1) := by decide +kernel
theorem dX12_aWeek_4 : decode cX12_aWeek 4 = .ok (.getfield 7, 3) := by decide +kernel
theorem dX12_aWeek_7 : decode cX12_aWeek 7 = .ok (.iconst 1, 1) := by decide +kernel
theorem dX12_aWeek_8 : decode cX12_aWeek 8 = .ok (.iaload, 1) := by decide +kernel
theorem dX12_aWeek_9 : decode cX12_aWeek 9 = .ok (.if_icmp .ge 32, 3) := by decide +kernel
theorem dX12_aWeek_12 : decode cX12_aWeek 12 = .ok (.aload_n 0, 1) := by decide +kernel
theorem dX12_aWeek_13 : decode cX12_aWeek 13 = .ok (.iload_n 1, 1) := by decide +kernel
theorem dX12_aWeek_14 : decode cX12_aWeek 14 = .ok (.iconst 3, 1) := by decide +kernel
theorem dX12_aWeek_15 : decode cX12_aWeek 15 = .ok (.invokevirtual 150, 3) := by decide +kernel
theorem dX12_aWeek_18 : decode cX12_aWeek 18 = .ok (.ifCond .ne 17, 3) := by decide +kernel
theorem dX12_aWeek_21 : decode cX12_aWeek 21 = .ok (.aload_n 0, 1) := by decide +kernel
theorem dX12_aWeek_22 : decode cX12_aWeek 22 = .ok (.iload_n 1, 1) := by decide +kernel
theorem dX12_aWeek_23 : decode cX12_aWeek 23 = .ok (.iconst 2, 1) := by decide +kernel
theorem dX12_aWeek_24 : decode cX12_aWeek 24 = .ok (.invokevirtual 150, 3) := by decide +kernel
theorem dX12_aWeek_27 : decode cX12_aWeek 27 = .ok (.ifCond .le 8, 3) := by decide +kernel
theorem dX12_aWeek_30 : decode cX12_aWeek 30 = .ok (.aload_n 0, 1) := by decide +kernel
theorem dX12_aWeek_31 : decode cX12_aWeek 31 = .ok (.iload_n 1, 1) := by decide +kernel
theorem dX12_aWeek_32 : decode cX12_aWeek 32 = .ok (.invokevirtual 219, 3) := by decide +kernel
theorem dX12_aWeek_35 : decode cX12_aWeek 35 = .ok (.iinc 1 1, 3) := by decide +kernel
theorem dX12_aWeek_38 : decode cX12_aWeek 38 = .ok (.goto (-36), 3) := by decide +kernel
theorem dX12_aWeek_41 : decode cX12_aWeek 41 = .ok (.aload_n 0, 1) := by decide +kernel
theorem dX12_aWeek_42 : decode cX12_aWeek 42 = .ok (.getfield 7, 3) := by decide +kernel
theorem dX12_aWeek_45 : decode cX12_aWeek 45 = .ok (.iconst 3, 1) := by decide +kernel
theorem dX12_aWeek_46 : decode cX12_aWeek 46 = .ok (.dup2, 1) := by decide +kernel
theorem dX12_aWeek_47 : decode cX12_aWeek 47 = .ok (.iaload, 1) := by decide +kernel
theorem dX12_aWeek_48 : decode cX12_aWeek 48 = .ok (.iconst 1, 1) := by decide +kernel
theorem dX12_aWeek_49 : decode cX12_aWeek 49 = .ok (.iadd, 1) := by decide +kernel
theorem dX12_aWeek_50 : decode cX12_aWeek 50 = .ok (.iastore, 1) := by decide +kernel
theorem dX12_aWeek_51 : decode cX12_aWeek 51 = .ok (.return_, 1) := by decide +kernel
theorem dX12_brokenMany_0 : decode cX12_brokenMany 0 = .ok (.iconst 0, 1) := by decide +kernel
theorem dX12_brokenMany_1 : decode cX12_brokenMany 1 = .ok (.istore_n 1, 1) := by decide +kernel
theorem dX12_brokenMany_2 : decode cX12_brokenMany 2 = .ok (.iconst 0, 1) := by decide +kernel
theorem dX12_brokenMany_3 : decode cX12_brokenMany 3 = .ok (.istore_n 2, 1) := by decide +kernel
theorem dX12_brokenMany_4 : decode cX12_brokenMany 4 = .ok (.iload_n 2, 1) := by decide +kernel
theorem dX12_brokenMany_5 : decode cX12_brokenMany 5 = .ok (.aload_n 0, 1) := by decide +kernel
theorem dX12_brokenMany_6 : decode cX12_brokenMany 6 = .ok (.getfield 7, 3) := by decide +kernel
theorem dX12_brokenMany_9 : decode cX12_brokenMany 9 = .ok (.iconst 1, 1) := by decide +kernel
theorem dX12_brokenMany_10 : decode cX12_brokenMany 10 = .ok (.iaload, 1) := by decide +kernel
theorem dX12_brokenMany_11 : decode cX12_brokenMany 11 = .ok (.if_icmp .ge 18, 3) := by decide +kernel
theorem dX12_brokenMany_14 : decode cX12_brokenMany 14 = .ok (.iload_n 1, 1) := by decide +kernel
theorem dX12_brokenMany_15 : decode cX12_brokenMany 15 = .ok (.aload_n 0, 1) := by decide +kernel
theorem dX12_brokenMany_16 : decode cX12_brokenMany 16 = .ok (.iload_n 2, 1) := by decide +kernel
theorem dX12_brokenMany_17 : decode cX12_brokenMany 17 = .ok (.iconst 3, 1) := by decide +kernel
theorem dX12_brokenMany_18 : decode cX12_brokenMany 18 = .ok (.invokevirtual 150, 3) := by decide +kernel
theorem dX12_brokenMany_21 : decode cX12_brokenMany 21 = .ok (.iadd, 1) := by decide +kernel
theorem dX12_brokenMany_22 : decode cX12_brokenMany 22 = .ok (.istore_n 1, 1) := by decide +kernel
theorem dX12_brokenMany_23 : decode cX12_brokenMany 23 = .ok (.iinc 2 1, 3) := by decide +kernel
theorem dX12_brokenMany_26 : decode cX12_brokenMany 26 = .ok (.goto (-22), 3) := by decide +kernel
theorem dX12_brokenMany_29 : decode cX12_brokenMany 29 = .ok (.iload_n 1, 1) := by decide +kernel
theorem dX12_brokenMany_30 : decode cX12_brokenMany 30 = .ok (.ireturn, 1) := by decide +kernel
theorem dX12_drawn_0 : decode cX12_drawn 0 = .ok (.aload_n 0, 1) := by decide +kernel
theorem dX12_drawn_1 : decode cX12_drawn 1 = .ok (.getfield 7, 3) := by decide +kernel
theorem dX12_drawn_4 : decode cX12_drawn 4 = .ok (.iconst 4, 1) := by decide +kernel
theorem dX12_drawn_5 : decode cX12_drawn 5 = .ok (.aload_n 0, 1) := by decide +kernel
theorem dX12_drawn_6 : decode cX12_drawn 6 = .ok (.getfield 7, 3) := by decide +kernel
theorem dX12_drawn_9 : decode cX12_drawn 9 = .ok (.iconst 4, 1) := by decide +kernel
theorem dX12_drawn_10 : decode cX12_drawn 10 = .ok (.iaload, 1) := by decide +kernel
theorem dX12_drawn_11 : decode cX12_drawn 11 = .ok (.ldc 223, 2) := by decide +kernel
theorem dX12_drawn_13 : decode cX12_drawn 13 = .ok (.imul, 1) := by decide +kernel
theorem dX12_drawn_14 : decode cX12_drawn 14 = .ok (.sipush 12345, 3) := by decide +kernel
theorem dX12_drawn_17 : decode cX12_drawn 17 = .ok (.iadd, 1) := by decide +kernel
theorem dX12_drawn_18 : decode cX12_drawn 18 = .ok (.iastore, 1) := by decide +kernel
theorem dX12_drawn_19 : decode cX12_drawn 19 = .ok (.aload_n 0, 1) := by decide +kernel
theorem dX12_drawn_20 : decode cX12_drawn 20 = .ok (.getfield 7, 3) := by decide +kernel
theorem dX12_drawn_23 : decode cX12_drawn 23 = .ok (.iconst 4, 1) := by decide +kernel
theorem dX12_drawn_24 : decode cX12_drawn 24 = .ok (.iaload, 1) := by decide +kernel
theorem dX12_drawn_25 : decode cX12_drawn 25 = .ok (.bipush 8, 2) := by decide +kernel
theorem dX12_drawn_27 : decode cX12_drawn 27 = .ok (.iushr, 1) := by decide +kernel
theorem dX12_drawn_28 : decode cX12_drawn 28 = .ok (.ireturn, 1) := by decide +kernel
theorem dX12_passes_0 : decode cX12_passes 0 = .ok (.iload_n 1, 1) := by decide +kernel
theorem dX12_passes_1 : decode cX12_passes 1 = .ok (.i2l, 1) := by decide +kernel
theorem dX12_passes_2 : decode cX12_passes 2 = .ok (.lconst 1, 1) := by decide +kernel
theorem dX12_passes_3 : decode cX12_passes 3 = .ok (.ldc2_w 224, 3) := by decide +kernel
theorem dX12_passes_6 : decode cX12_passes 6 = .ok (.invokestatic 57, 3) := by decide +kernel
theorem dX12_passes_9 : decode cX12_passes 9 = .ok (.ifCond .ne 9, 3) := by decide +kernel
theorem dX12_passes_12 : decode cX12_passes 12 = .ok (.aload_n 0, 1) := by decide +kernel
theorem dX12_passes_13 : decode cX12_passes 13 = .ok (.iconst 1, 1) := by decide +kernel
theorem dX12_passes_14 : decode cX12_passes 14 = .ok (.invokevirtual 119, 3) := by decide +kernel
theorem dX12_passes_17 : decode cX12_passes 17 = .ok (.ireturn, 1) := by decide +kernel
theorem dX12_passes_18 : decode cX12_passes 18 = .ok (.aload_n 0, 1) := by decide +kernel
theorem dX12_passes_19 : decode cX12_passes 19 = .ok (.getfield 7, 3) := by decide +kernel
theorem dX12_passes_22 : decode cX12_passes 22 = .ok (.iconst 3, 1) := by decide +kernel
theorem dX12_passes_23 : decode cX12_passes 23 = .ok (.iaload, 1) := by decide +kernel
theorem dX12_passes_24 : decode cX12_passes 24 = .ok (.iload_n 1, 1) := by decide +kernel
theorem dX12_passes_25 : decode cX12_passes 25 = .ok (.iadd, 1) := by decide +kernel
theorem dX12_passes_26 : decode cX12_passes 26 = .ok (.sipush 999, 3) := by decide +kernel
theorem dX12_passes_29 : decode cX12_passes 29 = .ok (.if_icmp .le 9, 3) := by decide +kernel
theorem dX12_passes_32 : decode cX12_passes 32 = .ok (.aload_n 0, 1) := by decide +kernel
theorem dX12_passes_33 : decode cX12_passes 33 = .ok (.iconst 3, 1) := by decide +kernel
theorem dX12_passes_34 : decode cX12_passes 34 = .ok (.invokevirtual 119, 3) := by decide +kernel
theorem dX12_passes_37 : decode cX12_passes 37 = .ok (.ireturn, 1) := by decide +kernel
theorem dX12_passes_38 : decode cX12_passes 38 = .ok (.iconst 0, 1) := by decide +kernel
theorem dX12_passes_39 : decode cX12_passes 39 = .ok (.istore_n 3, 1) := by decide +kernel
theorem dX12_passes_40 : decode cX12_passes 40 = .ok (.iload_n 3, 1) := by decide +kernel
theorem dX12_passes_41 : decode cX12_passes 41 = .ok (.iload_n 1, 1) := by decide +kernel
theorem dX12_passes_42 : decode cX12_passes 42 = .ok (.if_icmp .ge 73, 3) := by decide +kernel
theorem dX12_passes_45 : decode cX12_passes 45 = .ok (.iload_n 2, 1) := by decide +kernel
theorem dX12_passes_46 : decode cX12_passes 46 = .ok (.ifCond .eq 12, 3) := by decide +kernel
theorem dX12_passes_49 : decode cX12_passes 49 = .ok (.aload_n 0, 1) := by decide +kernel
theorem dX12_passes_50 : decode cX12_passes 50 = .ok (.invokevirtual 226, 3) := by decide +kernel
theorem dX12_passes_53 : decode cX12_passes 53 = .ok (.iconst 4, 1) := by decide +kernel
theorem dX12_passes_54 : decode cX12_passes 54 = .ok (.irem, 1) := by decide +kernel
theorem dX12_passes_55 : decode cX12_passes 55 = .ok (.goto 4, 3) := by decide +kernel
theorem dX12_passes_58 : decode cX12_passes 58 = .ok (.iconst 0, 1) := by decide +kernel
theorem dX12_passes_59 : decode cX12_passes 59 = .ok (.istore 4, 2) := by decide +kernel
theorem dX12_passes_61 : decode cX12_passes 61 = .ok (.iload_n 2, 1) := by decide +kernel
theorem dX12_passes_62 : decode cX12_passes 62 = .ok (.ifCond .eq 13, 3) := by decide +kernel
theorem dX12_passes_65 : decode cX12_passes 65 = .ok (.aload_n 0, 1) := by decide +kernel
theorem dX12_passes_66 : decode cX12_passes 66 = .ok (.invokevirtual 226, 3) := by decide +kernel
theorem dX12_passes_69 : decode cX12_passes 69 = .ok (.bipush 50, 2) := by decide +kernel
theorem dX12_passes_71 : decode cX12_passes 71 = .ok (.irem, 1) := by decide +kernel
theorem dX12_passes_72 : decode cX12_passes 72 = .ok (.goto 4, 3) := by decide +kernel
theorem dX12_passes_75 : decode cX12_passes 75 = .ok (.iconst 0, 1) := by decide +kernel
theorem dX12_passes_76 : decode cX12_passes 76 = .ok (.istore 5, 2) := by decide +kernel
theorem dX12_passes_78 : decode cX12_passes 78 = .ok (.aload_n 0, 1) := by decide +kernel
theorem dX12_passes_79 : decode cX12_passes 79 = .ok (.iload 4, 2) := by decide +kernel
theorem dX12_passes_81 : decode cX12_passes 81 = .ok (.invokevirtual 197, 3) := by decide +kernel
theorem dX12_passes_84 : decode cX12_passes 84 = .ok (.ifCond .eq 21, 3) := by decide +kernel
theorem dX12_passes_87 : decode cX12_passes 87 = .ok (.aload_n 0, 1) := by decide +kernel
theorem dX12_passes_88 : decode cX12_passes 88 = .ok (.iload 4, 2) := by decide +kernel
theorem dX12_passes_90 : decode cX12_passes 90 = .ok (.iconst 3, 1) := by decide +kernel
theorem dX12_passes_91 : decode cX12_passes 91 = .ok (.invokevirtual 150, 3) := by decide +kernel
theorem dX12_passes_94 : decode cX12_passes 94 = .ok (.ifCond .ne 11, 3) := by decide +kernel
theorem dX12_passes_97 : decode cX12_passes 97 = .ok (.aload_n 0, 1) := by decide +kernel
theorem dX12_passes_98 : decode cX12_passes 98 = .ok (.iload 4, 2) := by decide +kernel
theorem dX12_passes_100 : decode cX12_passes 100 = .ok (.iload 5, 2) := by decide +kernel
theorem dX12_passes_102 : decode cX12_passes 102 = .ok (.invokevirtual 210, 3) := by decide +kernel
theorem dX12_passes_105 : decode cX12_passes 105 = .ok (.aload_n 0, 1) := by decide +kernel
theorem dX12_passes_106 : decode cX12_passes 106 = .ok (.invokevirtual 229, 3) := by decide +kernel
theorem dX12_passes_109 : decode cX12_passes 109 = .ok (.iinc 3 1, 3) := by decide +kernel
theorem dX12_passes_112 : decode cX12_passes 112 = .ok (.goto (-72), 3) := by decide +kernel
theorem dX12_passes_115 : decode cX12_passes 115 = .ok (.aload_n 0, 1) := by decide +kernel
theorem dX12_passes_116 : decode cX12_passes 116 = .ok (.invokevirtual 232, 3) := by decide +kernel
theorem dX12_passes_119 : decode cX12_passes 119 = .ok (.ireturn, 1) := by decide +kernel
theorem dX12_weeks_0 : decode cX12_weeks 0 = .ok (.aload_n 0, 1) := by decide +kernel
theorem dX12_weeks_1 : decode cX12_weeks 1 = .ok (.iload_n 1, 1) := by decide +kernel
theorem dX12_weeks_2 : decode cX12_weeks 2 = .ok (.iconst 0, 1) := by decide +kernel
theorem dX12_weeks_3 : decode cX12_weeks 3 = .ok (.invokevirtual 235, 3) := by decide +kernel
theorem dX12_weeks_6 : decode cX12_weeks 6 = .ok (.ireturn, 1) := by decide +kernel
theorem dX12_loose_0 : decode cX12_loose 0 = .ok (.aload_n 0, 1) := by decide +kernel
theorem dX12_loose_1 : decode cX12_loose 1 = .ok (.iload_n 1, 1) := by decide +kernel
theorem dX12_loose_2 : decode cX12_loose 2 = .ok (.iconst 1, 1) := by decide +kernel
theorem dX12_loose_3 : decode cX12_loose 3 = .ok (.invokevirtual 235, 3) := by decide +kernel
theorem dX12_loose_6 : decode cX12_loose 6 = .ok (.ireturn, 1) := by decide +kernel
theorem dX12_then_0 : decode cX12_then 0 = .ok (.iload_n 1, 1) := by decide +kernel
theorem dX12_then_1 : decode cX12_then 1 = .ok (.i2l, 1) := by decide +kernel
theorem dX12_then_2 : decode cX12_then 2 = .ok (.lconst 0, 1) := by decide +kernel
theorem dX12_then_3 : decode cX12_then 3 = .ok (.ldc2_w 224, 3) := by decide +kernel
theorem dX12_then_6 : decode cX12_then 6 = .ok (.invokestatic 57, 3) := by decide +kernel
theorem dX12_then_9 : decode cX12_then 9 = .ok (.ifCond .eq 31, 3) := by decide +kernel
theorem dX12_then_12 : decode cX12_then 12 = .ok (.aload_n 0, 1) := by decide +kernel
theorem dX12_then_13 : decode cX12_then 13 = .ok (.iload_n 2, 1) := by decide +kernel
theorem dX12_then_14 : decode cX12_then 14 = .ok (.invokevirtual 197, 3) := by decide +kernel
theorem dX12_then_17 : decode cX12_then 17 = .ok (.ifCond .eq 23, 3) := by decide +kernel
theorem dX12_then_20 : decode cX12_then 20 = .ok (.iload_n 3, 1) := by decide +kernel
theorem dX12_then_21 : decode cX12_then 21 = .ok (.i2l, 1) := by decide +kernel
theorem dX12_then_22 : decode cX12_then 22 = .ok (.ldc2_w 239, 3) := by decide +kernel
theorem dX12_then_25 : decode cX12_then 25 = .ok (.ldc2_w 241, 3) := by decide +kernel
theorem dX12_then_28 : decode cX12_then 28 = .ok (.invokestatic 57, 3) := by decide +kernel
theorem dX12_then_31 : decode cX12_then 31 = .ok (.ifCond .eq 9, 3) := by decide +kernel
theorem dX12_then_34 : decode cX12_then 34 = .ok (.iload_n 3, 1) := by decide +kernel
theorem dX12_then_35 : decode cX12_then 35 = .ok (.bipush 6, 2) := by decide +kernel
theorem dX12_then_37 : decode cX12_then 37 = .ok (.if_icmp .ne 9, 3) := by decide +kernel
theorem dX12_then_40 : decode cX12_then 40 = .ok (.aload_n 0, 1) := by decide +kernel
theorem dX12_then_41 : decode cX12_then 41 = .ok (.iconst 1, 1) := by decide +kernel
theorem dX12_then_42 : decode cX12_then 42 = .ok (.invokevirtual 119, 3) := by decide +kernel
theorem dX12_then_45 : decode cX12_then 45 = .ok (.ireturn, 1) := by decide +kernel
theorem dX12_then_46 : decode cX12_then 46 = .ok (.aload_n 0, 1) := by decide +kernel
theorem dX12_then_47 : decode cX12_then 47 = .ok (.invokevirtual 243, 3) := by decide +kernel
theorem dX12_then_50 : decode cX12_then 50 = .ok (.iconst 0, 1) := by decide +kernel
theorem dX12_then_51 : decode cX12_then 51 = .ok (.istore 4, 2) := by decide +kernel
theorem dX12_then_53 : decode cX12_then 53 = .ok (.iload 4, 2) := by decide +kernel
theorem dX12_then_55 : decode cX12_then 55 = .ok (.iload_n 1, 1) := by decide +kernel
theorem dX12_then_56 : decode cX12_then 56 = .ok (.if_icmp .ge 13, 3) := by decide +kernel
theorem dX12_then_59 : decode cX12_then 59 = .ok (.aload_n 0, 1) := by decide +kernel
theorem dX12_then_60 : decode cX12_then 60 = .ok (.invokevirtual 229, 3) := by decide +kernel
theorem dX12_then_63 : decode cX12_then 63 = .ok (.iinc 4 1, 3) := by decide +kernel
theorem dX12_then_66 : decode cX12_then 66 = .ok (.goto (-13), 3) := by decide +kernel
theorem dX12_then_69 : decode cX12_then 69 = .ok (.aload_n 0, 1) := by decide +kernel
theorem dX12_then_70 : decode cX12_then 70 = .ok (.iload_n 2, 1) := by decide +kernel
theorem dX12_then_71 : decode cX12_then 71 = .ok (.iload_n 3, 1) := by decide +kernel
theorem dX12_then_72 : decode cX12_then 72 = .ok (.invokevirtual 200, 3) := by decide +kernel
theorem dX12_then_75 : decode cX12_then 75 = .ok (.istore 4, 2) := by decide +kernel
theorem dX12_then_77 : decode cX12_then 77 = .ok (.aload_n 0, 1) := by decide +kernel
theorem dX12_then_78 : decode cX12_then 78 = .ok (.invokevirtual 246, 3) := by decide +kernel
theorem dX12_then_81 : decode cX12_then 81 = .ok (.iload 4, 2) := by decide +kernel
theorem dX12_then_83 : decode cX12_then 83 = .ok (.ireturn, 1) := by decide +kernel
theorem dX12_takes__0 : decode cX12_takes_ 0 = .ok (.aload_n 0, 1) := by decide +kernel
theorem dX12_takes__1 : decode cX12_takes_ 1 = .ok (.iload_n 1, 1) := by decide +kernel
theorem dX12_takes__2 : decode cX12_takes_ 2 = .ok (.iload_n 2, 1) := by decide +kernel
theorem dX12_takes__3 : decode cX12_takes_ 3 = .ok (.invokevirtual 164, 3) := by decide +kernel
theorem dX12_takes__6 : decode cX12_takes_ 6 = .ok (.ifCond .ne 5, 3) := by decide +kernel
theorem dX12_takes__9 : decode cX12_takes_ 9 = .ok (.iconst 0, 1) := by decide +kernel
theorem dX12_takes__10 : decode cX12_takes_ 10 = .ok (.ireturn, 1) := by decide +kernel
theorem dX12_takes__11 : decode cX12_takes_ 11 = .ok (.aload_n 0, 1) := by decide +kernel
theorem dX12_takes__12 : decode cX12_takes_ 12 = .ok (.iload_n 1, 1) := by decide +kernel
theorem dX12_takes__13 : decode cX12_takes_ 13 = .ok (.iload_n 2, 1) := by decide +kernel
theorem dX12_takes__14 : decode cX12_takes_ 14 = .ok (.invokevirtual 180, 3) := by decide +kernel
theorem dX12_takes__17 : decode cX12_takes_ 17 = .ok (.aload_n 0, 1) := by decide +kernel
theorem dX12_takes__18 : decode cX12_takes_ 18 = .ok (.iload_n 1, 1) := by decide +kernel
theorem dX12_takes__19 : decode cX12_takes_ 19 = .ok (.invokevirtual 216, 3) := by decide +kernel
theorem dX12_takes__22 : decode cX12_takes_ 22 = .ok (.ifCond .eq 19, 3) := by decide +kernel
theorem dX12_takes__25 : decode cX12_takes_ 25 = .ok (.aload_n 0, 1) := by decide +kernel
theorem dX12_takes__26 : decode cX12_takes_ 26 = .ok (.iload_n 1, 1) := by decide +kernel
theorem dX12_takes__27 : decode cX12_takes_ 27 = .ok (.iconst 4, 1) := by decide +kernel
theorem dX12_takes__28 : decode cX12_takes_ 28 = .ok (.aload_n 0, 1) := by decide +kernel
theorem dX12_takes__29 : decode cX12_takes_ 29 = .ok (.iload_n 1, 1) := by decide +kernel
theorem dX12_takes__30 : decode cX12_takes_ 30 = .ok (.iconst 4, 1) := by decide +kernel
theorem dX12_takes__31 : decode cX12_takes_ 31 = .ok (.invokevirtual 150, 3) := by decide +kernel
theorem dX12_takes__34 : decode cX12_takes_ 34 = .ok (.iconst 1, 1) := by decide +kernel
theorem dX12_takes__35 : decode cX12_takes_ 35 = .ok (.isub, 1) := by decide +kernel
theorem dX12_takes__36 : decode cX12_takes_ 36 = .ok (.invokevirtual 174, 3) := by decide +kernel
theorem dX12_takes__39 : decode cX12_takes_ 39 = .ok (.iconst 0, 1) := by decide +kernel
theorem dX12_takes__40 : decode cX12_takes_ 40 = .ok (.ireturn, 1) := by decide +kernel
theorem dX12_takes__41 : decode cX12_takes_ 41 = .ok (.iconst 1, 1) := by decide +kernel
theorem dX12_takes__42 : decode cX12_takes_ 42 = .ok (.ireturn, 1) := by decide +kernel
theorem dX12_looksAt_0 : decode cX12_looksAt 0 = .ok (.iload_n 3, 1) := by decide +kernel
theorem dX12_looksAt_1 : decode cX12_looksAt 1 = .ok (.ifCond .eq 34, 3) := by decide +kernel
theorem dX12_looksAt_4 : decode cX12_looksAt 4 = .ok (.aload_n 0, 1) := by decide +kernel
theorem dX12_looksAt_5 : decode cX12_looksAt 5 = .ok (.iload_n 1, 1) := by decide +kernel
theorem dX12_looksAt_6 : decode cX12_looksAt 6 = .ok (.invokevirtual 191, 3) := by decide +kernel
theorem dX12_looksAt_9 : decode cX12_looksAt 9 = .ok (.ifCond .ne 22, 3) := by decide +kernel
theorem dX12_looksAt_12 : decode cX12_looksAt 12 = .ok (.aload_n 0, 1) := by decide +kernel
theorem dX12_looksAt_13 : decode cX12_looksAt 13 = .ok (.getfield 249, 3) := by decide +kernel
theorem dX12_looksAt_16 : decode cX12_looksAt 16 = .ok (.ifCond .lt 11, 3) := by decide +kernel
theorem dX12_looksAt_19 : decode cX12_looksAt 19 = .ok (.iload_n 2, 1) := by decide +kernel
theorem dX12_looksAt_20 : decode cX12_looksAt 20 = .ok (.aload_n 0, 1) := by decide +kernel
theorem dX12_looksAt_21 : decode cX12_looksAt 21 = .ok (.getfield 249, 3) := by decide +kernel
theorem dX12_looksAt_24 : decode cX12_looksAt 24 = .ok (.if_icmp .ge 7, 3) := by decide +kernel
theorem dX12_looksAt_27 : decode cX12_looksAt 27 = .ok (.iconst 1, 1) := by decide +kernel
theorem dX12_looksAt_28 : decode cX12_looksAt 28 = .ok (.goto 20, 3) := by decide +kernel
theorem dX12_looksAt_31 : decode cX12_looksAt 31 = .ok (.iconst 0, 1) := by decide +kernel
theorem dX12_looksAt_32 : decode cX12_looksAt 32 = .ok (.goto 16, 3) := by decide +kernel
theorem dX12_looksAt_35 : decode cX12_looksAt 35 = .ok (.iload_n 2, 1) := by decide +kernel
theorem dX12_looksAt_36 : decode cX12_looksAt 36 = .ok (.aload_n 0, 1) := by decide +kernel
theorem dX12_looksAt_37 : decode cX12_looksAt 37 = .ok (.getfield 249, 3) := by decide +kernel
theorem dX12_looksAt_40 : decode cX12_looksAt 40 = .ok (.if_icmp .le 7, 3) := by decide +kernel
theorem dX12_looksAt_43 : decode cX12_looksAt 43 = .ok (.iconst 1, 1) := by decide +kernel
theorem dX12_looksAt_44 : decode cX12_looksAt 44 = .ok (.goto 4, 3) := by decide +kernel
theorem dX12_looksAt_47 : decode cX12_looksAt 47 = .ok (.iconst 0, 1) := by decide +kernel
theorem dX12_looksAt_48 : decode cX12_looksAt 48 = .ok (.istore 4, 2) := by decide +kernel
theorem dX12_looksAt_50 : decode cX12_looksAt 50 = .ok (.iload 4, 2) := by decide +kernel
theorem dX12_looksAt_52 : decode cX12_looksAt 52 = .ok (.ifCond .eq 37, 3) := by decide +kernel
theorem dX12_looksAt_55 : decode cX12_looksAt 55 = .ok (.aload_n 0, 1) := by decide +kernel
theorem dX12_looksAt_56 : decode cX12_looksAt 56 = .ok (.iload_n 2, 1) := by decide +kernel
theorem dX12_looksAt_57 : decode cX12_looksAt 57 = .ok (.putfield 249, 3) := by decide +kernel
theorem dX12_looksAt_60 : decode cX12_looksAt 60 = .ok (.iconst 0, 1) := by decide +kernel
theorem dX12_looksAt_61 : decode cX12_looksAt 61 = .ok (.istore 5, 2) := by decide +kernel
theorem dX12_looksAt_63 : decode cX12_looksAt 63 = .ok (.iload 5, 2) := by decide +kernel
theorem dX12_looksAt_65 : decode cX12_looksAt 65 = .ok (.iload_n 2, 1) := by decide +kernel
theorem dX12_looksAt_66 : decode cX12_looksAt 66 = .ok (.if_icmp .ge 23, 3) := by decide +kernel
theorem dX12_looksAt_69 : decode cX12_looksAt 69 = .ok (.aload_n 0, 1) := by decide +kernel
theorem dX12_looksAt_70 : decode cX12_looksAt 70 = .ok (.getfield 35, 3) := by decide +kernel
theorem dX12_looksAt_73 : decode cX12_looksAt 73 = .ok (.iload 5, 2) := by decide +kernel
theorem dX12_looksAt_75 : decode cX12_looksAt 75 = .ok (.aload_n 0, 1) := by decide +kernel
theorem dX12_looksAt_76 : decode cX12_looksAt 76 = .ok (.getfield 32, 3) := by decide +kernel
theorem dX12_looksAt_79 : decode cX12_looksAt 79 = .ok (.iload 5, 2) := by decide +kernel
theorem dX12_looksAt_81 : decode cX12_looksAt 81 = .ok (.iaload, 1) := by decide +kernel
theorem dX12_looksAt_82 : decode cX12_looksAt 82 = .ok (.iastore, 1) := by decide +kernel
theorem dX12_looksAt_83 : decode cX12_looksAt 83 = .ok (.iinc 5 1, 3) := by decide +kernel
theorem dX12_looksAt_86 : decode cX12_looksAt 86 = .ok (.goto (-23), 3) := by decide +kernel
theorem dX12_looksAt_89 : decode cX12_looksAt 89 = .ok (.return_, 1) := by decide +kernel
theorem dX12_findRow_0 : decode cX12_findRow 0 = .ok (.aload_n 0, 1) := by decide +kernel
theorem dX12_findRow_1 : decode cX12_findRow 1 = .ok (.invokevirtual 243, 3) := by decide +kernel
theorem dX12_findRow_4 : decode cX12_findRow 4 = .ok (.aload_n 0, 1) := by decide +kernel
theorem dX12_findRow_5 : decode cX12_findRow 5 = .ok (.iconst (-1), 1) := by decide +kernel
theorem dX12_findRow_6 : decode cX12_findRow 6 = .ok (.putfield 249, 3) := by decide +kernel
theorem dX12_findRow_9 : decode cX12_findRow 9 = .ok (.iconst 0, 1) := by decide +kernel
theorem dX12_findRow_10 : decode cX12_findRow 10 = .ok (.istore_n 3, 1) := by decide +kernel
theorem dX12_findRow_11 : decode cX12_findRow 11 = .ok (.aload_n 0, 1) := by decide +kernel
theorem dX12_findRow_12 : decode cX12_findRow 12 = .ok (.getfield 29, 3) := by decide +kernel
theorem dX12_findRow_15 : decode cX12_findRow 15 = .ok (.iconst 0, 1) := by decide +kernel
theorem dX12_findRow_16 : decode cX12_findRow 16 = .ok (.iconst (-1), 1) := by decide +kernel
theorem dX12_findRow_17 : decode cX12_findRow 17 = .ok (.iastore, 1) := by decide +kernel
theorem dX12_findRow_18 : decode cX12_findRow 18 = .ok (.aload_n 0, 1) := by decide +kernel
theorem dX12_findRow_19 : decode cX12_findRow 19 = .ok (.iload_n 1, 1) := by decide +kernel
theorem dX12_findRow_20 : decode cX12_findRow 20 = .ok (.iconst 0, 1) := by decide +kernel
theorem dX12_findRow_21 : decode cX12_findRow 21 = .ok (.iload_n 2, 1) := by decide +kernel
theorem dX12_findRow_22 : decode cX12_findRow 22 = .ok (.invokevirtual 252, 3) := by decide +kernel
theorem dX12_findRow_25 : decode cX12_findRow 25 = .ok (.iload_n 3, 1) := by decide +kernel
theorem dX12_findRow_26 : decode cX12_findRow 26 = .ok (.ifCond .lt 131, 3) := by decide +kernel
theorem dX12_findRow_29 : decode cX12_findRow 29 = .ok (.aload_n 0, 1) := by decide +kernel
theorem dX12_findRow_30 : decode cX12_findRow 30 = .ok (.getfield 29, 3) := by decide +kernel
theorem dX12_findRow_33 : decode cX12_findRow 33 = .ok (.iload_n 3, 1) := by decide +kernel
theorem dX12_findRow_34 : decode cX12_findRow 34 = .ok (.iaload, 1) := by decide +kernel
theorem dX12_findRow_35 : decode cX12_findRow 35 = .ok (.iconst 1, 1) := by decide +kernel
theorem dX12_findRow_36 : decode cX12_findRow 36 = .ok (.iadd, 1) := by decide +kernel
theorem dX12_findRow_37 : decode cX12_findRow 37 = .ok (.istore 4, 2) := by decide +kernel
theorem dX12_findRow_39 : decode cX12_findRow 39 = .ok (.iload 4, 2) := by decide +kernel
theorem dX12_findRow_41 : decode cX12_findRow 41 = .ok (.aload_n 0, 1) := by decide +kernel
theorem dX12_findRow_42 : decode cX12_findRow 42 = .ok (.getfield 7, 3) := by decide +kernel
theorem dX12_findRow_45 : decode cX12_findRow 45 = .ok (.iconst 0, 1) := by decide +kernel
theorem dX12_findRow_46 : decode cX12_findRow 46 = .ok (.iaload, 1) := by decide +kernel
theorem dX12_findRow_47 : decode cX12_findRow 47 = .ok (.if_icmp .ge 19, 3) := by decide +kernel
theorem dX12_findRow_50 : decode cX12_findRow 50 = .ok (.aload_n 0, 1) := by decide +kernel
theorem dX12_findRow_51 : decode cX12_findRow 51 = .ok (.iload_n 1, 1) := by decide +kernel
theorem dX12_findRow_52 : decode cX12_findRow 52 = .ok (.iload 4, 2) := by decide +kernel
theorem dX12_findRow_54 : decode cX12_findRow 54 = .ok (.invokevirtual 256, 3) := by decide +kernel
theorem dX12_findRow_57 : decode cX12_findRow 57 = .ok (.ifCond .ne 9, 3) := by decide +kernel
theorem dX12_findRow_60 : decode cX12_findRow 60 = .ok (.iinc 4 1, 3) := by decide +kernel
theorem dX12_findRow_63 : decode cX12_findRow 63 = .ok (.goto (-24), 3) := by decide +kernel
theorem dX12_findRow_66 : decode cX12_findRow 66 = .ok (.aload_n 0, 1) := by decide +kernel
theorem dX12_findRow_67 : decode cX12_findRow 67 = .ok (.getfield 29, 3) := by decide +kernel
theorem dX12_findRow_70 : decode cX12_findRow 70 = .ok (.iload_n 3, 1) := by decide +kernel
theorem dX12_findRow_71 : decode cX12_findRow 71 = .ok (.iload 4, 2) := by decide +kernel
theorem dX12_findRow_73 : decode cX12_findRow 73 = .ok (.iastore, 1) := by decide +kernel
theorem dX12_findRow_74 : decode cX12_findRow 74 = .ok (.iload 4, 2) := by decide +kernel
theorem dX12_findRow_76 : decode cX12_findRow 76 = .ok (.aload_n 0, 1) := by decide +kernel
theorem dX12_findRow_77 : decode cX12_findRow 77 = .ok (.getfield 7, 3) := by decide +kernel
theorem dX12_findRow_80 : decode cX12_findRow 80 = .ok (.iconst 0, 1) := by decide +kernel
theorem dX12_findRow_81 : decode cX12_findRow 81 = .ok (.iaload, 1) := by decide +kernel
theorem dX12_findRow_82 : decode cX12_findRow 82 = .ok (.if_icmp .ge 41, 3) := by decide +kernel
theorem dX12_findRow_85 : decode cX12_findRow 85 = .ok (.aload_n 0, 1) := by decide +kernel
theorem dX12_findRow_86 : decode cX12_findRow 86 = .ok (.getfield 32, 3) := by decide +kernel
theorem dX12_findRow_89 : decode cX12_findRow 89 = .ok (.iload_n 3, 1) := by decide +kernel
theorem dX12_findRow_90 : decode cX12_findRow 90 = .ok (.iload 4, 2) := by decide +kernel
theorem dX12_findRow_92 : decode cX12_findRow 92 = .ok (.iastore, 1) := by decide +kernel
theorem dX12_findRow_93 : decode cX12_findRow 93 = .ok (.iinc 3 1, 3) := by decide +kernel
theorem dX12_findRow_96 : decode cX12_findRow 96 = .ok (.aload_n 0, 1) := by decide +kernel
theorem dX12_findRow_97 : decode cX12_findRow 97 = .ok (.getfield 7, 3) := by decide +kernel
theorem dX12_findRow_100 : decode cX12_findRow 100 = .ok (.iconst 3, 1) := by decide +kernel
theorem dX12_findRow_101 : decode cX12_findRow 101 = .ok (.dup2, 1) := by decide +kernel
theorem dX12_findRow_102 : decode cX12_findRow 102 = .ok (.iaload, 1) := by decide +kernel
theorem dX12_findRow_103 : decode cX12_findRow 103 = .ok (.iconst 1, 1) := by decide +kernel
theorem dX12_findRow_104 : decode cX12_findRow 104 = .ok (.iadd, 1) := by decide +kernel
theorem dX12_findRow_105 : decode cX12_findRow 105 = .ok (.iastore, 1) := by decide +kernel
theorem dX12_findRow_106 : decode cX12_findRow 106 = .ok (.aload_n 0, 1) := by decide +kernel
theorem dX12_findRow_107 : decode cX12_findRow 107 = .ok (.getfield 29, 3) := by decide +kernel
theorem dX12_findRow_110 : decode cX12_findRow 110 = .ok (.iload_n 3, 1) := by decide +kernel
theorem dX12_findRow_111 : decode cX12_findRow 111 = .ok (.iconst (-1), 1) := by decide +kernel
theorem dX12_findRow_112 : decode cX12_findRow 112 = .ok (.iastore, 1) := by decide +kernel
theorem dX12_findRow_113 : decode cX12_findRow 113 = .ok (.aload_n 0, 1) := by decide +kernel
theorem dX12_findRow_114 : decode cX12_findRow 114 = .ok (.iload_n 1, 1) := by decide +kernel
theorem dX12_findRow_115 : decode cX12_findRow 115 = .ok (.iload_n 3, 1) := by decide +kernel
theorem dX12_findRow_116 : decode cX12_findRow 116 = .ok (.iload_n 2, 1) := by decide +kernel
theorem dX12_findRow_117 : decode cX12_findRow 117 = .ok (.invokevirtual 252, 3) := by decide +kernel
theorem dX12_findRow_120 : decode cX12_findRow 120 = .ok (.goto 34, 3) := by decide +kernel
theorem dX12_findRow_123 : decode cX12_findRow 123 = .ok (.iinc 3 (-1), 3) := by decide +kernel
theorem dX12_findRow_126 : decode cX12_findRow 126 = .ok (.iload_n 3, 1) := by decide +kernel
theorem dX12_findRow_127 : decode cX12_findRow 127 = .ok (.ifCond .lt 27, 3) := by decide +kernel
theorem dX12_findRow_130 : decode cX12_findRow 130 = .ok (.aload_n 0, 1) := by decide +kernel
theorem dX12_findRow_131 : decode cX12_findRow 131 = .ok (.iload_n 1, 1) := by decide +kernel
theorem dX12_findRow_132 : decode cX12_findRow 132 = .ok (.iconst 4, 1) := by decide +kernel
theorem dX12_findRow_133 : decode cX12_findRow 133 = .ok (.aload_n 0, 1) := by decide +kernel
theorem dX12_findRow_134 : decode cX12_findRow 134 = .ok (.iload_n 1, 1) := by decide +kernel
theorem dX12_findRow_135 : decode cX12_findRow 135 = .ok (.iconst 4, 1) := by decide +kernel
theorem dX12_findRow_136 : decode cX12_findRow 136 = .ok (.invokevirtual 150, 3) := by decide +kernel
theorem dX12_findRow_139 : decode cX12_findRow 139 = .ok (.iconst 1, 1) := by decide +kernel
theorem dX12_findRow_140 : decode cX12_findRow 140 = .ok (.isub, 1) := by decide +kernel
theorem dX12_findRow_141 : decode cX12_findRow 141 = .ok (.invokevirtual 174, 3) := by decide +kernel
theorem dX12_findRow_144 : decode cX12_findRow 144 = .ok (.aload_n 0, 1) := by decide +kernel
theorem dX12_findRow_145 : decode cX12_findRow 145 = .ok (.getfield 7, 3) := by decide +kernel
theorem dX12_findRow_148 : decode cX12_findRow 148 = .ok (.iconst 3, 1) := by decide +kernel
theorem dX12_findRow_149 : decode cX12_findRow 149 = .ok (.dup2, 1) := by decide +kernel
theorem dX12_findRow_150 : decode cX12_findRow 150 = .ok (.iaload, 1) := by decide +kernel
theorem dX12_findRow_151 : decode cX12_findRow 151 = .ok (.iconst 1, 1) := by decide +kernel
theorem dX12_findRow_152 : decode cX12_findRow 152 = .ok (.isub, 1) := by decide +kernel
theorem dX12_findRow_153 : decode cX12_findRow 153 = .ok (.iastore, 1) := by decide +kernel
theorem dX12_findRow_154 : decode cX12_findRow 154 = .ok (.goto (-129), 3) := by decide +kernel
theorem dX12_findRow_157 : decode cX12_findRow 157 = .ok (.aload_n 0, 1) := by decide +kernel
theorem dX12_findRow_158 : decode cX12_findRow 158 = .ok (.invokevirtual 246, 3) := by decide +kernel
theorem dX12_findRow_161 : decode cX12_findRow 161 = .ok (.return_, 1) := by decide +kernel
theorem dX12_rowTold_0 : decode cX12_rowTold 0 = .ok (.aload_n 0, 1) := by decide +kernel
theorem dX12_rowTold_1 : decode cX12_rowTold 1 = .ok (.iload_n 1, 1) := by decide +kernel
theorem dX12_rowTold_2 : decode cX12_rowTold 2 = .ok (.invokevirtual 197, 3) := by decide +kernel
theorem dX12_rowTold_5 : decode cX12_rowTold 5 = .ok (.ifCond .eq 17, 3) := by decide +kernel
theorem dX12_rowTold_8 : decode cX12_rowTold 8 = .ok (.iload_n 2, 1) := by decide +kernel
theorem dX12_rowTold_9 : decode cX12_rowTold 9 = .ok (.i2l, 1) := by decide +kernel
theorem dX12_rowTold_10 : decode cX12_rowTold 10 = .ok (.ldc2_w 258, 3) := by decide +kernel
theorem dX12_rowTold_13 : decode cX12_rowTold 13 = .ok (.ldc2_w 241, 3) := by decide +kernel
theorem dX12_rowTold_16 : decode cX12_rowTold 16 = .ok (.invokestatic 57, 3) := by decide +kernel
theorem dX12_rowTold_19 : decode cX12_rowTold 19 = .ok (.ifCond .ne 9, 3) := by decide +kernel
theorem dX12_rowTold_22 : decode cX12_rowTold 22 = .ok (.aload_n 0, 1) := by decide +kernel
theorem dX12_rowTold_23 : decode cX12_rowTold 23 = .ok (.iconst 1, 1) := by decide +kernel
theorem dX12_rowTold_24 : decode cX12_rowTold 24 = .ok (.invokevirtual 119, 3) := by decide +kernel
theorem dX12_rowTold_27 : decode cX12_rowTold 27 = .ok (.ireturn, 1) := by decide +kernel
theorem dX12_rowTold_28 : decode cX12_rowTold 28 = .ok (.aload_n 0, 1) := by decide +kernel
theorem dX12_rowTold_29 : decode cX12_rowTold 29 = .ok (.iload_n 1, 1) := by decide +kernel
theorem dX12_rowTold_30 : decode cX12_rowTold 30 = .ok (.iconst 3, 1) := by decide +kernel
theorem dX12_rowTold_31 : decode cX12_rowTold 31 = .ok (.invokevirtual 150, 3) := by decide +kernel
theorem dX12_rowTold_34 : decode cX12_rowTold 34 = .ok (.iconst 1, 1) := by decide +kernel
theorem dX12_rowTold_35 : decode cX12_rowTold 35 = .ok (.if_icmp .ne 9, 3) := by decide +kernel
theorem dX12_rowTold_38 : decode cX12_rowTold 38 = .ok (.aload_n 0, 1) := by decide +kernel
theorem dX12_rowTold_39 : decode cX12_rowTold 39 = .ok (.iconst 3, 1) := by decide +kernel
theorem dX12_rowTold_40 : decode cX12_rowTold 40 = .ok (.invokevirtual 119, 3) := by decide +kernel
theorem dX12_rowTold_43 : decode cX12_rowTold 43 = .ok (.ireturn, 1) := by decide +kernel
theorem dX12_rowTold_44 : decode cX12_rowTold 44 = .ok (.aload_n 0, 1) := by decide +kernel
theorem dX12_rowTold_45 : decode cX12_rowTold 45 = .ok (.iload_n 1, 1) := by decide +kernel
theorem dX12_rowTold_46 : decode cX12_rowTold 46 = .ok (.iload_n 3, 1) := by decide +kernel
theorem dX12_rowTold_47 : decode cX12_rowTold 47 = .ok (.invokevirtual 260, 3) := by decide +kernel
theorem dX12_rowTold_50 : decode cX12_rowTold 50 = .ok (.aload_n 0, 1) := by decide +kernel
theorem dX12_rowTold_51 : decode cX12_rowTold 51 = .ok (.getfield 249, 3) := by decide +kernel
theorem dX12_rowTold_54 : decode cX12_rowTold 54 = .ok (.ifCond .lt 11, 3) := by decide +kernel
theorem dX12_rowTold_57 : decode cX12_rowTold 57 = .ok (.iload_n 2, 1) := by decide +kernel
theorem dX12_rowTold_58 : decode cX12_rowTold 58 = .ok (.aload_n 0, 1) := by decide +kernel
theorem dX12_rowTold_59 : decode cX12_rowTold 59 = .ok (.getfield 249, 3) := by decide +kernel
theorem dX12_rowTold_62 : decode cX12_rowTold 62 = .ok (.if_icmp .lt 9, 3) := by decide +kernel
theorem dX12_rowTold_65 : decode cX12_rowTold 65 = .ok (.aload_n 0, 1) := by decide +kernel
theorem dX12_rowTold_66 : decode cX12_rowTold 66 = .ok (.iconst 2, 1) := by decide +kernel
theorem dX12_rowTold_67 : decode cX12_rowTold 67 = .ok (.invokevirtual 119, 3) := by decide +kernel
theorem dX12_rowTold_70 : decode cX12_rowTold 70 = .ok (.ireturn, 1) := by decide +kernel
theorem dX12_rowTold_71 : decode cX12_rowTold 71 = .ok (.iload_n 2, 1) := by decide +kernel
theorem dX12_rowTold_72 : decode cX12_rowTold 72 = .ok (.ifCond .ge 10, 3) := by decide +kernel
theorem dX12_rowTold_75 : decode cX12_rowTold 75 = .ok (.aload_n 0, 1) := by decide +kernel
theorem dX12_rowTold_76 : decode cX12_rowTold 76 = .ok (.getfield 249, 3) := by decide +kernel
theorem dX12_rowTold_79 : decode cX12_rowTold 79 = .ok (.goto 9, 3) := by decide +kernel
theorem dX12_rowTold_82 : decode cX12_rowTold 82 = .ok (.aload_n 0, 1) := by decide +kernel
theorem dX12_rowTold_83 : decode cX12_rowTold 83 = .ok (.getfield 35, 3) := by decide +kernel
theorem dX12_rowTold_86 : decode cX12_rowTold 86 = .ok (.iload_n 2, 1) := by decide +kernel
theorem dX12_rowTold_87 : decode cX12_rowTold 87 = .ok (.iaload, 1) := by decide +kernel
theorem dX12_rowTold_88 : decode cX12_rowTold 88 = .ok (.ireturn, 1) := by decide +kernel
theorem dX12_served_0 : decode cX12_served 0 = .ok (.aload_n 0, 1) := by decide +kernel
theorem dX12_served_1 : decode cX12_served 1 = .ok (.iload_n 1, 1) := by decide +kernel
theorem dX12_served_2 : decode cX12_served 2 = .ok (.iload_n 2, 1) := by decide +kernel
theorem dX12_served_3 : decode cX12_served 3 = .ok (.iconst 0, 1) := by decide +kernel
theorem dX12_served_4 : decode cX12_served 4 = .ok (.invokevirtual 264, 3) := by decide +kernel
theorem dX12_served_7 : decode cX12_served 7 = .ok (.ireturn, 1) := by decide +kernel
theorem dX12_closed_0 : decode cX12_closed 0 = .ok (.aload_n 0, 1) := by decide +kernel
theorem dX12_closed_1 : decode cX12_closed 1 = .ok (.iload_n 1, 1) := by decide +kernel
theorem dX12_closed_2 : decode cX12_closed 2 = .ok (.iload_n 2, 1) := by decide +kernel
theorem dX12_closed_3 : decode cX12_closed 3 = .ok (.iconst 1, 1) := by decide +kernel
theorem dX12_closed_4 : decode cX12_closed 4 = .ok (.invokevirtual 264, 3) := by decide +kernel
theorem dX12_closed_7 : decode cX12_closed 7 = .ok (.ireturn, 1) := by decide +kernel
theorem dX12_clashOf_0 : decode cX12_clashOf 0 = .ok (.iload_n 1, 1) := by decide +kernel
theorem dX12_clashOf_1 : decode cX12_clashOf 1 = .ok (.i2l, 1) := by decide +kernel
theorem dX12_clashOf_2 : decode cX12_clashOf 2 = .ok (.lconst 0, 1) := by decide +kernel
theorem dX12_clashOf_3 : decode cX12_clashOf 3 = .ok (.iconst 1, 1) := by decide +kernel
theorem dX12_clashOf_4 : decode cX12_clashOf 4 = .ok (.aload_n 0, 1) := by decide +kernel
theorem dX12_clashOf_5 : decode cX12_clashOf 5 = .ok (.getfield 7, 3) := by decide +kernel
theorem dX12_clashOf_8 : decode cX12_clashOf 8 = .ok (.iconst 0, 1) := by decide +kernel
theorem dX12_clashOf_9 : decode cX12_clashOf 9 = .ok (.iaload, 1) := by decide +kernel
theorem dX12_clashOf_10 : decode cX12_clashOf 10 = .ok (.ishl, 1) := by decide +kernel
theorem dX12_clashOf_11 : decode cX12_clashOf 11 = .ok (.iconst 1, 1) := by decide +kernel
theorem dX12_clashOf_12 : decode cX12_clashOf 12 = .ok (.isub, 1) := by decide +kernel
theorem dX12_clashOf_13 : decode cX12_clashOf 13 = .ok (.i2l, 1) := by decide +kernel
theorem dX12_clashOf_14 : decode cX12_clashOf 14 = .ok (.invokestatic 57, 3) := by decide +kernel
theorem dX12_clashOf_17 : decode cX12_clashOf 17 = .ok (.ifCond .ne 9, 3) := by decide +kernel
theorem dX12_clashOf_20 : decode cX12_clashOf 20 = .ok (.aload_n 0, 1) := by decide +kernel
theorem dX12_clashOf_21 : decode cX12_clashOf 21 = .ok (.iconst 1, 1) := by decide +kernel
theorem dX12_clashOf_22 : decode cX12_clashOf 22 = .ok (.invokevirtual 119, 3) := by decide +kernel
theorem dX12_clashOf_25 : decode cX12_clashOf 25 = .ok (.ireturn, 1) := by decide +kernel
theorem dX12_clashOf_26 : decode cX12_clashOf 26 = .ok (.iconst 0, 1) := by decide +kernel
theorem dX12_clashOf_27 : decode cX12_clashOf 27 = .ok (.istore_n 2, 1) := by decide +kernel
theorem dX12_clashOf_28 : decode cX12_clashOf 28 = .ok (.iload_n 2, 1) := by decide +kernel
theorem dX12_clashOf_29 : decode cX12_clashOf 29 = .ok (.aload_n 0, 1) := by decide +kernel
theorem dX12_clashOf_30 : decode cX12_clashOf 30 = .ok (.getfield 7, 3) := by decide +kernel
theorem dX12_clashOf_33 : decode cX12_clashOf 33 = .ok (.iconst 0, 1) := by decide +kernel
theorem dX12_clashOf_34 : decode cX12_clashOf 34 = .ok (.iaload, 1) := by decide +kernel
theorem dX12_clashOf_35 : decode cX12_clashOf 35 = .ok (.if_icmp .ge 68, 3) := by decide +kernel
theorem dX12_clashOf_38 : decode cX12_clashOf 38 = .ok (.iload_n 2, 1) := by decide +kernel
theorem dX12_clashOf_39 : decode cX12_clashOf 39 = .ok (.iconst 1, 1) := by decide +kernel
theorem dX12_clashOf_40 : decode cX12_clashOf 40 = .ok (.iadd, 1) := by decide +kernel
theorem dX12_clashOf_41 : decode cX12_clashOf 41 = .ok (.istore_n 3, 1) := by decide +kernel
theorem dX12_clashOf_42 : decode cX12_clashOf 42 = .ok (.iload_n 3, 1) := by decide +kernel
theorem dX12_clashOf_43 : decode cX12_clashOf 43 = .ok (.aload_n 0, 1) := by decide +kernel
theorem dX12_clashOf_44 : decode cX12_clashOf 44 = .ok (.getfield 7, 3) := by decide +kernel
theorem dX12_clashOf_47 : decode cX12_clashOf 47 = .ok (.iconst 0, 1) := by decide +kernel
theorem dX12_clashOf_48 : decode cX12_clashOf 48 = .ok (.iaload, 1) := by decide +kernel
theorem dX12_clashOf_49 : decode cX12_clashOf 49 = .ok (.if_icmp .ge 48, 3) := by decide +kernel
theorem dX12_clashOf_52 : decode cX12_clashOf 52 = .ok (.iload_n 1, 1) := by decide +kernel
theorem dX12_clashOf_53 : decode cX12_clashOf 53 = .ok (.iload_n 2, 1) := by decide +kernel
theorem dX12_clashOf_54 : decode cX12_clashOf 54 = .ok (.ishr, 1) := by decide +kernel
theorem dX12_clashOf_55 : decode cX12_clashOf 55 = .ok (.iconst 1, 1) := by decide +kernel
theorem dX12_clashOf_56 : decode cX12_clashOf 56 = .ok (.iand, 1) := by decide +kernel
theorem dX12_clashOf_57 : decode cX12_clashOf 57 = .ok (.iconst 1, 1) := by decide +kernel
theorem dX12_clashOf_58 : decode cX12_clashOf 58 = .ok (.if_icmp .ne 33, 3) := by decide +kernel
theorem dX12_clashOf_61 : decode cX12_clashOf 61 = .ok (.iload_n 1, 1) := by decide +kernel
theorem dX12_clashOf_62 : decode cX12_clashOf 62 = .ok (.iload_n 3, 1) := by decide +kernel
theorem dX12_clashOf_63 : decode cX12_clashOf 63 = .ok (.ishr, 1) := by decide +kernel
theorem dX12_clashOf_64 : decode cX12_clashOf 64 = .ok (.iconst 1, 1) := by decide +kernel
theorem dX12_clashOf_65 : decode cX12_clashOf 65 = .ok (.iand, 1) := by decide +kernel
theorem dX12_clashOf_66 : decode cX12_clashOf 66 = .ok (.iconst 1, 1) := by decide +kernel
theorem dX12_clashOf_67 : decode cX12_clashOf 67 = .ok (.if_icmp .ne 24, 3) := by decide +kernel
theorem dX12_clashOf_70 : decode cX12_clashOf 70 = .ok (.aload_n 0, 1) := by decide +kernel
theorem dX12_clashOf_71 : decode cX12_clashOf 71 = .ok (.iload_n 2, 1) := by decide +kernel
theorem dX12_clashOf_72 : decode cX12_clashOf 72 = .ok (.iconst 1, 1) := by decide +kernel
theorem dX12_clashOf_73 : decode cX12_clashOf 73 = .ok (.invokevirtual 144, 3) := by decide +kernel
theorem dX12_clashOf_76 : decode cX12_clashOf 76 = .ok (.iload_n 3, 1) := by decide +kernel
theorem dX12_clashOf_77 : decode cX12_clashOf 77 = .ok (.ishr, 1) := by decide +kernel
theorem dX12_clashOf_78 : decode cX12_clashOf 78 = .ok (.iconst 1, 1) := by decide +kernel
theorem dX12_clashOf_79 : decode cX12_clashOf 79 = .ok (.iand, 1) := by decide +kernel
theorem dX12_clashOf_80 : decode cX12_clashOf 80 = .ok (.iconst 1, 1) := by decide +kernel
theorem dX12_clashOf_81 : decode cX12_clashOf 81 = .ok (.if_icmp .ne 10, 3) := by decide +kernel
theorem dX12_clashOf_84 : decode cX12_clashOf 84 = .ok (.bipush 10, 2) := by decide +kernel
theorem dX12_clashOf_86 : decode cX12_clashOf 86 = .ok (.iload_n 2, 1) := by decide +kernel
theorem dX12_clashOf_87 : decode cX12_clashOf 87 = .ok (.imul, 1) := by decide +kernel
theorem dX12_clashOf_88 : decode cX12_clashOf 88 = .ok (.iload_n 3, 1) := by decide +kernel
theorem dX12_clashOf_89 : decode cX12_clashOf 89 = .ok (.iadd, 1) := by decide +kernel
theorem dX12_clashOf_90 : decode cX12_clashOf 90 = .ok (.ireturn, 1) := by decide +kernel
theorem dX12_clashOf_91 : decode cX12_clashOf 91 = .ok (.iinc 3 1, 3) := by decide +kernel
theorem dX12_clashOf_94 : decode cX12_clashOf 94 = .ok (.goto (-52), 3) := by decide +kernel
theorem dX12_clashOf_97 : decode cX12_clashOf 97 = .ok (.iinc 2 1, 3) := by decide +kernel
theorem dX12_clashOf_100 : decode cX12_clashOf 100 = .ok (.goto (-72), 3) := by decide +kernel
theorem dX12_clashOf_103 : decode cX12_clashOf 103 = .ok (.aload_n 0, 1) := by decide +kernel
theorem dX12_clashOf_104 : decode cX12_clashOf 104 = .ok (.iconst 2, 1) := by decide +kernel
theorem dX12_clashOf_105 : decode cX12_clashOf 105 = .ok (.invokevirtual 119, 3) := by decide +kernel
theorem dX12_clashOf_108 : decode cX12_clashOf 108 = .ok (.ireturn, 1) := by decide +kernel
theorem dX12_joined_0 : decode cX12_joined 0 = .ok (.aload_n 0, 1) := by decide +kernel
theorem dX12_joined_1 : decode cX12_joined 1 = .ok (.iload_n 1, 1) := by decide +kernel
theorem dX12_joined_2 : decode cX12_joined 2 = .ok (.invokevirtual 197, 3) := by decide +kernel
theorem dX12_joined_5 : decode cX12_joined 5 = .ok (.ifCond .eq 16, 3) := by decide +kernel
theorem dX12_joined_8 : decode cX12_joined 8 = .ok (.aload_n 0, 1) := by decide +kernel
theorem dX12_joined_9 : decode cX12_joined 9 = .ok (.iload_n 2, 1) := by decide +kernel
theorem dX12_joined_10 : decode cX12_joined 10 = .ok (.invokevirtual 197, 3) := by decide +kernel
theorem dX12_joined_13 : decode cX12_joined 13 = .ok (.ifCond .eq 8, 3) := by decide +kernel
theorem dX12_joined_16 : decode cX12_joined 16 = .ok (.iload_n 1, 1) := by decide +kernel
theorem dX12_joined_17 : decode cX12_joined 17 = .ok (.iload_n 2, 1) := by decide +kernel
theorem dX12_joined_18 : decode cX12_joined 18 = .ok (.if_icmp .ne 9, 3) := by decide +kernel
theorem dX12_joined_21 : decode cX12_joined 21 = .ok (.aload_n 0, 1) := by decide +kernel
theorem dX12_joined_22 : decode cX12_joined 22 = .ok (.iconst 1, 1) := by decide +kernel
theorem dX12_joined_23 : decode cX12_joined 23 = .ok (.invokevirtual 119, 3) := by decide +kernel
theorem dX12_joined_26 : decode cX12_joined 26 = .ok (.ireturn, 1) := by decide +kernel
theorem dX12_joined_27 : decode cX12_joined 27 = .ok (.aload_n 0, 1) := by decide +kernel
theorem dX12_joined_28 : decode cX12_joined 28 = .ok (.iload_n 1, 1) := by decide +kernel
theorem dX12_joined_29 : decode cX12_joined 29 = .ok (.invokevirtual 153, 3) := by decide +kernel
theorem dX12_joined_32 : decode cX12_joined 32 = .ok (.istore_n 3, 1) := by decide +kernel
theorem dX12_joined_33 : decode cX12_joined 33 = .ok (.aload_n 0, 1) := by decide +kernel
theorem dX12_joined_34 : decode cX12_joined 34 = .ok (.iload_n 2, 1) := by decide +kernel
theorem dX12_joined_35 : decode cX12_joined 35 = .ok (.invokevirtual 153, 3) := by decide +kernel
theorem dX12_joined_38 : decode cX12_joined 38 = .ok (.istore 4, 2) := by decide +kernel
theorem dX12_joined_40 : decode cX12_joined 40 = .ok (.iconst 0, 1) := by decide +kernel
theorem dX12_joined_41 : decode cX12_joined 41 = .ok (.istore 5, 2) := by decide +kernel
theorem dX12_joined_43 : decode cX12_joined 43 = .ok (.iload 5, 2) := by decide +kernel
theorem dX12_joined_45 : decode cX12_joined 45 = .ok (.aload_n 0, 1) := by decide +kernel
theorem dX12_joined_46 : decode cX12_joined 46 = .ok (.getfield 7, 3) := by decide +kernel
theorem dX12_joined_49 : decode cX12_joined 49 = .ok (.iconst 0, 1) := by decide +kernel
theorem dX12_joined_50 : decode cX12_joined 50 = .ok (.iaload, 1) := by decide +kernel
theorem dX12_joined_51 : decode cX12_joined 51 = .ok (.if_icmp .ge 38, 3) := by decide +kernel
theorem dX12_joined_54 : decode cX12_joined 54 = .ok (.iload_n 3, 1) := by decide +kernel
theorem dX12_joined_55 : decode cX12_joined 55 = .ok (.iload 5, 2) := by decide +kernel
theorem dX12_joined_57 : decode cX12_joined 57 = .ok (.ishr, 1) := by decide +kernel
theorem dX12_joined_58 : decode cX12_joined 58 = .ok (.iconst 1, 1) := by decide +kernel
theorem dX12_joined_59 : decode cX12_joined 59 = .ok (.iand, 1) := by decide +kernel
theorem dX12_joined_60 : decode cX12_joined 60 = .ok (.iconst 1, 1) := by decide +kernel
theorem dX12_joined_61 : decode cX12_joined 61 = .ok (.if_icmp .ne 22, 3) := by decide +kernel
theorem dX12_joined_64 : decode cX12_joined 64 = .ok (.aload_n 0, 1) := by decide +kernel
theorem dX12_joined_65 : decode cX12_joined 65 = .ok (.iload 5, 2) := by decide +kernel
theorem dX12_joined_67 : decode cX12_joined 67 = .ok (.iconst 1, 1) := by decide +kernel
theorem dX12_joined_68 : decode cX12_joined 68 = .ok (.invokevirtual 144, 3) := by decide +kernel
theorem dX12_joined_71 : decode cX12_joined 71 = .ok (.iload 4, 2) := by decide +kernel
theorem dX12_joined_73 : decode cX12_joined 73 = .ok (.iand, 1) := by decide +kernel
theorem dX12_joined_74 : decode cX12_joined 74 = .ok (.ifCond .eq 9, 3) := by decide +kernel
theorem dX12_joined_77 : decode cX12_joined 77 = .ok (.aload_n 0, 1) := by decide +kernel
theorem dX12_joined_78 : decode cX12_joined 78 = .ok (.iconst 2, 1) := by decide +kernel
theorem dX12_joined_79 : decode cX12_joined 79 = .ok (.invokevirtual 119, 3) := by decide +kernel
theorem dX12_joined_82 : decode cX12_joined 82 = .ok (.ireturn, 1) := by decide +kernel
theorem dX12_joined_83 : decode cX12_joined 83 = .ok (.iinc 5 1, 3) := by decide +kernel
theorem dX12_joined_86 : decode cX12_joined 86 = .ok (.goto (-43), 3) := by decide +kernel
theorem dX12_joined_89 : decode cX12_joined 89 = .ok (.iload_n 3, 1) := by decide +kernel
theorem dX12_joined_90 : decode cX12_joined 90 = .ok (.iload 4, 2) := by decide +kernel
theorem dX12_joined_92 : decode cX12_joined 92 = .ok (.ior, 1) := by decide +kernel
theorem dX12_joined_93 : decode cX12_joined 93 = .ok (.ireturn, 1) := by decide +kernel
theorem dX12_ratedBy_0 : decode cX12_ratedBy 0 = .ok (.aload_n 0, 1) := by decide +kernel
theorem dX12_ratedBy_1 : decode cX12_ratedBy 1 = .ok (.iload_n 1, 1) := by decide +kernel
theorem dX12_ratedBy_2 : decode cX12_ratedBy 2 = .ok (.putfield 25, 3) := by decide +kernel
theorem dX12_ratedBy_5 : decode cX12_ratedBy 5 = .ok (.aload_n 0, 1) := by decide +kernel
theorem dX12_ratedBy_6 : decode cX12_ratedBy 6 = .ok (.iload_n 2, 1) := by decide +kernel
theorem dX12_ratedBy_7 : decode cX12_ratedBy 7 = .ok (.putfield 168, 3) := by decide +kernel
theorem dX12_ratedBy_10 : decode cX12_ratedBy 10 = .ok (.aload_n 0, 1) := by decide +kernel
theorem dX12_ratedBy_11 : decode cX12_ratedBy 11 = .ok (.invokevirtual 243, 3) := by decide +kernel
theorem dX12_ratedBy_14 : decode cX12_ratedBy 14 = .ok (.iconst 0, 1) := by decide +kernel
theorem dX12_ratedBy_15 : decode cX12_ratedBy 15 = .ok (.istore_n 3, 1) := by decide +kernel
theorem dX12_ratedBy_16 : decode cX12_ratedBy 16 = .ok (.iload_n 3, 1) := by decide +kernel
theorem dX12_ratedBy_17 : decode cX12_ratedBy 17 = .ok (.bipush 60, 2) := by decide +kernel
theorem dX12_ratedBy_19 : decode cX12_ratedBy 19 = .ok (.if_icmp .gt 22, 3) := by decide +kernel
theorem dX12_ratedBy_22 : decode cX12_ratedBy 22 = .ok (.aload_n 0, 1) := by decide +kernel
theorem dX12_ratedBy_23 : decode cX12_ratedBy 23 = .ok (.iload_n 1, 1) := by decide +kernel
theorem dX12_ratedBy_24 : decode cX12_ratedBy 24 = .ok (.iconst 2, 1) := by decide +kernel
theorem dX12_ratedBy_25 : decode cX12_ratedBy 25 = .ok (.invokevirtual 150, 3) := by decide +kernel
theorem dX12_ratedBy_28 : decode cX12_ratedBy 28 = .ok (.ifCond .le 13, 3) := by decide +kernel
theorem dX12_ratedBy_31 : decode cX12_ratedBy 31 = .ok (.aload_n 0, 1) := by decide +kernel
theorem dX12_ratedBy_32 : decode cX12_ratedBy 32 = .ok (.invokevirtual 229, 3) := by decide +kernel
theorem dX12_ratedBy_35 : decode cX12_ratedBy 35 = .ok (.iinc 3 1, 3) := by decide +kernel
theorem dX12_ratedBy_38 : decode cX12_ratedBy 38 = .ok (.goto (-22), 3) := by decide +kernel
theorem dX12_ratedBy_41 : decode cX12_ratedBy 41 = .ok (.aload_n 0, 1) := by decide +kernel
theorem dX12_ratedBy_42 : decode cX12_ratedBy 42 = .ok (.invokevirtual 246, 3) := by decide +kernel
theorem dX12_ratedBy_45 : decode cX12_ratedBy 45 = .ok (.aload_n 0, 1) := by decide +kernel
theorem dX12_ratedBy_46 : decode cX12_ratedBy 46 = .ok (.iconst (-1), 1) := by decide +kernel
theorem dX12_ratedBy_47 : decode cX12_ratedBy 47 = .ok (.putfield 25, 3) := by decide +kernel
theorem dX12_ratedBy_50 : decode cX12_ratedBy 50 = .ok (.iload_n 3, 1) := by decide +kernel
theorem dX12_ratedBy_51 : decode cX12_ratedBy 51 = .ok (.bipush 60, 2) := by decide +kernel
theorem dX12_ratedBy_53 : decode cX12_ratedBy 53 = .ok (.if_icmp .le 7, 3) := by decide +kernel
theorem dX12_ratedBy_56 : decode cX12_ratedBy 56 = .ok (.iconst (-1), 1) := by decide +kernel
theorem dX12_ratedBy_57 : decode cX12_ratedBy 57 = .ok (.goto 4, 3) := by decide +kernel
theorem dX12_ratedBy_60 : decode cX12_ratedBy 60 = .ok (.iload_n 3, 1) := by decide +kernel
theorem dX12_ratedBy_61 : decode cX12_ratedBy 61 = .ok (.ireturn, 1) := by decide +kernel
theorem dX12_rated_0 : decode cX12_rated 0 = .ok (.aload_n 0, 1) := by decide +kernel
theorem dX12_rated_1 : decode cX12_rated 1 = .ok (.iload_n 1, 1) := by decide +kernel
theorem dX12_rated_2 : decode cX12_rated 2 = .ok (.invokevirtual 197, 3) := by decide +kernel
theorem dX12_rated_5 : decode cX12_rated 5 = .ok (.ifCond .eq 25, 3) := by decide +kernel
theorem dX12_rated_8 : decode cX12_rated 8 = .ok (.iload_n 2, 1) := by decide +kernel
theorem dX12_rated_9 : decode cX12_rated 9 = .ok (.i2l, 1) := by decide +kernel
theorem dX12_rated_10 : decode cX12_rated 10 = .ok (.lconst 1, 1) := by decide +kernel
theorem dX12_rated_11 : decode cX12_rated 11 = .ok (.ldc2_w 268, 3) := by decide +kernel
theorem dX12_rated_14 : decode cX12_rated 14 = .ok (.invokestatic 57, 3) := by decide +kernel
theorem dX12_rated_17 : decode cX12_rated 17 = .ok (.ifCond .eq 13, 3) := by decide +kernel
theorem dX12_rated_20 : decode cX12_rated 20 = .ok (.iload_n 3, 1) := by decide +kernel
theorem dX12_rated_21 : decode cX12_rated 21 = .ok (.i2l, 1) := by decide +kernel
theorem dX12_rated_22 : decode cX12_rated 22 = .ok (.lconst 0, 1) := by decide +kernel
theorem dX12_rated_23 : decode cX12_rated 23 = .ok (.lconst 1, 1) := by decide +kernel
theorem dX12_rated_24 : decode cX12_rated 24 = .ok (.invokestatic 57, 3) := by decide +kernel
theorem dX12_rated_27 : decode cX12_rated 27 = .ok (.ifCond .ne 9, 3) := by decide +kernel
theorem dX12_rated_30 : decode cX12_rated 30 = .ok (.aload_n 0, 1) := by decide +kernel
theorem dX12_rated_31 : decode cX12_rated 31 = .ok (.iconst 1, 1) := by decide +kernel
theorem dX12_rated_32 : decode cX12_rated 32 = .ok (.invokevirtual 119, 3) := by decide +kernel
theorem dX12_rated_35 : decode cX12_rated 35 = .ok (.ireturn, 1) := by decide +kernel
theorem dX12_rated_36 : decode cX12_rated 36 = .ok (.iload_n 3, 1) := by decide +kernel
theorem dX12_rated_37 : decode cX12_rated 37 = .ok (.ifCond .ne 27, 3) := by decide +kernel
theorem dX12_rated_40 : decode cX12_rated 40 = .ok (.aload_n 0, 1) := by decide +kernel
theorem dX12_rated_41 : decode cX12_rated 41 = .ok (.iload_n 1, 1) := by decide +kernel
theorem dX12_rated_42 : decode cX12_rated 42 = .ok (.iload_n 2, 1) := by decide +kernel
theorem dX12_rated_43 : decode cX12_rated 43 = .ok (.invokevirtual 270, 3) := by decide +kernel
theorem dX12_rated_46 : decode cX12_rated 46 = .ok (.istore 4, 2) := by decide +kernel
theorem dX12_rated_48 : decode cX12_rated 48 = .ok (.iload 4, 2) := by decide +kernel
theorem dX12_rated_50 : decode cX12_rated 50 = .ok (.ifCond .ge 11, 3) := by decide +kernel
theorem dX12_rated_53 : decode cX12_rated 53 = .ok (.aload_n 0, 1) := by decide +kernel
theorem dX12_rated_54 : decode cX12_rated 54 = .ok (.iconst 2, 1) := by decide +kernel
theorem dX12_rated_55 : decode cX12_rated 55 = .ok (.invokevirtual 119, 3) := by decide +kernel
theorem dX12_rated_58 : decode cX12_rated 58 = .ok (.goto 5, 3) := by decide +kernel
theorem dX12_rated_61 : decode cX12_rated 61 = .ok (.iload 4, 2) := by decide +kernel
theorem dX12_rated_63 : decode cX12_rated 63 = .ok (.ireturn, 1) := by decide +kernel
theorem dX12_rated_64 : decode cX12_rated 64 = .ok (.iconst (-1), 1) := by decide +kernel
theorem dX12_rated_65 : decode cX12_rated 65 = .ok (.istore 4, 2) := by decide +kernel
theorem dX12_rated_67 : decode cX12_rated 67 = .ok (.iconst 0, 1) := by decide +kernel
theorem dX12_rated_68 : decode cX12_rated 68 = .ok (.istore 5, 2) := by decide +kernel
theorem dX12_rated_70 : decode cX12_rated 70 = .ok (.iconst 1, 1) := by decide +kernel
theorem dX12_rated_71 : decode cX12_rated 71 = .ok (.istore 6, 2) := by decide +kernel
theorem dX12_rated_73 : decode cX12_rated 73 = .ok (.iload 6, 2) := by decide +kernel
theorem dX12_rated_75 : decode cX12_rated 75 = .ok (.iconst 4, 1) := by decide +kernel
theorem dX12_rated_76 : decode cX12_rated 76 = .ok (.if_icmp .gt 43, 3) := by decide +kernel
theorem dX12_rated_79 : decode cX12_rated 79 = .ok (.aload_n 0, 1) := by decide +kernel
theorem dX12_rated_80 : decode cX12_rated 80 = .ok (.iload_n 1, 1) := by decide +kernel
theorem dX12_rated_81 : decode cX12_rated 81 = .ok (.iload 6, 2) := by decide +kernel
theorem dX12_rated_83 : decode cX12_rated 83 = .ok (.invokevirtual 270, 3) := by decide +kernel
theorem dX12_rated_86 : decode cX12_rated 86 = .ok (.istore 7, 2) := by decide +kernel
theorem dX12_rated_88 : decode cX12_rated 88 = .ok (.iload 7, 2) := by decide +kernel
theorem dX12_rated_90 : decode cX12_rated 90 = .ok (.ifCond .lt 23, 3) := by decide +kernel
theorem dX12_rated_93 : decode cX12_rated 93 = .ok (.iload 4, 2) := by decide +kernel
theorem dX12_rated_95 : decode cX12_rated 95 = .ok (.ifCond .lt 10, 3) := by decide +kernel
theorem dX12_rated_98 : decode cX12_rated 98 = .ok (.iload 7, 2) := by decide +kernel
theorem dX12_rated_100 : decode cX12_rated 100 = .ok (.iload 5, 2) := by decide +kernel
theorem dX12_rated_102 : decode cX12_rated 102 = .ok (.if_icmp .ge 11, 3) := by decide +kernel
theorem dX12_rated_105 : decode cX12_rated 105 = .ok (.iload 6, 2) := by decide +kernel
theorem dX12_rated_107 : decode cX12_rated 107 = .ok (.istore 4, 2) := by decide +kernel
theorem dX12_rated_109 : decode cX12_rated 109 = .ok (.iload 7, 2) := by decide +kernel
theorem dX12_rated_111 : decode cX12_rated 111 = .ok (.istore 5, 2) := by decide +kernel
theorem dX12_rated_113 : decode cX12_rated 113 = .ok (.iinc 6 1, 3) := by decide +kernel
theorem dX12_rated_116 : decode cX12_rated 116 = .ok (.goto (-43), 3) := by decide +kernel
theorem dX12_rated_119 : decode cX12_rated 119 = .ok (.iload 4, 2) := by decide +kernel
theorem dX12_rated_121 : decode cX12_rated 121 = .ok (.ifCond .ge 11, 3) := by decide +kernel
theorem dX12_rated_124 : decode cX12_rated 124 = .ok (.aload_n 0, 1) := by decide +kernel
theorem dX12_rated_125 : decode cX12_rated 125 = .ok (.iconst 2, 1) := by decide +kernel
theorem dX12_rated_126 : decode cX12_rated 126 = .ok (.invokevirtual 119, 3) := by decide +kernel
theorem dX12_rated_129 : decode cX12_rated 129 = .ok (.goto 5, 3) := by decide +kernel
theorem dX12_rated_132 : decode cX12_rated 132 = .ok (.iload 4, 2) := by decide +kernel
theorem dX12_rated_134 : decode cX12_rated 134 = .ok (.ireturn, 1) := by decide +kernel
theorem dX12_begins_0 : decode cX12_begins 0 = .ok (.aload_n 0, 1) := by decide +kernel
theorem dX12_begins_1 : decode cX12_begins 1 = .ok (.invokevirtual 243, 3) := by decide +kernel
theorem dX12_begins_4 : decode cX12_begins 4 = .ok (.aload_n 0, 1) := by decide +kernel
theorem dX12_begins_5 : decode cX12_begins 5 = .ok (.iload_n 1, 1) := by decide +kernel
theorem dX12_begins_6 : decode cX12_begins 6 = .ok (.iconst 4, 1) := by decide +kernel
theorem dX12_begins_7 : decode cX12_begins 7 = .ok (.invokevirtual 150, 3) := by decide +kernel
theorem dX12_begins_10 : decode cX12_begins 10 = .ok (.istore_n 3, 1) := by decide +kernel
theorem dX12_begins_11 : decode cX12_begins 11 = .ok (.iconst 0, 1) := by decide +kernel
theorem dX12_begins_12 : decode cX12_begins 12 = .ok (.istore 4, 2) := by decide +kernel
theorem dX12_begins_14 : decode cX12_begins 14 = .ok (.iload 4, 2) := by decide +kernel
theorem dX12_begins_16 : decode cX12_begins 16 = .ok (.bipush 60, 2) := by decide +kernel
theorem dX12_begins_18 : decode cX12_begins 18 = .ok (.if_icmp .ge 13, 3) := by decide +kernel
theorem dX12_begins_21 : decode cX12_begins 21 = .ok (.aload_n 0, 1) := by decide +kernel
theorem dX12_begins_22 : decode cX12_begins 22 = .ok (.invokevirtual 229, 3) := by decide +kernel
theorem dX12_begins_25 : decode cX12_begins 25 = .ok (.iinc 4 1, 3) := by decide +kernel
theorem dX12_begins_28 : decode cX12_begins 28 = .ok (.goto (-14), 3) := by decide +kernel
theorem dX12_begins_31 : decode cX12_begins 31 = .ok (.aload_n 0, 1) := by decide +kernel
theorem dX12_begins_32 : decode cX12_begins 32 = .ok (.iload_n 1, 1) := by decide +kernel
theorem dX12_begins_33 : decode cX12_begins 33 = .ok (.iconst 4, 1) := by decide +kernel
theorem dX12_begins_34 : decode cX12_begins 34 = .ok (.invokevirtual 150, 3) := by decide +kernel
theorem dX12_begins_37 : decode cX12_begins 37 = .ok (.iload_n 3, 1) := by decide +kernel
theorem dX12_begins_38 : decode cX12_begins 38 = .ok (.isub, 1) := by decide +kernel
theorem dX12_begins_39 : decode cX12_begins 39 = .ok (.aload_n 0, 1) := by decide +kernel
theorem dX12_begins_40 : decode cX12_begins 40 = .ok (.getfield 47, 3) := by decide +kernel
theorem dX12_begins_43 : decode cX12_begins 43 = .ok (.iload_n 2, 1) := by decide +kernel
theorem dX12_begins_44 : decode cX12_begins 44 = .ok (.iaload, 1) := by decide +kernel
theorem dX12_begins_45 : decode cX12_begins 45 = .ok (.if_icmp .lt 7, 3) := by decide +kernel
theorem dX12_begins_48 : decode cX12_begins 48 = .ok (.iconst 1, 1) := by decide +kernel
theorem dX12_begins_49 : decode cX12_begins 49 = .ok (.goto 4, 3) := by decide +kernel
theorem dX12_begins_52 : decode cX12_begins 52 = .ok (.iconst 0, 1) := by decide +kernel
theorem dX12_begins_53 : decode cX12_begins 53 = .ok (.istore 4, 2) := by decide +kernel
theorem dX12_begins_55 : decode cX12_begins 55 = .ok (.iconst 0, 1) := by decide +kernel
theorem dX12_begins_56 : decode cX12_begins 56 = .ok (.istore 5, 2) := by decide +kernel
theorem dX12_begins_58 : decode cX12_begins 58 = .ok (.iload 5, 2) := by decide +kernel
theorem dX12_begins_60 : decode cX12_begins 60 = .ok (.aload_n 0, 1) := by decide +kernel
theorem dX12_begins_61 : decode cX12_begins 61 = .ok (.getfield 47, 3) := by decide +kernel
theorem dX12_begins_64 : decode cX12_begins 64 = .ok (.iload_n 2, 1) := by decide +kernel
theorem dX12_begins_65 : decode cX12_begins 65 = .ok (.iaload, 1) := by decide +kernel
theorem dX12_begins_66 : decode cX12_begins 66 = .ok (.if_icmp .ge 47, 3) := by decide +kernel
theorem dX12_begins_69 : decode cX12_begins 69 = .ok (.iload 4, 2) := by decide +kernel
theorem dX12_begins_71 : decode cX12_begins 71 = .ok (.ifCond .eq 42, 3) := by decide +kernel
theorem dX12_begins_74 : decode cX12_begins 74 = .ok (.aload_n 0, 1) := by decide +kernel
theorem dX12_begins_75 : decode cX12_begins 75 = .ok (.iload_n 1, 1) := by decide +kernel
theorem dX12_begins_76 : decode cX12_begins 76 = .ok (.iconst 5, 1) := by decide +kernel
theorem dX12_begins_77 : decode cX12_begins 77 = .ok (.iload_n 3, 1) := by decide +kernel
theorem dX12_begins_78 : decode cX12_begins 78 = .ok (.iadd, 1) := by decide +kernel
theorem dX12_begins_79 : decode cX12_begins 79 = .ok (.iload 5, 2) := by decide +kernel
theorem dX12_begins_81 : decode cX12_begins 81 = .ok (.iadd, 1) := by decide +kernel
theorem dX12_begins_82 : decode cX12_begins 82 = .ok (.invokevirtual 150, 3) := by decide +kernel
theorem dX12_begins_85 : decode cX12_begins 85 = .ok (.aload_n 0, 1) := by decide +kernel
theorem dX12_begins_86 : decode cX12_begins 86 = .ok (.getfield 50, 3) := by decide +kernel
theorem dX12_begins_89 : decode cX12_begins 89 = .ok (.bipush 40, 2) := by decide +kernel
theorem dX12_begins_91 : decode cX12_begins 91 = .ok (.iload_n 2, 1) := by decide +kernel
theorem dX12_begins_92 : decode cX12_begins 92 = .ok (.imul, 1) := by decide +kernel
theorem dX12_begins_93 : decode cX12_begins 93 = .ok (.iload 5, 2) := by decide +kernel
theorem dX12_begins_95 : decode cX12_begins 95 = .ok (.iadd, 1) := by decide +kernel
theorem dX12_begins_96 : decode cX12_begins 96 = .ok (.iaload, 1) := by decide +kernel
theorem dX12_begins_97 : decode cX12_begins 97 = .ok (.if_icmp .ne 7, 3) := by decide +kernel
theorem dX12_begins_100 : decode cX12_begins 100 = .ok (.iconst 1, 1) := by decide +kernel
theorem dX12_begins_101 : decode cX12_begins 101 = .ok (.goto 4, 3) := by decide +kernel
theorem dX12_begins_104 : decode cX12_begins 104 = .ok (.iconst 0, 1) := by decide +kernel
theorem dX12_begins_105 : decode cX12_begins 105 = .ok (.istore 4, 2) := by decide +kernel
theorem dX12_begins_107 : decode cX12_begins 107 = .ok (.iinc 5 1, 3) := by decide +kernel
theorem dX12_begins_110 : decode cX12_begins 110 = .ok (.goto (-52), 3) := by decide +kernel
theorem dX12_begins_113 : decode cX12_begins 113 = .ok (.aload_n 0, 1) := by decide +kernel
theorem dX12_begins_114 : decode cX12_begins 114 = .ok (.invokevirtual 246, 3) := by decide +kernel
theorem dX12_begins_117 : decode cX12_begins 117 = .ok (.iload 4, 2) := by decide +kernel
theorem dX12_begins_119 : decode cX12_begins 119 = .ok (.ireturn, 1) := by decide +kernel
theorem dX12_explained_0 : decode cX12_explained 0 = .ok (.aload_n 0, 1) := by decide +kernel
theorem dX12_explained_1 : decode cX12_explained 1 = .ok (.iload_n 1, 1) := by decide +kernel
theorem dX12_explained_2 : decode cX12_explained 2 = .ok (.invokevirtual 197, 3) := by decide +kernel
theorem dX12_explained_5 : decode cX12_explained 5 = .ok (.ifCond .eq 10, 3) := by decide +kernel
theorem dX12_explained_8 : decode cX12_explained 8 = .ok (.iload_n 2, 1) := by decide +kernel
theorem dX12_explained_9 : decode cX12_explained 9 = .ok (.invokestatic 273, 3) := by decide +kernel
theorem dX12_explained_12 : decode cX12_explained 12 = .ok (.ifCond .ne 9, 3) := by decide +kernel
theorem dX12_explained_15 : decode cX12_explained 15 = .ok (.aload_n 0, 1) := by decide +kernel
theorem dX12_explained_16 : decode cX12_explained 16 = .ok (.iconst 1, 1) := by decide +kernel
theorem dX12_explained_17 : decode cX12_explained 17 = .ok (.invokevirtual 119, 3) := by decide +kernel
theorem dX12_explained_20 : decode cX12_explained 20 = .ok (.ireturn, 1) := by decide +kernel
theorem dX12_explained_21 : decode cX12_explained 21 = .ok (.aload_n 0, 1) := by decide +kernel
theorem dX12_explained_22 : decode cX12_explained 22 = .ok (.getfield 44, 3) := by decide +kernel
theorem dX12_explained_25 : decode cX12_explained 25 = .ok (.iload_n 2, 1) := by decide +kernel
theorem dX12_explained_26 : decode cX12_explained 26 = .ok (.iaload, 1) := by decide +kernel
theorem dX12_explained_27 : decode cX12_explained 27 = .ok (.ifCond .ne 9, 3) := by decide +kernel
theorem dX12_explained_30 : decode cX12_explained 30 = .ok (.aload_n 0, 1) := by decide +kernel
theorem dX12_explained_31 : decode cX12_explained 31 = .ok (.iconst 2, 1) := by decide +kernel
theorem dX12_explained_32 : decode cX12_explained 32 = .ok (.invokevirtual 119, 3) := by decide +kernel
theorem dX12_explained_35 : decode cX12_explained 35 = .ok (.ireturn, 1) := by decide +kernel
theorem dX12_explained_36 : decode cX12_explained 36 = .ok (.aload_n 0, 1) := by decide +kernel
theorem dX12_explained_37 : decode cX12_explained 37 = .ok (.iload_n 1, 1) := by decide +kernel
theorem dX12_explained_38 : decode cX12_explained 38 = .ok (.iconst 0, 1) := by decide +kernel
theorem dX12_explained_39 : decode cX12_explained 39 = .ok (.invokevirtual 150, 3) := by decide +kernel
theorem dX12_explained_42 : decode cX12_explained 42 = .ok (.istore_n 3, 1) := by decide +kernel
theorem dX12_explained_43 : decode cX12_explained 43 = .ok (.iconst (-1), 1) := by decide +kernel
theorem dX12_explained_44 : decode cX12_explained 44 = .ok (.istore 4, 2) := by decide +kernel
theorem dX12_explained_46 : decode cX12_explained 46 = .ok (.iconst 0, 1) := by decide +kernel
theorem dX12_explained_47 : decode cX12_explained 47 = .ok (.istore 5, 2) := by decide +kernel
theorem dX12_explained_49 : decode cX12_explained 49 = .ok (.iload 5, 2) := by decide +kernel
theorem dX12_explained_51 : decode cX12_explained 51 = .ok (.bipush 6, 2) := by decide +kernel
theorem dX12_explained_53 : decode cX12_explained 53 = .ok (.if_icmp .gt 39, 3) := by decide +kernel
theorem dX12_explained_56 : decode cX12_explained 56 = .ok (.iload 4, 2) := by decide +kernel
theorem dX12_explained_58 : decode cX12_explained 58 = .ok (.ifCond .ge 34, 3) := by decide +kernel
theorem dX12_explained_61 : decode cX12_explained 61 = .ok (.aload_n 0, 1) := by decide +kernel
theorem dX12_explained_62 : decode cX12_explained 62 = .ok (.iload_n 1, 1) := by decide +kernel
theorem dX12_explained_63 : decode cX12_explained 63 = .ok (.iconst 0, 1) := by decide +kernel
theorem dX12_explained_64 : decode cX12_explained 64 = .ok (.iload 5, 2) := by decide +kernel
theorem dX12_explained_66 : decode cX12_explained 66 = .ok (.invokevirtual 174, 3) := by decide +kernel
theorem dX12_explained_69 : decode cX12_explained 69 = .ok (.aload_n 0, 1) := by decide +kernel
theorem dX12_explained_70 : decode cX12_explained 70 = .ok (.iload_n 1, 1) := by decide +kernel
theorem dX12_explained_71 : decode cX12_explained 71 = .ok (.iload_n 2, 1) := by decide +kernel
theorem dX12_explained_72 : decode cX12_explained 72 = .ok (.invokevirtual 276, 3) := by decide +kernel
theorem dX12_explained_75 : decode cX12_explained 75 = .ok (.ifCond .eq 8, 3) := by decide +kernel
theorem dX12_explained_78 : decode cX12_explained 78 = .ok (.iload 5, 2) := by decide +kernel
theorem dX12_explained_80 : decode cX12_explained 80 = .ok (.goto 4, 3) := by decide +kernel
theorem dX12_explained_83 : decode cX12_explained 83 = .ok (.iconst (-1), 1) := by decide +kernel
theorem dX12_explained_84 : decode cX12_explained 84 = .ok (.istore 4, 2) := by decide +kernel
theorem dX12_explained_86 : decode cX12_explained 86 = .ok (.iinc 5 1, 3) := by decide +kernel
theorem dX12_explained_89 : decode cX12_explained 89 = .ok (.goto (-40), 3) := by decide +kernel
theorem dX12_explained_92 : decode cX12_explained 92 = .ok (.aload_n 0, 1) := by decide +kernel
theorem dX12_explained_93 : decode cX12_explained 93 = .ok (.iload_n 1, 1) := by decide +kernel
theorem dX12_explained_94 : decode cX12_explained 94 = .ok (.iconst 0, 1) := by decide +kernel
theorem dX12_explained_95 : decode cX12_explained 95 = .ok (.iload_n 3, 1) := by decide +kernel
theorem dX12_explained_96 : decode cX12_explained 96 = .ok (.invokevirtual 174, 3) := by decide +kernel
theorem dX12_explained_99 : decode cX12_explained 99 = .ok (.iload 4, 2) := by decide +kernel
theorem dX12_explained_101 : decode cX12_explained 101 = .ok (.ifCond .ge 11, 3) := by decide +kernel
theorem dX12_explained_104 : decode cX12_explained 104 = .ok (.aload_n 0, 1) := by decide +kernel
theorem dX12_explained_105 : decode cX12_explained 105 = .ok (.iconst 2, 1) := by decide +kernel
theorem dX12_explained_106 : decode cX12_explained 106 = .ok (.invokevirtual 119, 3) := by decide +kernel
theorem dX12_explained_109 : decode cX12_explained 109 = .ok (.goto 5, 3) := by decide +kernel
theorem dX12_explained_112 : decode cX12_explained 112 = .ok (.iload 4, 2) := by decide +kernel
theorem dX12_explained_114 : decode cX12_explained 114 = .ok (.ireturn, 1) := by decide +kernel
theorem dX12_meeting_0 : decode cX12_meeting 0 = .ok (.iload_n 1, 1) := by decide +kernel
theorem dX12_meeting_1 : decode cX12_meeting 1 = .ok (.i2l, 1) := by decide +kernel
theorem dX12_meeting_2 : decode cX12_meeting 2 = .ok (.lconst 0, 1) := by decide +kernel
theorem dX12_meeting_3 : decode cX12_meeting 3 = .ok (.ldc2_w 208, 3) := by decide +kernel
theorem dX12_meeting_6 : decode cX12_meeting 6 = .ok (.invokestatic 57, 3) := by decide +kernel
theorem dX12_meeting_9 : decode cX12_meeting 9 = .ok (.ifCond .eq 32, 3) := by decide +kernel
theorem dX12_meeting_12 : decode cX12_meeting 12 = .ok (.iload_n 2, 1) := by decide +kernel
theorem dX12_meeting_13 : decode cX12_meeting 13 = .ok (.i2l, 1) := by decide +kernel
theorem dX12_meeting_14 : decode cX12_meeting 14 = .ok (.lconst 0, 1) := by decide +kernel
theorem dX12_meeting_15 : decode cX12_meeting 15 = .ok (.ldc2_w 268, 3) := by decide +kernel
theorem dX12_meeting_18 : decode cX12_meeting 18 = .ok (.invokestatic 57, 3) := by decide +kernel
theorem dX12_meeting_21 : decode cX12_meeting 21 = .ok (.ifCond .eq 20, 3) := by decide +kernel
theorem dX12_meeting_24 : decode cX12_meeting 24 = .ok (.iload_n 3, 1) := by decide +kernel
theorem dX12_meeting_25 : decode cX12_meeting 25 = .ok (.i2l, 1) := by decide +kernel
theorem dX12_meeting_26 : decode cX12_meeting 26 = .ok (.lconst 0, 1) := by decide +kernel
theorem dX12_meeting_27 : decode cX12_meeting 27 = .ok (.ldc2_w 268, 3) := by decide +kernel
theorem dX12_meeting_30 : decode cX12_meeting 30 = .ok (.invokestatic 57, 3) := by decide +kernel
theorem dX12_meeting_33 : decode cX12_meeting 33 = .ok (.ifCond .eq 8, 3) := by decide +kernel
theorem dX12_meeting_36 : decode cX12_meeting 36 = .ok (.iload_n 2, 1) := by decide +kernel
theorem dX12_meeting_37 : decode cX12_meeting 37 = .ok (.iload_n 3, 1) := by decide +kernel
theorem dX12_meeting_38 : decode cX12_meeting 38 = .ok (.if_icmp .ne 9, 3) := by decide +kernel
theorem dX12_meeting_41 : decode cX12_meeting 41 = .ok (.aload_n 0, 1) := by decide +kernel
theorem dX12_meeting_42 : decode cX12_meeting 42 = .ok (.iconst 1, 1) := by decide +kernel
theorem dX12_meeting_43 : decode cX12_meeting 43 = .ok (.invokevirtual 119, 3) := by decide +kernel
theorem dX12_meeting_46 : decode cX12_meeting 46 = .ok (.ireturn, 1) := by decide +kernel
theorem dX12_meeting_47 : decode cX12_meeting 47 = .ok (.aload_n 0, 1) := by decide +kernel
theorem dX12_meeting_48 : decode cX12_meeting 48 = .ok (.getfield 7, 3) := by decide +kernel
theorem dX12_meeting_51 : decode cX12_meeting 51 = .ok (.iconst 2, 1) := by decide +kernel
theorem dX12_meeting_52 : decode cX12_meeting 52 = .ok (.iaload, 1) := by decide +kernel
theorem dX12_meeting_53 : decode cX12_meeting 53 = .ok (.bipush 12, 2) := by decide +kernel
theorem dX12_meeting_55 : decode cX12_meeting 55 = .ok (.if_icmp .ne 9, 3) := by decide +kernel
theorem dX12_meeting_58 : decode cX12_meeting 58 = .ok (.aload_n 0, 1) := by decide +kernel
theorem dX12_meeting_59 : decode cX12_meeting 59 = .ok (.iconst 4, 1) := by decide +kernel
theorem dX12_meeting_60 : decode cX12_meeting 60 = .ok (.invokevirtual 119, 3) := by decide +kernel
theorem dX12_meeting_63 : decode cX12_meeting 63 = .ok (.ireturn, 1) := by decide +kernel
theorem dX12_meeting_64 : decode cX12_meeting 64 = .ok (.aload_n 0, 1) := by decide +kernel
theorem dX12_meeting_65 : decode cX12_meeting 65 = .ok (.getfield 7, 3) := by decide +kernel
theorem dX12_meeting_68 : decode cX12_meeting 68 = .ok (.iconst 2, 1) := by decide +kernel
theorem dX12_meeting_69 : decode cX12_meeting 69 = .ok (.iaload, 1) := by decide +kernel
theorem dX12_meeting_70 : decode cX12_meeting 70 = .ok (.istore 4, 2) := by decide +kernel
theorem dX12_meeting_72 : decode cX12_meeting 72 = .ok (.aload_n 0, 1) := by decide +kernel
theorem dX12_meeting_73 : decode cX12_meeting 73 = .ok (.getfield 7, 3) := by decide +kernel
theorem dX12_meeting_76 : decode cX12_meeting 76 = .ok (.iconst 2, 1) := by decide +kernel
theorem dX12_meeting_77 : decode cX12_meeting 77 = .ok (.dup2, 1) := by decide +kernel
theorem dX12_meeting_78 : decode cX12_meeting 78 = .ok (.iaload, 1) := by decide +kernel
theorem dX12_meeting_79 : decode cX12_meeting 79 = .ok (.iconst 1, 1) := by decide +kernel
theorem dX12_meeting_80 : decode cX12_meeting 80 = .ok (.iadd, 1) := by decide +kernel
theorem dX12_meeting_81 : decode cX12_meeting 81 = .ok (.iastore, 1) := by decide +kernel
theorem dX12_meeting_82 : decode cX12_meeting 82 = .ok (.aload_n 0, 1) := by decide +kernel
theorem dX12_meeting_83 : decode cX12_meeting 83 = .ok (.getfield 7, 3) := by decide +kernel
theorem dX12_meeting_86 : decode cX12_meeting 86 = .ok (.sipush 134, 3) := by decide +kernel
theorem dX12_meeting_89 : decode cX12_meeting 89 = .ok (.iconst 3, 1) := by decide +kernel
theorem dX12_meeting_90 : decode cX12_meeting 90 = .ok (.iload 4, 2) := by decide +kernel
theorem dX12_meeting_92 : decode cX12_meeting 92 = .ok (.imul, 1) := by decide +kernel
theorem dX12_meeting_93 : decode cX12_meeting 93 = .ok (.iadd, 1) := by decide +kernel
theorem dX12_meeting_94 : decode cX12_meeting 94 = .ok (.iload_n 1, 1) := by decide +kernel
theorem dX12_meeting_95 : decode cX12_meeting 95 = .ok (.iastore, 1) := by decide +kernel
theorem dX12_meeting_96 : decode cX12_meeting 96 = .ok (.aload_n 0, 1) := by decide +kernel
theorem dX12_meeting_97 : decode cX12_meeting 97 = .ok (.getfield 7, 3) := by decide +kernel
theorem dX12_meeting_100 : decode cX12_meeting 100 = .ok (.sipush 134, 3) := by decide +kernel
theorem dX12_meeting_103 : decode cX12_meeting 103 = .ok (.iconst 3, 1) := by decide +kernel
theorem dX12_meeting_104 : decode cX12_meeting 104 = .ok (.iload 4, 2) := by decide +kernel
theorem dX12_meeting_106 : decode cX12_meeting 106 = .ok (.imul, 1) := by decide +kernel
theorem dX12_meeting_107 : decode cX12_meeting 107 = .ok (.iadd, 1) := by decide +kernel
theorem dX12_meeting_108 : decode cX12_meeting 108 = .ok (.iconst 1, 1) := by decide +kernel
theorem dX12_meeting_109 : decode cX12_meeting 109 = .ok (.iadd, 1) := by decide +kernel
theorem dX12_meeting_110 : decode cX12_meeting 110 = .ok (.iload_n 2, 1) := by decide +kernel
theorem dX12_meeting_111 : decode cX12_meeting 111 = .ok (.iastore, 1) := by decide +kernel
theorem dX12_meeting_112 : decode cX12_meeting 112 = .ok (.aload_n 0, 1) := by decide +kernel
theorem dX12_meeting_113 : decode cX12_meeting 113 = .ok (.getfield 7, 3) := by decide +kernel
theorem dX12_meeting_116 : decode cX12_meeting 116 = .ok (.sipush 134, 3) := by decide +kernel
theorem dX12_meeting_119 : decode cX12_meeting 119 = .ok (.iconst 3, 1) := by decide +kernel
theorem dX12_meeting_120 : decode cX12_meeting 120 = .ok (.iload 4, 2) := by decide +kernel
theorem dX12_meeting_122 : decode cX12_meeting 122 = .ok (.imul, 1) := by decide +kernel
theorem dX12_meeting_123 : decode cX12_meeting 123 = .ok (.iadd, 1) := by decide +kernel
theorem dX12_meeting_124 : decode cX12_meeting 124 = .ok (.iconst 2, 1) := by decide +kernel
theorem dX12_meeting_125 : decode cX12_meeting 125 = .ok (.iadd, 1) := by decide +kernel
theorem dX12_meeting_126 : decode cX12_meeting 126 = .ok (.iload_n 3, 1) := by decide +kernel
theorem dX12_meeting_127 : decode cX12_meeting 127 = .ok (.iastore, 1) := by decide +kernel
theorem dX12_meeting_128 : decode cX12_meeting 128 = .ok (.iload 4, 2) := by decide +kernel
theorem dX12_meeting_130 : decode cX12_meeting 130 = .ok (.ireturn, 1) := by decide +kernel
theorem dX12_saw_0 : decode cX12_saw 0 = .ok (.iconst 0, 1) := by decide +kernel
theorem dX12_saw_1 : decode cX12_saw 1 = .ok (.istore_n 3, 1) := by decide +kernel
theorem dX12_saw_2 : decode cX12_saw 2 = .ok (.iconst 0, 1) := by decide +kernel
theorem dX12_saw_3 : decode cX12_saw 3 = .ok (.istore 4, 2) := by decide +kernel
theorem dX12_saw_5 : decode cX12_saw 5 = .ok (.iload 4, 2) := by decide +kernel
theorem dX12_saw_7 : decode cX12_saw 7 = .ok (.aload_n 0, 1) := by decide +kernel
theorem dX12_saw_8 : decode cX12_saw 8 = .ok (.getfield 7, 3) := by decide +kernel
theorem dX12_saw_11 : decode cX12_saw 11 = .ok (.iconst 1, 1) := by decide +kernel
theorem dX12_saw_12 : decode cX12_saw 12 = .ok (.iaload, 1) := by decide +kernel
theorem dX12_saw_13 : decode cX12_saw 13 = .ok (.if_icmp .ge 83, 3) := by decide +kernel
theorem dX12_saw_16 : decode cX12_saw 16 = .ok (.iconst 0, 1) := by decide +kernel
theorem dX12_saw_17 : decode cX12_saw 17 = .ok (.istore 5, 2) := by decide +kernel
theorem dX12_saw_19 : decode cX12_saw 19 = .ok (.iload 5, 2) := by decide +kernel
theorem dX12_saw_21 : decode cX12_saw 21 = .ok (.aload_n 0, 1) := by decide +kernel
theorem dX12_saw_22 : decode cX12_saw 22 = .ok (.iload 4, 2) := by decide +kernel
theorem dX12_saw_24 : decode cX12_saw 24 = .ok (.iconst 4, 1) := by decide +kernel
theorem dX12_saw_25 : decode cX12_saw 25 = .ok (.invokevirtual 150, 3) := by decide +kernel
theorem dX12_saw_28 : decode cX12_saw 28 = .ok (.if_icmp .ge 62, 3) := by decide +kernel
theorem dX12_saw_31 : decode cX12_saw 31 = .ok (.aload_n 0, 1) := by decide +kernel
theorem dX12_saw_32 : decode cX12_saw 32 = .ok (.iload 4, 2) := by decide +kernel
theorem dX12_saw_34 : decode cX12_saw 34 = .ok (.iconst 5, 1) := by decide +kernel
theorem dX12_saw_35 : decode cX12_saw 35 = .ok (.iload 5, 2) := by decide +kernel
theorem dX12_saw_37 : decode cX12_saw 37 = .ok (.iadd, 1) := by decide +kernel
theorem dX12_saw_38 : decode cX12_saw 38 = .ok (.invokevirtual 150, 3) := by decide +kernel
theorem dX12_saw_41 : decode cX12_saw 41 = .ok (.istore 6, 2) := by decide +kernel
theorem dX12_saw_43 : decode cX12_saw 43 = .ok (.iload_n 3, 1) := by decide +kernel
theorem dX12_saw_44 : decode cX12_saw 44 = .ok (.aload_n 0, 1) := by decide +kernel
theorem dX12_saw_45 : decode cX12_saw 45 = .ok (.iload 4, 2) := by decide +kernel
theorem dX12_saw_47 : decode cX12_saw 47 = .ok (.bipush 13, 2) := by decide +kernel
theorem dX12_saw_49 : decode cX12_saw 49 = .ok (.iload 5, 2) := by decide +kernel
theorem dX12_saw_51 : decode cX12_saw 51 = .ok (.iadd, 1) := by decide +kernel
theorem dX12_saw_52 : decode cX12_saw 52 = .ok (.invokevirtual 150, 3) := by decide +kernel
theorem dX12_saw_55 : decode cX12_saw 55 = .ok (.iload_n 2, 1) := by decide +kernel
theorem dX12_saw_56 : decode cX12_saw 56 = .ok (.if_icmp .gt 25, 3) := by decide +kernel
theorem dX12_saw_59 : decode cX12_saw 59 = .ok (.aload_n 0, 1) := by decide +kernel
theorem dX12_saw_60 : decode cX12_saw 60 = .ok (.iload 6, 2) := by decide +kernel
theorem dX12_saw_62 : decode cX12_saw 62 = .ok (.iconst 4, 1) := by decide +kernel
theorem dX12_saw_63 : decode cX12_saw 63 = .ok (.invokevirtual 144, 3) := by decide +kernel
theorem dX12_saw_66 : decode cX12_saw 66 = .ok (.iload_n 1, 1) := by decide +kernel
theorem dX12_saw_67 : decode cX12_saw 67 = .ok (.ishr, 1) := by decide +kernel
theorem dX12_saw_68 : decode cX12_saw 68 = .ok (.iconst 1, 1) := by decide +kernel
theorem dX12_saw_69 : decode cX12_saw 69 = .ok (.iand, 1) := by decide +kernel
theorem dX12_saw_70 : decode cX12_saw 70 = .ok (.iconst 1, 1) := by decide +kernel
theorem dX12_saw_71 : decode cX12_saw 71 = .ok (.if_icmp .ne 10, 3) := by decide +kernel
theorem dX12_saw_74 : decode cX12_saw 74 = .ok (.iconst 1, 1) := by decide +kernel
theorem dX12_saw_75 : decode cX12_saw 75 = .ok (.iload 6, 2) := by decide +kernel
theorem dX12_saw_77 : decode cX12_saw 77 = .ok (.ishl, 1) := by decide +kernel
theorem dX12_saw_78 : decode cX12_saw 78 = .ok (.goto 4, 3) := by decide +kernel
theorem dX12_saw_81 : decode cX12_saw 81 = .ok (.iconst 0, 1) := by decide +kernel
theorem dX12_saw_82 : decode cX12_saw 82 = .ok (.ior, 1) := by decide +kernel
theorem dX12_saw_83 : decode cX12_saw 83 = .ok (.istore_n 3, 1) := by decide +kernel
theorem dX12_saw_84 : decode cX12_saw 84 = .ok (.iinc 5 1, 3) := by decide +kernel
theorem dX12_saw_87 : decode cX12_saw 87 = .ok (.goto (-68), 3) := by decide +kernel
theorem dX12_saw_90 : decode cX12_saw 90 = .ok (.iinc 4 1, 3) := by decide +kernel
theorem dX12_saw_93 : decode cX12_saw 93 = .ok (.goto (-88), 3) := by decide +kernel
theorem dX12_saw_96 : decode cX12_saw 96 = .ok (.iload_n 3, 1) := by decide +kernel
theorem dX12_saw_97 : decode cX12_saw 97 = .ok (.ireturn, 1) := by decide +kernel
theorem dX12_knownBy_0 : decode cX12_knownBy 0 = .ok (.iconst 0, 1) := by decide +kernel
theorem dX12_knownBy_1 : decode cX12_knownBy 1 = .ok (.istore_n 3, 1) := by decide +kernel
theorem dX12_knownBy_2 : decode cX12_knownBy 2 = .ok (.iload_n 3, 1) := by decide +kernel
theorem dX12_knownBy_3 : decode cX12_knownBy 3 = .ok (.iconst 5, 1) := by decide +kernel
theorem dX12_knownBy_4 : decode cX12_knownBy 4 = .ok (.if_icmp .ge 16, 3) := by decide +kernel
theorem dX12_knownBy_7 : decode cX12_knownBy 7 = .ok (.aload_n 0, 1) := by decide +kernel
theorem dX12_knownBy_8 : decode cX12_knownBy 8 = .ok (.getfield 38, 3) := by decide +kernel
theorem dX12_knownBy_11 : decode cX12_knownBy 11 = .ok (.iload_n 3, 1) := by decide +kernel
theorem dX12_knownBy_12 : decode cX12_knownBy 12 = .ok (.iconst 0, 1) := by decide +kernel
theorem dX12_knownBy_13 : decode cX12_knownBy 13 = .ok (.iastore, 1) := by decide +kernel
theorem dX12_knownBy_14 : decode cX12_knownBy 14 = .ok (.iinc 3 1, 3) := by decide +kernel
theorem dX12_knownBy_17 : decode cX12_knownBy 17 = .ok (.goto (-15), 3) := by decide +kernel
theorem dX12_knownBy_20 : decode cX12_knownBy 20 = .ok (.iconst (-1), 1) := by decide +kernel
theorem dX12_knownBy_21 : decode cX12_knownBy 21 = .ok (.istore_n 3, 1) := by decide +kernel
theorem dX12_knownBy_22 : decode cX12_knownBy 22 = .ok (.iconst 1, 1) := by decide +kernel
theorem dX12_knownBy_23 : decode cX12_knownBy 23 = .ok (.istore 4, 2) := by decide +kernel
theorem dX12_knownBy_25 : decode cX12_knownBy 25 = .ok (.iload 4, 2) := by decide +kernel
theorem dX12_knownBy_27 : decode cX12_knownBy 27 = .ok (.ifCond .eq 251, 3) := by decide +kernel
theorem dX12_knownBy_30 : decode cX12_knownBy 30 = .ok (.iconst (-1), 1) := by decide +kernel
theorem dX12_knownBy_31 : decode cX12_knownBy 31 = .ok (.istore 5, 2) := by decide +kernel
theorem dX12_knownBy_33 : decode cX12_knownBy 33 = .ok (.iconst 0, 1) := by decide +kernel
theorem dX12_knownBy_34 : decode cX12_knownBy 34 = .ok (.istore 6, 2) := by decide +kernel
theorem dX12_knownBy_36 : decode cX12_knownBy 36 = .ok (.iload 6, 2) := by decide +kernel
theorem dX12_knownBy_38 : decode cX12_knownBy 38 = .ok (.aload_n 0, 1) := by decide +kernel
theorem dX12_knownBy_39 : decode cX12_knownBy 39 = .ok (.getfield 7, 3) := by decide +kernel
theorem dX12_knownBy_42 : decode cX12_knownBy 42 = .ok (.iconst 2, 1) := by decide +kernel
theorem dX12_knownBy_43 : decode cX12_knownBy 43 = .ok (.iaload, 1) := by decide +kernel
theorem dX12_knownBy_44 : decode cX12_knownBy 44 = .ok (.if_icmp .ge 103, 3) := by decide +kernel
theorem dX12_knownBy_47 : decode cX12_knownBy 47 = .ok (.bipush 12, 2) := by decide +kernel
theorem dX12_knownBy_49 : decode cX12_knownBy 49 = .ok (.aload_n 0, 1) := by decide +kernel
theorem dX12_knownBy_50 : decode cX12_knownBy 50 = .ok (.getfield 7, 3) := by decide +kernel
theorem dX12_knownBy_53 : decode cX12_knownBy 53 = .ok (.sipush 134, 3) := by decide +kernel
theorem dX12_knownBy_56 : decode cX12_knownBy 56 = .ok (.iconst 3, 1) := by decide +kernel
theorem dX12_knownBy_57 : decode cX12_knownBy 57 = .ok (.iload 6, 2) := by decide +kernel
theorem dX12_knownBy_59 : decode cX12_knownBy 59 = .ok (.imul, 1) := by decide +kernel
theorem dX12_knownBy_60 : decode cX12_knownBy 60 = .ok (.iadd, 1) := by decide +kernel
theorem dX12_knownBy_61 : decode cX12_knownBy 61 = .ok (.iaload, 1) := by decide +kernel
theorem dX12_knownBy_62 : decode cX12_knownBy 62 = .ok (.imul, 1) := by decide +kernel
theorem dX12_knownBy_63 : decode cX12_knownBy 63 = .ok (.iload 6, 2) := by decide +kernel
theorem dX12_knownBy_65 : decode cX12_knownBy 65 = .ok (.iadd, 1) := by decide +kernel
theorem dX12_knownBy_66 : decode cX12_knownBy 66 = .ok (.istore 7, 2) := by decide +kernel
theorem dX12_knownBy_68 : decode cX12_knownBy 68 = .ok (.iload 5, 2) := by decide +kernel
theorem dX12_knownBy_70 : decode cX12_knownBy 70 = .ok (.ifCond .lt 27, 3) := by decide +kernel
theorem dX12_knownBy_73 : decode cX12_knownBy 73 = .ok (.iload 7, 2) := by decide +kernel
theorem dX12_knownBy_75 : decode cX12_knownBy 75 = .ok (.bipush 12, 2) := by decide +kernel
theorem dX12_knownBy_77 : decode cX12_knownBy 77 = .ok (.aload_n 0, 1) := by decide +kernel
theorem dX12_knownBy_78 : decode cX12_knownBy 78 = .ok (.getfield 7, 3) := by decide +kernel
theorem dX12_knownBy_81 : decode cX12_knownBy 81 = .ok (.sipush 134, 3) := by decide +kernel
theorem dX12_knownBy_84 : decode cX12_knownBy 84 = .ok (.iconst 3, 1) := by decide +kernel
theorem dX12_knownBy_85 : decode cX12_knownBy 85 = .ok (.iload 5, 2) := by decide +kernel
theorem dX12_knownBy_87 : decode cX12_knownBy 87 = .ok (.imul, 1) := by decide +kernel
theorem dX12_knownBy_88 : decode cX12_knownBy 88 = .ok (.iadd, 1) := by decide +kernel
theorem dX12_knownBy_89 : decode cX12_knownBy 89 = .ok (.iaload, 1) := by decide +kernel
theorem dX12_knownBy_90 : decode cX12_knownBy 90 = .ok (.imul, 1) := by decide +kernel
theorem dX12_knownBy_91 : decode cX12_knownBy 91 = .ok (.iload 5, 2) := by decide +kernel
theorem dX12_knownBy_93 : decode cX12_knownBy 93 = .ok (.iadd, 1) := by decide +kernel
theorem dX12_knownBy_94 : decode cX12_knownBy 94 = .ok (.if_icmp .ge 7, 3) := by decide +kernel
theorem dX12_knownBy_97 : decode cX12_knownBy 97 = .ok (.iconst 1, 1) := by decide +kernel
theorem dX12_knownBy_98 : decode cX12_knownBy 98 = .ok (.goto 4, 3) := by decide +kernel
theorem dX12_knownBy_101 : decode cX12_knownBy 101 = .ok (.iconst 0, 1) := by decide +kernel
theorem dX12_knownBy_102 : decode cX12_knownBy 102 = .ok (.istore 8, 2) := by decide +kernel
theorem dX12_knownBy_104 : decode cX12_knownBy 104 = .ok (.iload 7, 2) := by decide +kernel
theorem dX12_knownBy_106 : decode cX12_knownBy 106 = .ok (.iload_n 3, 1) := by decide +kernel
theorem dX12_knownBy_107 : decode cX12_knownBy 107 = .ok (.if_icmp .le 30, 3) := by decide +kernel
theorem dX12_knownBy_110 : decode cX12_knownBy 110 = .ok (.aload_n 0, 1) := by decide +kernel
theorem dX12_knownBy_111 : decode cX12_knownBy 111 = .ok (.getfield 7, 3) := by decide +kernel
theorem dX12_knownBy_114 : decode cX12_knownBy 114 = .ok (.sipush 134, 3) := by decide +kernel
theorem dX12_knownBy_117 : decode cX12_knownBy 117 = .ok (.iconst 3, 1) := by decide +kernel
theorem dX12_knownBy_118 : decode cX12_knownBy 118 = .ok (.iload 6, 2) := by decide +kernel
theorem dX12_knownBy_120 : decode cX12_knownBy 120 = .ok (.imul, 1) := by decide +kernel
theorem dX12_knownBy_121 : decode cX12_knownBy 121 = .ok (.iadd, 1) := by decide +kernel
theorem dX12_knownBy_122 : decode cX12_knownBy 122 = .ok (.iaload, 1) := by decide +kernel
theorem dX12_knownBy_123 : decode cX12_knownBy 123 = .ok (.iload_n 2, 1) := by decide +kernel
theorem dX12_knownBy_124 : decode cX12_knownBy 124 = .ok (.if_icmp .gt 13, 3) := by decide +kernel
theorem dX12_knownBy_127 : decode cX12_knownBy 127 = .ok (.iload 8, 2) := by decide +kernel
theorem dX12_knownBy_129 : decode cX12_knownBy 129 = .ok (.ifCond .eq 8, 3) := by decide +kernel
theorem dX12_knownBy_132 : decode cX12_knownBy 132 = .ok (.iload 6, 2) := by decide +kernel
theorem dX12_knownBy_134 : decode cX12_knownBy 134 = .ok (.goto 5, 3) := by decide +kernel
theorem dX12_knownBy_137 : decode cX12_knownBy 137 = .ok (.iload 5, 2) := by decide +kernel
theorem dX12_knownBy_139 : decode cX12_knownBy 139 = .ok (.istore 5, 2) := by decide +kernel
theorem dX12_knownBy_141 : decode cX12_knownBy 141 = .ok (.iinc 6 1, 3) := by decide +kernel
theorem dX12_knownBy_144 : decode cX12_knownBy 144 = .ok (.goto (-108), 3) := by decide +kernel
theorem dX12_knownBy_147 : decode cX12_knownBy 147 = .ok (.iload 5, 2) := by decide +kernel
theorem dX12_knownBy_149 : decode cX12_knownBy 149 = .ok (.ifCond .lt 7, 3) := by decide +kernel
theorem dX12_knownBy_152 : decode cX12_knownBy 152 = .ok (.iconst 1, 1) := by decide +kernel
theorem dX12_knownBy_153 : decode cX12_knownBy 153 = .ok (.goto 4, 3) := by decide +kernel
theorem dX12_knownBy_156 : decode cX12_knownBy 156 = .ok (.iconst 0, 1) := by decide +kernel
theorem dX12_knownBy_157 : decode cX12_knownBy 157 = .ok (.istore 4, 2) := by decide +kernel
theorem dX12_knownBy_159 : decode cX12_knownBy 159 = .ok (.iload 4, 2) := by decide +kernel
theorem dX12_knownBy_161 : decode cX12_knownBy 161 = .ok (.ifCond .eq 114, 3) := by decide +kernel
theorem dX12_knownBy_164 : decode cX12_knownBy 164 = .ok (.aload_n 0, 1) := by decide +kernel
theorem dX12_knownBy_165 : decode cX12_knownBy 165 = .ok (.getfield 7, 3) := by decide +kernel
theorem dX12_knownBy_168 : decode cX12_knownBy 168 = .ok (.sipush 134, 3) := by decide +kernel
theorem dX12_knownBy_171 : decode cX12_knownBy 171 = .ok (.iconst 3, 1) := by decide +kernel
theorem dX12_knownBy_172 : decode cX12_knownBy 172 = .ok (.iload 5, 2) := by decide +kernel
theorem dX12_knownBy_174 : decode cX12_knownBy 174 = .ok (.imul, 1) := by decide +kernel
theorem dX12_knownBy_175 : decode cX12_knownBy 175 = .ok (.iadd, 1) := by decide +kernel
theorem dX12_knownBy_176 : decode cX12_knownBy 176 = .ok (.iaload, 1) := by decide +kernel
theorem dX12_knownBy_177 : decode cX12_knownBy 177 = .ok (.istore 6, 2) := by decide +kernel
theorem dX12_knownBy_179 : decode cX12_knownBy 179 = .ok (.aload_n 0, 1) := by decide +kernel
theorem dX12_knownBy_180 : decode cX12_knownBy 180 = .ok (.getfield 7, 3) := by decide +kernel
theorem dX12_knownBy_183 : decode cX12_knownBy 183 = .ok (.sipush 134, 3) := by decide +kernel
theorem dX12_knownBy_186 : decode cX12_knownBy 186 = .ok (.iconst 3, 1) := by decide +kernel
theorem dX12_knownBy_187 : decode cX12_knownBy 187 = .ok (.iload 5, 2) := by decide +kernel
theorem dX12_knownBy_189 : decode cX12_knownBy 189 = .ok (.imul, 1) := by decide +kernel
theorem dX12_knownBy_190 : decode cX12_knownBy 190 = .ok (.iadd, 1) := by decide +kernel
theorem dX12_knownBy_191 : decode cX12_knownBy 191 = .ok (.iconst 1, 1) := by decide +kernel
theorem dX12_knownBy_192 : decode cX12_knownBy 192 = .ok (.iadd, 1) := by decide +kernel
theorem dX12_knownBy_193 : decode cX12_knownBy 193 = .ok (.iaload, 1) := by decide +kernel
theorem dX12_knownBy_194 : decode cX12_knownBy 194 = .ok (.istore 7, 2) := by decide +kernel
theorem dX12_knownBy_196 : decode cX12_knownBy 196 = .ok (.aload_n 0, 1) := by decide +kernel
theorem dX12_knownBy_197 : decode cX12_knownBy 197 = .ok (.getfield 7, 3) := by decide +kernel
theorem dX12_knownBy_200 : decode cX12_knownBy 200 = .ok (.sipush 134, 3) := by decide +kernel
theorem dX12_knownBy_203 : decode cX12_knownBy 203 = .ok (.iconst 3, 1) := by decide +kernel
theorem dX12_knownBy_204 : decode cX12_knownBy 204 = .ok (.iload 5, 2) := by decide +kernel
theorem dX12_knownBy_206 : decode cX12_knownBy 206 = .ok (.imul, 1) := by decide +kernel
theorem dX12_knownBy_207 : decode cX12_knownBy 207 = .ok (.iadd, 1) := by decide +kernel
theorem dX12_knownBy_208 : decode cX12_knownBy 208 = .ok (.iconst 2, 1) := by decide +kernel
theorem dX12_knownBy_209 : decode cX12_knownBy 209 = .ok (.iadd, 1) := by decide +kernel
theorem dX12_knownBy_210 : decode cX12_knownBy 210 = .ok (.iaload, 1) := by decide +kernel
theorem dX12_knownBy_211 : decode cX12_knownBy 211 = .ok (.istore 8, 2) := by decide +kernel
theorem dX12_knownBy_213 : decode cX12_knownBy 213 = .ok (.aload_n 0, 1) := by decide +kernel
theorem dX12_knownBy_214 : decode cX12_knownBy 214 = .ok (.getfield 38, 3) := by decide +kernel
theorem dX12_knownBy_217 : decode cX12_knownBy 217 = .ok (.iload 7, 2) := by decide +kernel
theorem dX12_knownBy_219 : decode cX12_knownBy 219 = .ok (.iaload, 1) := by decide +kernel
theorem dX12_knownBy_220 : decode cX12_knownBy 220 = .ok (.aload_n 0, 1) := by decide +kernel
theorem dX12_knownBy_221 : decode cX12_knownBy 221 = .ok (.getfield 38, 3) := by decide +kernel
theorem dX12_knownBy_224 : decode cX12_knownBy 224 = .ok (.iload 8, 2) := by decide +kernel
theorem dX12_knownBy_226 : decode cX12_knownBy 226 = .ok (.iaload, 1) := by decide +kernel
theorem dX12_knownBy_227 : decode cX12_knownBy 227 = .ok (.ior, 1) := by decide +kernel
theorem dX12_knownBy_228 : decode cX12_knownBy 228 = .ok (.aload_n 0, 1) := by decide +kernel
theorem dX12_knownBy_229 : decode cX12_knownBy 229 = .ok (.iload 7, 2) := by decide +kernel
theorem dX12_knownBy_231 : decode cX12_knownBy 231 = .ok (.iload 6, 2) := by decide +kernel
theorem dX12_knownBy_233 : decode cX12_knownBy 233 = .ok (.invokevirtual 279, 3) := by decide +kernel
theorem dX12_knownBy_236 : decode cX12_knownBy 236 = .ok (.ior, 1) := by decide +kernel
theorem dX12_knownBy_237 : decode cX12_knownBy 237 = .ok (.aload_n 0, 1) := by decide +kernel
theorem dX12_knownBy_238 : decode cX12_knownBy 238 = .ok (.iload 8, 2) := by decide +kernel
theorem dX12_knownBy_240 : decode cX12_knownBy 240 = .ok (.iload 6, 2) := by decide +kernel
theorem dX12_knownBy_242 : decode cX12_knownBy 242 = .ok (.invokevirtual 279, 3) := by decide +kernel
theorem dX12_knownBy_245 : decode cX12_knownBy 245 = .ok (.ior, 1) := by decide +kernel
theorem dX12_knownBy_246 : decode cX12_knownBy 246 = .ok (.istore 9, 2) := by decide +kernel
theorem dX12_knownBy_248 : decode cX12_knownBy 248 = .ok (.aload_n 0, 1) := by decide +kernel
theorem dX12_knownBy_249 : decode cX12_knownBy 249 = .ok (.getfield 38, 3) := by decide +kernel
theorem dX12_knownBy_252 : decode cX12_knownBy 252 = .ok (.iload 7, 2) := by decide +kernel
theorem dX12_knownBy_254 : decode cX12_knownBy 254 = .ok (.iload 9, 2) := by decide +kernel
theorem dX12_knownBy_256 : decode cX12_knownBy 256 = .ok (.iastore, 1) := by decide +kernel
theorem dX12_knownBy_257 : decode cX12_knownBy 257 = .ok (.aload_n 0, 1) := by decide +kernel
theorem dX12_knownBy_258 : decode cX12_knownBy 258 = .ok (.getfield 38, 3) := by decide +kernel
theorem dX12_knownBy_261 : decode cX12_knownBy 261 = .ok (.iload 8, 2) := by decide +kernel
theorem dX12_knownBy_263 : decode cX12_knownBy 263 = .ok (.iload 9, 2) := by decide +kernel
theorem dX12_knownBy_265 : decode cX12_knownBy 265 = .ok (.iastore, 1) := by decide +kernel
theorem dX12_knownBy_266 : decode cX12_knownBy 266 = .ok (.bipush 12, 2) := by decide +kernel
theorem dX12_knownBy_268 : decode cX12_knownBy 268 = .ok (.iload 6, 2) := by decide +kernel
theorem dX12_knownBy_270 : decode cX12_knownBy 270 = .ok (.imul, 1) := by decide +kernel
theorem dX12_knownBy_271 : decode cX12_knownBy 271 = .ok (.iload 5, 2) := by decide +kernel
theorem dX12_knownBy_273 : decode cX12_knownBy 273 = .ok (.iadd, 1) := by decide +kernel
theorem dX12_knownBy_274 : decode cX12_knownBy 274 = .ok (.istore_n 3, 1) := by decide +kernel
theorem dX12_knownBy_275 : decode cX12_knownBy 275 = .ok (.goto (-250), 3) := by decide +kernel
theorem dX12_knownBy_278 : decode cX12_knownBy 278 = .ok (.aload_n 0, 1) := by decide +kernel
theorem dX12_knownBy_279 : decode cX12_knownBy 279 = .ok (.getfield 38, 3) := by decide +kernel
theorem dX12_knownBy_282 : decode cX12_knownBy 282 = .ok (.iload_n 1, 1) := by decide +kernel
theorem dX12_knownBy_283 : decode cX12_knownBy 283 = .ok (.iaload, 1) := by decide +kernel
theorem dX12_knownBy_284 : decode cX12_knownBy 284 = .ok (.aload_n 0, 1) := by decide +kernel
theorem dX12_knownBy_285 : decode cX12_knownBy 285 = .ok (.iload_n 1, 1) := by decide +kernel
theorem dX12_knownBy_286 : decode cX12_knownBy 286 = .ok (.iload_n 2, 1) := by decide +kernel
theorem dX12_knownBy_287 : decode cX12_knownBy 287 = .ok (.invokevirtual 279, 3) := by decide +kernel
theorem dX12_knownBy_290 : decode cX12_knownBy 290 = .ok (.ior, 1) := by decide +kernel
theorem dX12_knownBy_291 : decode cX12_knownBy 291 = .ok (.ireturn, 1) := by decide +kernel
theorem dX12_knows_0 : decode cX12_knows 0 = .ok (.iload_n 1, 1) := by decide +kernel
theorem dX12_knows_1 : decode cX12_knows 1 = .ok (.i2l, 1) := by decide +kernel
theorem dX12_knows_2 : decode cX12_knows 2 = .ok (.lconst 0, 1) := by decide +kernel
theorem dX12_knows_3 : decode cX12_knows 3 = .ok (.ldc2_w 268, 3) := by decide +kernel
theorem dX12_knows_6 : decode cX12_knows 6 = .ok (.invokestatic 57, 3) := by decide +kernel
theorem dX12_knows_9 : decode cX12_knows 9 = .ok (.ifCond .eq 24, 3) := by decide +kernel
theorem dX12_knows_12 : decode cX12_knows 12 = .ok (.iload_n 2, 1) := by decide +kernel
theorem dX12_knows_13 : decode cX12_knows 13 = .ok (.i2l, 1) := by decide +kernel
theorem dX12_knows_14 : decode cX12_knows 14 = .ok (.lconst 0, 1) := by decide +kernel
theorem dX12_knows_15 : decode cX12_knows 15 = .ok (.ldc2_w 208, 3) := by decide +kernel
theorem dX12_knows_18 : decode cX12_knows 18 = .ok (.invokestatic 57, 3) := by decide +kernel
theorem dX12_knows_21 : decode cX12_knows 21 = .ok (.ifCond .eq 12, 3) := by decide +kernel
theorem dX12_knows_24 : decode cX12_knows 24 = .ok (.aload_n 0, 1) := by decide +kernel
theorem dX12_knows_25 : decode cX12_knows 25 = .ok (.iload_n 1, 1) := by decide +kernel
theorem dX12_knows_26 : decode cX12_knows 26 = .ok (.iload_n 2, 1) := by decide +kernel
theorem dX12_knows_27 : decode cX12_knows 27 = .ok (.invokevirtual 282, 3) := by decide +kernel
theorem dX12_knows_30 : decode cX12_knows 30 = .ok (.goto 8, 3) := by decide +kernel
theorem dX12_knows_33 : decode cX12_knows 33 = .ok (.aload_n 0, 1) := by decide +kernel
theorem dX12_knows_34 : decode cX12_knows 34 = .ok (.iconst 1, 1) := by decide +kernel
theorem dX12_knows_35 : decode cX12_knows 35 = .ok (.invokevirtual 119, 3) := by decide +kernel
theorem dX12_knows_38 : decode cX12_knows 38 = .ok (.ireturn, 1) := by decide +kernel
theorem dX12_common_0 : decode cX12_common 0 = .ok (.iload_n 1, 1) := by decide +kernel
theorem dX12_common_1 : decode cX12_common 1 = .ok (.i2l, 1) := by decide +kernel
theorem dX12_common_2 : decode cX12_common 2 = .ok (.lconst 1, 1) := by decide +kernel
theorem dX12_common_3 : decode cX12_common 3 = .ok (.ldc2_w 135, 3) := by decide +kernel
theorem dX12_common_6 : decode cX12_common 6 = .ok (.invokestatic 57, 3) := by decide +kernel
theorem dX12_common_9 : decode cX12_common 9 = .ok (.ifCond .eq 15, 3) := by decide +kernel
theorem dX12_common_12 : decode cX12_common 12 = .ok (.iload_n 2, 1) := by decide +kernel
theorem dX12_common_13 : decode cX12_common 13 = .ok (.i2l, 1) := by decide +kernel
theorem dX12_common_14 : decode cX12_common 14 = .ok (.lconst 0, 1) := by decide +kernel
theorem dX12_common_15 : decode cX12_common 15 = .ok (.ldc2_w 208, 3) := by decide +kernel
theorem dX12_common_18 : decode cX12_common 18 = .ok (.invokestatic 57, 3) := by decide +kernel
theorem dX12_common_21 : decode cX12_common 21 = .ok (.ifCond .ne 9, 3) := by decide +kernel
theorem dX12_common_24 : decode cX12_common 24 = .ok (.aload_n 0, 1) := by decide +kernel
theorem dX12_common_25 : decode cX12_common 25 = .ok (.iconst 1, 1) := by decide +kernel
theorem dX12_common_26 : decode cX12_common 26 = .ok (.invokevirtual 119, 3) := by decide +kernel
theorem dX12_common_29 : decode cX12_common 29 = .ok (.ireturn, 1) := by decide +kernel
theorem dX12_common_30 : decode cX12_common 30 = .ok (.sipush 255, 3) := by decide +kernel
theorem dX12_common_33 : decode cX12_common 33 = .ok (.istore_n 3, 1) := by decide +kernel
theorem dX12_common_34 : decode cX12_common 34 = .ok (.iconst 0, 1) := by decide +kernel
theorem dX12_common_35 : decode cX12_common 35 = .ok (.istore 4, 2) := by decide +kernel
theorem dX12_common_37 : decode cX12_common 37 = .ok (.iload 4, 2) := by decide +kernel
theorem dX12_common_39 : decode cX12_common 39 = .ok (.iconst 5, 1) := by decide +kernel
theorem dX12_common_40 : decode cX12_common 40 = .ok (.if_icmp .ge 35, 3) := by decide +kernel
theorem dX12_common_43 : decode cX12_common 43 = .ok (.iload_n 3, 1) := by decide +kernel
theorem dX12_common_44 : decode cX12_common 44 = .ok (.iload_n 1, 1) := by decide +kernel
theorem dX12_common_45 : decode cX12_common 45 = .ok (.iload 4, 2) := by decide +kernel
theorem dX12_common_47 : decode cX12_common 47 = .ok (.ishr, 1) := by decide +kernel
theorem dX12_common_48 : decode cX12_common 48 = .ok (.iconst 1, 1) := by decide +kernel
theorem dX12_common_49 : decode cX12_common 49 = .ok (.iand, 1) := by decide +kernel
theorem dX12_common_50 : decode cX12_common 50 = .ok (.iconst 1, 1) := by decide +kernel
theorem dX12_common_51 : decode cX12_common 51 = .ok (.if_icmp .ne 13, 3) := by decide +kernel
theorem dX12_common_54 : decode cX12_common 54 = .ok (.aload_n 0, 1) := by decide +kernel
theorem dX12_common_55 : decode cX12_common 55 = .ok (.iload 4, 2) := by decide +kernel
theorem dX12_common_57 : decode cX12_common 57 = .ok (.iload_n 2, 1) := by decide +kernel
theorem dX12_common_58 : decode cX12_common 58 = .ok (.invokevirtual 282, 3) := by decide +kernel
theorem dX12_common_61 : decode cX12_common 61 = .ok (.goto 6, 3) := by decide +kernel
theorem dX12_common_64 : decode cX12_common 64 = .ok (.sipush 255, 3) := by decide +kernel
theorem dX12_common_67 : decode cX12_common 67 = .ok (.iand, 1) := by decide +kernel
theorem dX12_common_68 : decode cX12_common 68 = .ok (.istore_n 3, 1) := by decide +kernel
theorem dX12_common_69 : decode cX12_common 69 = .ok (.iinc 4 1, 3) := by decide +kernel
theorem dX12_common_72 : decode cX12_common 72 = .ok (.goto (-35), 3) := by decide +kernel
theorem dX12_common_75 : decode cX12_common 75 = .ok (.iload_n 3, 1) := by decide +kernel
theorem dX12_common_76 : decode cX12_common 76 = .ok (.ireturn, 1) := by decide +kernel
theorem dX12_since_0 : decode cX12_since 0 = .ok (.iload_n 1, 1) := by decide +kernel
theorem dX12_since_1 : decode cX12_since 1 = .ok (.i2l, 1) := by decide +kernel
theorem dX12_since_2 : decode cX12_since 2 = .ok (.lconst 0, 1) := by decide +kernel
theorem dX12_since_3 : decode cX12_since 3 = .ok (.ldc2_w 268, 3) := by decide +kernel
theorem dX12_since_6 : decode cX12_since 6 = .ok (.invokestatic 57, 3) := by decide +kernel
theorem dX12_since_9 : decode cX12_since 9 = .ok (.ifCond .eq 11, 3) := by decide +kernel
theorem dX12_since_12 : decode cX12_since 12 = .ok (.aload_n 0, 1) := by decide +kernel
theorem dX12_since_13 : decode cX12_since 13 = .ok (.iload_n 2, 1) := by decide +kernel
theorem dX12_since_14 : decode cX12_since 14 = .ok (.invokevirtual 141, 3) := by decide +kernel
theorem dX12_since_17 : decode cX12_since 17 = .ok (.ifCond .ne 9, 3) := by decide +kernel
theorem dX12_since_20 : decode cX12_since 20 = .ok (.aload_n 0, 1) := by decide +kernel
theorem dX12_since_21 : decode cX12_since 21 = .ok (.iconst 1, 1) := by decide +kernel
theorem dX12_since_22 : decode cX12_since 22 = .ok (.invokevirtual 119, 3) := by decide +kernel
theorem dX12_since_25 : decode cX12_since 25 = .ok (.ireturn, 1) := by decide +kernel
theorem dX12_since_26 : decode cX12_since 26 = .ok (.iconst 0, 1) := by decide +kernel
theorem dX12_since_27 : decode cX12_since 27 = .ok (.istore_n 3, 1) := by decide +kernel
theorem dX12_since_28 : decode cX12_since 28 = .ok (.iload_n 3, 1) := by decide +kernel
theorem dX12_since_29 : decode cX12_since 29 = .ok (.sipush 999, 3) := by decide +kernel
theorem dX12_since_32 : decode cX12_since 32 = .ok (.if_icmp .gt 25, 3) := by decide +kernel
theorem dX12_since_35 : decode cX12_since 35 = .ok (.aload_n 0, 1) := by decide +kernel
theorem dX12_since_36 : decode cX12_since 36 = .ok (.iload_n 1, 1) := by decide +kernel
theorem dX12_since_37 : decode cX12_since 37 = .ok (.iload_n 3, 1) := by decide +kernel
theorem dX12_since_38 : decode cX12_since 38 = .ok (.invokevirtual 282, 3) := by decide +kernel
theorem dX12_since_41 : decode cX12_since 41 = .ok (.iload_n 2, 1) := by decide +kernel
theorem dX12_since_42 : decode cX12_since 42 = .ok (.ishr, 1) := by decide +kernel
theorem dX12_since_43 : decode cX12_since 43 = .ok (.iconst 1, 1) := by decide +kernel
theorem dX12_since_44 : decode cX12_since 44 = .ok (.iand, 1) := by decide +kernel
theorem dX12_since_45 : decode cX12_since 45 = .ok (.iconst 1, 1) := by decide +kernel
theorem dX12_since_46 : decode cX12_since 46 = .ok (.if_icmp .ne 5, 3) := by decide +kernel
theorem dX12_since_49 : decode cX12_since 49 = .ok (.iload_n 3, 1) := by decide +kernel
theorem dX12_since_50 : decode cX12_since 50 = .ok (.ireturn, 1) := by decide +kernel
theorem dX12_since_51 : decode cX12_since 51 = .ok (.iinc 3 1, 3) := by decide +kernel
theorem dX12_since_54 : decode cX12_since 54 = .ok (.goto (-26), 3) := by decide +kernel
theorem dX12_since_57 : decode cX12_since 57 = .ok (.aload_n 0, 1) := by decide +kernel
theorem dX12_since_58 : decode cX12_since 58 = .ok (.iconst 2, 1) := by decide +kernel
theorem dX12_since_59 : decode cX12_since 59 = .ok (.invokevirtual 119, 3) := by decide +kernel
theorem dX12_since_62 : decode cX12_since 62 = .ok (.ireturn, 1) := by decide +kernel
theorem dX12_seed_0 : decode cX12_seed 0 = .ok (.aload_n 0, 1) := by decide +kernel
theorem dX12_seed_1 : decode cX12_seed 1 = .ok (.getfield 7, 3) := by decide +kernel
theorem dX12_seed_4 : decode cX12_seed 4 = .ok (.iconst 4, 1) := by decide +kernel
theorem dX12_seed_5 : decode cX12_seed 5 = .ok (.iaload, 1) := by decide +kernel
theorem dX12_seed_6 : decode cX12_seed 6 = .ok (.istore_n 2, 1) := by decide +kernel
theorem dX12_seed_7 : decode cX12_seed 7 = .ok (.aload_n 0, 1) := by decide +kernel
theorem dX12_seed_8 : decode cX12_seed 8 = .ok (.getfield 7, 3) := by decide +kernel
theorem dX12_seed_11 : decode cX12_seed 11 = .ok (.iconst 4, 1) := by decide +kernel
theorem dX12_seed_12 : decode cX12_seed 12 = .ok (.iload_n 1, 1) := by decide +kernel
theorem dX12_seed_13 : decode cX12_seed 13 = .ok (.iastore, 1) := by decide +kernel
theorem dX12_seed_14 : decode cX12_seed 14 = .ok (.iload_n 2, 1) := by decide +kernel
theorem dX12_seed_15 : decode cX12_seed 15 = .ok (.ireturn, 1) := by decide +kernel
theorem dX12_ran_0 : decode cX12_ran 0 = .ok (.aload_n 0, 1) := by decide +kernel
theorem dX12_ran_1 : decode cX12_ran 1 = .ok (.getfield 285, 3) := by decide +kernel
theorem dX12_ran_4 : decode cX12_ran 4 = .ok (.bipush 40, 2) := by decide +kernel
theorem dX12_ran_6 : decode cX12_ran 6 = .ok (.if_icmp .ge 23, 3) := by decide +kernel
theorem dX12_ran_9 : decode cX12_ran 9 = .ok (.aload_n 0, 1) := by decide +kernel
theorem dX12_ran_10 : decode cX12_ran 10 = .ok (.getfield 41, 3) := by decide +kernel
theorem dX12_ran_13 : decode cX12_ran 13 = .ok (.aload_n 0, 1) := by decide +kernel
theorem dX12_ran_14 : decode cX12_ran 14 = .ok (.getfield 285, 3) := by decide +kernel
theorem dX12_ran_17 : decode cX12_ran 17 = .ok (.iload_n 1, 1) := by decide +kernel
theorem dX12_ran_18 : decode cX12_ran 18 = .ok (.iastore, 1) := by decide +kernel
theorem dX12_ran_19 : decode cX12_ran 19 = .ok (.aload_n 0, 1) := by decide +kernel
theorem dX12_ran_20 : decode cX12_ran 20 = .ok (.dup, 1) := by decide +kernel
theorem dX12_ran_21 : decode cX12_ran 21 = .ok (.getfield 285, 3) := by decide +kernel
theorem dX12_ran_24 : decode cX12_ran 24 = .ok (.iconst 1, 1) := by decide +kernel
theorem dX12_ran_25 : decode cX12_ran 25 = .ok (.iadd, 1) := by decide +kernel
theorem dX12_ran_26 : decode cX12_ran 26 = .ok (.putfield 285, 3) := by decide +kernel
theorem dX12_ran_29 : decode cX12_ran 29 = .ok (.return_, 1) := by decide +kernel
theorem dX12_own_0 : decode cX12_own 0 = .ok (.aload_n 0, 1) := by decide +kernel
theorem dX12_own_1 : decode cX12_own 1 = .ok (.aload_n 0, 1) := by decide +kernel
theorem dX12_own_2 : decode cX12_own 2 = .ok (.getfield 288, 3) := by decide +kernel
theorem dX12_own_5 : decode cX12_own 5 = .ok (.iconst 0, 1) := by decide +kernel
theorem dX12_own_6 : decode cX12_own 6 = .ok (.invokevirtual 150, 3) := by decide +kernel
theorem dX12_own_9 : decode cX12_own 9 = .ok (.ireturn, 1) := by decide +kernel
theorem dX12_owesBy_0 : decode cX12_owesBy 0 = .ok (.iload_n 1, 1) := by decide +kernel
theorem dX12_owesBy_1 : decode cX12_owesBy 1 = .ok (.lookupswitch 58 #[(0, 27), (2, 40)], 27) := by decide +kernel
theorem dX12_owesBy_28 : decode cX12_owesBy 28 = .ok (.aload_n 0, 1) := by decide +kernel
theorem dX12_owesBy_29 : decode cX12_owesBy 29 = .ok (.bipush 10, 2) := by decide +kernel
theorem dX12_owesBy_31 : decode cX12_owesBy 31 = .ok (.invokevirtual 291, 3) := by decide +kernel
theorem dX12_owesBy_34 : decode cX12_owesBy 34 = .ok (.iload_n 2, 1) := by decide +kernel
theorem dX12_owesBy_35 : decode cX12_owesBy 35 = .ok (.aload_n 0, 1) := by decide +kernel
theorem dX12_owesBy_36 : decode cX12_owesBy 36 = .ok (.getfield 288, 3) := by decide +kernel
theorem dX12_owesBy_39 : decode cX12_owesBy 39 = .ok (.iadd, 1) := by decide +kernel
theorem dX12_owesBy_40 : decode cX12_owesBy 40 = .ok (.ireturn, 1) := by decide +kernel
theorem dX12_owesBy_41 : decode cX12_owesBy 41 = .ok (.aload_n 0, 1) := by decide +kernel
theorem dX12_owesBy_42 : decode cX12_owesBy 42 = .ok (.bipush 30, 2) := by decide +kernel
theorem dX12_owesBy_44 : decode cX12_owesBy 44 = .ok (.invokevirtual 291, 3) := by decide +kernel
theorem dX12_owesBy_47 : decode cX12_owesBy 47 = .ok (.aload_n 0, 1) := by decide +kernel
theorem dX12_owesBy_48 : decode cX12_owesBy 48 = .ok (.iconst 2, 1) := by decide +kernel
theorem dX12_owesBy_49 : decode cX12_owesBy 49 = .ok (.invokestatic 205, 3) := by decide +kernel
theorem dX12_owesBy_52 : decode cX12_owesBy 52 = .ok (.iload_n 2, 1) := by decide +kernel
theorem dX12_owesBy_53 : decode cX12_owesBy 53 = .ok (.invokevirtual 294, 3) := by decide +kernel
theorem dX12_owesBy_56 : decode cX12_owesBy 56 = .ok (.iconst 3, 1) := by decide +kernel
theorem dX12_owesBy_57 : decode cX12_owesBy 57 = .ok (.imul, 1) := by decide +kernel
theorem dX12_owesBy_58 : decode cX12_owesBy 58 = .ok (.ireturn, 1) := by decide +kernel
theorem dX12_owesBy_59 : decode cX12_owesBy 59 = .ok (.aload_n 0, 1) := by decide +kernel
theorem dX12_owesBy_60 : decode cX12_owesBy 60 = .ok (.iload_n 1, 1) := by decide +kernel
theorem dX12_owesBy_61 : decode cX12_owesBy 61 = .ok (.invokestatic 205, 3) := by decide +kernel
theorem dX12_owesBy_64 : decode cX12_owesBy 64 = .ok (.iload_n 2, 1) := by decide +kernel
theorem dX12_owesBy_65 : decode cX12_owesBy 65 = .ok (.invokevirtual 294, 3) := by decide +kernel
theorem dX12_owesBy_68 : decode cX12_owesBy 68 = .ok (.ireturn, 1) := by decide +kernel
theorem dX12_writesBy_0 : decode cX12_writesBy 0 = .ok (.iload_n 1, 1) := by decide +kernel
theorem dX12_writesBy_1 : decode cX12_writesBy 1 = .ok (.tableswitch 99 0 4 #[35, 53, 99, 99, 81], 35) := by decide +kernel
theorem dX12_writesBy_36 : decode cX12_writesBy 36 = .ok (.aload_n 0, 1) := by decide +kernel
theorem dX12_writesBy_37 : decode cX12_writesBy 37 = .ok (.bipush 11, 2) := by decide +kernel
theorem dX12_writesBy_39 : decode cX12_writesBy 39 = .ok (.invokevirtual 291, 3) := by decide +kernel
theorem dX12_writesBy_42 : decode cX12_writesBy 42 = .ok (.aload_n 0, 1) := by decide +kernel
theorem dX12_writesBy_43 : decode cX12_writesBy 43 = .ok (.aload_n 0, 1) := by decide +kernel
theorem dX12_writesBy_44 : decode cX12_writesBy 44 = .ok (.invokevirtual 297, 3) := by decide +kernel
theorem dX12_writesBy_47 : decode cX12_writesBy 47 = .ok (.iload_n 2, 1) := by decide +kernel
theorem dX12_writesBy_48 : decode cX12_writesBy 48 = .ok (.invokevirtual 294, 3) := by decide +kernel
theorem dX12_writesBy_51 : decode cX12_writesBy 51 = .ok (.iconst 2, 1) := by decide +kernel
theorem dX12_writesBy_52 : decode cX12_writesBy 52 = .ok (.imul, 1) := by decide +kernel
theorem dX12_writesBy_53 : decode cX12_writesBy 53 = .ok (.ireturn, 1) := by decide +kernel
theorem dX12_writesBy_54 : decode cX12_writesBy 54 = .ok (.aload_n 0, 1) := by decide +kernel
theorem dX12_writesBy_55 : decode cX12_writesBy 55 = .ok (.bipush 20, 2) := by decide +kernel
theorem dX12_writesBy_57 : decode cX12_writesBy 57 = .ok (.invokevirtual 291, 3) := by decide +kernel
theorem dX12_writesBy_60 : decode cX12_writesBy 60 = .ok (.aload_n 0, 1) := by decide +kernel
theorem dX12_writesBy_61 : decode cX12_writesBy 61 = .ok (.iconst 1, 1) := by decide +kernel
theorem dX12_writesBy_62 : decode cX12_writesBy 62 = .ok (.invokestatic 205, 3) := by decide +kernel
theorem dX12_writesBy_65 : decode cX12_writesBy 65 = .ok (.iload_n 2, 1) := by decide +kernel
theorem dX12_writesBy_66 : decode cX12_writesBy 66 = .ok (.invokevirtual 300, 3) := by decide +kernel
theorem dX12_writesBy_69 : decode cX12_writesBy 69 = .ok (.istore_n 3, 1) := by decide +kernel
theorem dX12_writesBy_70 : decode cX12_writesBy 70 = .ok (.iload_n 3, 1) := by decide +kernel
theorem dX12_writesBy_71 : decode cX12_writesBy 71 = .ok (.aload_n 0, 1) := by decide +kernel
theorem dX12_writesBy_72 : decode cX12_writesBy 72 = .ok (.aload_n 0, 1) := by decide +kernel
theorem dX12_writesBy_73 : decode cX12_writesBy 73 = .ok (.invokevirtual 297, 3) := by decide +kernel
theorem dX12_writesBy_76 : decode cX12_writesBy 76 = .ok (.iconst 1, 1) := by decide +kernel
theorem dX12_writesBy_77 : decode cX12_writesBy 77 = .ok (.invokevirtual 303, 3) := by decide +kernel
theorem dX12_writesBy_80 : decode cX12_writesBy 80 = .ok (.isub, 1) := by decide +kernel
theorem dX12_writesBy_81 : decode cX12_writesBy 81 = .ok (.ireturn, 1) := by decide +kernel
theorem dX12_writesBy_82 : decode cX12_writesBy 82 = .ok (.aload_n 0, 1) := by decide +kernel
theorem dX12_writesBy_83 : decode cX12_writesBy 83 = .ok (.bipush 50, 2) := by decide +kernel
theorem dX12_writesBy_85 : decode cX12_writesBy 85 = .ok (.invokevirtual 291, 3) := by decide +kernel
theorem dX12_writesBy_88 : decode cX12_writesBy 88 = .ok (.aload_n 0, 1) := by decide +kernel
theorem dX12_writesBy_89 : decode cX12_writesBy 89 = .ok (.iconst 4, 1) := by decide +kernel
theorem dX12_writesBy_90 : decode cX12_writesBy 90 = .ok (.invokestatic 205, 3) := by decide +kernel
theorem dX12_writesBy_93 : decode cX12_writesBy 93 = .ok (.iload_n 2, 1) := by decide +kernel
theorem dX12_writesBy_94 : decode cX12_writesBy 94 = .ok (.iconst 1, 1) := by decide +kernel
theorem dX12_writesBy_95 : decode cX12_writesBy 95 = .ok (.iadd, 1) := by decide +kernel
theorem dX12_writesBy_96 : decode cX12_writesBy 96 = .ok (.invokevirtual 300, 3) := by decide +kernel
theorem dX12_writesBy_99 : decode cX12_writesBy 99 = .ok (.ireturn, 1) := by decide +kernel
theorem dX12_writesBy_100 : decode cX12_writesBy 100 = .ok (.aload_n 0, 1) := by decide +kernel
theorem dX12_writesBy_101 : decode cX12_writesBy 101 = .ok (.iload_n 1, 1) := by decide +kernel
theorem dX12_writesBy_102 : decode cX12_writesBy 102 = .ok (.invokestatic 205, 3) := by decide +kernel
theorem dX12_writesBy_105 : decode cX12_writesBy 105 = .ok (.iload_n 2, 1) := by decide +kernel
theorem dX12_writesBy_106 : decode cX12_writesBy 106 = .ok (.invokevirtual 300, 3) := by decide +kernel
theorem dX12_writesBy_109 : decode cX12_writesBy 109 = .ok (.ireturn, 1) := by decide +kernel
theorem dX12_readsBy_0 : decode cX12_readsBy 0 = .ok (.iload_n 1, 1) := by decide +kernel
theorem dX12_readsBy_1 : decode cX12_readsBy 1 = .ok (.lookupswitch 92 #[(0, 35), (3, 53), (6, 70)], 35) := by decide +kernel
theorem dX12_readsBy_36 : decode cX12_readsBy 36 = .ok (.aload_n 0, 1) := by decide +kernel
theorem dX12_readsBy_37 : decode cX12_readsBy 37 = .ok (.bipush 12, 2) := by decide +kernel
theorem dX12_readsBy_39 : decode cX12_readsBy 39 = .ok (.invokevirtual 291, 3) := by decide +kernel
theorem dX12_readsBy_42 : decode cX12_readsBy 42 = .ok (.iload_n 2, 1) := by decide +kernel
theorem dX12_readsBy_43 : decode cX12_readsBy 43 = .ok (.aload_n 0, 1) := by decide +kernel
theorem dX12_readsBy_44 : decode cX12_readsBy 44 = .ok (.aload_n 0, 1) := by decide +kernel
theorem dX12_readsBy_45 : decode cX12_readsBy 45 = .ok (.getfield 288, 3) := by decide +kernel
theorem dX12_readsBy_48 : decode cX12_readsBy 48 = .ok (.iconst 1, 1) := by decide +kernel
theorem dX12_readsBy_49 : decode cX12_readsBy 49 = .ok (.invokevirtual 150, 3) := by decide +kernel
theorem dX12_readsBy_52 : decode cX12_readsBy 52 = .ok (.isub, 1) := by decide +kernel
theorem dX12_readsBy_53 : decode cX12_readsBy 53 = .ok (.ireturn, 1) := by decide +kernel
theorem dX12_readsBy_54 : decode cX12_readsBy 54 = .ok (.aload_n 0, 1) := by decide +kernel
theorem dX12_readsBy_55 : decode cX12_readsBy 55 = .ok (.bipush 40, 2) := by decide +kernel
theorem dX12_readsBy_57 : decode cX12_readsBy 57 = .ok (.invokevirtual 291, 3) := by decide +kernel
theorem dX12_readsBy_60 : decode cX12_readsBy 60 = .ok (.aload_n 0, 1) := by decide +kernel
theorem dX12_readsBy_61 : decode cX12_readsBy 61 = .ok (.iconst 3, 1) := by decide +kernel
theorem dX12_readsBy_62 : decode cX12_readsBy 62 = .ok (.invokestatic 205, 3) := by decide +kernel
theorem dX12_readsBy_65 : decode cX12_readsBy 65 = .ok (.iload_n 2, 1) := by decide +kernel
theorem dX12_readsBy_66 : decode cX12_readsBy 66 = .ok (.invokevirtual 303, 3) := by decide +kernel
theorem dX12_readsBy_69 : decode cX12_readsBy 69 = .ok (.ineg, 1) := by decide +kernel
theorem dX12_readsBy_70 : decode cX12_readsBy 70 = .ok (.ireturn, 1) := by decide +kernel
theorem dX12_readsBy_71 : decode cX12_readsBy 71 = .ok (.aload_n 0, 1) := by decide +kernel
theorem dX12_readsBy_72 : decode cX12_readsBy 72 = .ok (.bipush 70, 2) := by decide +kernel
theorem dX12_readsBy_74 : decode cX12_readsBy 74 = .ok (.invokevirtual 291, 3) := by decide +kernel
theorem dX12_readsBy_77 : decode cX12_readsBy 77 = .ok (.aload_n 0, 1) := by decide +kernel
theorem dX12_readsBy_78 : decode cX12_readsBy 78 = .ok (.bipush 6, 2) := by decide +kernel
theorem dX12_readsBy_80 : decode cX12_readsBy 80 = .ok (.invokestatic 205, 3) := by decide +kernel
theorem dX12_readsBy_83 : decode cX12_readsBy 83 = .ok (.iload_n 2, 1) := by decide +kernel
theorem dX12_readsBy_84 : decode cX12_readsBy 84 = .ok (.invokevirtual 303, 3) := by decide +kernel
theorem dX12_readsBy_87 : decode cX12_readsBy 87 = .ok (.aload_n 0, 1) := by decide +kernel
theorem dX12_readsBy_88 : decode cX12_readsBy 88 = .ok (.getfield 288, 3) := by decide +kernel
theorem dX12_readsBy_91 : decode cX12_readsBy 91 = .ok (.ixor, 1) := by decide +kernel
theorem dX12_readsBy_92 : decode cX12_readsBy 92 = .ok (.ireturn, 1) := by decide +kernel
theorem dX12_readsBy_93 : decode cX12_readsBy 93 = .ok (.aload_n 0, 1) := by decide +kernel
theorem dX12_readsBy_94 : decode cX12_readsBy 94 = .ok (.iload_n 1, 1) := by decide +kernel
theorem dX12_readsBy_95 : decode cX12_readsBy 95 = .ok (.invokestatic 205, 3) := by decide +kernel
theorem dX12_readsBy_98 : decode cX12_readsBy 98 = .ok (.iload_n 2, 1) := by decide +kernel
theorem dX12_readsBy_99 : decode cX12_readsBy 99 = .ok (.invokevirtual 303, 3) := by decide +kernel
theorem dX12_readsBy_102 : decode cX12_readsBy 102 = .ok (.ireturn, 1) := by decide +kernel
theorem dX12_tellsBy_0 : decode cX12_tellsBy 0 = .ok (.iload_n 1, 1) := by decide +kernel
theorem dX12_tellsBy_1 : decode cX12_tellsBy 1 = .ok (.lookupswitch 120 #[(0, 35), (5, 63), (6, 91)], 35) := by decide +kernel
theorem dX12_tellsBy_36 : decode cX12_tellsBy 36 = .ok (.aload_n 0, 1) := by decide +kernel
theorem dX12_tellsBy_37 : decode cX12_tellsBy 37 = .ok (.bipush 13, 2) := by decide +kernel
theorem dX12_tellsBy_39 : decode cX12_tellsBy 39 = .ok (.invokevirtual 291, 3) := by decide +kernel
theorem dX12_tellsBy_42 : decode cX12_tellsBy 42 = .ok (.aload_n 0, 1) := by decide +kernel
theorem dX12_tellsBy_43 : decode cX12_tellsBy 43 = .ok (.aload_n 0, 1) := by decide +kernel
theorem dX12_tellsBy_44 : decode cX12_tellsBy 44 = .ok (.invokevirtual 297, 3) := by decide +kernel
theorem dX12_tellsBy_47 : decode cX12_tellsBy 47 = .ok (.iload_n 2, 1) := by decide +kernel
theorem dX12_tellsBy_48 : decode cX12_tellsBy 48 = .ok (.invokevirtual 300, 3) := by decide +kernel
theorem dX12_tellsBy_51 : decode cX12_tellsBy 51 = .ok (.istore_n 3, 1) := by decide +kernel
theorem dX12_tellsBy_52 : decode cX12_tellsBy 52 = .ok (.iload_n 3, 1) := by decide +kernel
theorem dX12_tellsBy_53 : decode cX12_tellsBy 53 = .ok (.aload_n 0, 1) := by decide +kernel
theorem dX12_tellsBy_54 : decode cX12_tellsBy 54 = .ok (.aload_n 0, 1) := by decide +kernel
theorem dX12_tellsBy_55 : decode cX12_tellsBy 55 = .ok (.invokevirtual 297, 3) := by decide +kernel
theorem dX12_tellsBy_58 : decode cX12_tellsBy 58 = .ok (.iload_n 2, 1) := by decide +kernel
theorem dX12_tellsBy_59 : decode cX12_tellsBy 59 = .ok (.invokevirtual 303, 3) := by decide +kernel
theorem dX12_tellsBy_62 : decode cX12_tellsBy 62 = .ok (.ixor, 1) := by decide +kernel
theorem dX12_tellsBy_63 : decode cX12_tellsBy 63 = .ok (.ireturn, 1) := by decide +kernel
theorem dX12_tellsBy_64 : decode cX12_tellsBy 64 = .ok (.aload_n 0, 1) := by decide +kernel
theorem dX12_tellsBy_65 : decode cX12_tellsBy 65 = .ok (.bipush 60, 2) := by decide +kernel
theorem dX12_tellsBy_67 : decode cX12_tellsBy 67 = .ok (.invokevirtual 291, 3) := by decide +kernel
theorem dX12_tellsBy_70 : decode cX12_tellsBy 70 = .ok (.aload_n 0, 1) := by decide +kernel
theorem dX12_tellsBy_71 : decode cX12_tellsBy 71 = .ok (.iconst 5, 1) := by decide +kernel
theorem dX12_tellsBy_72 : decode cX12_tellsBy 72 = .ok (.invokestatic 205, 3) := by decide +kernel
theorem dX12_tellsBy_75 : decode cX12_tellsBy 75 = .ok (.iload_n 2, 1) := by decide +kernel
theorem dX12_tellsBy_76 : decode cX12_tellsBy 76 = .ok (.invokevirtual 306, 3) := by decide +kernel
theorem dX12_tellsBy_79 : decode cX12_tellsBy 79 = .ok (.istore_n 3, 1) := by decide +kernel
theorem dX12_tellsBy_80 : decode cX12_tellsBy 80 = .ok (.iload_n 3, 1) := by decide +kernel
theorem dX12_tellsBy_81 : decode cX12_tellsBy 81 = .ok (.aload_n 0, 1) := by decide +kernel
theorem dX12_tellsBy_82 : decode cX12_tellsBy 82 = .ok (.aload_n 0, 1) := by decide +kernel
theorem dX12_tellsBy_83 : decode cX12_tellsBy 83 = .ok (.invokevirtual 297, 3) := by decide +kernel
theorem dX12_tellsBy_86 : decode cX12_tellsBy 86 = .ok (.iconst 2, 1) := by decide +kernel
theorem dX12_tellsBy_87 : decode cX12_tellsBy 87 = .ok (.invokevirtual 294, 3) := by decide +kernel
theorem dX12_tellsBy_90 : decode cX12_tellsBy 90 = .ok (.isub, 1) := by decide +kernel
theorem dX12_tellsBy_91 : decode cX12_tellsBy 91 = .ok (.ireturn, 1) := by decide +kernel
theorem dX12_tellsBy_92 : decode cX12_tellsBy 92 = .ok (.aload_n 0, 1) := by decide +kernel
theorem dX12_tellsBy_93 : decode cX12_tellsBy 93 = .ok (.bipush 71, 2) := by decide +kernel
theorem dX12_tellsBy_95 : decode cX12_tellsBy 95 = .ok (.invokevirtual 291, 3) := by decide +kernel
theorem dX12_tellsBy_98 : decode cX12_tellsBy 98 = .ok (.aload_n 0, 1) := by decide +kernel
theorem dX12_tellsBy_99 : decode cX12_tellsBy 99 = .ok (.aload_n 0, 1) := by decide +kernel
theorem dX12_tellsBy_100 : decode cX12_tellsBy 100 = .ok (.invokevirtual 297, 3) := by decide +kernel
theorem dX12_tellsBy_103 : decode cX12_tellsBy 103 = .ok (.iload_n 2, 1) := by decide +kernel
theorem dX12_tellsBy_104 : decode cX12_tellsBy 104 = .ok (.invokevirtual 300, 3) := by decide +kernel
theorem dX12_tellsBy_107 : decode cX12_tellsBy 107 = .ok (.istore_n 3, 1) := by decide +kernel
theorem dX12_tellsBy_108 : decode cX12_tellsBy 108 = .ok (.iload_n 3, 1) := by decide +kernel
theorem dX12_tellsBy_109 : decode cX12_tellsBy 109 = .ok (.aload_n 0, 1) := by decide +kernel
theorem dX12_tellsBy_110 : decode cX12_tellsBy 110 = .ok (.bipush 6, 2) := by decide +kernel
theorem dX12_tellsBy_112 : decode cX12_tellsBy 112 = .ok (.invokestatic 205, 3) := by decide +kernel
theorem dX12_tellsBy_115 : decode cX12_tellsBy 115 = .ok (.iload_n 2, 1) := by decide +kernel
theorem dX12_tellsBy_116 : decode cX12_tellsBy 116 = .ok (.invokevirtual 306, 3) := by decide +kernel
theorem dX12_tellsBy_119 : decode cX12_tellsBy 119 = .ok (.isub, 1) := by decide +kernel
theorem dX12_tellsBy_120 : decode cX12_tellsBy 120 = .ok (.ireturn, 1) := by decide +kernel
theorem dX12_tellsBy_121 : decode cX12_tellsBy 121 = .ok (.aload_n 0, 1) := by decide +kernel
theorem dX12_tellsBy_122 : decode cX12_tellsBy 122 = .ok (.iload_n 1, 1) := by decide +kernel
theorem dX12_tellsBy_123 : decode cX12_tellsBy 123 = .ok (.invokestatic 205, 3) := by decide +kernel
theorem dX12_tellsBy_126 : decode cX12_tellsBy 126 = .ok (.iload_n 2, 1) := by decide +kernel
theorem dX12_tellsBy_127 : decode cX12_tellsBy 127 = .ok (.invokevirtual 306, 3) := by decide +kernel
theorem dX12_tellsBy_130 : decode cX12_tellsBy 130 = .ok (.ireturn, 1) := by decide +kernel
theorem dX12_voice_0 : decode cX12_voice 0 = .ok (.aload_n 0, 1) := by decide +kernel
theorem dX12_voice_1 : decode cX12_voice 1 = .ok (.iload_n 1, 1) := by decide +kernel
theorem dX12_voice_2 : decode cX12_voice 2 = .ok (.invokevirtual 197, 3) := by decide +kernel
theorem dX12_voice_5 : decode cX12_voice 5 = .ok (.ifCond .eq 15, 3) := by decide +kernel
theorem dX12_voice_8 : decode cX12_voice 8 = .ok (.iload_n 2, 1) := by decide +kernel
theorem dX12_voice_9 : decode cX12_voice 9 = .ok (.i2l, 1) := by decide +kernel
theorem dX12_voice_10 : decode cX12_voice 10 = .ok (.lconst 0, 1) := by decide +kernel
theorem dX12_voice_11 : decode cX12_voice 11 = .ok (.ldc2_w 309, 3) := by decide +kernel
theorem dX12_voice_14 : decode cX12_voice 14 = .ok (.invokestatic 57, 3) := by decide +kernel
theorem dX12_voice_17 : decode cX12_voice 17 = .ok (.ifCond .ne 9, 3) := by decide +kernel
theorem dX12_voice_20 : decode cX12_voice 20 = .ok (.aload_n 0, 1) := by decide +kernel
theorem dX12_voice_21 : decode cX12_voice 21 = .ok (.iconst 1, 1) := by decide +kernel
theorem dX12_voice_22 : decode cX12_voice 22 = .ok (.invokevirtual 119, 3) := by decide +kernel
theorem dX12_voice_25 : decode cX12_voice 25 = .ok (.ireturn, 1) := by decide +kernel
theorem dX12_voice_26 : decode cX12_voice 26 = .ok (.aload_n 0, 1) := by decide +kernel
theorem dX12_voice_27 : decode cX12_voice 27 = .ok (.iconst 0, 1) := by decide +kernel
theorem dX12_voice_28 : decode cX12_voice 28 = .ok (.putfield 285, 3) := by decide +kernel
theorem dX12_voice_31 : decode cX12_voice 31 = .ok (.aload_n 0, 1) := by decide +kernel
theorem dX12_voice_32 : decode cX12_voice 32 = .ok (.iload_n 1, 1) := by decide +kernel
theorem dX12_voice_33 : decode cX12_voice 33 = .ok (.putfield 288, 3) := by decide +kernel
theorem dX12_voice_36 : decode cX12_voice 36 = .ok (.aload_n 0, 1) := by decide +kernel
theorem dX12_voice_37 : decode cX12_voice 37 = .ok (.invokevirtual 297, 3) := by decide +kernel
theorem dX12_voice_40 : decode cX12_voice 40 = .ok (.istore 4, 2) := by decide +kernel
theorem dX12_voice_42 : decode cX12_voice 42 = .ok (.iload_n 2, 1) := by decide +kernel
theorem dX12_voice_43 : decode cX12_voice 43 = .ok (.ifCond .ne 13, 3) := by decide +kernel
theorem dX12_voice_46 : decode cX12_voice 46 = .ok (.aload_n 0, 1) := by decide +kernel
theorem dX12_voice_47 : decode cX12_voice 47 = .ok (.iload 4, 2) := by decide +kernel
theorem dX12_voice_49 : decode cX12_voice 49 = .ok (.iload_n 3, 1) := by decide +kernel
theorem dX12_voice_50 : decode cX12_voice 50 = .ok (.invokevirtual 294, 3) := by decide +kernel
theorem dX12_voice_53 : decode cX12_voice 53 = .ok (.goto 40, 3) := by decide +kernel
theorem dX12_voice_56 : decode cX12_voice 56 = .ok (.iload_n 2, 1) := by decide +kernel
theorem dX12_voice_57 : decode cX12_voice 57 = .ok (.iconst 1, 1) := by decide +kernel
theorem dX12_voice_58 : decode cX12_voice 58 = .ok (.if_icmp .ne 13, 3) := by decide +kernel
theorem dX12_voice_61 : decode cX12_voice 61 = .ok (.aload_n 0, 1) := by decide +kernel
theorem dX12_voice_62 : decode cX12_voice 62 = .ok (.iload 4, 2) := by decide +kernel
theorem dX12_voice_64 : decode cX12_voice 64 = .ok (.iload_n 3, 1) := by decide +kernel
theorem dX12_voice_65 : decode cX12_voice 65 = .ok (.invokevirtual 300, 3) := by decide +kernel
theorem dX12_voice_68 : decode cX12_voice 68 = .ok (.goto 25, 3) := by decide +kernel
theorem dX12_voice_71 : decode cX12_voice 71 = .ok (.iload_n 2, 1) := by decide +kernel
theorem dX12_voice_72 : decode cX12_voice 72 = .ok (.iconst 2, 1) := by decide +kernel
theorem dX12_voice_73 : decode cX12_voice 73 = .ok (.if_icmp .ne 13, 3) := by decide +kernel
theorem dX12_voice_76 : decode cX12_voice 76 = .ok (.aload_n 0, 1) := by decide +kernel
theorem dX12_voice_77 : decode cX12_voice 77 = .ok (.iload 4, 2) := by decide +kernel
theorem dX12_voice_79 : decode cX12_voice 79 = .ok (.iload_n 3, 1) := by decide +kernel
theorem dX12_voice_80 : decode cX12_voice 80 = .ok (.invokevirtual 303, 3) := by decide +kernel
theorem dX12_voice_83 : decode cX12_voice 83 = .ok (.goto 10, 3) := by decide +kernel
theorem dX12_voice_86 : decode cX12_voice 86 = .ok (.aload_n 0, 1) := by decide +kernel
theorem dX12_voice_87 : decode cX12_voice 87 = .ok (.iload 4, 2) := by decide +kernel
theorem dX12_voice_89 : decode cX12_voice 89 = .ok (.iload_n 3, 1) := by decide +kernel
theorem dX12_voice_90 : decode cX12_voice 90 = .ok (.invokevirtual 306, 3) := by decide +kernel
theorem dX12_voice_93 : decode cX12_voice 93 = .ok (.ireturn, 1) := by decide +kernel
theorem dX12_trace_0 : decode cX12_trace 0 = .ok (.iload_n 1, 1) := by decide +kernel
theorem dX12_trace_1 : decode cX12_trace 1 = .ok (.i2l, 1) := by decide +kernel
theorem dX12_trace_2 : decode cX12_trace 2 = .ok (.lconst 0, 1) := by decide +kernel
theorem dX12_trace_3 : decode cX12_trace 3 = .ok (.aload_n 0, 1) := by decide +kernel
theorem dX12_trace_4 : decode cX12_trace 4 = .ok (.getfield 285, 3) := by decide +kernel
theorem dX12_trace_7 : decode cX12_trace 7 = .ok (.iconst 1, 1) := by decide +kernel
theorem dX12_trace_8 : decode cX12_trace 8 = .ok (.isub, 1) := by decide +kernel
theorem dX12_trace_9 : decode cX12_trace 9 = .ok (.i2l, 1) := by decide +kernel
theorem dX12_trace_10 : decode cX12_trace 10 = .ok (.invokestatic 57, 3) := by decide +kernel
theorem dX12_trace_13 : decode cX12_trace 13 = .ok (.ifCond .eq 12, 3) := by decide +kernel
theorem dX12_trace_16 : decode cX12_trace 16 = .ok (.aload_n 0, 1) := by decide +kernel
theorem dX12_trace_17 : decode cX12_trace 17 = .ok (.getfield 41, 3) := by decide +kernel
theorem dX12_trace_20 : decode cX12_trace 20 = .ok (.iload_n 1, 1) := by decide +kernel
theorem dX12_trace_21 : decode cX12_trace 21 = .ok (.iaload, 1) := by decide +kernel
theorem dX12_trace_22 : decode cX12_trace 22 = .ok (.goto 8, 3) := by decide +kernel
theorem dX12_trace_25 : decode cX12_trace 25 = .ok (.aload_n 0, 1) := by decide +kernel
theorem dX12_trace_26 : decode cX12_trace 26 = .ok (.iconst 2, 1) := by decide +kernel
theorem dX12_trace_27 : decode cX12_trace 27 = .ok (.invokevirtual 119, 3) := by decide +kernel
theorem dX12_trace_30 : decode cX12_trace 30 = .ok (.ireturn, 1) := by decide +kernel
theorem dX12_isSheet_0 : decode cX12_isSheet 0 = .ok (.iload_n 0, 1) := by decide +kernel
theorem dX12_isSheet_1 : decode cX12_isSheet 1 = .ok (.i2l, 1) := by decide +kernel
theorem dX12_isSheet_2 : decode cX12_isSheet 2 = .ok (.lconst 0, 1) := by decide +kernel
theorem dX12_isSheet_3 : decode cX12_isSheet 3 = .ok (.ldc2_w 309, 3) := by decide +kernel
theorem dX12_isSheet_6 : decode cX12_isSheet 6 = .ok (.invokestatic 57, 3) := by decide +kernel
theorem dX12_isSheet_9 : decode cX12_isSheet 9 = .ok (.ireturn, 1) := by decide +kernel
theorem dX12_sheet_0 : decode cX12_sheet 0 = .ok (.iload_n 1, 1) := by decide +kernel
theorem dX12_sheet_1 : decode cX12_sheet 1 = .ok (.invokestatic 273, 3) := by decide +kernel
theorem dX12_sheet_4 : decode cX12_sheet 4 = .ok (.ifCond .eq 25, 3) := by decide +kernel
theorem dX12_sheet_7 : decode cX12_sheet 7 = .ok (.iload_n 2, 1) := by decide +kernel
theorem dX12_sheet_8 : decode cX12_sheet 8 = .ok (.ifCond .eq 27, 3) := by decide +kernel
theorem dX12_sheet_11 : decode cX12_sheet 11 = .ok (.iload_n 2, 1) := by decide +kernel
theorem dX12_sheet_12 : decode cX12_sheet 12 = .ok (.bipush 8, 2) := by decide +kernel
theorem dX12_sheet_14 : decode cX12_sheet 14 = .ok (.if_icmp .eq 21, 3) := by decide +kernel
theorem dX12_sheet_17 : decode cX12_sheet 17 = .ok (.iload_n 2, 1) := by decide +kernel
theorem dX12_sheet_18 : decode cX12_sheet 18 = .ok (.bipush 16, 2) := by decide +kernel
theorem dX12_sheet_20 : decode cX12_sheet 20 = .ok (.if_icmp .eq 15, 3) := by decide +kernel
theorem dX12_sheet_23 : decode cX12_sheet 23 = .ok (.iload_n 2, 1) := by decide +kernel
theorem dX12_sheet_24 : decode cX12_sheet 24 = .ok (.bipush 32, 2) := by decide +kernel
theorem dX12_sheet_26 : decode cX12_sheet 26 = .ok (.if_icmp .eq 9, 3) := by decide +kernel
theorem dX12_sheet_29 : decode cX12_sheet 29 = .ok (.aload_n 0, 1) := by decide +kernel
theorem dX12_sheet_30 : decode cX12_sheet 30 = .ok (.iconst 1, 1) := by decide +kernel
theorem dX12_sheet_31 : decode cX12_sheet 31 = .ok (.invokevirtual 119, 3) := by decide +kernel
theorem dX12_sheet_34 : decode cX12_sheet 34 = .ok (.ireturn, 1) := by decide +kernel
theorem dX12_sheet_35 : decode cX12_sheet 35 = .ok (.iload_n 2, 1) := by decide +kernel
theorem dX12_sheet_36 : decode cX12_sheet 36 = .ok (.ifCond .eq 13, 3) := by decide +kernel
theorem dX12_sheet_39 : decode cX12_sheet 39 = .ok (.iload_n 3, 1) := by decide +kernel
theorem dX12_sheet_40 : decode cX12_sheet 40 = .ok (.ifCond .ge 9, 3) := by decide +kernel
theorem dX12_sheet_43 : decode cX12_sheet 43 = .ok (.aload_n 0, 1) := by decide +kernel
theorem dX12_sheet_44 : decode cX12_sheet 44 = .ok (.iconst 3, 1) := by decide +kernel
theorem dX12_sheet_45 : decode cX12_sheet 45 = .ok (.invokevirtual 119, 3) := by decide +kernel
theorem dX12_sheet_48 : decode cX12_sheet 48 = .ok (.ireturn, 1) := by decide +kernel
theorem dX12_sheet_49 : decode cX12_sheet 49 = .ok (.iload_n 2, 1) := by decide +kernel
theorem dX12_sheet_50 : decode cX12_sheet 50 = .ok (.ifCond .eq 15, 3) := by decide +kernel
theorem dX12_sheet_53 : decode cX12_sheet 53 = .ok (.iload_n 3, 1) := by decide +kernel
theorem dX12_sheet_54 : decode cX12_sheet 54 = .ok (.bipush 40, 2) := by decide +kernel
theorem dX12_sheet_56 : decode cX12_sheet 56 = .ok (.if_icmp .le 9, 3) := by decide +kernel
theorem dX12_sheet_59 : decode cX12_sheet 59 = .ok (.aload_n 0, 1) := by decide +kernel
theorem dX12_sheet_60 : decode cX12_sheet 60 = .ok (.iconst 1, 1) := by decide +kernel
theorem dX12_sheet_61 : decode cX12_sheet 61 = .ok (.invokevirtual 119, 3) := by decide +kernel
theorem dX12_sheet_64 : decode cX12_sheet 64 = .ok (.ireturn, 1) := by decide +kernel
theorem dX12_sheet_65 : decode cX12_sheet 65 = .ok (.aload_n 0, 1) := by decide +kernel
theorem dX12_sheet_66 : decode cX12_sheet 66 = .ok (.getfield 44, 3) := by decide +kernel
theorem dX12_sheet_69 : decode cX12_sheet 69 = .ok (.iload_n 1, 1) := by decide +kernel
theorem dX12_sheet_70 : decode cX12_sheet 70 = .ok (.iload_n 2, 1) := by decide +kernel
theorem dX12_sheet_71 : decode cX12_sheet 71 = .ok (.iastore, 1) := by decide +kernel
theorem dX12_sheet_72 : decode cX12_sheet 72 = .ok (.aload_n 0, 1) := by decide +kernel
theorem dX12_sheet_73 : decode cX12_sheet 73 = .ok (.getfield 47, 3) := by decide +kernel
theorem dX12_sheet_76 : decode cX12_sheet 76 = .ok (.iload_n 1, 1) := by decide +kernel
theorem dX12_sheet_77 : decode cX12_sheet 77 = .ok (.iload_n 2, 1) := by decide +kernel
theorem dX12_sheet_78 : decode cX12_sheet 78 = .ok (.ifCond .ne 7, 3) := by decide +kernel
theorem dX12_sheet_81 : decode cX12_sheet 81 = .ok (.iconst 0, 1) := by decide +kernel
theorem dX12_sheet_82 : decode cX12_sheet 82 = .ok (.goto 4, 3) := by decide +kernel
theorem dX12_sheet_85 : decode cX12_sheet 85 = .ok (.iload_n 3, 1) := by decide +kernel
theorem dX12_sheet_86 : decode cX12_sheet 86 = .ok (.iastore, 1) := by decide +kernel
theorem dX12_sheet_87 : decode cX12_sheet 87 = .ok (.iconst 0, 1) := by decide +kernel
theorem dX12_sheet_88 : decode cX12_sheet 88 = .ok (.istore 4, 2) := by decide +kernel
theorem dX12_sheet_90 : decode cX12_sheet 90 = .ok (.iload 4, 2) := by decide +kernel
theorem dX12_sheet_92 : decode cX12_sheet 92 = .ok (.bipush 40, 2) := by decide +kernel
theorem dX12_sheet_94 : decode cX12_sheet 94 = .ok (.if_icmp .ge 22, 3) := by decide +kernel
theorem dX12_sheet_97 : decode cX12_sheet 97 = .ok (.aload_n 0, 1) := by decide +kernel
theorem dX12_sheet_98 : decode cX12_sheet 98 = .ok (.getfield 50, 3) := by decide +kernel
theorem dX12_sheet_101 : decode cX12_sheet 101 = .ok (.bipush 40, 2) := by decide +kernel
theorem dX12_sheet_103 : decode cX12_sheet 103 = .ok (.iload_n 1, 1) := by decide +kernel
theorem dX12_sheet_104 : decode cX12_sheet 104 = .ok (.imul, 1) := by decide +kernel
theorem dX12_sheet_105 : decode cX12_sheet 105 = .ok (.iload 4, 2) := by decide +kernel
theorem dX12_sheet_107 : decode cX12_sheet 107 = .ok (.iadd, 1) := by decide +kernel
theorem dX12_sheet_108 : decode cX12_sheet 108 = .ok (.iconst 0, 1) := by decide +kernel
theorem dX12_sheet_109 : decode cX12_sheet 109 = .ok (.iastore, 1) := by decide +kernel
theorem dX12_sheet_110 : decode cX12_sheet 110 = .ok (.iinc 4 1, 3) := by decide +kernel
theorem dX12_sheet_113 : decode cX12_sheet 113 = .ok (.goto (-23), 3) := by decide +kernel
theorem dX12_sheet_116 : decode cX12_sheet 116 = .ok (.iconst 1, 1) := by decide +kernel
theorem dX12_sheet_117 : decode cX12_sheet 117 = .ok (.ireturn, 1) := by decide +kernel
theorem dX12_put_0 : decode cX12_put 0 = .ok (.iload_n 1, 1) := by decide +kernel
theorem dX12_put_1 : decode cX12_put 1 = .ok (.invokestatic 273, 3) := by decide +kernel
theorem dX12_put_4 : decode cX12_put 4 = .ok (.ifCond .ne 9, 3) := by decide +kernel
theorem dX12_put_7 : decode cX12_put 7 = .ok (.aload_n 0, 1) := by decide +kernel
theorem dX12_put_8 : decode cX12_put 8 = .ok (.iconst 1, 1) := by decide +kernel
theorem dX12_put_9 : decode cX12_put 9 = .ok (.invokevirtual 119, 3) := by decide +kernel
theorem dX12_put_12 : decode cX12_put 12 = .ok (.ireturn, 1) := by decide +kernel
theorem dX12_put_13 : decode cX12_put 13 = .ok (.aload_n 0, 1) := by decide +kernel
theorem dX12_put_14 : decode cX12_put 14 = .ok (.getfield 44, 3) := by decide +kernel
theorem dX12_put_17 : decode cX12_put 17 = .ok (.iload_n 1, 1) := by decide +kernel
theorem dX12_put_18 : decode cX12_put 18 = .ok (.iaload, 1) := by decide +kernel
theorem dX12_put_19 : decode cX12_put 19 = .ok (.ifCond .ne 9, 3) := by decide +kernel
theorem dX12_put_22 : decode cX12_put 22 = .ok (.aload_n 0, 1) := by decide +kernel
theorem dX12_put_23 : decode cX12_put 23 = .ok (.iconst 2, 1) := by decide +kernel
theorem dX12_put_24 : decode cX12_put 24 = .ok (.invokevirtual 119, 3) := by decide +kernel
theorem dX12_put_27 : decode cX12_put 27 = .ok (.ireturn, 1) := by decide +kernel
theorem dX12_put_28 : decode cX12_put 28 = .ok (.iload_n 2, 1) := by decide +kernel
theorem dX12_put_29 : decode cX12_put 29 = .ok (.i2l, 1) := by decide +kernel
theorem dX12_put_30 : decode cX12_put 30 = .ok (.lconst 0, 1) := by decide +kernel
theorem dX12_put_31 : decode cX12_put 31 = .ok (.aload_n 0, 1) := by decide +kernel
theorem dX12_put_32 : decode cX12_put 32 = .ok (.getfield 47, 3) := by decide +kernel
theorem dX12_put_35 : decode cX12_put 35 = .ok (.iload_n 1, 1) := by decide +kernel
theorem dX12_put_36 : decode cX12_put 36 = .ok (.iaload, 1) := by decide +kernel
theorem dX12_put_37 : decode cX12_put 37 = .ok (.iconst 1, 1) := by decide +kernel
theorem dX12_put_38 : decode cX12_put 38 = .ok (.isub, 1) := by decide +kernel
theorem dX12_put_39 : decode cX12_put 39 = .ok (.i2l, 1) := by decide +kernel
theorem dX12_put_40 : decode cX12_put 40 = .ok (.invokestatic 57, 3) := by decide +kernel
theorem dX12_put_43 : decode cX12_put 43 = .ok (.ifCond .ne 9, 3) := by decide +kernel
theorem dX12_put_46 : decode cX12_put 46 = .ok (.aload_n 0, 1) := by decide +kernel
theorem dX12_put_47 : decode cX12_put 47 = .ok (.iconst 1, 1) := by decide +kernel
theorem dX12_put_48 : decode cX12_put 48 = .ok (.invokevirtual 119, 3) := by decide +kernel
theorem dX12_put_51 : decode cX12_put 51 = .ok (.ireturn, 1) := by decide +kernel
theorem dX12_put_52 : decode cX12_put 52 = .ok (.aload_n 0, 1) := by decide +kernel
theorem dX12_put_53 : decode cX12_put 53 = .ok (.getfield 50, 3) := by decide +kernel
theorem dX12_put_56 : decode cX12_put 56 = .ok (.bipush 40, 2) := by decide +kernel
theorem dX12_put_58 : decode cX12_put 58 = .ok (.iload_n 1, 1) := by decide +kernel
theorem dX12_put_59 : decode cX12_put 59 = .ok (.imul, 1) := by decide +kernel
theorem dX12_put_60 : decode cX12_put 60 = .ok (.iload_n 2, 1) := by decide +kernel
theorem dX12_put_61 : decode cX12_put 61 = .ok (.iadd, 1) := by decide +kernel
theorem dX12_put_62 : decode cX12_put 62 = .ok (.aload_n 0, 1) := by decide +kernel
theorem dX12_put_63 : decode cX12_put 63 = .ok (.getfield 44, 3) := by decide +kernel
theorem dX12_put_66 : decode cX12_put 66 = .ok (.iload_n 1, 1) := by decide +kernel
theorem dX12_put_67 : decode cX12_put 67 = .ok (.iaload, 1) := by decide +kernel
theorem dX12_put_68 : decode cX12_put 68 = .ok (.bipush 8, 2) := by decide +kernel
theorem dX12_put_70 : decode cX12_put 70 = .ok (.if_icmp .ne 8, 3) := by decide +kernel
theorem dX12_put_73 : decode cX12_put 73 = .ok (.iload_n 3, 1) := by decide +kernel
theorem dX12_put_74 : decode cX12_put 74 = .ok (.i2b, 1) := by decide +kernel
theorem dX12_put_75 : decode cX12_put 75 = .ok (.goto 20, 3) := by decide +kernel
theorem dX12_put_78 : decode cX12_put 78 = .ok (.aload_n 0, 1) := by decide +kernel
theorem dX12_put_79 : decode cX12_put 79 = .ok (.getfield 44, 3) := by decide +kernel
theorem dX12_put_82 : decode cX12_put 82 = .ok (.iload_n 1, 1) := by decide +kernel
theorem dX12_put_83 : decode cX12_put 83 = .ok (.iaload, 1) := by decide +kernel
theorem dX12_put_84 : decode cX12_put 84 = .ok (.bipush 16, 2) := by decide +kernel
theorem dX12_put_86 : decode cX12_put 86 = .ok (.if_icmp .ne 8, 3) := by decide +kernel
theorem dX12_put_89 : decode cX12_put 89 = .ok (.iload_n 3, 1) := by decide +kernel
theorem dX12_put_90 : decode cX12_put 90 = .ok (.i2s, 1) := by decide +kernel
theorem dX12_put_91 : decode cX12_put 91 = .ok (.goto 4, 3) := by decide +kernel
theorem dX12_put_94 : decode cX12_put 94 = .ok (.iload_n 3, 1) := by decide +kernel
theorem dX12_put_95 : decode cX12_put 95 = .ok (.iastore, 1) := by decide +kernel
theorem dX12_put_96 : decode cX12_put 96 = .ok (.iconst 1, 1) := by decide +kernel
theorem dX12_put_97 : decode cX12_put 97 = .ok (.ireturn, 1) := by decide +kernel
theorem dX12_move_0 : decode cX12_move 0 = .ok (.iload_n 1, 1) := by decide +kernel
theorem dX12_move_1 : decode cX12_move 1 = .ok (.invokestatic 273, 3) := by decide +kernel
theorem dX12_move_4 : decode cX12_move 4 = .ok (.ifCond .eq 10, 3) := by decide +kernel
theorem dX12_move_7 : decode cX12_move 7 = .ok (.iload_n 3, 1) := by decide +kernel
theorem dX12_move_8 : decode cX12_move 8 = .ok (.invokestatic 273, 3) := by decide +kernel
theorem dX12_move_11 : decode cX12_move 11 = .ok (.ifCond .ne 9, 3) := by decide +kernel
theorem dX12_move_14 : decode cX12_move 14 = .ok (.aload_n 0, 1) := by decide +kernel
theorem dX12_move_15 : decode cX12_move 15 = .ok (.iconst 1, 1) := by decide +kernel
theorem dX12_move_16 : decode cX12_move 16 = .ok (.invokevirtual 119, 3) := by decide +kernel
theorem dX12_move_19 : decode cX12_move 19 = .ok (.ireturn, 1) := by decide +kernel
theorem dX12_move_20 : decode cX12_move 20 = .ok (.aload_n 0, 1) := by decide +kernel
theorem dX12_move_21 : decode cX12_move 21 = .ok (.getfield 44, 3) := by decide +kernel
theorem dX12_move_24 : decode cX12_move 24 = .ok (.iload_n 1, 1) := by decide +kernel
theorem dX12_move_25 : decode cX12_move 25 = .ok (.iaload, 1) := by decide +kernel
theorem dX12_move_26 : decode cX12_move 26 = .ok (.ifCond .eq 12, 3) := by decide +kernel
theorem dX12_move_29 : decode cX12_move 29 = .ok (.aload_n 0, 1) := by decide +kernel
theorem dX12_move_30 : decode cX12_move 30 = .ok (.getfield 44, 3) := by decide +kernel
theorem dX12_move_33 : decode cX12_move 33 = .ok (.iload_n 3, 1) := by decide +kernel
theorem dX12_move_34 : decode cX12_move 34 = .ok (.iaload, 1) := by decide +kernel
theorem dX12_move_35 : decode cX12_move 35 = .ok (.ifCond .ne 9, 3) := by decide +kernel
theorem dX12_move_38 : decode cX12_move 38 = .ok (.aload_n 0, 1) := by decide +kernel
theorem dX12_move_39 : decode cX12_move 39 = .ok (.iconst 2, 1) := by decide +kernel
theorem dX12_move_40 : decode cX12_move 40 = .ok (.invokevirtual 119, 3) := by decide +kernel
theorem dX12_move_43 : decode cX12_move 43 = .ok (.ireturn, 1) := by decide +kernel
theorem dX12_move_44 : decode cX12_move 44 = .ok (.aload_n 0, 1) := by decide +kernel
theorem dX12_move_45 : decode cX12_move 45 = .ok (.getfield 44, 3) := by decide +kernel
theorem dX12_move_48 : decode cX12_move 48 = .ok (.iload_n 1, 1) := by decide +kernel
theorem dX12_move_49 : decode cX12_move 49 = .ok (.iaload, 1) := by decide +kernel
theorem dX12_move_50 : decode cX12_move 50 = .ok (.aload_n 0, 1) := by decide +kernel
theorem dX12_move_51 : decode cX12_move 51 = .ok (.getfield 44, 3) := by decide +kernel
theorem dX12_move_54 : decode cX12_move 54 = .ok (.iload_n 3, 1) := by decide +kernel
theorem dX12_move_55 : decode cX12_move 55 = .ok (.iaload, 1) := by decide +kernel
theorem dX12_move_56 : decode cX12_move 56 = .ok (.if_icmp .eq 9, 3) := by decide +kernel
theorem dX12_move_59 : decode cX12_move 59 = .ok (.aload_n 0, 1) := by decide +kernel
theorem dX12_move_60 : decode cX12_move 60 = .ok (.iconst 5, 1) := by decide +kernel
theorem dX12_move_61 : decode cX12_move 61 = .ok (.invokevirtual 119, 3) := by decide +kernel
theorem dX12_move_64 : decode cX12_move 64 = .ok (.ireturn, 1) := by decide +kernel
theorem dX12_move_65 : decode cX12_move 65 = .ok (.iload 5, 2) := by decide +kernel
theorem dX12_move_67 : decode cX12_move 67 = .ok (.ifCond .lt 39, 3) := by decide +kernel
theorem dX12_move_70 : decode cX12_move 70 = .ok (.iload_n 2, 1) := by decide +kernel
theorem dX12_move_71 : decode cX12_move 71 = .ok (.ifCond .lt 35, 3) := by decide +kernel
theorem dX12_move_74 : decode cX12_move 74 = .ok (.iload 4, 2) := by decide +kernel
theorem dX12_move_76 : decode cX12_move 76 = .ok (.ifCond .lt 30, 3) := by decide +kernel
theorem dX12_move_79 : decode cX12_move 79 = .ok (.iload 5, 2) := by decide +kernel
theorem dX12_move_81 : decode cX12_move 81 = .ok (.aload_n 0, 1) := by decide +kernel
theorem dX12_move_82 : decode cX12_move 82 = .ok (.getfield 47, 3) := by decide +kernel
theorem dX12_move_85 : decode cX12_move 85 = .ok (.iload_n 1, 1) := by decide +kernel
theorem dX12_move_86 : decode cX12_move 86 = .ok (.iaload, 1) := by decide +kernel
theorem dX12_move_87 : decode cX12_move 87 = .ok (.iload_n 2, 1) := by decide +kernel
theorem dX12_move_88 : decode cX12_move 88 = .ok (.isub, 1) := by decide +kernel
theorem dX12_move_89 : decode cX12_move 89 = .ok (.if_icmp .gt 17, 3) := by decide +kernel
theorem dX12_move_92 : decode cX12_move 92 = .ok (.iload 5, 2) := by decide +kernel
theorem dX12_move_94 : decode cX12_move 94 = .ok (.aload_n 0, 1) := by decide +kernel
theorem dX12_move_95 : decode cX12_move 95 = .ok (.getfield 47, 3) := by decide +kernel
theorem dX12_move_98 : decode cX12_move 98 = .ok (.iload_n 3, 1) := by decide +kernel
theorem dX12_move_99 : decode cX12_move 99 = .ok (.iaload, 1) := by decide +kernel
theorem dX12_move_100 : decode cX12_move 100 = .ok (.iload 4, 2) := by decide +kernel
theorem dX12_move_102 : decode cX12_move 102 = .ok (.isub, 1) := by decide +kernel
theorem dX12_move_103 : decode cX12_move 103 = .ok (.if_icmp .le 9, 3) := by decide +kernel
theorem dX12_move_106 : decode cX12_move 106 = .ok (.aload_n 0, 1) := by decide +kernel
theorem dX12_move_107 : decode cX12_move 107 = .ok (.iconst 1, 1) := by decide +kernel
theorem dX12_move_108 : decode cX12_move 108 = .ok (.invokevirtual 119, 3) := by decide +kernel
theorem dX12_move_111 : decode cX12_move 111 = .ok (.ireturn, 1) := by decide +kernel
theorem dX12_move_112 : decode cX12_move 112 = .ok (.iconst 0, 1) := by decide +kernel
theorem dX12_move_113 : decode cX12_move 113 = .ok (.istore 6, 2) := by decide +kernel
theorem dX12_move_115 : decode cX12_move 115 = .ok (.iload 6, 2) := by decide +kernel
theorem dX12_move_117 : decode cX12_move 117 = .ok (.iload 5, 2) := by decide +kernel
theorem dX12_move_119 : decode cX12_move 119 = .ok (.if_icmp .ge 30, 3) := by decide +kernel
theorem dX12_move_122 : decode cX12_move 122 = .ok (.aload_n 0, 1) := by decide +kernel
theorem dX12_move_123 : decode cX12_move 123 = .ok (.getfield 53, 3) := by decide +kernel
theorem dX12_move_126 : decode cX12_move 126 = .ok (.iload 6, 2) := by decide +kernel
theorem dX12_move_128 : decode cX12_move 128 = .ok (.aload_n 0, 1) := by decide +kernel
theorem dX12_move_129 : decode cX12_move 129 = .ok (.getfield 50, 3) := by decide +kernel
theorem dX12_move_132 : decode cX12_move 132 = .ok (.bipush 40, 2) := by decide +kernel
theorem dX12_move_134 : decode cX12_move 134 = .ok (.iload_n 1, 1) := by decide +kernel
theorem dX12_move_135 : decode cX12_move 135 = .ok (.imul, 1) := by decide +kernel
theorem dX12_move_136 : decode cX12_move 136 = .ok (.iload_n 2, 1) := by decide +kernel
theorem dX12_move_137 : decode cX12_move 137 = .ok (.iadd, 1) := by decide +kernel
theorem dX12_move_138 : decode cX12_move 138 = .ok (.iload 6, 2) := by decide +kernel
theorem dX12_move_140 : decode cX12_move 140 = .ok (.iadd, 1) := by decide +kernel
theorem dX12_move_141 : decode cX12_move 141 = .ok (.iaload, 1) := by decide +kernel
theorem dX12_move_142 : decode cX12_move 142 = .ok (.iastore, 1) := by decide +kernel
theorem dX12_move_143 : decode cX12_move 143 = .ok (.iinc 6 1, 3) := by decide +kernel
theorem dX12_move_146 : decode cX12_move 146 = .ok (.goto (-31), 3) := by decide +kernel
theorem dX12_move_149 : decode cX12_move 149 = .ok (.iconst 0, 1) := by decide +kernel
theorem dX12_move_150 : decode cX12_move 150 = .ok (.istore 6, 2) := by decide +kernel
theorem dX12_move_152 : decode cX12_move 152 = .ok (.iload 6, 2) := by decide +kernel
theorem dX12_move_154 : decode cX12_move 154 = .ok (.iload 5, 2) := by decide +kernel
theorem dX12_move_156 : decode cX12_move 156 = .ok (.if_icmp .ge 31, 3) := by decide +kernel
theorem dX12_move_159 : decode cX12_move 159 = .ok (.aload_n 0, 1) := by decide +kernel
theorem dX12_move_160 : decode cX12_move 160 = .ok (.getfield 50, 3) := by decide +kernel
theorem dX12_move_163 : decode cX12_move 163 = .ok (.bipush 40, 2) := by decide +kernel
theorem dX12_move_165 : decode cX12_move 165 = .ok (.iload_n 3, 1) := by decide +kernel
theorem dX12_move_166 : decode cX12_move 166 = .ok (.imul, 1) := by decide +kernel
theorem dX12_move_167 : decode cX12_move 167 = .ok (.iload 4, 2) := by decide +kernel
theorem dX12_move_169 : decode cX12_move 169 = .ok (.iadd, 1) := by decide +kernel
theorem dX12_move_170 : decode cX12_move 170 = .ok (.iload 6, 2) := by decide +kernel
theorem dX12_move_172 : decode cX12_move 172 = .ok (.iadd, 1) := by decide +kernel
theorem dX12_move_173 : decode cX12_move 173 = .ok (.aload_n 0, 1) := by decide +kernel
theorem dX12_move_174 : decode cX12_move 174 = .ok (.getfield 53, 3) := by decide +kernel
theorem dX12_move_177 : decode cX12_move 177 = .ok (.iload 6, 2) := by decide +kernel
theorem dX12_move_179 : decode cX12_move 179 = .ok (.iaload, 1) := by decide +kernel
theorem dX12_move_180 : decode cX12_move 180 = .ok (.iastore, 1) := by decide +kernel
theorem dX12_move_181 : decode cX12_move 181 = .ok (.iinc 6 1, 3) := by decide +kernel
theorem dX12_move_184 : decode cX12_move 184 = .ok (.goto (-32), 3) := by decide +kernel
theorem dX12_move_187 : decode cX12_move 187 = .ok (.iload 5, 2) := by decide +kernel
theorem dX12_move_189 : decode cX12_move 189 = .ok (.ireturn, 1) := by decide +kernel
theorem dX12_reads_0 : decode cX12_reads 0 = .ok (.iload_n 1, 1) := by decide +kernel
theorem dX12_reads_1 : decode cX12_reads 1 = .ok (.invokestatic 273, 3) := by decide +kernel
theorem dX12_reads_4 : decode cX12_reads 4 = .ok (.ifCond .ne 9, 3) := by decide +kernel
theorem dX12_reads_7 : decode cX12_reads 7 = .ok (.aload_n 0, 1) := by decide +kernel
theorem dX12_reads_8 : decode cX12_reads 8 = .ok (.iconst 1, 1) := by decide +kernel
theorem dX12_reads_9 : decode cX12_reads 9 = .ok (.invokevirtual 119, 3) := by decide +kernel
theorem dX12_reads_12 : decode cX12_reads 12 = .ok (.ireturn, 1) := by decide +kernel
theorem dX12_reads_13 : decode cX12_reads 13 = .ok (.aload_n 0, 1) := by decide +kernel
theorem dX12_reads_14 : decode cX12_reads 14 = .ok (.getfield 44, 3) := by decide +kernel
theorem dX12_reads_17 : decode cX12_reads 17 = .ok (.iload_n 1, 1) := by decide +kernel
theorem dX12_reads_18 : decode cX12_reads 18 = .ok (.iaload, 1) := by decide +kernel
theorem dX12_reads_19 : decode cX12_reads 19 = .ok (.ifCond .ne 9, 3) := by decide +kernel
theorem dX12_reads_22 : decode cX12_reads 22 = .ok (.aload_n 0, 1) := by decide +kernel
theorem dX12_reads_23 : decode cX12_reads 23 = .ok (.iconst 2, 1) := by decide +kernel
theorem dX12_reads_24 : decode cX12_reads 24 = .ok (.invokevirtual 119, 3) := by decide +kernel
theorem dX12_reads_27 : decode cX12_reads 27 = .ok (.ireturn, 1) := by decide +kernel
theorem dX12_reads_28 : decode cX12_reads 28 = .ok (.iconst 0, 1) := by decide +kernel
theorem dX12_reads_29 : decode cX12_reads 29 = .ok (.istore_n 2, 1) := by decide +kernel
theorem dX12_reads_30 : decode cX12_reads 30 = .ok (.aload_n 0, 1) := by decide +kernel
theorem dX12_reads_31 : decode cX12_reads 31 = .ok (.iconst 0, 1) := by decide +kernel
theorem dX12_reads_32 : decode cX12_reads 32 = .ok (.invokevirtual 197, 3) := by decide +kernel
theorem dX12_reads_35 : decode cX12_reads 35 = .ok (.ifCond .eq 16, 3) := by decide +kernel
theorem dX12_reads_38 : decode cX12_reads 38 = .ok (.aload_n 0, 1) := by decide +kernel
theorem dX12_reads_39 : decode cX12_reads 39 = .ok (.iconst 0, 1) := by decide +kernel
theorem dX12_reads_40 : decode cX12_reads 40 = .ok (.iconst 3, 1) := by decide +kernel
theorem dX12_reads_41 : decode cX12_reads 41 = .ok (.invokevirtual 150, 3) := by decide +kernel
theorem dX12_reads_44 : decode cX12_reads 44 = .ok (.ifCond .ne 7, 3) := by decide +kernel
theorem dX12_reads_47 : decode cX12_reads 47 = .ok (.iconst 1, 1) := by decide +kernel
theorem dX12_reads_48 : decode cX12_reads 48 = .ok (.goto 4, 3) := by decide +kernel
theorem dX12_reads_51 : decode cX12_reads 51 = .ok (.iconst 0, 1) := by decide +kernel
theorem dX12_reads_52 : decode cX12_reads 52 = .ok (.istore_n 3, 1) := by decide +kernel
theorem dX12_reads_53 : decode cX12_reads 53 = .ok (.iload_n 2, 1) := by decide +kernel
theorem dX12_reads_54 : decode cX12_reads 54 = .ok (.aload_n 0, 1) := by decide +kernel
theorem dX12_reads_55 : decode cX12_reads 55 = .ok (.getfield 47, 3) := by decide +kernel
theorem dX12_reads_58 : decode cX12_reads 58 = .ok (.iload_n 1, 1) := by decide +kernel
theorem dX12_reads_59 : decode cX12_reads 59 = .ok (.iaload, 1) := by decide +kernel
theorem dX12_reads_60 : decode cX12_reads 60 = .ok (.if_icmp .ge 62, 3) := by decide +kernel
theorem dX12_reads_63 : decode cX12_reads 63 = .ok (.iload_n 3, 1) := by decide +kernel
theorem dX12_reads_64 : decode cX12_reads 64 = .ok (.ifCond .eq 58, 3) := by decide +kernel
theorem dX12_reads_67 : decode cX12_reads 67 = .ok (.aload_n 0, 1) := by decide +kernel
theorem dX12_reads_68 : decode cX12_reads 68 = .ok (.getfield 50, 3) := by decide +kernel
theorem dX12_reads_71 : decode cX12_reads 71 = .ok (.bipush 40, 2) := by decide +kernel
theorem dX12_reads_73 : decode cX12_reads 73 = .ok (.iload_n 1, 1) := by decide +kernel
theorem dX12_reads_74 : decode cX12_reads 74 = .ok (.imul, 1) := by decide +kernel
theorem dX12_reads_75 : decode cX12_reads 75 = .ok (.iload_n 2, 1) := by decide +kernel
theorem dX12_reads_76 : decode cX12_reads 76 = .ok (.iadd, 1) := by decide +kernel
theorem dX12_reads_77 : decode cX12_reads 77 = .ok (.iaload, 1) := by decide +kernel
theorem dX12_reads_78 : decode cX12_reads 78 = .ok (.istore 4, 2) := by decide +kernel
theorem dX12_reads_80 : decode cX12_reads 80 = .ok (.aload_n 0, 1) := by decide +kernel
theorem dX12_reads_81 : decode cX12_reads 81 = .ok (.iload 4, 2) := by decide +kernel
theorem dX12_reads_83 : decode cX12_reads 83 = .ok (.invokevirtual 141, 3) := by decide +kernel
theorem dX12_reads_86 : decode cX12_reads 86 = .ok (.ifCond .eq 17, 3) := by decide +kernel
theorem dX12_reads_89 : decode cX12_reads 89 = .ok (.aload_n 0, 1) := by decide +kernel
theorem dX12_reads_90 : decode cX12_reads 90 = .ok (.iconst 0, 1) := by decide +kernel
theorem dX12_reads_91 : decode cX12_reads 91 = .ok (.iload 4, 2) := by decide +kernel
theorem dX12_reads_93 : decode cX12_reads 93 = .ok (.invokevirtual 164, 3) := by decide +kernel
theorem dX12_reads_96 : decode cX12_reads 96 = .ok (.ifCond .eq 7, 3) := by decide +kernel
theorem dX12_reads_99 : decode cX12_reads 99 = .ok (.iconst 1, 1) := by decide +kernel
theorem dX12_reads_100 : decode cX12_reads 100 = .ok (.goto 4, 3) := by decide +kernel
theorem dX12_reads_103 : decode cX12_reads 103 = .ok (.iconst 0, 1) := by decide +kernel
theorem dX12_reads_104 : decode cX12_reads 104 = .ok (.istore_n 3, 1) := by decide +kernel
theorem dX12_reads_105 : decode cX12_reads 105 = .ok (.iload_n 3, 1) := by decide +kernel
theorem dX12_reads_106 : decode cX12_reads 106 = .ok (.ifCond .eq 13, 3) := by decide +kernel
theorem dX12_reads_109 : decode cX12_reads 109 = .ok (.aload_n 0, 1) := by decide +kernel
theorem dX12_reads_110 : decode cX12_reads 110 = .ok (.iconst 0, 1) := by decide +kernel
theorem dX12_reads_111 : decode cX12_reads 111 = .ok (.iload 4, 2) := by decide +kernel
theorem dX12_reads_113 : decode cX12_reads 113 = .ok (.invokevirtual 213, 3) := by decide +kernel
theorem dX12_reads_116 : decode cX12_reads 116 = .ok (.iinc 2 1, 3) := by decide +kernel
theorem dX12_reads_119 : decode cX12_reads 119 = .ok (.goto (-66), 3) := by decide +kernel
theorem dX12_reads_122 : decode cX12_reads 122 = .ok (.iload_n 2, 1) := by decide +kernel
theorem dX12_reads_123 : decode cX12_reads 123 = .ok (.ireturn, 1) := by decide +kernel
theorem dX12_judge_0 : decode cX12_judge 0 = .ok (.iload_n 1, 1) := by decide +kernel
theorem dX12_judge_1 : decode cX12_judge 1 = .ok (.invokestatic 273, 3) := by decide +kernel
theorem dX12_judge_4 : decode cX12_judge 4 = .ok (.ifCond .eq 11, 3) := by decide +kernel
theorem dX12_judge_7 : decode cX12_judge 7 = .ok (.aload_n 0, 1) := by decide +kernel
theorem dX12_judge_8 : decode cX12_judge 8 = .ok (.iload_n 2, 1) := by decide +kernel
theorem dX12_judge_9 : decode cX12_judge 9 = .ok (.invokevirtual 197, 3) := by decide +kernel
theorem dX12_judge_12 : decode cX12_judge 12 = .ok (.ifCond .ne 9, 3) := by decide +kernel
theorem dX12_judge_15 : decode cX12_judge 15 = .ok (.aload_n 0, 1) := by decide +kernel
theorem dX12_judge_16 : decode cX12_judge 16 = .ok (.iconst 1, 1) := by decide +kernel
theorem dX12_judge_17 : decode cX12_judge 17 = .ok (.invokevirtual 119, 3) := by decide +kernel
theorem dX12_judge_20 : decode cX12_judge 20 = .ok (.ireturn, 1) := by decide +kernel
theorem dX12_judge_21 : decode cX12_judge 21 = .ok (.aload_n 0, 1) := by decide +kernel
theorem dX12_judge_22 : decode cX12_judge 22 = .ok (.getfield 44, 3) := by decide +kernel
theorem dX12_judge_25 : decode cX12_judge 25 = .ok (.iload_n 1, 1) := by decide +kernel
theorem dX12_judge_26 : decode cX12_judge 26 = .ok (.iaload, 1) := by decide +kernel
theorem dX12_judge_27 : decode cX12_judge 27 = .ok (.ifCond .ne 9, 3) := by decide +kernel
theorem dX12_judge_30 : decode cX12_judge 30 = .ok (.aload_n 0, 1) := by decide +kernel
theorem dX12_judge_31 : decode cX12_judge 31 = .ok (.iconst 2, 1) := by decide +kernel
theorem dX12_judge_32 : decode cX12_judge 32 = .ok (.invokevirtual 119, 3) := by decide +kernel
theorem dX12_judge_35 : decode cX12_judge 35 = .ok (.ireturn, 1) := by decide +kernel
theorem dX12_judge_36 : decode cX12_judge 36 = .ok (.aload_n 0, 1) := by decide +kernel
theorem dX12_judge_37 : decode cX12_judge 37 = .ok (.iload_n 2, 1) := by decide +kernel
theorem dX12_judge_38 : decode cX12_judge 38 = .ok (.iconst 4, 1) := by decide +kernel
theorem dX12_judge_39 : decode cX12_judge 39 = .ok (.invokevirtual 150, 3) := by decide +kernel
theorem dX12_judge_42 : decode cX12_judge 42 = .ok (.istore_n 3, 1) := by decide +kernel
theorem dX12_judge_43 : decode cX12_judge 43 = .ok (.iconst 0, 1) := by decide +kernel
theorem dX12_judge_44 : decode cX12_judge 44 = .ok (.istore 4, 2) := by decide +kernel
theorem dX12_judge_46 : decode cX12_judge 46 = .ok (.iload 4, 2) := by decide +kernel
theorem dX12_judge_48 : decode cX12_judge 48 = .ok (.aload_n 0, 1) := by decide +kernel
theorem dX12_judge_49 : decode cX12_judge 49 = .ok (.getfield 47, 3) := by decide +kernel
theorem dX12_judge_52 : decode cX12_judge 52 = .ok (.iload_n 1, 1) := by decide +kernel
theorem dX12_judge_53 : decode cX12_judge 53 = .ok (.iaload, 1) := by decide +kernel
theorem dX12_judge_54 : decode cX12_judge 54 = .ok (.if_icmp .ge 39, 3) := by decide +kernel
theorem dX12_judge_57 : decode cX12_judge 57 = .ok (.iload 4, 2) := by decide +kernel
theorem dX12_judge_59 : decode cX12_judge 59 = .ok (.iload_n 3, 1) := by decide +kernel
theorem dX12_judge_60 : decode cX12_judge 60 = .ok (.if_icmp .ge 33, 3) := by decide +kernel
theorem dX12_judge_63 : decode cX12_judge 63 = .ok (.aload_n 0, 1) := by decide +kernel
theorem dX12_judge_64 : decode cX12_judge 64 = .ok (.getfield 50, 3) := by decide +kernel
theorem dX12_judge_67 : decode cX12_judge 67 = .ok (.bipush 40, 2) := by decide +kernel
theorem dX12_judge_69 : decode cX12_judge 69 = .ok (.iload_n 1, 1) := by decide +kernel
theorem dX12_judge_70 : decode cX12_judge 70 = .ok (.imul, 1) := by decide +kernel
theorem dX12_judge_71 : decode cX12_judge 71 = .ok (.iload 4, 2) := by decide +kernel
theorem dX12_judge_73 : decode cX12_judge 73 = .ok (.iadd, 1) := by decide +kernel
theorem dX12_judge_74 : decode cX12_judge 74 = .ok (.iaload, 1) := by decide +kernel
theorem dX12_judge_75 : decode cX12_judge 75 = .ok (.aload_n 0, 1) := by decide +kernel
theorem dX12_judge_76 : decode cX12_judge 76 = .ok (.iload_n 2, 1) := by decide +kernel
theorem dX12_judge_77 : decode cX12_judge 77 = .ok (.iconst 5, 1) := by decide +kernel
theorem dX12_judge_78 : decode cX12_judge 78 = .ok (.iload 4, 2) := by decide +kernel
theorem dX12_judge_80 : decode cX12_judge 80 = .ok (.iadd, 1) := by decide +kernel
theorem dX12_judge_81 : decode cX12_judge 81 = .ok (.invokevirtual 150, 3) := by decide +kernel
theorem dX12_judge_84 : decode cX12_judge 84 = .ok (.if_icmp .ne 9, 3) := by decide +kernel
theorem dX12_judge_87 : decode cX12_judge 87 = .ok (.iinc 4 1, 3) := by decide +kernel
theorem dX12_judge_90 : decode cX12_judge 90 = .ok (.goto (-44), 3) := by decide +kernel
theorem dX12_judge_93 : decode cX12_judge 93 = .ok (.iload 4, 2) := by decide +kernel
theorem dX12_judge_95 : decode cX12_judge 95 = .ok (.aload_n 0, 1) := by decide +kernel
theorem dX12_judge_96 : decode cX12_judge 96 = .ok (.getfield 47, 3) := by decide +kernel
theorem dX12_judge_99 : decode cX12_judge 99 = .ok (.iload_n 1, 1) := by decide +kernel
theorem dX12_judge_100 : decode cX12_judge 100 = .ok (.iaload, 1) := by decide +kernel
theorem dX12_judge_101 : decode cX12_judge 101 = .ok (.if_icmp .ne 13, 3) := by decide +kernel
theorem dX12_judge_104 : decode cX12_judge 104 = .ok (.iload 4, 2) := by decide +kernel
theorem dX12_judge_106 : decode cX12_judge 106 = .ok (.iload_n 3, 1) := by decide +kernel
theorem dX12_judge_107 : decode cX12_judge 107 = .ok (.if_icmp .ne 7, 3) := by decide +kernel
theorem dX12_judge_110 : decode cX12_judge 110 = .ok (.iconst (-1), 1) := by decide +kernel
theorem dX12_judge_111 : decode cX12_judge 111 = .ok (.goto 5, 3) := by decide +kernel
theorem dX12_judge_114 : decode cX12_judge 114 = .ok (.iload 4, 2) := by decide +kernel
theorem dX12_judge_116 : decode cX12_judge 116 = .ok (.ireturn, 1) := by decide +kernel
theorem dX12_image_0 : decode cX12_image 0 = .ok (.iconst 0, 1) := by decide +kernel
theorem dX12_image_1 : decode cX12_image 1 = .ok (.istore_n 1, 1) := by decide +kernel
theorem dX12_image_2 : decode cX12_image 2 = .ok (.iload_n 1, 1) := by decide +kernel
theorem dX12_image_3 : decode cX12_image 3 = .ok (.sipush 342, 3) := by decide +kernel
theorem dX12_image_6 : decode cX12_image 6 = .ok (.if_icmp .ge 21, 3) := by decide +kernel
theorem dX12_image_9 : decode cX12_image 9 = .ok (.aload_n 0, 1) := by decide +kernel
theorem dX12_image_10 : decode cX12_image 10 = .ok (.getfield 13, 3) := by decide +kernel
theorem dX12_image_13 : decode cX12_image 13 = .ok (.iload_n 1, 1) := by decide +kernel
theorem dX12_image_14 : decode cX12_image 14 = .ok (.aload_n 0, 1) := by decide +kernel
theorem dX12_image_15 : decode cX12_image 15 = .ok (.getfield 7, 3) := by decide +kernel
theorem dX12_image_18 : decode cX12_image 18 = .ok (.iload_n 1, 1) := by decide +kernel
theorem dX12_image_19 : decode cX12_image 19 = .ok (.iaload, 1) := by decide +kernel
theorem dX12_image_20 : decode cX12_image 20 = .ok (.iastore, 1) := by decide +kernel
theorem dX12_image_21 : decode cX12_image 21 = .ok (.iinc 1 1, 3) := by decide +kernel
theorem dX12_image_24 : decode cX12_image 24 = .ok (.goto (-22), 3) := by decide +kernel
theorem dX12_image_27 : decode cX12_image 27 = .ok (.aload_n 0, 1) := by decide +kernel
theorem dX12_image_28 : decode cX12_image 28 = .ok (.dup, 1) := by decide +kernel
theorem dX12_image_29 : decode cX12_image 29 = .ok (.getfield 311, 3) := by decide +kernel
theorem dX12_image_32 : decode cX12_image 32 = .ok (.iconst 1, 1) := by decide +kernel
theorem dX12_image_33 : decode cX12_image 33 = .ok (.iadd, 1) := by decide +kernel
theorem dX12_image_34 : decode cX12_image 34 = .ok (.putfield 311, 3) := by decide +kernel
theorem dX12_image_37 : decode cX12_image 37 = .ok (.aload_n 0, 1) := by decide +kernel
theorem dX12_image_38 : decode cX12_image 38 = .ok (.getfield 311, 3) := by decide +kernel
theorem dX12_image_41 : decode cX12_image 41 = .ok (.ireturn, 1) := by decide +kernel
theorem dX12_restore_0 : decode cX12_restore 0 = .ok (.aload_n 0, 1) := by decide +kernel
theorem dX12_restore_1 : decode cX12_restore 1 = .ok (.getfield 311, 3) := by decide +kernel
theorem dX12_restore_4 : decode cX12_restore 4 = .ok (.ifCond .ne 9, 3) := by decide +kernel
theorem dX12_restore_7 : decode cX12_restore 7 = .ok (.aload_n 0, 1) := by decide +kernel
theorem dX12_restore_8 : decode cX12_restore 8 = .ok (.iconst 2, 1) := by decide +kernel
theorem dX12_restore_9 : decode cX12_restore 9 = .ok (.invokevirtual 119, 3) := by decide +kernel
theorem dX12_restore_12 : decode cX12_restore 12 = .ok (.ireturn, 1) := by decide +kernel
theorem dX12_restore_13 : decode cX12_restore 13 = .ok (.iconst 0, 1) := by decide +kernel
theorem dX12_restore_14 : decode cX12_restore 14 = .ok (.istore_n 1, 1) := by decide +kernel
theorem dX12_restore_15 : decode cX12_restore 15 = .ok (.iload_n 1, 1) := by decide +kernel
theorem dX12_restore_16 : decode cX12_restore 16 = .ok (.sipush 342, 3) := by decide +kernel
theorem dX12_restore_19 : decode cX12_restore 19 = .ok (.if_icmp .ge 21, 3) := by decide +kernel
theorem dX12_restore_22 : decode cX12_restore 22 = .ok (.aload_n 0, 1) := by decide +kernel
theorem dX12_restore_23 : decode cX12_restore 23 = .ok (.getfield 7, 3) := by decide +kernel
theorem dX12_restore_26 : decode cX12_restore 26 = .ok (.iload_n 1, 1) := by decide +kernel
theorem dX12_restore_27 : decode cX12_restore 27 = .ok (.aload_n 0, 1) := by decide +kernel
theorem dX12_restore_28 : decode cX12_restore 28 = .ok (.getfield 13, 3) := by decide +kernel
theorem dX12_restore_31 : decode cX12_restore 31 = .ok (.iload_n 1, 1) := by decide +kernel
theorem dX12_restore_32 : decode cX12_restore 32 = .ok (.iaload, 1) := by decide +kernel
theorem dX12_restore_33 : decode cX12_restore 33 = .ok (.iastore, 1) := by decide +kernel
theorem dX12_restore_34 : decode cX12_restore 34 = .ok (.iinc 1 1, 3) := by decide +kernel
theorem dX12_restore_37 : decode cX12_restore 37 = .ok (.goto (-22), 3) := by decide +kernel
theorem dX12_restore_40 : decode cX12_restore 40 = .ok (.aload_n 0, 1) := by decide +kernel
theorem dX12_restore_41 : decode cX12_restore 41 = .ok (.getfield 7, 3) := by decide +kernel
theorem dX12_restore_44 : decode cX12_restore 44 = .ok (.iconst 3, 1) := by decide +kernel
theorem dX12_restore_45 : decode cX12_restore 45 = .ok (.iaload, 1) := by decide +kernel
theorem dX12_restore_46 : decode cX12_restore 46 = .ok (.ireturn, 1) := by decide +kernel
theorem dX12_tell_0 : decode cX12_tell 0 = .ok (.aload_n 0, 1) := by decide +kernel
theorem dX12_tell_1 : decode cX12_tell 1 = .ok (.getfield 7, 3) := by decide +kernel
theorem dX12_tell_4 : decode cX12_tell 4 = .ok (.bipush 6, 2) := by decide +kernel
theorem dX12_tell_6 : decode cX12_tell 6 = .ok (.iaload, 1) := by decide +kernel
theorem dX12_tell_7 : decode cX12_tell 7 = .ok (.bipush 20, 2) := by decide +kernel
theorem dX12_tell_9 : decode cX12_tell 9 = .ok (.if_icmp .ne 9, 3) := by decide +kernel
theorem dX12_tell_12 : decode cX12_tell 12 = .ok (.aload_n 0, 1) := by decide +kernel
theorem dX12_tell_13 : decode cX12_tell 13 = .ok (.iconst 4, 1) := by decide +kernel
theorem dX12_tell_14 : decode cX12_tell 14 = .ok (.invokevirtual 119, 3) := by decide +kernel
theorem dX12_tell_17 : decode cX12_tell 17 = .ok (.ireturn, 1) := by decide +kernel
theorem dX12_tell_18 : decode cX12_tell 18 = .ok (.aload_n 0, 1) := by decide +kernel
theorem dX12_tell_19 : decode cX12_tell 19 = .ok (.getfield 7, 3) := by decide +kernel
theorem dX12_tell_22 : decode cX12_tell 22 = .ok (.sipush 172, 3) := by decide +kernel
theorem dX12_tell_25 : decode cX12_tell 25 = .ok (.aload_n 0, 1) := by decide +kernel
theorem dX12_tell_26 : decode cX12_tell 26 = .ok (.getfield 7, 3) := by decide +kernel
theorem dX12_tell_29 : decode cX12_tell 29 = .ok (.bipush 6, 2) := by decide +kernel
theorem dX12_tell_31 : decode cX12_tell 31 = .ok (.iaload, 1) := by decide +kernel
theorem dX12_tell_32 : decode cX12_tell 32 = .ok (.iadd, 1) := by decide +kernel
theorem dX12_tell_33 : decode cX12_tell 33 = .ok (.iload_n 1, 1) := by decide +kernel
theorem dX12_tell_34 : decode cX12_tell 34 = .ok (.iastore, 1) := by decide +kernel
theorem dX12_tell_35 : decode cX12_tell 35 = .ok (.aload_n 0, 1) := by decide +kernel
theorem dX12_tell_36 : decode cX12_tell 36 = .ok (.getfield 7, 3) := by decide +kernel
theorem dX12_tell_39 : decode cX12_tell 39 = .ok (.bipush 6, 2) := by decide +kernel
theorem dX12_tell_41 : decode cX12_tell 41 = .ok (.dup2, 1) := by decide +kernel
theorem dX12_tell_42 : decode cX12_tell 42 = .ok (.iaload, 1) := by decide +kernel
theorem dX12_tell_43 : decode cX12_tell 43 = .ok (.iconst 1, 1) := by decide +kernel
theorem dX12_tell_44 : decode cX12_tell 44 = .ok (.iadd, 1) := by decide +kernel
theorem dX12_tell_45 : decode cX12_tell 45 = .ok (.iastore, 1) := by decide +kernel
theorem dX12_tell_46 : decode cX12_tell 46 = .ok (.aload_n 0, 1) := by decide +kernel
theorem dX12_tell_47 : decode cX12_tell 47 = .ok (.getfield 7, 3) := by decide +kernel
theorem dX12_tell_50 : decode cX12_tell 50 = .ok (.bipush 6, 2) := by decide +kernel
theorem dX12_tell_52 : decode cX12_tell 52 = .ok (.iaload, 1) := by decide +kernel
theorem dX12_tell_53 : decode cX12_tell 53 = .ok (.ireturn, 1) := by decide +kernel
theorem dX12_debts_0 : decode cX12_debts 0 = .ok (.iconst 0, 1) := by decide +kernel
theorem dX12_debts_1 : decode cX12_debts 1 = .ok (.istore_n 1, 1) := by decide +kernel
theorem dX12_debts_2 : decode cX12_debts 2 = .ok (.iconst 0, 1) := by decide +kernel
theorem dX12_debts_3 : decode cX12_debts 3 = .ok (.istore_n 2, 1) := by decide +kernel
theorem dX12_debts_4 : decode cX12_debts 4 = .ok (.iload_n 2, 1) := by decide +kernel
theorem dX12_debts_5 : decode cX12_debts 5 = .ok (.aload_n 0, 1) := by decide +kernel
theorem dX12_debts_6 : decode cX12_debts 6 = .ok (.getfield 7, 3) := by decide +kernel
theorem dX12_debts_9 : decode cX12_debts 9 = .ok (.iconst 1, 1) := by decide +kernel
theorem dX12_debts_10 : decode cX12_debts 10 = .ok (.iaload, 1) := by decide +kernel
theorem dX12_debts_11 : decode cX12_debts 11 = .ok (.if_icmp .ge 18, 3) := by decide +kernel
theorem dX12_debts_14 : decode cX12_debts 14 = .ok (.iload_n 1, 1) := by decide +kernel
theorem dX12_debts_15 : decode cX12_debts 15 = .ok (.aload_n 0, 1) := by decide +kernel
theorem dX12_debts_16 : decode cX12_debts 16 = .ok (.iload_n 2, 1) := by decide +kernel
theorem dX12_debts_17 : decode cX12_debts 17 = .ok (.iconst 2, 1) := by decide +kernel
theorem dX12_debts_18 : decode cX12_debts 18 = .ok (.invokevirtual 150, 3) := by decide +kernel
theorem dX12_debts_21 : decode cX12_debts 21 = .ok (.iadd, 1) := by decide +kernel
theorem dX12_debts_22 : decode cX12_debts 22 = .ok (.istore_n 1, 1) := by decide +kernel
theorem dX12_debts_23 : decode cX12_debts 23 = .ok (.iinc 2 1, 3) := by decide +kernel
theorem dX12_debts_26 : decode cX12_debts 26 = .ok (.goto (-22), 3) := by decide +kernel
theorem dX12_debts_29 : decode cX12_debts 29 = .ok (.iload_n 1, 1) := by decide +kernel
theorem dX12_debts_30 : decode cX12_debts 30 = .ok (.ireturn, 1) := by decide +kernel
theorem dX12_check_0 : decode cX12_check 0 = .ok (.aload_n 0, 1) := by decide +kernel
theorem dX12_check_1 : decode cX12_check 1 = .ok (.getfield 7, 3) := by decide +kernel
theorem dX12_check_4 : decode cX12_check 4 = .ok (.bipush 6, 2) := by decide +kernel
theorem dX12_check_6 : decode cX12_check 6 = .ok (.iaload, 1) := by decide +kernel
theorem dX12_check_7 : decode cX12_check 7 = .ok (.istore_n 1, 1) := by decide +kernel
theorem dX12_check_8 : decode cX12_check 8 = .ok (.aload_n 0, 1) := by decide +kernel
theorem dX12_check_9 : decode cX12_check 9 = .ok (.getfield 7, 3) := by decide +kernel
theorem dX12_check_12 : decode cX12_check 12 = .ok (.bipush 6, 2) := by decide +kernel
theorem dX12_check_14 : decode cX12_check 14 = .ok (.iconst 0, 1) := by decide +kernel
theorem dX12_check_15 : decode cX12_check 15 = .ok (.iastore, 1) := by decide +kernel
theorem dX12_check_16 : decode cX12_check 16 = .ok (.aload_n 0, 1) := by decide +kernel
theorem dX12_check_17 : decode cX12_check 17 = .ok (.invokevirtual 243, 3) := by decide +kernel
theorem dX12_check_20 : decode cX12_check 20 = .ok (.iconst 0, 1) := by decide +kernel
theorem dX12_check_21 : decode cX12_check 21 = .ok (.istore_n 2, 1) := by decide +kernel
theorem dX12_check_22 : decode cX12_check 22 = .ok (.iconst 1, 1) := by decide +kernel
theorem dX12_check_23 : decode cX12_check 23 = .ok (.istore_n 3, 1) := by decide +kernel
theorem dX12_check_24 : decode cX12_check 24 = .ok (.iload_n 2, 1) := by decide +kernel
theorem dX12_check_25 : decode cX12_check 25 = .ok (.iload_n 1, 1) := by decide +kernel
theorem dX12_check_26 : decode cX12_check 26 = .ok (.if_icmp .ge 49, 3) := by decide +kernel
theorem dX12_check_29 : decode cX12_check 29 = .ok (.iload_n 3, 1) := by decide +kernel
theorem dX12_check_30 : decode cX12_check 30 = .ok (.ifCond .eq 45, 3) := by decide +kernel
theorem dX12_check_33 : decode cX12_check 33 = .ok (.aload_n 0, 1) := by decide +kernel
theorem dX12_check_34 : decode cX12_check 34 = .ok (.invokevirtual 229, 3) := by decide +kernel
theorem dX12_check_37 : decode cX12_check 37 = .ok (.aload_n 0, 1) := by decide +kernel
theorem dX12_check_38 : decode cX12_check 38 = .ok (.invokevirtual 314, 3) := by decide +kernel
theorem dX12_check_41 : decode cX12_check 41 = .ok (.aload_n 0, 1) := by decide +kernel
theorem dX12_check_42 : decode cX12_check 42 = .ok (.getfield 7, 3) := by decide +kernel
theorem dX12_check_45 : decode cX12_check 45 = .ok (.sipush 172, 3) := by decide +kernel
theorem dX12_check_48 : decode cX12_check 48 = .ok (.iload_n 2, 1) := by decide +kernel
theorem dX12_check_49 : decode cX12_check 49 = .ok (.iadd, 1) := by decide +kernel
theorem dX12_check_50 : decode cX12_check 50 = .ok (.iaload, 1) := by decide +kernel
theorem dX12_check_51 : decode cX12_check 51 = .ok (.if_icmp .ne 7, 3) := by decide +kernel
theorem dX12_check_54 : decode cX12_check 54 = .ok (.iconst 1, 1) := by decide +kernel
theorem dX12_check_55 : decode cX12_check 55 = .ok (.goto 4, 3) := by decide +kernel
theorem dX12_check_58 : decode cX12_check 58 = .ok (.iconst 0, 1) := by decide +kernel
theorem dX12_check_59 : decode cX12_check 59 = .ok (.istore_n 3, 1) := by decide +kernel
theorem dX12_check_60 : decode cX12_check 60 = .ok (.iload_n 2, 1) := by decide +kernel
theorem dX12_check_61 : decode cX12_check 61 = .ok (.iload_n 3, 1) := by decide +kernel
theorem dX12_check_62 : decode cX12_check 62 = .ok (.ifCond .eq 7, 3) := by decide +kernel
theorem dX12_check_65 : decode cX12_check 65 = .ok (.iconst 1, 1) := by decide +kernel
theorem dX12_check_66 : decode cX12_check 66 = .ok (.goto 4, 3) := by decide +kernel
theorem dX12_check_69 : decode cX12_check 69 = .ok (.iconst 0, 1) := by decide +kernel
theorem dX12_check_70 : decode cX12_check 70 = .ok (.iadd, 1) := by decide +kernel
theorem dX12_check_71 : decode cX12_check 71 = .ok (.istore_n 2, 1) := by decide +kernel
theorem dX12_check_72 : decode cX12_check 72 = .ok (.goto (-48), 3) := by decide +kernel
theorem dX12_check_75 : decode cX12_check 75 = .ok (.aload_n 0, 1) := by decide +kernel
theorem dX12_check_76 : decode cX12_check 76 = .ok (.invokevirtual 246, 3) := by decide +kernel
theorem dX12_check_79 : decode cX12_check 79 = .ok (.iload_n 2, 1) := by decide +kernel
theorem dX12_check_80 : decode cX12_check 80 = .ok (.iload_n 1, 1) := by decide +kernel
theorem dX12_check_81 : decode cX12_check 81 = .ok (.if_icmp .ne 7, 3) := by decide +kernel
theorem dX12_check_84 : decode cX12_check 84 = .ok (.iconst 0, 1) := by decide +kernel
theorem dX12_check_85 : decode cX12_check 85 = .ok (.goto 6, 3) := by decide +kernel
theorem dX12_check_88 : decode cX12_check 88 = .ok (.iconst 1, 1) := by decide +kernel
theorem dX12_check_89 : decode cX12_check 89 = .ok (.iload_n 2, 1) := by decide +kernel
theorem dX12_check_90 : decode cX12_check 90 = .ok (.iadd, 1) := by decide +kernel
theorem dX12_check_91 : decode cX12_check 91 = .ok (.ireturn, 1) := by decide +kernel
theorem dX12_count_0 : decode cX12_count 0 = .ok (.iload_n 1, 1) := by decide +kernel
theorem dX12_count_1 : decode cX12_count 1 = .ok (.tableswitch 120 0 9 #[55, 62, 69, 76, 83, 88, 93, 100, 108, 113], 55) := by decide +kernel
theorem dX12_count_56 : decode cX12_count 56 = .ok (.aload_n 0, 1) := by decide +kernel
theorem dX12_count_57 : decode cX12_count 57 = .ok (.getfield 7, 3) := by decide +kernel
theorem dX12_count_60 : decode cX12_count 60 = .ok (.iconst 0, 1) := by decide +kernel
theorem dX12_count_61 : decode cX12_count 61 = .ok (.iaload, 1) := by decide +kernel
theorem dX12_count_62 : decode cX12_count 62 = .ok (.ireturn, 1) := by decide +kernel
theorem dX12_count_63 : decode cX12_count 63 = .ok (.aload_n 0, 1) := by decide +kernel
theorem dX12_count_64 : decode cX12_count 64 = .ok (.getfield 7, 3) := by decide +kernel
theorem dX12_count_67 : decode cX12_count 67 = .ok (.iconst 1, 1) := by decide +kernel
theorem dX12_count_68 : decode cX12_count 68 = .ok (.iaload, 1) := by decide +kernel
theorem dX12_count_69 : decode cX12_count 69 = .ok (.ireturn, 1) := by decide +kernel
theorem dX12_count_70 : decode cX12_count 70 = .ok (.aload_n 0, 1) := by decide +kernel
theorem dX12_count_71 : decode cX12_count 71 = .ok (.getfield 7, 3) := by decide +kernel
theorem dX12_count_74 : decode cX12_count 74 = .ok (.iconst 3, 1) := by decide +kernel
theorem dX12_count_75 : decode cX12_count 75 = .ok (.iaload, 1) := by decide +kernel
theorem dX12_count_76 : decode cX12_count 76 = .ok (.ireturn, 1) := by decide +kernel
theorem dX12_count_77 : decode cX12_count 77 = .ok (.aload_n 0, 1) := by decide +kernel
theorem dX12_count_78 : decode cX12_count 78 = .ok (.getfield 7, 3) := by decide +kernel
theorem dX12_count_81 : decode cX12_count 81 = .ok (.iconst 2, 1) := by decide +kernel
theorem dX12_count_82 : decode cX12_count 82 = .ok (.iaload, 1) := by decide +kernel
theorem dX12_count_83 : decode cX12_count 83 = .ok (.ireturn, 1) := by decide +kernel
theorem dX12_count_84 : decode cX12_count 84 = .ok (.aload_n 0, 1) := by decide +kernel
theorem dX12_count_85 : decode cX12_count 85 = .ok (.invokevirtual 314, 3) := by decide +kernel
theorem dX12_count_88 : decode cX12_count 88 = .ok (.ireturn, 1) := by decide +kernel
theorem dX12_count_89 : decode cX12_count 89 = .ok (.aload_n 0, 1) := by decide +kernel
theorem dX12_count_90 : decode cX12_count 90 = .ok (.invokevirtual 232, 3) := by decide +kernel
theorem dX12_count_93 : decode cX12_count 93 = .ok (.ireturn, 1) := by decide +kernel
theorem dX12_count_94 : decode cX12_count 94 = .ok (.aload_n 0, 1) := by decide +kernel
theorem dX12_count_95 : decode cX12_count 95 = .ok (.getfield 7, 3) := by decide +kernel
theorem dX12_count_98 : decode cX12_count 98 = .ok (.iconst 5, 1) := by decide +kernel
theorem dX12_count_99 : decode cX12_count 99 = .ok (.iaload, 1) := by decide +kernel
theorem dX12_count_100 : decode cX12_count 100 = .ok (.ireturn, 1) := by decide +kernel
theorem dX12_count_101 : decode cX12_count 101 = .ok (.aload_n 0, 1) := by decide +kernel
theorem dX12_count_102 : decode cX12_count 102 = .ok (.getfield 7, 3) := by decide +kernel
theorem dX12_count_105 : decode cX12_count 105 = .ok (.bipush 6, 2) := by decide +kernel
theorem dX12_count_107 : decode cX12_count 107 = .ok (.iaload, 1) := by decide +kernel
theorem dX12_count_108 : decode cX12_count 108 = .ok (.ireturn, 1) := by decide +kernel
theorem dX12_count_109 : decode cX12_count 109 = .ok (.aload_n 0, 1) := by decide +kernel
theorem dX12_count_110 : decode cX12_count 110 = .ok (.getfield 285, 3) := by decide +kernel
theorem dX12_count_113 : decode cX12_count 113 = .ok (.ireturn, 1) := by decide +kernel
theorem dX12_count_114 : decode cX12_count 114 = .ok (.aload_n 0, 1) := by decide +kernel
theorem dX12_count_115 : decode cX12_count 115 = .ok (.getfield 7, 3) := by decide +kernel
theorem dX12_count_118 : decode cX12_count 118 = .ok (.iconst 4, 1) := by decide +kernel
theorem dX12_count_119 : decode cX12_count 119 = .ok (.iaload, 1) := by decide +kernel
theorem dX12_count_120 : decode cX12_count 120 = .ok (.ireturn, 1) := by decide +kernel
theorem dX12_count_121 : decode cX12_count 121 = .ok (.aload_n 0, 1) := by decide +kernel
theorem dX12_count_122 : decode cX12_count 122 = .ok (.iconst 1, 1) := by decide +kernel
theorem dX12_count_123 : decode cX12_count 123 = .ok (.invokevirtual 119, 3) := by decide +kernel
theorem dX12_count_126 : decode cX12_count 126 = .ok (.ireturn, 1) := by decide +kernel
theorem dX12_told_0 : decode cX12_told 0 = .ok (.iload_n 1, 1) := by decide +kernel
theorem dX12_told_1 : decode cX12_told 1 = .ok (.i2l, 1) := by decide +kernel
theorem dX12_told_2 : decode cX12_told 2 = .ok (.lconst 1, 1) := by decide +kernel
theorem dX12_told_3 : decode cX12_told 3 = .ok (.ldc2_w 156, 3) := by decide +kernel
theorem dX12_told_6 : decode cX12_told 6 = .ok (.invokestatic 57, 3) := by decide +kernel
theorem dX12_told_9 : decode cX12_told 9 = .ok (.ifCond .eq 12, 3) := by decide +kernel
theorem dX12_told_12 : decode cX12_told 12 = .ok (.aload_n 0, 1) := by decide +kernel
theorem dX12_told_13 : decode cX12_told 13 = .ok (.getfield 19, 3) := by decide +kernel
theorem dX12_told_16 : decode cX12_told 16 = .ok (.iload_n 1, 1) := by decide +kernel
theorem dX12_told_17 : decode cX12_told 17 = .ok (.iaload, 1) := by decide +kernel
theorem dX12_told_18 : decode cX12_told 18 = .ok (.goto 8, 3) := by decide +kernel
theorem dX12_told_21 : decode cX12_told 21 = .ok (.aload_n 0, 1) := by decide +kernel
theorem dX12_told_22 : decode cX12_told 22 = .ok (.iconst 1, 1) := by decide +kernel
theorem dX12_told_23 : decode cX12_told 23 = .ok (.invokevirtual 119, 3) := by decide +kernel
theorem dX12_told_26 : decode cX12_told 26 = .ok (.ireturn, 1) := by decide +kernel
theorem dJ6_numberOfTrailingZeros_0f7a4_0 : decode cJ6_numberOfTrailingZeros_0f7a4 0 = .ok (.iload_n 0, 1) := by decide +kernel
theorem dJ6_numberOfTrailingZeros_0f7a4_1 : decode cJ6_numberOfTrailingZeros_0f7a4 1 = .ok (.iconst (-1), 1) := by decide +kernel
theorem dJ6_numberOfTrailingZeros_0f7a4_2 : decode cJ6_numberOfTrailingZeros_0f7a4 2 = .ok (.ixor, 1) := by decide +kernel
theorem dJ6_numberOfTrailingZeros_0f7a4_3 : decode cJ6_numberOfTrailingZeros_0f7a4 3 = .ok (.iload_n 0, 1) := by decide +kernel
theorem dJ6_numberOfTrailingZeros_0f7a4_4 : decode cJ6_numberOfTrailingZeros_0f7a4 4 = .ok (.iconst 1, 1) := by decide +kernel
theorem dJ6_numberOfTrailingZeros_0f7a4_5 : decode cJ6_numberOfTrailingZeros_0f7a4 5 = .ok (.isub, 1) := by decide +kernel
theorem dJ6_numberOfTrailingZeros_0f7a4_6 : decode cJ6_numberOfTrailingZeros_0f7a4 6 = .ok (.iand, 1) := by decide +kernel
theorem dJ6_numberOfTrailingZeros_0f7a4_7 : decode cJ6_numberOfTrailingZeros_0f7a4 7 = .ok (.istore_n 0, 1) := by decide +kernel
theorem dJ6_numberOfTrailingZeros_0f7a4_8 : decode cJ6_numberOfTrailingZeros_0f7a4 8 = .ok (.iload_n 0, 1) := by decide +kernel
theorem dJ6_numberOfTrailingZeros_0f7a4_9 : decode cJ6_numberOfTrailingZeros_0f7a4 9 = .ok (.ifCond .gt 8, 3) := by decide +kernel
theorem dJ6_numberOfTrailingZeros_0f7a4_12 : decode cJ6_numberOfTrailingZeros_0f7a4 12 = .ok (.iload_n 0, 1) := by decide +kernel
theorem dJ6_numberOfTrailingZeros_0f7a4_13 : decode cJ6_numberOfTrailingZeros_0f7a4 13 = .ok (.bipush 32, 2) := by decide +kernel
theorem dJ6_numberOfTrailingZeros_0f7a4_15 : decode cJ6_numberOfTrailingZeros_0f7a4 15 = .ok (.iand, 1) := by decide +kernel
theorem dJ6_numberOfTrailingZeros_0f7a4_16 : decode cJ6_numberOfTrailingZeros_0f7a4 16 = .ok (.ireturn, 1) := by decide +kernel
theorem dJ6_numberOfTrailingZeros_0f7a4_17 : decode cJ6_numberOfTrailingZeros_0f7a4 17 = .ok (.iconst 1, 1) := by decide +kernel
theorem dJ6_numberOfTrailingZeros_0f7a4_18 : decode cJ6_numberOfTrailingZeros_0f7a4 18 = .ok (.istore_n 1, 1) := by decide +kernel
theorem dJ6_numberOfTrailingZeros_0f7a4_19 : decode cJ6_numberOfTrailingZeros_0f7a4 19 = .ok (.iload_n 0, 1) := by decide +kernel
theorem dJ6_numberOfTrailingZeros_0f7a4_20 : decode cJ6_numberOfTrailingZeros_0f7a4 20 = .ok (.ldc_w 264, 3) := by decide +kernel
theorem dJ6_numberOfTrailingZeros_0f7a4_23 : decode cJ6_numberOfTrailingZeros_0f7a4 23 = .ok (.if_icmp .le 11, 3) := by decide +kernel
theorem dJ6_numberOfTrailingZeros_0f7a4_26 : decode cJ6_numberOfTrailingZeros_0f7a4 26 = .ok (.iinc 1 16, 3) := by decide +kernel
theorem dJ6_numberOfTrailingZeros_0f7a4_29 : decode cJ6_numberOfTrailingZeros_0f7a4 29 = .ok (.iload_n 0, 1) := by decide +kernel
theorem dJ6_numberOfTrailingZeros_0f7a4_30 : decode cJ6_numberOfTrailingZeros_0f7a4 30 = .ok (.bipush 16, 2) := by decide +kernel
theorem dJ6_numberOfTrailingZeros_0f7a4_32 : decode cJ6_numberOfTrailingZeros_0f7a4 32 = .ok (.iushr, 1) := by decide +kernel
theorem dJ6_numberOfTrailingZeros_0f7a4_33 : decode cJ6_numberOfTrailingZeros_0f7a4 33 = .ok (.istore_n 0, 1) := by decide +kernel
theorem dJ6_numberOfTrailingZeros_0f7a4_34 : decode cJ6_numberOfTrailingZeros_0f7a4 34 = .ok (.iload_n 0, 1) := by decide +kernel
theorem dJ6_numberOfTrailingZeros_0f7a4_35 : decode cJ6_numberOfTrailingZeros_0f7a4 35 = .ok (.sipush 256, 3) := by decide +kernel
theorem dJ6_numberOfTrailingZeros_0f7a4_38 : decode cJ6_numberOfTrailingZeros_0f7a4 38 = .ok (.if_icmp .le 11, 3) := by decide +kernel
theorem dJ6_numberOfTrailingZeros_0f7a4_41 : decode cJ6_numberOfTrailingZeros_0f7a4 41 = .ok (.iinc 1 8, 3) := by decide +kernel
theorem dJ6_numberOfTrailingZeros_0f7a4_44 : decode cJ6_numberOfTrailingZeros_0f7a4 44 = .ok (.iload_n 0, 1) := by decide +kernel
theorem dJ6_numberOfTrailingZeros_0f7a4_45 : decode cJ6_numberOfTrailingZeros_0f7a4 45 = .ok (.bipush 8, 2) := by decide +kernel
theorem dJ6_numberOfTrailingZeros_0f7a4_47 : decode cJ6_numberOfTrailingZeros_0f7a4 47 = .ok (.iushr, 1) := by decide +kernel
theorem dJ6_numberOfTrailingZeros_0f7a4_48 : decode cJ6_numberOfTrailingZeros_0f7a4 48 = .ok (.istore_n 0, 1) := by decide +kernel
theorem dJ6_numberOfTrailingZeros_0f7a4_49 : decode cJ6_numberOfTrailingZeros_0f7a4 49 = .ok (.iload_n 0, 1) := by decide +kernel
theorem dJ6_numberOfTrailingZeros_0f7a4_50 : decode cJ6_numberOfTrailingZeros_0f7a4 50 = .ok (.bipush 16, 2) := by decide +kernel
theorem dJ6_numberOfTrailingZeros_0f7a4_52 : decode cJ6_numberOfTrailingZeros_0f7a4 52 = .ok (.if_icmp .le 10, 3) := by decide +kernel
theorem dJ6_numberOfTrailingZeros_0f7a4_55 : decode cJ6_numberOfTrailingZeros_0f7a4 55 = .ok (.iinc 1 4, 3) := by decide +kernel
theorem dJ6_numberOfTrailingZeros_0f7a4_58 : decode cJ6_numberOfTrailingZeros_0f7a4 58 = .ok (.iload_n 0, 1) := by decide +kernel
theorem dJ6_numberOfTrailingZeros_0f7a4_59 : decode cJ6_numberOfTrailingZeros_0f7a4 59 = .ok (.iconst 4, 1) := by decide +kernel
theorem dJ6_numberOfTrailingZeros_0f7a4_60 : decode cJ6_numberOfTrailingZeros_0f7a4 60 = .ok (.iushr, 1) := by decide +kernel
theorem dJ6_numberOfTrailingZeros_0f7a4_61 : decode cJ6_numberOfTrailingZeros_0f7a4 61 = .ok (.istore_n 0, 1) := by decide +kernel
theorem dJ6_numberOfTrailingZeros_0f7a4_62 : decode cJ6_numberOfTrailingZeros_0f7a4 62 = .ok (.iload_n 0, 1) := by decide +kernel
theorem dJ6_numberOfTrailingZeros_0f7a4_63 : decode cJ6_numberOfTrailingZeros_0f7a4 63 = .ok (.iconst 4, 1) := by decide +kernel
theorem dJ6_numberOfTrailingZeros_0f7a4_64 : decode cJ6_numberOfTrailingZeros_0f7a4 64 = .ok (.if_icmp .le 10, 3) := by decide +kernel
theorem dJ6_numberOfTrailingZeros_0f7a4_67 : decode cJ6_numberOfTrailingZeros_0f7a4 67 = .ok (.iinc 1 2, 3) := by decide +kernel
theorem dJ6_numberOfTrailingZeros_0f7a4_70 : decode cJ6_numberOfTrailingZeros_0f7a4 70 = .ok (.iload_n 0, 1) := by decide +kernel
theorem dJ6_numberOfTrailingZeros_0f7a4_71 : decode cJ6_numberOfTrailingZeros_0f7a4 71 = .ok (.iconst 2, 1) := by decide +kernel
theorem dJ6_numberOfTrailingZeros_0f7a4_72 : decode cJ6_numberOfTrailingZeros_0f7a4 72 = .ok (.iushr, 1) := by decide +kernel
theorem dJ6_numberOfTrailingZeros_0f7a4_73 : decode cJ6_numberOfTrailingZeros_0f7a4 73 = .ok (.istore_n 0, 1) := by decide +kernel
theorem dJ6_numberOfTrailingZeros_0f7a4_74 : decode cJ6_numberOfTrailingZeros_0f7a4 74 = .ok (.iload_n 1, 1) := by decide +kernel
theorem dJ6_numberOfTrailingZeros_0f7a4_75 : decode cJ6_numberOfTrailingZeros_0f7a4 75 = .ok (.iload_n 0, 1) := by decide +kernel
theorem dJ6_numberOfTrailingZeros_0f7a4_76 : decode cJ6_numberOfTrailingZeros_0f7a4 76 = .ok (.iconst 1, 1) := by decide +kernel
theorem dJ6_numberOfTrailingZeros_0f7a4_77 : decode cJ6_numberOfTrailingZeros_0f7a4 77 = .ok (.iushr, 1) := by decide +kernel
theorem dJ6_numberOfTrailingZeros_0f7a4_78 : decode cJ6_numberOfTrailingZeros_0f7a4 78 = .ok (.iadd, 1) := by decide +kernel
theorem dJ6_numberOfTrailingZeros_0f7a4_79 : decode cJ6_numberOfTrailingZeros_0f7a4 79 = .ok (.ireturn, 1) := by decide +kernel
theorem dJ6_bitCount_0f7a4_0 : decode cJ6_bitCount_0f7a4 0 = .ok (.iload_n 0, 1) := by decide +kernel
theorem dJ6_bitCount_0f7a4_1 : decode cJ6_bitCount_0f7a4 1 = .ok (.iload_n 0, 1) := by decide +kernel
theorem dJ6_bitCount_0f7a4_2 : decode cJ6_bitCount_0f7a4 2 = .ok (.iconst 1, 1) := by decide +kernel
theorem dJ6_bitCount_0f7a4_3 : decode cJ6_bitCount_0f7a4 3 = .ok (.iushr, 1) := by decide +kernel
theorem dJ6_bitCount_0f7a4_4 : decode cJ6_bitCount_0f7a4 4 = .ok (.ldc_w 265, 3) := by decide +kernel
theorem dJ6_bitCount_0f7a4_7 : decode cJ6_bitCount_0f7a4 7 = .ok (.iand, 1) := by decide +kernel
theorem dJ6_bitCount_0f7a4_8 : decode cJ6_bitCount_0f7a4 8 = .ok (.isub, 1) := by decide +kernel
theorem dJ6_bitCount_0f7a4_9 : decode cJ6_bitCount_0f7a4 9 = .ok (.istore_n 0, 1) := by decide +kernel
theorem dJ6_bitCount_0f7a4_10 : decode cJ6_bitCount_0f7a4 10 = .ok (.iload_n 0, 1) := by decide +kernel
theorem dJ6_bitCount_0f7a4_11 : decode cJ6_bitCount_0f7a4 11 = .ok (.ldc_w 266, 3) := by decide +kernel
theorem dJ6_bitCount_0f7a4_14 : decode cJ6_bitCount_0f7a4 14 = .ok (.iand, 1) := by decide +kernel
theorem dJ6_bitCount_0f7a4_15 : decode cJ6_bitCount_0f7a4 15 = .ok (.iload_n 0, 1) := by decide +kernel
theorem dJ6_bitCount_0f7a4_16 : decode cJ6_bitCount_0f7a4 16 = .ok (.iconst 2, 1) := by decide +kernel
theorem dJ6_bitCount_0f7a4_17 : decode cJ6_bitCount_0f7a4 17 = .ok (.iushr, 1) := by decide +kernel
theorem dJ6_bitCount_0f7a4_18 : decode cJ6_bitCount_0f7a4 18 = .ok (.ldc_w 266, 3) := by decide +kernel
theorem dJ6_bitCount_0f7a4_21 : decode cJ6_bitCount_0f7a4 21 = .ok (.iand, 1) := by decide +kernel
theorem dJ6_bitCount_0f7a4_22 : decode cJ6_bitCount_0f7a4 22 = .ok (.iadd, 1) := by decide +kernel
theorem dJ6_bitCount_0f7a4_23 : decode cJ6_bitCount_0f7a4 23 = .ok (.istore_n 0, 1) := by decide +kernel
theorem dJ6_bitCount_0f7a4_24 : decode cJ6_bitCount_0f7a4 24 = .ok (.iload_n 0, 1) := by decide +kernel
theorem dJ6_bitCount_0f7a4_25 : decode cJ6_bitCount_0f7a4 25 = .ok (.iload_n 0, 1) := by decide +kernel
theorem dJ6_bitCount_0f7a4_26 : decode cJ6_bitCount_0f7a4 26 = .ok (.iconst 4, 1) := by decide +kernel
theorem dJ6_bitCount_0f7a4_27 : decode cJ6_bitCount_0f7a4 27 = .ok (.iushr, 1) := by decide +kernel
theorem dJ6_bitCount_0f7a4_28 : decode cJ6_bitCount_0f7a4 28 = .ok (.iadd, 1) := by decide +kernel
theorem dJ6_bitCount_0f7a4_29 : decode cJ6_bitCount_0f7a4 29 = .ok (.ldc_w 267, 3) := by decide +kernel
theorem dJ6_bitCount_0f7a4_32 : decode cJ6_bitCount_0f7a4 32 = .ok (.iand, 1) := by decide +kernel
theorem dJ6_bitCount_0f7a4_33 : decode cJ6_bitCount_0f7a4 33 = .ok (.istore_n 0, 1) := by decide +kernel
theorem dJ6_bitCount_0f7a4_34 : decode cJ6_bitCount_0f7a4 34 = .ok (.iload_n 0, 1) := by decide +kernel
theorem dJ6_bitCount_0f7a4_35 : decode cJ6_bitCount_0f7a4 35 = .ok (.iload_n 0, 1) := by decide +kernel
theorem dJ6_bitCount_0f7a4_36 : decode cJ6_bitCount_0f7a4 36 = .ok (.bipush 8, 2) := by decide +kernel
theorem dJ6_bitCount_0f7a4_38 : decode cJ6_bitCount_0f7a4 38 = .ok (.iushr, 1) := by decide +kernel
theorem dJ6_bitCount_0f7a4_39 : decode cJ6_bitCount_0f7a4 39 = .ok (.iadd, 1) := by decide +kernel
theorem dJ6_bitCount_0f7a4_40 : decode cJ6_bitCount_0f7a4 40 = .ok (.istore_n 0, 1) := by decide +kernel
theorem dJ6_bitCount_0f7a4_41 : decode cJ6_bitCount_0f7a4 41 = .ok (.iload_n 0, 1) := by decide +kernel
theorem dJ6_bitCount_0f7a4_42 : decode cJ6_bitCount_0f7a4 42 = .ok (.iload_n 0, 1) := by decide +kernel
theorem dJ6_bitCount_0f7a4_43 : decode cJ6_bitCount_0f7a4 43 = .ok (.bipush 16, 2) := by decide +kernel
theorem dJ6_bitCount_0f7a4_45 : decode cJ6_bitCount_0f7a4 45 = .ok (.iushr, 1) := by decide +kernel
theorem dJ6_bitCount_0f7a4_46 : decode cJ6_bitCount_0f7a4 46 = .ok (.iadd, 1) := by decide +kernel
theorem dJ6_bitCount_0f7a4_47 : decode cJ6_bitCount_0f7a4 47 = .ok (.istore_n 0, 1) := by decide +kernel
theorem dJ6_bitCount_0f7a4_48 : decode cJ6_bitCount_0f7a4 48 = .ok (.iload_n 0, 1) := by decide +kernel
theorem dJ6_bitCount_0f7a4_49 : decode cJ6_bitCount_0f7a4 49 = .ok (.bipush 63, 2) := by decide +kernel
theorem dJ6_bitCount_0f7a4_51 : decode cJ6_bitCount_0f7a4 51 = .ok (.iand, 1) := by decide +kernel
theorem dJ6_bitCount_0f7a4_52 : decode cJ6_bitCount_0f7a4 52 = .ok (.ireturn, 1) := by decide +kernel
theorem dJ9_max_7cf53_0 : decode cJ9_max_7cf53 0 = .ok (.iload_n 0, 1) := by decide +kernel
theorem dJ9_max_7cf53_1 : decode cJ9_max_7cf53 1 = .ok (.iload_n 1, 1) := by decide +kernel
theorem dJ9_max_7cf53_2 : decode cJ9_max_7cf53 2 = .ok (.if_icmp .lt 7, 3) := by decide +kernel
theorem dJ9_max_7cf53_5 : decode cJ9_max_7cf53 5 = .ok (.iload_n 0, 1) := by decide +kernel
theorem dJ9_max_7cf53_6 : decode cJ9_max_7cf53 6 = .ok (.goto 4, 3) := by decide +kernel
theorem dJ9_max_7cf53_9 : decode cJ9_max_7cf53 9 = .ok (.iload_n 1, 1) := by decide +kernel
theorem dJ9_max_7cf53_10 : decode cJ9_max_7cf53 10 = .ok (.ireturn, 1) := by decide +kernel
theorem dJ9_min_7cf53_0 : decode cJ9_min_7cf53 0 = .ok (.iload_n 0, 1) := by decide +kernel
theorem dJ9_min_7cf53_1 : decode cJ9_min_7cf53 1 = .ok (.iload_n 1, 1) := by decide +kernel
theorem dJ9_min_7cf53_2 : decode cJ9_min_7cf53 2 = .ok (.if_icmp .gt 7, 3) := by decide +kernel
theorem dJ9_min_7cf53_5 : decode cJ9_min_7cf53 5 = .ok (.iload_n 0, 1) := by decide +kernel
theorem dJ9_min_7cf53_6 : decode cJ9_min_7cf53 6 = .ok (.goto 4, 3) := by decide +kernel
theorem dJ9_min_7cf53_9 : decode cJ9_min_7cf53 9 = .ok (.iload_n 1, 1) := by decide +kernel
theorem dJ9_min_7cf53_10 : decode cJ9_min_7cf53 10 = .ok (.ireturn, 1) := by decide +kernel
theorem dJ7_fill_d0a16_0 : decode cJ7_fill_d0a16 0 = .ok (.iconst 0, 1) := by decide +kernel
theorem dJ7_fill_d0a16_1 : decode cJ7_fill_d0a16 1 = .ok (.istore_n 3, 1) := by decide +kernel
theorem dJ7_fill_d0a16_2 : decode cJ7_fill_d0a16 2 = .ok (.aload_n 0, 1) := by decide +kernel
theorem dJ7_fill_d0a16_3 : decode cJ7_fill_d0a16 3 = .ok (.arraylength, 1) := by decide +kernel
theorem dJ7_fill_d0a16_4 : decode cJ7_fill_d0a16 4 = .ok (.istore 4, 2) := by decide +kernel
theorem dJ7_fill_d0a16_6 : decode cJ7_fill_d0a16 6 = .ok (.iload_n 3, 1) := by decide +kernel
theorem dJ7_fill_d0a16_7 : decode cJ7_fill_d0a16 7 = .ok (.iload 4, 2) := by decide +kernel
theorem dJ7_fill_d0a16_9 : decode cJ7_fill_d0a16 9 = .ok (.if_icmp .ge 13, 3) := by decide +kernel
theorem dJ7_fill_d0a16_12 : decode cJ7_fill_d0a16 12 = .ok (.aload_n 0, 1) := by decide +kernel
theorem dJ7_fill_d0a16_13 : decode cJ7_fill_d0a16 13 = .ok (.iload_n 3, 1) := by decide +kernel
theorem dJ7_fill_d0a16_14 : decode cJ7_fill_d0a16 14 = .ok (.lload_n 1, 1) := by decide +kernel
theorem dJ7_fill_d0a16_15 : decode cJ7_fill_d0a16 15 = .ok (.lastore, 1) := by decide +kernel
theorem dJ7_fill_d0a16_16 : decode cJ7_fill_d0a16 16 = .ok (.iinc 3 1, 3) := by decide +kernel
theorem dJ7_fill_d0a16_19 : decode cJ7_fill_d0a16 19 = .ok (.goto (-13), 3) := by decide +kernel
theorem dJ7_fill_d0a16_22 : decode cJ7_fill_d0a16 22 = .ok (.return_, 1) := by decide +kernel
theorem dJ7_fill_53178_0 : decode cJ7_fill_53178 0 = .ok (.iconst 0, 1) := by decide +kernel
theorem dJ7_fill_53178_1 : decode cJ7_fill_53178 1 = .ok (.istore_n 2, 1) := by decide +kernel
theorem dJ7_fill_53178_2 : decode cJ7_fill_53178 2 = .ok (.aload_n 0, 1) := by decide +kernel
theorem dJ7_fill_53178_3 : decode cJ7_fill_53178 3 = .ok (.arraylength, 1) := by decide +kernel
theorem dJ7_fill_53178_4 : decode cJ7_fill_53178 4 = .ok (.istore_n 3, 1) := by decide +kernel
theorem dJ7_fill_53178_5 : decode cJ7_fill_53178 5 = .ok (.iload_n 2, 1) := by decide +kernel
theorem dJ7_fill_53178_6 : decode cJ7_fill_53178 6 = .ok (.iload_n 3, 1) := by decide +kernel
theorem dJ7_fill_53178_7 : decode cJ7_fill_53178 7 = .ok (.if_icmp .ge 13, 3) := by decide +kernel
theorem dJ7_fill_53178_10 : decode cJ7_fill_53178 10 = .ok (.aload_n 0, 1) := by decide +kernel
theorem dJ7_fill_53178_11 : decode cJ7_fill_53178 11 = .ok (.iload_n 2, 1) := by decide +kernel
theorem dJ7_fill_53178_12 : decode cJ7_fill_53178 12 = .ok (.iload_n 1, 1) := by decide +kernel
theorem dJ7_fill_53178_13 : decode cJ7_fill_53178 13 = .ok (.iastore, 1) := by decide +kernel
theorem dJ7_fill_53178_14 : decode cJ7_fill_53178 14 = .ok (.iinc 2 1, 3) := by decide +kernel
theorem dJ7_fill_53178_17 : decode cJ7_fill_53178 17 = .ok (.goto (-12), 3) := by decide +kernel
theorem dJ7_fill_53178_20 : decode cJ7_fill_53178 20 = .ok (.return_, 1) := by decide +kernel
theorem dL_law_0 : decode cL_law 0 = .ok (.new 7, 3) := by decide +kernel
theorem dL_law_3 : decode cL_law 3 = .ok (.dup, 1) := by decide +kernel
theorem dL_law_4 : decode cL_law 4 = .ok (.invokespecial 9, 3) := by decide +kernel
theorem dL_law_7 : decode cL_law 7 = .ok (.astore_n 1, 1) := by decide +kernel
theorem dL_law_8 : decode cL_law 8 = .ok (.new 10, 3) := by decide +kernel
theorem dL_law_11 : decode cL_law 11 = .ok (.dup, 1) := by decide +kernel
theorem dL_law_12 : decode cL_law 12 = .ok (.invokespecial 12, 3) := by decide +kernel
theorem dL_law_15 : decode cL_law 15 = .ok (.astore_n 2, 1) := by decide +kernel
theorem dL_law_16 : decode cL_law 16 = .ok (.iconst 0, 1) := by decide +kernel
theorem dL_law_17 : decode cL_law 17 = .ok (.istore_n 3, 1) := by decide +kernel
theorem dL_law_18 : decode cL_law 18 = .ok (.iload_n 3, 1) := by decide +kernel
theorem dL_law_19 : decode cL_law 19 = .ok (.aload_n 0, 1) := by decide +kernel
theorem dL_law_20 : decode cL_law 20 = .ok (.arraylength, 1) := by decide +kernel
theorem dL_law_21 : decode cL_law 21 = .ok (.bipush 6, 2) := by decide +kernel
theorem dL_law_23 : decode cL_law 23 = .ok (.isub, 1) := by decide +kernel
theorem dL_law_24 : decode cL_law 24 = .ok (.if_icmp .gt 1584, 3) := by decide +kernel
theorem dL_law_27 : decode cL_law 27 = .ok (.aload_n 0, 1) := by decide +kernel
theorem dL_law_28 : decode cL_law 28 = .ok (.iload_n 3, 1) := by decide +kernel
theorem dL_law_29 : decode cL_law 29 = .ok (.iaload, 1) := by decide +kernel
theorem dL_law_30 : decode cL_law 30 = .ok (.bipush 63, 2) := by decide +kernel
theorem dL_law_32 : decode cL_law 32 = .ok (.iand, 1) := by decide +kernel
theorem dL_law_33 : decode cL_law 33 = .ok (.tableswitch 1569 0 41 #[183, 216, 259, 302, 335, 368, 401, 444, 477, 510, 543, 576, 599, 622, 645, 688, 751, 774, 827, 860, 893, 916, 949, 992, 1025, 1068, 1101, 1134, 1167, 1190, 1233, 1256, 1299, 1342, 1405, 1428, 1461, 1474, 1487, 1510, 1523, 1546], 183) := by decide +kernel
theorem dL_law_216 : decode cL_law 216 = .ok (.aload_n 1, 1) := by decide +kernel
theorem dL_law_217 : decode cL_law 217 = .ok (.aload_n 0, 1) := by decide +kernel
theorem dL_law_218 : decode cL_law 218 = .ok (.iload_n 3, 1) := by decide +kernel
theorem dL_law_219 : decode cL_law 219 = .ok (.iconst 1, 1) := by decide +kernel
theorem dL_law_220 : decode cL_law 220 = .ok (.iadd, 1) := by decide +kernel
theorem dL_law_221 : decode cL_law 221 = .ok (.iaload, 1) := by decide +kernel
theorem dL_law_222 : decode cL_law 222 = .ok (.aload_n 0, 1) := by decide +kernel
theorem dL_law_223 : decode cL_law 223 = .ok (.iload_n 3, 1) := by decide +kernel
theorem dL_law_224 : decode cL_law 224 = .ok (.iconst 2, 1) := by decide +kernel
theorem dL_law_225 : decode cL_law 225 = .ok (.iadd, 1) := by decide +kernel
theorem dL_law_226 : decode cL_law 226 = .ok (.iaload, 1) := by decide +kernel
theorem dL_law_227 : decode cL_law 227 = .ok (.invokevirtual 13, 3) := by decide +kernel
theorem dL_law_230 : decode cL_law 230 = .ok (.aload_n 2, 1) := by decide +kernel
theorem dL_law_231 : decode cL_law 231 = .ok (.aload_n 0, 1) := by decide +kernel
theorem dL_law_232 : decode cL_law 232 = .ok (.iload_n 3, 1) := by decide +kernel
theorem dL_law_233 : decode cL_law 233 = .ok (.iconst 1, 1) := by decide +kernel
theorem dL_law_234 : decode cL_law 234 = .ok (.iadd, 1) := by decide +kernel
theorem dL_law_235 : decode cL_law 235 = .ok (.iaload, 1) := by decide +kernel
theorem dL_law_236 : decode cL_law 236 = .ok (.aload_n 0, 1) := by decide +kernel
theorem dL_law_237 : decode cL_law 237 = .ok (.iload_n 3, 1) := by decide +kernel
theorem dL_law_238 : decode cL_law 238 = .ok (.iconst 2, 1) := by decide +kernel
theorem dL_law_239 : decode cL_law 239 = .ok (.iadd, 1) := by decide +kernel
theorem dL_law_240 : decode cL_law 240 = .ok (.iaload, 1) := by decide +kernel
theorem dL_law_241 : decode cL_law 241 = .ok (.invokevirtual 17, 3) := by decide +kernel
theorem dL_law_244 : decode cL_law 244 = .ok (.if_icmp .eq 1358, 3) := by decide +kernel
theorem dL_law_247 : decode cL_law 247 = .ok (.iconst 0, 1) := by decide +kernel
theorem dL_law_248 : decode cL_law 248 = .ok (.ireturn, 1) := by decide +kernel
theorem dL_law_249 : decode cL_law 249 = .ok (.aload_n 1, 1) := by decide +kernel
theorem dL_law_250 : decode cL_law 250 = .ok (.aload_n 0, 1) := by decide +kernel
theorem dL_law_251 : decode cL_law 251 = .ok (.iload_n 3, 1) := by decide +kernel
theorem dL_law_252 : decode cL_law 252 = .ok (.iconst 1, 1) := by decide +kernel
theorem dL_law_253 : decode cL_law 253 = .ok (.iadd, 1) := by decide +kernel
theorem dL_law_254 : decode cL_law 254 = .ok (.iaload, 1) := by decide +kernel
theorem dL_law_255 : decode cL_law 255 = .ok (.aload_n 0, 1) := by decide +kernel
theorem dL_law_256 : decode cL_law 256 = .ok (.iload_n 3, 1) := by decide +kernel
theorem dL_law_257 : decode cL_law 257 = .ok (.iconst 2, 1) := by decide +kernel
theorem dL_law_258 : decode cL_law 258 = .ok (.iadd, 1) := by decide +kernel
theorem dL_law_259 : decode cL_law 259 = .ok (.iaload, 1) := by decide +kernel
theorem dL_law_260 : decode cL_law 260 = .ok (.aload_n 0, 1) := by decide +kernel
theorem dL_law_261 : decode cL_law 261 = .ok (.iload_n 3, 1) := by decide +kernel
theorem dL_law_262 : decode cL_law 262 = .ok (.iconst 3, 1) := by decide +kernel
theorem dL_law_263 : decode cL_law 263 = .ok (.iadd, 1) := by decide +kernel
theorem dL_law_264 : decode cL_law 264 = .ok (.iaload, 1) := by decide +kernel
theorem dL_law_265 : decode cL_law 265 = .ok (.invokevirtual 18, 3) := by decide +kernel
theorem dL_law_268 : decode cL_law 268 = .ok (.aload_n 2, 1) := by decide +kernel
theorem dL_law_269 : decode cL_law 269 = .ok (.aload_n 0, 1) := by decide +kernel
theorem dL_law_270 : decode cL_law 270 = .ok (.iload_n 3, 1) := by decide +kernel
theorem dL_law_271 : decode cL_law 271 = .ok (.iconst 1, 1) := by decide +kernel
theorem dL_law_272 : decode cL_law 272 = .ok (.iadd, 1) := by decide +kernel
theorem dL_law_273 : decode cL_law 273 = .ok (.iaload, 1) := by decide +kernel
theorem dL_law_274 : decode cL_law 274 = .ok (.aload_n 0, 1) := by decide +kernel
theorem dL_law_275 : decode cL_law 275 = .ok (.iload_n 3, 1) := by decide +kernel
theorem dL_law_276 : decode cL_law 276 = .ok (.iconst 2, 1) := by decide +kernel
theorem dL_law_277 : decode cL_law 277 = .ok (.iadd, 1) := by decide +kernel
theorem dL_law_278 : decode cL_law 278 = .ok (.iaload, 1) := by decide +kernel
theorem dL_law_279 : decode cL_law 279 = .ok (.aload_n 0, 1) := by decide +kernel
theorem dL_law_280 : decode cL_law 280 = .ok (.iload_n 3, 1) := by decide +kernel
theorem dL_law_281 : decode cL_law 281 = .ok (.iconst 3, 1) := by decide +kernel
theorem dL_law_282 : decode cL_law 282 = .ok (.iadd, 1) := by decide +kernel
theorem dL_law_283 : decode cL_law 283 = .ok (.iaload, 1) := by decide +kernel
theorem dL_law_284 : decode cL_law 284 = .ok (.invokevirtual 22, 3) := by decide +kernel
theorem dL_law_287 : decode cL_law 287 = .ok (.if_icmp .eq 1315, 3) := by decide +kernel
theorem dL_law_290 : decode cL_law 290 = .ok (.iconst 0, 1) := by decide +kernel
theorem dL_law_291 : decode cL_law 291 = .ok (.ireturn, 1) := by decide +kernel
theorem dL_law_292 : decode cL_law 292 = .ok (.aload_n 1, 1) := by decide +kernel
theorem dL_law_293 : decode cL_law 293 = .ok (.aload_n 0, 1) := by decide +kernel
theorem dL_law_294 : decode cL_law 294 = .ok (.iload_n 3, 1) := by decide +kernel
theorem dL_law_295 : decode cL_law 295 = .ok (.iconst 1, 1) := by decide +kernel
theorem dL_law_296 : decode cL_law 296 = .ok (.iadd, 1) := by decide +kernel
theorem dL_law_297 : decode cL_law 297 = .ok (.iaload, 1) := by decide +kernel
theorem dL_law_298 : decode cL_law 298 = .ok (.aload_n 0, 1) := by decide +kernel
theorem dL_law_299 : decode cL_law 299 = .ok (.iload_n 3, 1) := by decide +kernel
theorem dL_law_300 : decode cL_law 300 = .ok (.iconst 2, 1) := by decide +kernel
theorem dL_law_301 : decode cL_law 301 = .ok (.iadd, 1) := by decide +kernel
theorem dL_law_302 : decode cL_law 302 = .ok (.iaload, 1) := by decide +kernel
theorem dL_law_303 : decode cL_law 303 = .ok (.aload_n 0, 1) := by decide +kernel
theorem dL_law_304 : decode cL_law 304 = .ok (.iload_n 3, 1) := by decide +kernel
theorem dL_law_305 : decode cL_law 305 = .ok (.iconst 3, 1) := by decide +kernel
theorem dL_law_306 : decode cL_law 306 = .ok (.iadd, 1) := by decide +kernel
theorem dL_law_307 : decode cL_law 307 = .ok (.iaload, 1) := by decide +kernel
theorem dL_law_308 : decode cL_law 308 = .ok (.invokevirtual 23, 3) := by decide +kernel
theorem dL_law_311 : decode cL_law 311 = .ok (.aload_n 2, 1) := by decide +kernel
theorem dL_law_312 : decode cL_law 312 = .ok (.aload_n 0, 1) := by decide +kernel
theorem dL_law_313 : decode cL_law 313 = .ok (.iload_n 3, 1) := by decide +kernel
theorem dL_law_314 : decode cL_law 314 = .ok (.iconst 1, 1) := by decide +kernel
theorem dL_law_315 : decode cL_law 315 = .ok (.iadd, 1) := by decide +kernel
theorem dL_law_316 : decode cL_law 316 = .ok (.iaload, 1) := by decide +kernel
theorem dL_law_317 : decode cL_law 317 = .ok (.aload_n 0, 1) := by decide +kernel
theorem dL_law_318 : decode cL_law 318 = .ok (.iload_n 3, 1) := by decide +kernel
theorem dL_law_319 : decode cL_law 319 = .ok (.iconst 2, 1) := by decide +kernel
theorem dL_law_320 : decode cL_law 320 = .ok (.iadd, 1) := by decide +kernel
theorem dL_law_321 : decode cL_law 321 = .ok (.iaload, 1) := by decide +kernel
theorem dL_law_322 : decode cL_law 322 = .ok (.aload_n 0, 1) := by decide +kernel
theorem dL_law_323 : decode cL_law 323 = .ok (.iload_n 3, 1) := by decide +kernel
theorem dL_law_324 : decode cL_law 324 = .ok (.iconst 3, 1) := by decide +kernel
theorem dL_law_325 : decode cL_law 325 = .ok (.iadd, 1) := by decide +kernel
theorem dL_law_326 : decode cL_law 326 = .ok (.iaload, 1) := by decide +kernel
theorem dL_law_327 : decode cL_law 327 = .ok (.invokevirtual 26, 3) := by decide +kernel
theorem dL_law_330 : decode cL_law 330 = .ok (.if_icmp .eq 1272, 3) := by decide +kernel
theorem dL_law_333 : decode cL_law 333 = .ok (.iconst 0, 1) := by decide +kernel
theorem dL_law_334 : decode cL_law 334 = .ok (.ireturn, 1) := by decide +kernel
theorem dL_law_335 : decode cL_law 335 = .ok (.aload_n 1, 1) := by decide +kernel
theorem dL_law_336 : decode cL_law 336 = .ok (.aload_n 0, 1) := by decide +kernel
theorem dL_law_337 : decode cL_law 337 = .ok (.iload_n 3, 1) := by decide +kernel
theorem dL_law_338 : decode cL_law 338 = .ok (.iconst 1, 1) := by decide +kernel
theorem dL_law_339 : decode cL_law 339 = .ok (.iadd, 1) := by decide +kernel
theorem dL_law_340 : decode cL_law 340 = .ok (.iaload, 1) := by decide +kernel
theorem dL_law_341 : decode cL_law 341 = .ok (.aload_n 0, 1) := by decide +kernel
theorem dL_law_342 : decode cL_law 342 = .ok (.iload_n 3, 1) := by decide +kernel
theorem dL_law_343 : decode cL_law 343 = .ok (.iconst 2, 1) := by decide +kernel
theorem dL_law_344 : decode cL_law 344 = .ok (.iadd, 1) := by decide +kernel
theorem dL_law_345 : decode cL_law 345 = .ok (.iaload, 1) := by decide +kernel
theorem dL_law_346 : decode cL_law 346 = .ok (.invokevirtual 27, 3) := by decide +kernel
theorem dL_law_349 : decode cL_law 349 = .ok (.aload_n 2, 1) := by decide +kernel
theorem dL_law_350 : decode cL_law 350 = .ok (.aload_n 0, 1) := by decide +kernel
theorem dL_law_351 : decode cL_law 351 = .ok (.iload_n 3, 1) := by decide +kernel
theorem dL_law_352 : decode cL_law 352 = .ok (.iconst 1, 1) := by decide +kernel
theorem dL_law_353 : decode cL_law 353 = .ok (.iadd, 1) := by decide +kernel
theorem dL_law_354 : decode cL_law 354 = .ok (.iaload, 1) := by decide +kernel
theorem dL_law_355 : decode cL_law 355 = .ok (.aload_n 0, 1) := by decide +kernel
theorem dL_law_356 : decode cL_law 356 = .ok (.iload_n 3, 1) := by decide +kernel
theorem dL_law_357 : decode cL_law 357 = .ok (.iconst 2, 1) := by decide +kernel
theorem dL_law_358 : decode cL_law 358 = .ok (.iadd, 1) := by decide +kernel
theorem dL_law_359 : decode cL_law 359 = .ok (.iaload, 1) := by decide +kernel
theorem dL_law_360 : decode cL_law 360 = .ok (.invokevirtual 30, 3) := by decide +kernel
theorem dL_law_363 : decode cL_law 363 = .ok (.if_icmp .eq 1239, 3) := by decide +kernel
theorem dL_law_366 : decode cL_law 366 = .ok (.iconst 0, 1) := by decide +kernel
theorem dL_law_367 : decode cL_law 367 = .ok (.ireturn, 1) := by decide +kernel
theorem dL_law_368 : decode cL_law 368 = .ok (.aload_n 1, 1) := by decide +kernel
theorem dL_law_369 : decode cL_law 369 = .ok (.aload_n 0, 1) := by decide +kernel
theorem dL_law_370 : decode cL_law 370 = .ok (.iload_n 3, 1) := by decide +kernel
theorem dL_law_371 : decode cL_law 371 = .ok (.iconst 1, 1) := by decide +kernel
theorem dL_law_372 : decode cL_law 372 = .ok (.iadd, 1) := by decide +kernel
theorem dL_law_373 : decode cL_law 373 = .ok (.iaload, 1) := by decide +kernel
theorem dL_law_374 : decode cL_law 374 = .ok (.aload_n 0, 1) := by decide +kernel
theorem dL_law_375 : decode cL_law 375 = .ok (.iload_n 3, 1) := by decide +kernel
theorem dL_law_376 : decode cL_law 376 = .ok (.iconst 2, 1) := by decide +kernel
theorem dL_law_377 : decode cL_law 377 = .ok (.iadd, 1) := by decide +kernel
theorem dL_law_378 : decode cL_law 378 = .ok (.iaload, 1) := by decide +kernel
theorem dL_law_379 : decode cL_law 379 = .ok (.invokevirtual 31, 3) := by decide +kernel
theorem dL_law_382 : decode cL_law 382 = .ok (.aload_n 2, 1) := by decide +kernel
theorem dL_law_383 : decode cL_law 383 = .ok (.aload_n 0, 1) := by decide +kernel
theorem dL_law_384 : decode cL_law 384 = .ok (.iload_n 3, 1) := by decide +kernel
theorem dL_law_385 : decode cL_law 385 = .ok (.iconst 1, 1) := by decide +kernel
theorem dL_law_386 : decode cL_law 386 = .ok (.iadd, 1) := by decide +kernel
theorem dL_law_387 : decode cL_law 387 = .ok (.iaload, 1) := by decide +kernel
theorem dL_law_388 : decode cL_law 388 = .ok (.aload_n 0, 1) := by decide +kernel
theorem dL_law_389 : decode cL_law 389 = .ok (.iload_n 3, 1) := by decide +kernel
theorem dL_law_390 : decode cL_law 390 = .ok (.iconst 2, 1) := by decide +kernel
theorem dL_law_391 : decode cL_law 391 = .ok (.iadd, 1) := by decide +kernel
theorem dL_law_392 : decode cL_law 392 = .ok (.iaload, 1) := by decide +kernel
theorem dL_law_393 : decode cL_law 393 = .ok (.invokevirtual 34, 3) := by decide +kernel
theorem dL_law_396 : decode cL_law 396 = .ok (.if_icmp .eq 1206, 3) := by decide +kernel
theorem dL_law_399 : decode cL_law 399 = .ok (.iconst 0, 1) := by decide +kernel
theorem dL_law_400 : decode cL_law 400 = .ok (.ireturn, 1) := by decide +kernel
theorem dL_law_401 : decode cL_law 401 = .ok (.aload_n 1, 1) := by decide +kernel
theorem dL_law_402 : decode cL_law 402 = .ok (.aload_n 0, 1) := by decide +kernel
theorem dL_law_403 : decode cL_law 403 = .ok (.iload_n 3, 1) := by decide +kernel
theorem dL_law_404 : decode cL_law 404 = .ok (.iconst 1, 1) := by decide +kernel
theorem dL_law_405 : decode cL_law 405 = .ok (.iadd, 1) := by decide +kernel
theorem dL_law_406 : decode cL_law 406 = .ok (.iaload, 1) := by decide +kernel
theorem dL_law_407 : decode cL_law 407 = .ok (.aload_n 0, 1) := by decide +kernel
theorem dL_law_408 : decode cL_law 408 = .ok (.iload_n 3, 1) := by decide +kernel
theorem dL_law_409 : decode cL_law 409 = .ok (.iconst 2, 1) := by decide +kernel
theorem dL_law_410 : decode cL_law 410 = .ok (.iadd, 1) := by decide +kernel
theorem dL_law_411 : decode cL_law 411 = .ok (.iaload, 1) := by decide +kernel
theorem dL_law_412 : decode cL_law 412 = .ok (.invokevirtual 35, 3) := by decide +kernel
theorem dL_law_415 : decode cL_law 415 = .ok (.aload_n 2, 1) := by decide +kernel
theorem dL_law_416 : decode cL_law 416 = .ok (.aload_n 0, 1) := by decide +kernel
theorem dL_law_417 : decode cL_law 417 = .ok (.iload_n 3, 1) := by decide +kernel
theorem dL_law_418 : decode cL_law 418 = .ok (.iconst 1, 1) := by decide +kernel
theorem dL_law_419 : decode cL_law 419 = .ok (.iadd, 1) := by decide +kernel
theorem dL_law_420 : decode cL_law 420 = .ok (.iaload, 1) := by decide +kernel
theorem dL_law_421 : decode cL_law 421 = .ok (.aload_n 0, 1) := by decide +kernel
theorem dL_law_422 : decode cL_law 422 = .ok (.iload_n 3, 1) := by decide +kernel
theorem dL_law_423 : decode cL_law 423 = .ok (.iconst 2, 1) := by decide +kernel
theorem dL_law_424 : decode cL_law 424 = .ok (.iadd, 1) := by decide +kernel
theorem dL_law_425 : decode cL_law 425 = .ok (.iaload, 1) := by decide +kernel
theorem dL_law_426 : decode cL_law 426 = .ok (.invokevirtual 38, 3) := by decide +kernel
theorem dL_law_429 : decode cL_law 429 = .ok (.if_icmp .eq 1173, 3) := by decide +kernel
theorem dL_law_432 : decode cL_law 432 = .ok (.iconst 0, 1) := by decide +kernel
theorem dL_law_433 : decode cL_law 433 = .ok (.ireturn, 1) := by decide +kernel
theorem dL_law_434 : decode cL_law 434 = .ok (.aload_n 1, 1) := by decide +kernel
theorem dL_law_435 : decode cL_law 435 = .ok (.aload_n 0, 1) := by decide +kernel
theorem dL_law_436 : decode cL_law 436 = .ok (.iload_n 3, 1) := by decide +kernel
theorem dL_law_437 : decode cL_law 437 = .ok (.iconst 1, 1) := by decide +kernel
theorem dL_law_438 : decode cL_law 438 = .ok (.iadd, 1) := by decide +kernel
theorem dL_law_439 : decode cL_law 439 = .ok (.iaload, 1) := by decide +kernel
theorem dL_law_440 : decode cL_law 440 = .ok (.aload_n 0, 1) := by decide +kernel
theorem dL_law_441 : decode cL_law 441 = .ok (.iload_n 3, 1) := by decide +kernel
theorem dL_law_442 : decode cL_law 442 = .ok (.iconst 2, 1) := by decide +kernel
theorem dL_law_443 : decode cL_law 443 = .ok (.iadd, 1) := by decide +kernel
theorem dL_law_444 : decode cL_law 444 = .ok (.iaload, 1) := by decide +kernel
theorem dL_law_445 : decode cL_law 445 = .ok (.aload_n 0, 1) := by decide +kernel
theorem dL_law_446 : decode cL_law 446 = .ok (.iload_n 3, 1) := by decide +kernel
theorem dL_law_447 : decode cL_law 447 = .ok (.iconst 3, 1) := by decide +kernel
theorem dL_law_448 : decode cL_law 448 = .ok (.iadd, 1) := by decide +kernel
theorem dL_law_449 : decode cL_law 449 = .ok (.iaload, 1) := by decide +kernel
theorem dL_law_450 : decode cL_law 450 = .ok (.invokevirtual 39, 3) := by decide +kernel
theorem dL_law_453 : decode cL_law 453 = .ok (.aload_n 2, 1) := by decide +kernel
theorem dL_law_454 : decode cL_law 454 = .ok (.aload_n 0, 1) := by decide +kernel
theorem dL_law_455 : decode cL_law 455 = .ok (.iload_n 3, 1) := by decide +kernel
theorem dL_law_456 : decode cL_law 456 = .ok (.iconst 1, 1) := by decide +kernel
theorem dL_law_457 : decode cL_law 457 = .ok (.iadd, 1) := by decide +kernel
theorem dL_law_458 : decode cL_law 458 = .ok (.iaload, 1) := by decide +kernel
theorem dL_law_459 : decode cL_law 459 = .ok (.aload_n 0, 1) := by decide +kernel
theorem dL_law_460 : decode cL_law 460 = .ok (.iload_n 3, 1) := by decide +kernel
theorem dL_law_461 : decode cL_law 461 = .ok (.iconst 2, 1) := by decide +kernel
theorem dL_law_462 : decode cL_law 462 = .ok (.iadd, 1) := by decide +kernel
theorem dL_law_463 : decode cL_law 463 = .ok (.iaload, 1) := by decide +kernel
theorem dL_law_464 : decode cL_law 464 = .ok (.aload_n 0, 1) := by decide +kernel
theorem dL_law_465 : decode cL_law 465 = .ok (.iload_n 3, 1) := by decide +kernel
theorem dL_law_466 : decode cL_law 466 = .ok (.iconst 3, 1) := by decide +kernel
theorem dL_law_467 : decode cL_law 467 = .ok (.iadd, 1) := by decide +kernel
theorem dL_law_468 : decode cL_law 468 = .ok (.iaload, 1) := by decide +kernel
theorem dL_law_469 : decode cL_law 469 = .ok (.invokevirtual 42, 3) := by decide +kernel
theorem dL_law_472 : decode cL_law 472 = .ok (.if_icmp .eq 1130, 3) := by decide +kernel
theorem dL_law_475 : decode cL_law 475 = .ok (.iconst 0, 1) := by decide +kernel
theorem dL_law_476 : decode cL_law 476 = .ok (.ireturn, 1) := by decide +kernel
theorem dL_law_477 : decode cL_law 477 = .ok (.aload_n 1, 1) := by decide +kernel
theorem dL_law_478 : decode cL_law 478 = .ok (.aload_n 0, 1) := by decide +kernel
theorem dL_law_479 : decode cL_law 479 = .ok (.iload_n 3, 1) := by decide +kernel
theorem dL_law_480 : decode cL_law 480 = .ok (.iconst 1, 1) := by decide +kernel
theorem dL_law_481 : decode cL_law 481 = .ok (.iadd, 1) := by decide +kernel
theorem dL_law_482 : decode cL_law 482 = .ok (.iaload, 1) := by decide +kernel
theorem dL_law_483 : decode cL_law 483 = .ok (.aload_n 0, 1) := by decide +kernel
theorem dL_law_484 : decode cL_law 484 = .ok (.iload_n 3, 1) := by decide +kernel
theorem dL_law_485 : decode cL_law 485 = .ok (.iconst 2, 1) := by decide +kernel
theorem dL_law_486 : decode cL_law 486 = .ok (.iadd, 1) := by decide +kernel
theorem dL_law_487 : decode cL_law 487 = .ok (.iaload, 1) := by decide +kernel
theorem dL_law_488 : decode cL_law 488 = .ok (.invokevirtual 43, 3) := by decide +kernel
theorem dL_law_491 : decode cL_law 491 = .ok (.aload_n 2, 1) := by decide +kernel
theorem dL_law_492 : decode cL_law 492 = .ok (.aload_n 0, 1) := by decide +kernel
theorem dL_law_493 : decode cL_law 493 = .ok (.iload_n 3, 1) := by decide +kernel
theorem dL_law_494 : decode cL_law 494 = .ok (.iconst 1, 1) := by decide +kernel
theorem dL_law_495 : decode cL_law 495 = .ok (.iadd, 1) := by decide +kernel
theorem dL_law_496 : decode cL_law 496 = .ok (.iaload, 1) := by decide +kernel
theorem dL_law_497 : decode cL_law 497 = .ok (.aload_n 0, 1) := by decide +kernel
theorem dL_law_498 : decode cL_law 498 = .ok (.iload_n 3, 1) := by decide +kernel
theorem dL_law_499 : decode cL_law 499 = .ok (.iconst 2, 1) := by decide +kernel
theorem dL_law_500 : decode cL_law 500 = .ok (.iadd, 1) := by decide +kernel
theorem dL_law_501 : decode cL_law 501 = .ok (.iaload, 1) := by decide +kernel
theorem dL_law_502 : decode cL_law 502 = .ok (.invokevirtual 46, 3) := by decide +kernel
theorem dL_law_505 : decode cL_law 505 = .ok (.if_icmp .eq 1097, 3) := by decide +kernel
theorem dL_law_508 : decode cL_law 508 = .ok (.iconst 0, 1) := by decide +kernel
theorem dL_law_509 : decode cL_law 509 = .ok (.ireturn, 1) := by decide +kernel
theorem dL_law_510 : decode cL_law 510 = .ok (.aload_n 1, 1) := by decide +kernel
theorem dL_law_511 : decode cL_law 511 = .ok (.aload_n 0, 1) := by decide +kernel
theorem dL_law_512 : decode cL_law 512 = .ok (.iload_n 3, 1) := by decide +kernel
theorem dL_law_513 : decode cL_law 513 = .ok (.iconst 1, 1) := by decide +kernel
theorem dL_law_514 : decode cL_law 514 = .ok (.iadd, 1) := by decide +kernel
theorem dL_law_515 : decode cL_law 515 = .ok (.iaload, 1) := by decide +kernel
theorem dL_law_516 : decode cL_law 516 = .ok (.aload_n 0, 1) := by decide +kernel
theorem dL_law_517 : decode cL_law 517 = .ok (.iload_n 3, 1) := by decide +kernel
theorem dL_law_518 : decode cL_law 518 = .ok (.iconst 2, 1) := by decide +kernel
theorem dL_law_519 : decode cL_law 519 = .ok (.iadd, 1) := by decide +kernel
theorem dL_law_520 : decode cL_law 520 = .ok (.iaload, 1) := by decide +kernel
theorem dL_law_521 : decode cL_law 521 = .ok (.invokevirtual 47, 3) := by decide +kernel
theorem dL_law_524 : decode cL_law 524 = .ok (.aload_n 2, 1) := by decide +kernel
theorem dL_law_525 : decode cL_law 525 = .ok (.aload_n 0, 1) := by decide +kernel
theorem dL_law_526 : decode cL_law 526 = .ok (.iload_n 3, 1) := by decide +kernel
theorem dL_law_527 : decode cL_law 527 = .ok (.iconst 1, 1) := by decide +kernel
theorem dL_law_528 : decode cL_law 528 = .ok (.iadd, 1) := by decide +kernel
theorem dL_law_529 : decode cL_law 529 = .ok (.iaload, 1) := by decide +kernel
theorem dL_law_530 : decode cL_law 530 = .ok (.aload_n 0, 1) := by decide +kernel
theorem dL_law_531 : decode cL_law 531 = .ok (.iload_n 3, 1) := by decide +kernel
theorem dL_law_532 : decode cL_law 532 = .ok (.iconst 2, 1) := by decide +kernel
theorem dL_law_533 : decode cL_law 533 = .ok (.iadd, 1) := by decide +kernel
theorem dL_law_534 : decode cL_law 534 = .ok (.iaload, 1) := by decide +kernel
theorem dL_law_535 : decode cL_law 535 = .ok (.invokevirtual 50, 3) := by decide +kernel
theorem dL_law_538 : decode cL_law 538 = .ok (.if_icmp .eq 1064, 3) := by decide +kernel
theorem dL_law_541 : decode cL_law 541 = .ok (.iconst 0, 1) := by decide +kernel
theorem dL_law_542 : decode cL_law 542 = .ok (.ireturn, 1) := by decide +kernel
theorem dL_law_543 : decode cL_law 543 = .ok (.aload_n 1, 1) := by decide +kernel
theorem dL_law_544 : decode cL_law 544 = .ok (.aload_n 0, 1) := by decide +kernel
theorem dL_law_545 : decode cL_law 545 = .ok (.iload_n 3, 1) := by decide +kernel
theorem dL_law_546 : decode cL_law 546 = .ok (.iconst 1, 1) := by decide +kernel
theorem dL_law_547 : decode cL_law 547 = .ok (.iadd, 1) := by decide +kernel
theorem dL_law_548 : decode cL_law 548 = .ok (.iaload, 1) := by decide +kernel
theorem dL_law_549 : decode cL_law 549 = .ok (.aload_n 0, 1) := by decide +kernel
theorem dL_law_550 : decode cL_law 550 = .ok (.iload_n 3, 1) := by decide +kernel
theorem dL_law_551 : decode cL_law 551 = .ok (.iconst 2, 1) := by decide +kernel
theorem dL_law_552 : decode cL_law 552 = .ok (.iadd, 1) := by decide +kernel
theorem dL_law_553 : decode cL_law 553 = .ok (.iaload, 1) := by decide +kernel
theorem dL_law_554 : decode cL_law 554 = .ok (.invokevirtual 51, 3) := by decide +kernel
theorem dL_law_557 : decode cL_law 557 = .ok (.aload_n 2, 1) := by decide +kernel
theorem dL_law_558 : decode cL_law 558 = .ok (.aload_n 0, 1) := by decide +kernel
theorem dL_law_559 : decode cL_law 559 = .ok (.iload_n 3, 1) := by decide +kernel
theorem dL_law_560 : decode cL_law 560 = .ok (.iconst 1, 1) := by decide +kernel
theorem dL_law_561 : decode cL_law 561 = .ok (.iadd, 1) := by decide +kernel
theorem dL_law_562 : decode cL_law 562 = .ok (.iaload, 1) := by decide +kernel
theorem dL_law_563 : decode cL_law 563 = .ok (.aload_n 0, 1) := by decide +kernel
theorem dL_law_564 : decode cL_law 564 = .ok (.iload_n 3, 1) := by decide +kernel
theorem dL_law_565 : decode cL_law 565 = .ok (.iconst 2, 1) := by decide +kernel
theorem dL_law_566 : decode cL_law 566 = .ok (.iadd, 1) := by decide +kernel
theorem dL_law_567 : decode cL_law 567 = .ok (.iaload, 1) := by decide +kernel
theorem dL_law_568 : decode cL_law 568 = .ok (.invokevirtual 54, 3) := by decide +kernel
theorem dL_law_571 : decode cL_law 571 = .ok (.if_icmp .eq 1031, 3) := by decide +kernel
theorem dL_law_574 : decode cL_law 574 = .ok (.iconst 0, 1) := by decide +kernel
theorem dL_law_575 : decode cL_law 575 = .ok (.ireturn, 1) := by decide +kernel
theorem dL_law_576 : decode cL_law 576 = .ok (.aload_n 1, 1) := by decide +kernel
theorem dL_law_577 : decode cL_law 577 = .ok (.aload_n 0, 1) := by decide +kernel
theorem dL_law_578 : decode cL_law 578 = .ok (.iload_n 3, 1) := by decide +kernel
theorem dL_law_579 : decode cL_law 579 = .ok (.iconst 1, 1) := by decide +kernel
theorem dL_law_580 : decode cL_law 580 = .ok (.iadd, 1) := by decide +kernel
theorem dL_law_581 : decode cL_law 581 = .ok (.iaload, 1) := by decide +kernel
theorem dL_law_582 : decode cL_law 582 = .ok (.aload_n 0, 1) := by decide +kernel
theorem dL_law_583 : decode cL_law 583 = .ok (.iload_n 3, 1) := by decide +kernel
theorem dL_law_584 : decode cL_law 584 = .ok (.iconst 2, 1) := by decide +kernel
theorem dL_law_585 : decode cL_law 585 = .ok (.iadd, 1) := by decide +kernel
theorem dL_law_586 : decode cL_law 586 = .ok (.iaload, 1) := by decide +kernel
theorem dL_law_587 : decode cL_law 587 = .ok (.invokevirtual 55, 3) := by decide +kernel
theorem dL_law_590 : decode cL_law 590 = .ok (.aload_n 2, 1) := by decide +kernel
theorem dL_law_591 : decode cL_law 591 = .ok (.aload_n 0, 1) := by decide +kernel
theorem dL_law_592 : decode cL_law 592 = .ok (.iload_n 3, 1) := by decide +kernel
theorem dL_law_593 : decode cL_law 593 = .ok (.iconst 1, 1) := by decide +kernel
theorem dL_law_594 : decode cL_law 594 = .ok (.iadd, 1) := by decide +kernel
theorem dL_law_595 : decode cL_law 595 = .ok (.iaload, 1) := by decide +kernel
theorem dL_law_596 : decode cL_law 596 = .ok (.aload_n 0, 1) := by decide +kernel
theorem dL_law_597 : decode cL_law 597 = .ok (.iload_n 3, 1) := by decide +kernel
theorem dL_law_598 : decode cL_law 598 = .ok (.iconst 2, 1) := by decide +kernel
theorem dL_law_599 : decode cL_law 599 = .ok (.iadd, 1) := by decide +kernel
theorem dL_law_600 : decode cL_law 600 = .ok (.iaload, 1) := by decide +kernel
theorem dL_law_601 : decode cL_law 601 = .ok (.invokevirtual 58, 3) := by decide +kernel
