theorem dX11_ofDebtor_137 : decode cX11_ofDebtor 137 = .ok (.iload_n 1, 1) := by decide +kernel
theorem dX11_ofDebtor_138 : decode cX11_ofDebtor 138 = .ok (.invokevirtual 150, 3) := by decide +kernel
theorem dX11_ofDebtor_141 : decode cX11_ofDebtor 141 = .ok (.aload_n 3, 1) := by decide +kernel
theorem dX11_ofDebtor_142 : decode cX11_ofDebtor 142 = .ok (.getfield 153, 3) := by decide +kernel
theorem dX11_ofDebtor_145 : decode cX11_ofDebtor 145 = .ok (.invokevirtual 154, 3) := by decide +kernel
theorem dX11_ofDebtor_148 : decode cX11_ofDebtor 148 = .ok (.ireturn, 1) := by decide +kernel
theorem dX11_ofDebtor_149 : decode cX11_ofDebtor 149 = .ok (.aload_n 0, 1) := by decide +kernel
theorem dX11_ofDebtor_150 : decode cX11_ofDebtor 150 = .ok (.getfield 10, 3) := by decide +kernel
theorem dX11_ofDebtor_153 : decode cX11_ofDebtor 153 = .ok (.getfield 114, 3) := by decide +kernel
theorem dX11_ofDebtor_156 : decode cX11_ofDebtor 156 = .ok (.iload_n 1, 1) := by decide +kernel
theorem dX11_ofDebtor_157 : decode cX11_ofDebtor 157 = .ok (.iload_n 2, 1) := by decide +kernel
theorem dX11_ofDebtor_158 : decode cX11_ofDebtor 158 = .ok (.invokestatic 160, 3) := by decide +kernel
theorem dX11_ofDebtor_161 : decode cX11_ofDebtor 161 = .ok (.ireturn, 1) := by decide +kernel
theorem dX11_book_0 : decode cX11_book 0 = .ok (.aload_n 0, 1) := by decide +kernel
theorem dX11_book_1 : decode cX11_book 1 = .ok (.iload_n 1, 1) := by decide +kernel
theorem dX11_book_2 : decode cX11_book 2 = .ok (.invokevirtual 122, 3) := by decide +kernel
theorem dX11_book_5 : decode cX11_book 5 = .ok (.ifCond .eq 12, 3) := by decide +kernel
theorem dX11_book_8 : decode cX11_book 8 = .ok (.iload_n 3, 1) := by decide +kernel
theorem dX11_book_9 : decode cX11_book 9 = .ok (.iconst 0, 1) := by decide +kernel
theorem dX11_book_10 : decode cX11_book 10 = .ok (.iconst 1, 1) := by decide +kernel
theorem dX11_book_11 : decode cX11_book 11 = .ok (.invokestatic 79, 3) := by decide +kernel
theorem dX11_book_14 : decode cX11_book 14 = .ok (.ifCond .ne 9, 3) := by decide +kernel
theorem dX11_book_17 : decode cX11_book 17 = .ok (.aload_n 0, 1) := by decide +kernel
theorem dX11_book_18 : decode cX11_book 18 = .ok (.iconst 1, 1) := by decide +kernel
theorem dX11_book_19 : decode cX11_book 19 = .ok (.invokevirtual 83, 3) := by decide +kernel
theorem dX11_book_22 : decode cX11_book 22 = .ok (.ireturn, 1) := by decide +kernel
theorem dX11_book_23 : decode cX11_book 23 = .ok (.aload_n 0, 1) := by decide +kernel
theorem dX11_book_24 : decode cX11_book 24 = .ok (.getfield 10, 3) := by decide +kernel
theorem dX11_book_27 : decode cX11_book 27 = .ok (.getfield 114, 3) := by decide +kernel
theorem dX11_book_30 : decode cX11_book 30 = .ok (.getfield 125, 3) := by decide +kernel
theorem dX11_book_33 : decode cX11_book 33 = .ok (.iload_n 1, 1) := by decide +kernel
theorem dX11_book_34 : decode cX11_book 34 = .ok (.aaload, 1) := by decide +kernel
theorem dX11_book_35 : decode cX11_book 35 = .ok (.astore 4, 2) := by decide +kernel
theorem dX11_book_37 : decode cX11_book 37 = .ok (.iload_n 2, 1) := by decide +kernel
theorem dX11_book_38 : decode cX11_book 38 = .ok (.iconst 0, 1) := by decide +kernel
theorem dX11_book_39 : decode cX11_book 39 = .ok (.aload 4, 2) := by decide +kernel
theorem dX11_book_41 : decode cX11_book 41 = .ok (.getfield 153, 3) := by decide +kernel
theorem dX11_book_44 : decode cX11_book 44 = .ok (.iconst 1, 1) := by decide +kernel
theorem dX11_book_45 : decode cX11_book 45 = .ok (.isub, 1) := by decide +kernel
theorem dX11_book_46 : decode cX11_book 46 = .ok (.invokestatic 79, 3) := by decide +kernel
theorem dX11_book_49 : decode cX11_book 49 = .ok (.ifCond .ne 9, 3) := by decide +kernel
theorem dX11_book_52 : decode cX11_book 52 = .ok (.aload_n 0, 1) := by decide +kernel
theorem dX11_book_53 : decode cX11_book 53 = .ok (.iconst 2, 1) := by decide +kernel
theorem dX11_book_54 : decode cX11_book 54 = .ok (.invokevirtual 83, 3) := by decide +kernel
theorem dX11_book_57 : decode cX11_book 57 = .ok (.ireturn, 1) := by decide +kernel
theorem dX11_book_58 : decode cX11_book 58 = .ok (.aload 4, 2) := by decide +kernel
theorem dX11_book_60 : decode cX11_book 60 = .ok (.getfield 164, 3) := by decide +kernel
theorem dX11_book_63 : decode cX11_book 63 = .ok (.iload_n 2, 1) := by decide +kernel
theorem dX11_book_64 : decode cX11_book 64 = .ok (.iaload, 1) := by decide +kernel
theorem dX11_book_65 : decode cX11_book 65 = .ok (.istore 5, 2) := by decide +kernel
theorem dX11_book_67 : decode cX11_book 67 = .ok (.iload_n 3, 1) := by decide +kernel
theorem dX11_book_68 : decode cX11_book 68 = .ok (.ifCond .ne 8, 3) := by decide +kernel
theorem dX11_book_71 : decode cX11_book 71 = .ok (.iload 5, 2) := by decide +kernel
theorem dX11_book_73 : decode cX11_book 73 = .ok (.goto 11, 3) := by decide +kernel
theorem dX11_book_76 : decode cX11_book 76 = .ok (.aload 4, 2) := by decide +kernel
theorem dX11_book_78 : decode cX11_book 78 = .ok (.getfield 167, 3) := by decide +kernel
theorem dX11_book_81 : decode cX11_book 81 = .ok (.iload 5, 2) := by decide +kernel
theorem dX11_book_83 : decode cX11_book 83 = .ok (.iaload, 1) := by decide +kernel
theorem dX11_book_84 : decode cX11_book 84 = .ok (.ireturn, 1) := by decide +kernel
theorem dX11_become_0 : decode cX11_become 0 = .ok (.aload_n 0, 1) := by decide +kernel
theorem dX11_become_1 : decode cX11_become 1 = .ok (.iload_n 1, 1) := by decide +kernel
theorem dX11_become_2 : decode cX11_become 2 = .ok (.invokevirtual 122, 3) := by decide +kernel
theorem dX11_become_5 : decode cX11_become 5 = .ok (.ifCond .eq 13, 3) := by decide +kernel
theorem dX11_become_8 : decode cX11_become 8 = .ok (.iload_n 2, 1) := by decide +kernel
theorem dX11_become_9 : decode cX11_become 9 = .ok (.iconst 0, 1) := by decide +kernel
theorem dX11_become_10 : decode cX11_become 10 = .ok (.bipush 69, 2) := by decide +kernel
theorem dX11_become_12 : decode cX11_become 12 = .ok (.invokestatic 79, 3) := by decide +kernel
theorem dX11_become_15 : decode cX11_become 15 = .ok (.ifCond .ne 9, 3) := by decide +kernel
theorem dX11_become_18 : decode cX11_become 18 = .ok (.aload_n 0, 1) := by decide +kernel
theorem dX11_become_19 : decode cX11_become 19 = .ok (.iconst 1, 1) := by decide +kernel
theorem dX11_become_20 : decode cX11_become 20 = .ok (.invokevirtual 83, 3) := by decide +kernel
theorem dX11_become_23 : decode cX11_become 23 = .ok (.ireturn, 1) := by decide +kernel
theorem dX11_become_24 : decode cX11_become 24 = .ok (.aload_n 0, 1) := by decide +kernel
theorem dX11_become_25 : decode cX11_become 25 = .ok (.getfield 10, 3) := by decide +kernel
theorem dX11_become_28 : decode cX11_become 28 = .ok (.getfield 114, 3) := by decide +kernel
theorem dX11_become_31 : decode cX11_become 31 = .ok (.getfield 125, 3) := by decide +kernel
theorem dX11_become_34 : decode cX11_become 34 = .ok (.iload_n 1, 1) := by decide +kernel
theorem dX11_become_35 : decode cX11_become 35 = .ok (.aaload, 1) := by decide +kernel
theorem dX11_become_36 : decode cX11_become 36 = .ok (.astore_n 3, 1) := by decide +kernel
theorem dX11_become_37 : decode cX11_become 37 = .ok (.aload_n 3, 1) := by decide +kernel
theorem dX11_become_38 : decode cX11_become 38 = .ok (.getfield 129, 3) := by decide +kernel
theorem dX11_become_41 : decode cX11_become 41 = .ok (.istore 4, 2) := by decide +kernel
theorem dX11_become_43 : decode cX11_become 43 = .ok (.aload_n 3, 1) := by decide +kernel
theorem dX11_become_44 : decode cX11_become 44 = .ok (.iload_n 2, 1) := by decide +kernel
theorem dX11_become_45 : decode cX11_become 45 = .ok (.bipush 10, 2) := by decide +kernel
theorem dX11_become_47 : decode cX11_become 47 = .ok (.idiv, 1) := by decide +kernel
theorem dX11_become_48 : decode cX11_become 48 = .ok (.putfield 129, 3) := by decide +kernel
theorem dX11_become_51 : decode cX11_become 51 = .ok (.aload_n 3, 1) := by decide +kernel
theorem dX11_become_52 : decode cX11_become 52 = .ok (.iload_n 2, 1) := by decide +kernel
theorem dX11_become_53 : decode cX11_become 53 = .ok (.bipush 10, 2) := by decide +kernel
theorem dX11_become_55 : decode cX11_become 55 = .ok (.irem, 1) := by decide +kernel
theorem dX11_become_56 : decode cX11_become 56 = .ok (.putfield 134, 3) := by decide +kernel
theorem dX11_become_59 : decode cX11_become 59 = .ok (.iload 4, 2) := by decide +kernel
theorem dX11_become_61 : decode cX11_become 61 = .ok (.ireturn, 1) := by decide +kernel
theorem dX11_as_0 : decode cX11_as 0 = .ok (.aload_n 0, 1) := by decide +kernel
theorem dX11_as_1 : decode cX11_as 1 = .ok (.iload_n 1, 1) := by decide +kernel
theorem dX11_as_2 : decode cX11_as 2 = .ok (.invokevirtual 122, 3) := by decide +kernel
theorem dX11_as_5 : decode cX11_as 5 = .ok (.ifCond .eq 10, 3) := by decide +kernel
theorem dX11_as_8 : decode cX11_as 8 = .ok (.iload_n 2, 1) := by decide +kernel
theorem dX11_as_9 : decode cX11_as 9 = .ok (.invokestatic 170, 3) := by decide +kernel
theorem dX11_as_12 : decode cX11_as 12 = .ok (.ifCond .ne 9, 3) := by decide +kernel
theorem dX11_as_15 : decode cX11_as 15 = .ok (.aload_n 0, 1) := by decide +kernel
theorem dX11_as_16 : decode cX11_as 16 = .ok (.iconst 1, 1) := by decide +kernel
theorem dX11_as_17 : decode cX11_as 17 = .ok (.invokevirtual 83, 3) := by decide +kernel
theorem dX11_as_20 : decode cX11_as 20 = .ok (.ireturn, 1) := by decide +kernel
theorem dX11_as_21 : decode cX11_as 21 = .ok (.aload_n 0, 1) := by decide +kernel
theorem dX11_as_22 : decode cX11_as 22 = .ok (.getfield 10, 3) := by decide +kernel
theorem dX11_as_25 : decode cX11_as 25 = .ok (.getfield 114, 3) := by decide +kernel
theorem dX11_as_28 : decode cX11_as 28 = .ok (.getfield 125, 3) := by decide +kernel
theorem dX11_as_31 : decode cX11_as 31 = .ok (.iload_n 1, 1) := by decide +kernel
theorem dX11_as_32 : decode cX11_as 32 = .ok (.aaload, 1) := by decide +kernel
theorem dX11_as_33 : decode cX11_as 33 = .ok (.astore_n 3, 1) := by decide +kernel
theorem dX11_as_34 : decode cX11_as 34 = .ok (.aload_n 3, 1) := by decide +kernel
theorem dX11_as_35 : decode cX11_as 35 = .ok (.iload_n 2, 1) := by decide +kernel
theorem dX11_as_36 : decode cX11_as 36 = .ok (.invokevirtual 173, 3) := by decide +kernel
theorem dX11_as_39 : decode cX11_as 39 = .ok (.ifCond .eq 10, 3) := by decide +kernel
theorem dX11_as_42 : decode cX11_as 42 = .ok (.aload_n 3, 1) := by decide +kernel
theorem dX11_as_43 : decode cX11_as 43 = .ok (.getfield 134, 3) := by decide +kernel
theorem dX11_as_46 : decode cX11_as 46 = .ok (.goto 8, 3) := by decide +kernel
theorem dX11_as_49 : decode cX11_as 49 = .ok (.aload_n 0, 1) := by decide +kernel
theorem dX11_as_50 : decode cX11_as 50 = .ok (.iconst 5, 1) := by decide +kernel
theorem dX11_as_51 : decode cX11_as 51 = .ok (.invokevirtual 83, 3) := by decide +kernel
theorem dX11_as_54 : decode cX11_as 54 = .ok (.ireturn, 1) := by decide +kernel
theorem dX11_lend_0 : decode cX11_lend 0 = .ok (.aload_n 0, 1) := by decide +kernel
theorem dX11_lend_1 : decode cX11_lend 1 = .ok (.iload_n 1, 1) := by decide +kernel
theorem dX11_lend_2 : decode cX11_lend 2 = .ok (.invokevirtual 122, 3) := by decide +kernel
theorem dX11_lend_5 : decode cX11_lend 5 = .ok (.ifCond .eq 14, 3) := by decide +kernel
theorem dX11_lend_8 : decode cX11_lend 8 = .ok (.iload_n 2, 1) := by decide +kernel
theorem dX11_lend_9 : decode cX11_lend 9 = .ok (.iconst 1, 1) := by decide +kernel
theorem dX11_lend_10 : decode cX11_lend 10 = .ok (.sipush 999, 3) := by decide +kernel
theorem dX11_lend_13 : decode cX11_lend 13 = .ok (.invokestatic 79, 3) := by decide +kernel
theorem dX11_lend_16 : decode cX11_lend 16 = .ok (.ifCond .ne 9, 3) := by decide +kernel
theorem dX11_lend_19 : decode cX11_lend 19 = .ok (.aload_n 0, 1) := by decide +kernel
theorem dX11_lend_20 : decode cX11_lend 20 = .ok (.iconst 1, 1) := by decide +kernel
theorem dX11_lend_21 : decode cX11_lend 21 = .ok (.invokevirtual 83, 3) := by decide +kernel
theorem dX11_lend_24 : decode cX11_lend 24 = .ok (.ireturn, 1) := by decide +kernel
theorem dX11_lend_25 : decode cX11_lend 25 = .ok (.aload_n 0, 1) := by decide +kernel
theorem dX11_lend_26 : decode cX11_lend 26 = .ok (.getfield 10, 3) := by decide +kernel
theorem dX11_lend_29 : decode cX11_lend 29 = .ok (.getfield 114, 3) := by decide +kernel
theorem dX11_lend_32 : decode cX11_lend 32 = .ok (.getfield 125, 3) := by decide +kernel
theorem dX11_lend_35 : decode cX11_lend 35 = .ok (.iload_n 1, 1) := by decide +kernel
theorem dX11_lend_36 : decode cX11_lend 36 = .ok (.aaload, 1) := by decide +kernel
theorem dX11_lend_37 : decode cX11_lend 37 = .ok (.astore_n 3, 1) := by decide +kernel
theorem dX11_lend_38 : decode cX11_lend 38 = .ok (.aload_n 3, 1) := by decide +kernel
theorem dX11_lend_39 : decode cX11_lend 39 = .ok (.getfield 176, 3) := by decide +kernel
theorem dX11_lend_42 : decode cX11_lend 42 = .ok (.ifCond .eq 9, 3) := by decide +kernel
theorem dX11_lend_45 : decode cX11_lend 45 = .ok (.aload_n 0, 1) := by decide +kernel
theorem dX11_lend_46 : decode cX11_lend 46 = .ok (.iconst 3, 1) := by decide +kernel
theorem dX11_lend_47 : decode cX11_lend 47 = .ok (.invokevirtual 83, 3) := by decide +kernel
theorem dX11_lend_50 : decode cX11_lend 50 = .ok (.ireturn, 1) := by decide +kernel
theorem dX11_lend_51 : decode cX11_lend 51 = .ok (.aload_n 3, 1) := by decide +kernel
theorem dX11_lend_52 : decode cX11_lend 52 = .ok (.iload_n 2, 1) := by decide +kernel
theorem dX11_lend_53 : decode cX11_lend 53 = .ok (.invokevirtual 180, 3) := by decide +kernel
theorem dX11_lend_56 : decode cX11_lend 56 = .ok (.aload_n 3, 1) := by decide +kernel
theorem dX11_lend_57 : decode cX11_lend 57 = .ok (.getfield 147, 3) := by decide +kernel
theorem dX11_lend_60 : decode cX11_lend 60 = .ok (.ireturn, 1) := by decide +kernel
theorem dX11_tells_0 : decode cX11_tells 0 = .ok (.aload_n 0, 1) := by decide +kernel
theorem dX11_tells_1 : decode cX11_tells 1 = .ok (.iload_n 1, 1) := by decide +kernel
theorem dX11_tells_2 : decode cX11_tells 2 = .ok (.invokevirtual 122, 3) := by decide +kernel
theorem dX11_tells_5 : decode cX11_tells 5 = .ok (.ifCond .eq 11, 3) := by decide +kernel
theorem dX11_tells_8 : decode cX11_tells 8 = .ok (.aload_n 0, 1) := by decide +kernel
theorem dX11_tells_9 : decode cX11_tells 9 = .ok (.iload_n 2, 1) := by decide +kernel
theorem dX11_tells_10 : decode cX11_tells 10 = .ok (.invokevirtual 91, 3) := by decide +kernel
theorem dX11_tells_13 : decode cX11_tells 13 = .ok (.ifCond .ne 9, 3) := by decide +kernel
theorem dX11_tells_16 : decode cX11_tells 16 = .ok (.aload_n 0, 1) := by decide +kernel
theorem dX11_tells_17 : decode cX11_tells 17 = .ok (.iconst 1, 1) := by decide +kernel
theorem dX11_tells_18 : decode cX11_tells 18 = .ok (.invokevirtual 83, 3) := by decide +kernel
theorem dX11_tells_21 : decode cX11_tells 21 = .ok (.ireturn, 1) := by decide +kernel
theorem dX11_tells_22 : decode cX11_tells 22 = .ok (.aload_n 0, 1) := by decide +kernel
theorem dX11_tells_23 : decode cX11_tells 23 = .ok (.iload_n 1, 1) := by decide +kernel
theorem dX11_tells_24 : decode cX11_tells 24 = .ok (.iload_n 2, 1) := by decide +kernel
theorem dX11_tells_25 : decode cX11_tells 25 = .ok (.invokevirtual 184, 3) := by decide +kernel
theorem dX11_tells_28 : decode cX11_tells 28 = .ok (.ifCond .ne 9, 3) := by decide +kernel
theorem dX11_tells_31 : decode cX11_tells 31 = .ok (.aload_n 0, 1) := by decide +kernel
theorem dX11_tells_32 : decode cX11_tells 32 = .ok (.iconst 3, 1) := by decide +kernel
theorem dX11_tells_33 : decode cX11_tells 33 = .ok (.invokevirtual 83, 3) := by decide +kernel
theorem dX11_tells_36 : decode cX11_tells 36 = .ok (.ireturn, 1) := by decide +kernel
theorem dX11_tells_37 : decode cX11_tells 37 = .ok (.aload_n 0, 1) := by decide +kernel
theorem dX11_tells_38 : decode cX11_tells 38 = .ok (.getfield 10, 3) := by decide +kernel
theorem dX11_tells_41 : decode cX11_tells 41 = .ok (.getfield 114, 3) := by decide +kernel
theorem dX11_tells_44 : decode cX11_tells 44 = .ok (.iload_n 1, 1) := by decide +kernel
theorem dX11_tells_45 : decode cX11_tells 45 = .ok (.iload_n 2, 1) := by decide +kernel
theorem dX11_tells_46 : decode cX11_tells 46 = .ok (.invokevirtual 188, 3) := by decide +kernel
theorem dX11_tells_49 : decode cX11_tells 49 = .ok (.aload_n 0, 1) := by decide +kernel
theorem dX11_tells_50 : decode cX11_tells 50 = .ok (.getfield 10, 3) := by decide +kernel
theorem dX11_tells_53 : decode cX11_tells 53 = .ok (.getfield 114, 3) := by decide +kernel
theorem dX11_tells_56 : decode cX11_tells 56 = .ok (.getfield 125, 3) := by decide +kernel
theorem dX11_tells_59 : decode cX11_tells 59 = .ok (.iload_n 1, 1) := by decide +kernel
theorem dX11_tells_60 : decode cX11_tells 60 = .ok (.aaload, 1) := by decide +kernel
theorem dX11_tells_61 : decode cX11_tells 61 = .ok (.getfield 147, 3) := by decide +kernel
theorem dX11_tells_64 : decode cX11_tells 64 = .ok (.ireturn, 1) := by decide +kernel
theorem dX11_pardon_0 : decode cX11_pardon 0 = .ok (.aload_n 0, 1) := by decide +kernel
theorem dX11_pardon_1 : decode cX11_pardon 1 = .ok (.iload_n 1, 1) := by decide +kernel
theorem dX11_pardon_2 : decode cX11_pardon 2 = .ok (.invokevirtual 122, 3) := by decide +kernel
theorem dX11_pardon_5 : decode cX11_pardon 5 = .ok (.ifCond .ne 9, 3) := by decide +kernel
theorem dX11_pardon_8 : decode cX11_pardon 8 = .ok (.aload_n 0, 1) := by decide +kernel
theorem dX11_pardon_9 : decode cX11_pardon 9 = .ok (.iconst 1, 1) := by decide +kernel
theorem dX11_pardon_10 : decode cX11_pardon 10 = .ok (.invokevirtual 83, 3) := by decide +kernel
theorem dX11_pardon_13 : decode cX11_pardon 13 = .ok (.ireturn, 1) := by decide +kernel
theorem dX11_pardon_14 : decode cX11_pardon 14 = .ok (.aload_n 0, 1) := by decide +kernel
theorem dX11_pardon_15 : decode cX11_pardon 15 = .ok (.getfield 10, 3) := by decide +kernel
theorem dX11_pardon_18 : decode cX11_pardon 18 = .ok (.getfield 114, 3) := by decide +kernel
theorem dX11_pardon_21 : decode cX11_pardon 21 = .ok (.getfield 125, 3) := by decide +kernel
theorem dX11_pardon_24 : decode cX11_pardon 24 = .ok (.iload_n 1, 1) := by decide +kernel
theorem dX11_pardon_25 : decode cX11_pardon 25 = .ok (.aaload, 1) := by decide +kernel
theorem dX11_pardon_26 : decode cX11_pardon 26 = .ok (.astore_n 2, 1) := by decide +kernel
theorem dX11_pardon_27 : decode cX11_pardon 27 = .ok (.aload_n 2, 1) := by decide +kernel
theorem dX11_pardon_28 : decode cX11_pardon 28 = .ok (.getfield 176, 3) := by decide +kernel
theorem dX11_pardon_31 : decode cX11_pardon 31 = .ok (.ifCond .ne 9, 3) := by decide +kernel
theorem dX11_pardon_34 : decode cX11_pardon 34 = .ok (.aload_n 0, 1) := by decide +kernel
theorem dX11_pardon_35 : decode cX11_pardon 35 = .ok (.iconst 3, 1) := by decide +kernel
theorem dX11_pardon_36 : decode cX11_pardon 36 = .ok (.invokevirtual 83, 3) := by decide +kernel
theorem dX11_pardon_39 : decode cX11_pardon 39 = .ok (.ireturn, 1) := by decide +kernel
theorem dX11_pardon_40 : decode cX11_pardon 40 = .ok (.aload_n 2, 1) := by decide +kernel
theorem dX11_pardon_41 : decode cX11_pardon 41 = .ok (.getfield 153, 3) := by decide +kernel
theorem dX11_pardon_44 : decode cX11_pardon 44 = .ok (.istore_n 3, 1) := by decide +kernel
theorem dX11_pardon_45 : decode cX11_pardon 45 = .ok (.aload_n 2, 1) := by decide +kernel
theorem dX11_pardon_46 : decode cX11_pardon 46 = .ok (.invokevirtual 192, 3) := by decide +kernel
theorem dX11_pardon_49 : decode cX11_pardon 49 = .ok (.iload_n 3, 1) := by decide +kernel
theorem dX11_pardon_50 : decode cX11_pardon 50 = .ok (.ireturn, 1) := by decide +kernel
theorem dX11_weeks_0 : decode cX11_weeks 0 = .ok (.iload_n 1, 1) := by decide +kernel
theorem dX11_weeks_1 : decode cX11_weeks 1 = .ok (.iconst 1, 1) := by decide +kernel
theorem dX11_weeks_2 : decode cX11_weeks 2 = .ok (.bipush 60, 2) := by decide +kernel
theorem dX11_weeks_4 : decode cX11_weeks 4 = .ok (.invokestatic 79, 3) := by decide +kernel
theorem dX11_weeks_7 : decode cX11_weeks 7 = .ok (.ifCond .ne 9, 3) := by decide +kernel
theorem dX11_weeks_10 : decode cX11_weeks 10 = .ok (.aload_n 0, 1) := by decide +kernel
theorem dX11_weeks_11 : decode cX11_weeks 11 = .ok (.iconst 1, 1) := by decide +kernel
theorem dX11_weeks_12 : decode cX11_weeks 12 = .ok (.invokevirtual 83, 3) := by decide +kernel
theorem dX11_weeks_15 : decode cX11_weeks 15 = .ok (.ireturn, 1) := by decide +kernel
theorem dX11_weeks_16 : decode cX11_weeks 16 = .ok (.aload_n 0, 1) := by decide +kernel
theorem dX11_weeks_17 : decode cX11_weeks 17 = .ok (.getfield 10, 3) := by decide +kernel
theorem dX11_weeks_20 : decode cX11_weeks 20 = .ok (.getfield 114, 3) := by decide +kernel
theorem dX11_weeks_23 : decode cX11_weeks 23 = .ok (.getfield 195, 3) := by decide +kernel
theorem dX11_weeks_26 : decode cX11_weeks 26 = .ok (.iload_n 1, 1) := by decide +kernel
theorem dX11_weeks_27 : decode cX11_weeks 27 = .ok (.iadd, 1) := by decide +kernel
theorem dX11_weeks_28 : decode cX11_weeks 28 = .ok (.sipush 999, 3) := by decide +kernel
theorem dX11_weeks_31 : decode cX11_weeks 31 = .ok (.if_icmp .le 9, 3) := by decide +kernel
theorem dX11_weeks_34 : decode cX11_weeks 34 = .ok (.aload_n 0, 1) := by decide +kernel
theorem dX11_weeks_35 : decode cX11_weeks 35 = .ok (.iconst 3, 1) := by decide +kernel
theorem dX11_weeks_36 : decode cX11_weeks 36 = .ok (.invokevirtual 83, 3) := by decide +kernel
theorem dX11_weeks_39 : decode cX11_weeks 39 = .ok (.ireturn, 1) := by decide +kernel
theorem dX11_weeks_40 : decode cX11_weeks 40 = .ok (.aload_n 0, 1) := by decide +kernel
theorem dX11_weeks_41 : decode cX11_weeks 41 = .ok (.getfield 10, 3) := by decide +kernel
theorem dX11_weeks_44 : decode cX11_weeks 44 = .ok (.getfield 114, 3) := by decide +kernel
theorem dX11_weeks_47 : decode cX11_weeks 47 = .ok (.iload_n 1, 1) := by decide +kernel
theorem dX11_weeks_48 : decode cX11_weeks 48 = .ok (.invokevirtual 198, 3) := by decide +kernel
theorem dX11_weeks_51 : decode cX11_weeks 51 = .ok (.aload_n 0, 1) := by decide +kernel
theorem dX11_weeks_52 : decode cX11_weeks 52 = .ok (.getfield 10, 3) := by decide +kernel
theorem dX11_weeks_55 : decode cX11_weeks 55 = .ok (.getfield 114, 3) := by decide +kernel
theorem dX11_weeks_58 : decode cX11_weeks 58 = .ok (.invokevirtual 201, 3) := by decide +kernel
theorem dX11_weeks_61 : decode cX11_weeks 61 = .ok (.ireturn, 1) := by decide +kernel
theorem dX11_loose_0 : decode cX11_loose 0 = .ok (.iload_n 1, 1) := by decide +kernel
theorem dX11_loose_1 : decode cX11_loose 1 = .ok (.iconst 1, 1) := by decide +kernel
theorem dX11_loose_2 : decode cX11_loose 2 = .ok (.bipush 60, 2) := by decide +kernel
theorem dX11_loose_4 : decode cX11_loose 4 = .ok (.invokestatic 79, 3) := by decide +kernel
theorem dX11_loose_7 : decode cX11_loose 7 = .ok (.ifCond .ne 9, 3) := by decide +kernel
theorem dX11_loose_10 : decode cX11_loose 10 = .ok (.aload_n 0, 1) := by decide +kernel
theorem dX11_loose_11 : decode cX11_loose 11 = .ok (.iconst 1, 1) := by decide +kernel
theorem dX11_loose_12 : decode cX11_loose 12 = .ok (.invokevirtual 83, 3) := by decide +kernel
theorem dX11_loose_15 : decode cX11_loose 15 = .ok (.ireturn, 1) := by decide +kernel
theorem dX11_loose_16 : decode cX11_loose 16 = .ok (.aload_n 0, 1) := by decide +kernel
theorem dX11_loose_17 : decode cX11_loose 17 = .ok (.getfield 10, 3) := by decide +kernel
theorem dX11_loose_20 : decode cX11_loose 20 = .ok (.getfield 114, 3) := by decide +kernel
theorem dX11_loose_23 : decode cX11_loose 23 = .ok (.getfield 195, 3) := by decide +kernel
theorem dX11_loose_26 : decode cX11_loose 26 = .ok (.iload_n 1, 1) := by decide +kernel
theorem dX11_loose_27 : decode cX11_loose 27 = .ok (.iadd, 1) := by decide +kernel
theorem dX11_loose_28 : decode cX11_loose 28 = .ok (.sipush 999, 3) := by decide +kernel
theorem dX11_loose_31 : decode cX11_loose 31 = .ok (.if_icmp .le 9, 3) := by decide +kernel
theorem dX11_loose_34 : decode cX11_loose 34 = .ok (.aload_n 0, 1) := by decide +kernel
theorem dX11_loose_35 : decode cX11_loose 35 = .ok (.iconst 3, 1) := by decide +kernel
theorem dX11_loose_36 : decode cX11_loose 36 = .ok (.invokevirtual 83, 3) := by decide +kernel
theorem dX11_loose_39 : decode cX11_loose 39 = .ok (.ireturn, 1) := by decide +kernel
theorem dX11_loose_40 : decode cX11_loose 40 = .ok (.iconst 0, 1) := by decide +kernel
theorem dX11_loose_41 : decode cX11_loose 41 = .ok (.istore_n 2, 1) := by decide +kernel
theorem dX11_loose_42 : decode cX11_loose 42 = .ok (.iload_n 2, 1) := by decide +kernel
theorem dX11_loose_43 : decode cX11_loose 43 = .ok (.iload_n 1, 1) := by decide +kernel
theorem dX11_loose_44 : decode cX11_loose 44 = .ok (.if_icmp .ge 27, 3) := by decide +kernel
theorem dX11_loose_47 : decode cX11_loose 47 = .ok (.aload_n 0, 1) := by decide +kernel
theorem dX11_loose_48 : decode cX11_loose 48 = .ok (.getfield 10, 3) := by decide +kernel
theorem dX11_loose_51 : decode cX11_loose 51 = .ok (.invokevirtual 203, 3) := by decide +kernel
theorem dX11_loose_54 : decode cX11_loose 54 = .ok (.aload_n 0, 1) := by decide +kernel
theorem dX11_loose_55 : decode cX11_loose 55 = .ok (.getfield 10, 3) := by decide +kernel
theorem dX11_loose_58 : decode cX11_loose 58 = .ok (.getfield 114, 3) := by decide +kernel
theorem dX11_loose_61 : decode cX11_loose 61 = .ok (.iconst 1, 1) := by decide +kernel
theorem dX11_loose_62 : decode cX11_loose 62 = .ok (.invokevirtual 198, 3) := by decide +kernel
theorem dX11_loose_65 : decode cX11_loose 65 = .ok (.iinc 2 1, 3) := by decide +kernel
theorem dX11_loose_68 : decode cX11_loose 68 = .ok (.goto (-26), 3) := by decide +kernel
theorem dX11_loose_71 : decode cX11_loose 71 = .ok (.aload_n 0, 1) := by decide +kernel
theorem dX11_loose_72 : decode cX11_loose 72 = .ok (.getfield 10, 3) := by decide +kernel
theorem dX11_loose_75 : decode cX11_loose 75 = .ok (.getfield 114, 3) := by decide +kernel
theorem dX11_loose_78 : decode cX11_loose 78 = .ok (.invokevirtual 201, 3) := by decide +kernel
theorem dX11_loose_81 : decode cX11_loose 81 = .ok (.ireturn, 1) := by decide +kernel
theorem dX11_then_0 : decode cX11_then 0 = .ok (.iload_n 1, 1) := by decide +kernel
theorem dX11_then_1 : decode cX11_then 1 = .ok (.iconst 0, 1) := by decide +kernel
theorem dX11_then_2 : decode cX11_then 2 = .ok (.bipush 60, 2) := by decide +kernel
theorem dX11_then_4 : decode cX11_then 4 = .ok (.invokestatic 79, 3) := by decide +kernel
theorem dX11_then_7 : decode cX11_then 7 = .ok (.ifCond .eq 27, 3) := by decide +kernel
theorem dX11_then_10 : decode cX11_then 10 = .ok (.aload_n 0, 1) := by decide +kernel
theorem dX11_then_11 : decode cX11_then 11 = .ok (.iload_n 2, 1) := by decide +kernel
theorem dX11_then_12 : decode cX11_then 12 = .ok (.invokevirtual 122, 3) := by decide +kernel
theorem dX11_then_15 : decode cX11_then 15 = .ok (.ifCond .eq 19, 3) := by decide +kernel
theorem dX11_then_18 : decode cX11_then 18 = .ok (.iload_n 3, 1) := by decide +kernel
theorem dX11_then_19 : decode cX11_then 19 = .ok (.iconst 2, 1) := by decide +kernel
theorem dX11_then_20 : decode cX11_then 20 = .ok (.bipush 7, 2) := by decide +kernel
theorem dX11_then_22 : decode cX11_then 22 = .ok (.invokestatic 79, 3) := by decide +kernel
theorem dX11_then_25 : decode cX11_then 25 = .ok (.ifCond .eq 9, 3) := by decide +kernel
theorem dX11_then_28 : decode cX11_then 28 = .ok (.iload_n 3, 1) := by decide +kernel
theorem dX11_then_29 : decode cX11_then 29 = .ok (.bipush 6, 2) := by decide +kernel
theorem dX11_then_31 : decode cX11_then 31 = .ok (.if_icmp .ne 9, 3) := by decide +kernel
theorem dX11_then_34 : decode cX11_then 34 = .ok (.aload_n 0, 1) := by decide +kernel
theorem dX11_then_35 : decode cX11_then 35 = .ok (.iconst 1, 1) := by decide +kernel
theorem dX11_then_36 : decode cX11_then 36 = .ok (.invokevirtual 83, 3) := by decide +kernel
theorem dX11_then_39 : decode cX11_then 39 = .ok (.ireturn, 1) := by decide +kernel
theorem dX11_then_40 : decode cX11_then 40 = .ok (.aload_n 0, 1) := by decide +kernel
theorem dX11_then_41 : decode cX11_then 41 = .ok (.getfield 32, 3) := by decide +kernel
theorem dX11_then_44 : decode cX11_then 44 = .ok (.aload_n 0, 1) := by decide +kernel
theorem dX11_then_45 : decode cX11_then 45 = .ok (.getfield 10, 3) := by decide +kernel
theorem dX11_then_48 : decode cX11_then 48 = .ok (.getfield 114, 3) := by decide +kernel
theorem dX11_then_51 : decode cX11_then 51 = .ok (.invokevirtual 206, 3) := by decide +kernel
theorem dX11_then_54 : decode cX11_then 54 = .ok (.aload_n 0, 1) := by decide +kernel
theorem dX11_then_55 : decode cX11_then 55 = .ok (.getfield 32, 3) := by decide +kernel
theorem dX11_then_58 : decode cX11_then 58 = .ok (.iload_n 1, 1) := by decide +kernel
theorem dX11_then_59 : decode cX11_then 59 = .ok (.invokevirtual 198, 3) := by decide +kernel
theorem dX11_then_62 : decode cX11_then 62 = .ok (.aload_n 0, 1) := by decide +kernel
theorem dX11_then_63 : decode cX11_then 63 = .ok (.getfield 32, 3) := by decide +kernel
theorem dX11_then_66 : decode cX11_then 66 = .ok (.iload_n 2, 1) := by decide +kernel
theorem dX11_then_67 : decode cX11_then 67 = .ok (.iload_n 3, 1) := by decide +kernel
theorem dX11_then_68 : decode cX11_then 68 = .ok (.invokestatic 160, 3) := by decide +kernel
theorem dX11_then_71 : decode cX11_then 71 = .ok (.ireturn, 1) := by decide +kernel
theorem dX11_feed_0 : decode cX11_feed 0 = .ok (.iload_n 3, 1) := by decide +kernel
theorem dX11_feed_1 : decode cX11_feed 1 = .ok (.iconst 1, 1) := by decide +kernel
theorem dX11_feed_2 : decode cX11_feed 2 = .ok (.bipush 8, 2) := by decide +kernel
theorem dX11_feed_4 : decode cX11_feed 4 = .ok (.invokestatic 79, 3) := by decide +kernel
theorem dX11_feed_7 : decode cX11_feed 7 = .ok (.ifCond .ne 9, 3) := by decide +kernel
theorem dX11_feed_10 : decode cX11_feed 10 = .ok (.aload_n 0, 1) := by decide +kernel
theorem dX11_feed_11 : decode cX11_feed 11 = .ok (.iconst 1, 1) := by decide +kernel
theorem dX11_feed_12 : decode cX11_feed 12 = .ok (.invokevirtual 83, 3) := by decide +kernel
theorem dX11_feed_15 : decode cX11_feed 15 = .ok (.ireturn, 1) := by decide +kernel
theorem dX11_feed_16 : decode cX11_feed 16 = .ok (.aload_n 0, 1) := by decide +kernel
theorem dX11_feed_17 : decode cX11_feed 17 = .ok (.getfield 10, 3) := by decide +kernel
theorem dX11_feed_20 : decode cX11_feed 20 = .ok (.getfield 210, 3) := by decide +kernel
theorem dX11_feed_23 : decode cX11_feed 23 = .ok (.astore 4, 2) := by decide +kernel
theorem dX11_feed_25 : decode cX11_feed 25 = .ok (.aload 4, 2) := by decide +kernel
theorem dX11_feed_27 : decode cX11_feed 27 = .ok (.getfield 214, 3) := by decide +kernel
theorem dX11_feed_30 : decode cX11_feed 30 = .ok (.iload_n 3, 1) := by decide +kernel
theorem dX11_feed_31 : decode cX11_feed 31 = .ok (.iadd, 1) := by decide +kernel
theorem dX11_feed_32 : decode cX11_feed 32 = .ok (.bipush 50, 2) := by decide +kernel
theorem dX11_feed_34 : decode cX11_feed 34 = .ok (.if_icmp .le 9, 3) := by decide +kernel
theorem dX11_feed_37 : decode cX11_feed 37 = .ok (.aload_n 0, 1) := by decide +kernel
theorem dX11_feed_38 : decode cX11_feed 38 = .ok (.iconst 4, 1) := by decide +kernel
theorem dX11_feed_39 : decode cX11_feed 39 = .ok (.invokevirtual 83, 3) := by decide +kernel
theorem dX11_feed_42 : decode cX11_feed 42 = .ok (.ireturn, 1) := by decide +kernel
theorem dX11_feed_43 : decode cX11_feed 43 = .ok (.iconst 0, 1) := by decide +kernel
theorem dX11_feed_44 : decode cX11_feed 44 = .ok (.istore 5, 2) := by decide +kernel
theorem dX11_feed_46 : decode cX11_feed 46 = .ok (.iload 5, 2) := by decide +kernel
theorem dX11_feed_48 : decode cX11_feed 48 = .ok (.iload_n 3, 1) := by decide +kernel
theorem dX11_feed_49 : decode cX11_feed 49 = .ok (.if_icmp .ge 26, 3) := by decide +kernel
theorem dX11_feed_52 : decode cX11_feed 52 = .ok (.aload 4, 2) := by decide +kernel
theorem dX11_feed_54 : decode cX11_feed 54 = .ok (.lload_n 1, 1) := by decide +kernel
theorem dX11_feed_55 : decode cX11_feed 55 = .ok (.bipush 8, 2) := by decide +kernel
theorem dX11_feed_57 : decode cX11_feed 57 = .ok (.iload 5, 2) := by decide +kernel
theorem dX11_feed_59 : decode cX11_feed 59 = .ok (.imul, 1) := by decide +kernel
theorem dX11_feed_60 : decode cX11_feed 60 = .ok (.lushr, 1) := by decide +kernel
theorem dX11_feed_61 : decode cX11_feed 61 = .ok (.l2i, 1) := by decide +kernel
theorem dX11_feed_62 : decode cX11_feed 62 = .ok (.sipush 255, 3) := by decide +kernel
theorem dX11_feed_65 : decode cX11_feed 65 = .ok (.iand, 1) := by decide +kernel
theorem dX11_feed_66 : decode cX11_feed 66 = .ok (.invokevirtual 217, 3) := by decide +kernel
theorem dX11_feed_69 : decode cX11_feed 69 = .ok (.iinc 5 1, 3) := by decide +kernel
theorem dX11_feed_72 : decode cX11_feed 72 = .ok (.goto (-26), 3) := by decide +kernel
theorem dX11_feed_75 : decode cX11_feed 75 = .ok (.aload 4, 2) := by decide +kernel
theorem dX11_feed_77 : decode cX11_feed 77 = .ok (.getfield 214, 3) := by decide +kernel
theorem dX11_feed_80 : decode cX11_feed 80 = .ok (.ireturn, 1) := by decide +kernel
theorem dX11_text_0 : decode cX11_text 0 = .ok (.iload_n 1, 1) := by decide +kernel
theorem dX11_text_1 : decode cX11_text 1 = .ok (.invokestatic 219, 3) := by decide +kernel
theorem dX11_text_4 : decode cX11_text 4 = .ok (.ifCond .ne 9, 3) := by decide +kernel
theorem dX11_text_7 : decode cX11_text 7 = .ok (.aload_n 0, 1) := by decide +kernel
theorem dX11_text_8 : decode cX11_text 8 = .ok (.iconst 1, 1) := by decide +kernel
theorem dX11_text_9 : decode cX11_text 9 = .ok (.invokevirtual 83, 3) := by decide +kernel
theorem dX11_text_12 : decode cX11_text 12 = .ok (.ireturn, 1) := by decide +kernel
theorem dX11_text_13 : decode cX11_text 13 = .ok (.aload_n 0, 1) := by decide +kernel
theorem dX11_text_14 : decode cX11_text 14 = .ok (.getfield 48, 3) := by decide +kernel
theorem dX11_text_17 : decode cX11_text 17 = .ok (.aload_n 0, 1) := by decide +kernel
theorem dX11_text_18 : decode cX11_text 18 = .ok (.getfield 10, 3) := by decide +kernel
theorem dX11_text_21 : decode cX11_text 21 = .ok (.getfield 210, 3) := by decide +kernel
theorem dX11_text_24 : decode cX11_text 24 = .ok (.iload_n 1, 1) := by decide +kernel
theorem dX11_text_25 : decode cX11_text 25 = .ok (.invokevirtual 222, 3) := by decide +kernel
theorem dX11_text_28 : decode cX11_text 28 = .ok (.istore_n 2, 1) := by decide +kernel
theorem dX11_text_29 : decode cX11_text 29 = .ok (.aload_n 0, 1) := by decide +kernel
theorem dX11_text_30 : decode cX11_text 30 = .ok (.getfield 10, 3) := by decide +kernel
theorem dX11_text_33 : decode cX11_text 33 = .ok (.getfield 210, 3) := by decide +kernel
theorem dX11_text_36 : decode cX11_text 36 = .ok (.iconst 0, 1) := by decide +kernel
theorem dX11_text_37 : decode cX11_text 37 = .ok (.putfield 214, 3) := by decide +kernel
theorem dX11_text_40 : decode cX11_text 40 = .ok (.iload_n 2, 1) := by decide +kernel
theorem dX11_text_41 : decode cX11_text 41 = .ok (.ifCond .lt 8, 3) := by decide +kernel
theorem dX11_text_44 : decode cX11_text 44 = .ok (.bipush (-10), 2) := by decide +kernel
theorem dX11_text_46 : decode cX11_text 46 = .ok (.iload_n 2, 1) := by decide +kernel
theorem dX11_text_47 : decode cX11_text 47 = .ok (.isub, 1) := by decide +kernel
theorem dX11_text_48 : decode cX11_text 48 = .ok (.ireturn, 1) := by decide +kernel
theorem dX11_text_49 : decode cX11_text 49 = .ok (.aload_n 0, 1) := by decide +kernel
theorem dX11_text_50 : decode cX11_text 50 = .ok (.iload_n 1, 1) := by decide +kernel
theorem dX11_text_51 : decode cX11_text 51 = .ok (.invokevirtual 226, 3) := by decide +kernel
theorem dX11_text_54 : decode cX11_text 54 = .ok (.aload_n 0, 1) := by decide +kernel
theorem dX11_text_55 : decode cX11_text 55 = .ok (.getfield 48, 3) := by decide +kernel
theorem dX11_text_58 : decode cX11_text 58 = .ok (.getfield 230, 3) := by decide +kernel
theorem dX11_text_61 : decode cX11_text 61 = .ok (.aload_n 0, 1) := by decide +kernel
theorem dX11_text_62 : decode cX11_text 62 = .ok (.getfield 48, 3) := by decide +kernel
theorem dX11_text_65 : decode cX11_text 65 = .ok (.getfield 233, 3) := by decide +kernel
theorem dX11_text_68 : decode cX11_text 68 = .ok (.invokevirtual 234, 3) := by decide +kernel
theorem dX11_text_71 : decode cX11_text 71 = .ok (.iconst 1, 1) := by decide +kernel
theorem dX11_text_72 : decode cX11_text 72 = .ok (.ireturn, 1) := by decide +kernel
theorem dX11_law_0 : decode cX11_law 0 = .ok (.iload_n 1, 1) := by decide +kernel
theorem dX11_law_1 : decode cX11_law 1 = .ok (.invokestatic 219, 3) := by decide +kernel
theorem dX11_law_4 : decode cX11_law 4 = .ok (.ifCond .eq 18, 3) := by decide +kernel
theorem dX11_law_7 : decode cX11_law 7 = .ok (.aload_n 0, 1) := by decide +kernel
theorem dX11_law_8 : decode cX11_law 8 = .ok (.iload_n 1, 1) := by decide +kernel
theorem dX11_law_9 : decode cX11_law 9 = .ok (.invokevirtual 226, 3) := by decide +kernel
theorem dX11_law_12 : decode cX11_law 12 = .ok (.iload_n 2, 1) := by decide +kernel
theorem dX11_law_13 : decode cX11_law 13 = .ok (.iload_n 3, 1) := by decide +kernel
theorem dX11_law_14 : decode cX11_law 14 = .ok (.iload 4, 2) := by decide +kernel
theorem dX11_law_16 : decode cX11_law 16 = .ok (.invokevirtual 154, 3) := by decide +kernel
theorem dX11_law_19 : decode cX11_law 19 = .ok (.goto 8, 3) := by decide +kernel
theorem dX11_law_22 : decode cX11_law 22 = .ok (.aload_n 0, 1) := by decide +kernel
theorem dX11_law_23 : decode cX11_law 23 = .ok (.iconst 1, 1) := by decide +kernel
theorem dX11_law_24 : decode cX11_law 24 = .ok (.invokevirtual 83, 3) := by decide +kernel
theorem dX11_law_27 : decode cX11_law 27 = .ok (.ireturn, 1) := by decide +kernel
theorem dX11_served_0 : decode cX11_served 0 = .ok (.aload_n 0, 1) := by decide +kernel
theorem dX11_served_1 : decode cX11_served 1 = .ok (.iload_n 1, 1) := by decide +kernel
theorem dX11_served_2 : decode cX11_served 2 = .ok (.iload_n 2, 1) := by decide +kernel
theorem dX11_served_3 : decode cX11_served 3 = .ok (.iconst 0, 1) := by decide +kernel
theorem dX11_served_4 : decode cX11_served 4 = .ok (.invokevirtual 238, 3) := by decide +kernel
theorem dX11_served_7 : decode cX11_served 7 = .ok (.ireturn, 1) := by decide +kernel
theorem dX11_closed_0 : decode cX11_closed 0 = .ok (.aload_n 0, 1) := by decide +kernel
theorem dX11_closed_1 : decode cX11_closed 1 = .ok (.iload_n 1, 1) := by decide +kernel
theorem dX11_closed_2 : decode cX11_closed 2 = .ok (.iload_n 2, 1) := by decide +kernel
theorem dX11_closed_3 : decode cX11_closed 3 = .ok (.iconst 1, 1) := by decide +kernel
theorem dX11_closed_4 : decode cX11_closed 4 = .ok (.invokevirtual 238, 3) := by decide +kernel
theorem dX11_closed_7 : decode cX11_closed 7 = .ok (.ireturn, 1) := by decide +kernel
theorem dX11_clashOf_0 : decode cX11_clashOf 0 = .ok (.iload_n 1, 1) := by decide +kernel
theorem dX11_clashOf_1 : decode cX11_clashOf 1 = .ok (.iconst 0, 1) := by decide +kernel
theorem dX11_clashOf_2 : decode cX11_clashOf 2 = .ok (.iconst 1, 1) := by decide +kernel
theorem dX11_clashOf_3 : decode cX11_clashOf 3 = .ok (.aload_n 0, 1) := by decide +kernel
theorem dX11_clashOf_4 : decode cX11_clashOf 4 = .ok (.getfield 10, 3) := by decide +kernel
theorem dX11_clashOf_7 : decode cX11_clashOf 7 = .ok (.getfield 21, 3) := by decide +kernel
theorem dX11_clashOf_10 : decode cX11_clashOf 10 = .ok (.getfield 73, 3) := by decide +kernel
theorem dX11_clashOf_13 : decode cX11_clashOf 13 = .ok (.ishl, 1) := by decide +kernel
theorem dX11_clashOf_14 : decode cX11_clashOf 14 = .ok (.iconst 1, 1) := by decide +kernel
theorem dX11_clashOf_15 : decode cX11_clashOf 15 = .ok (.isub, 1) := by decide +kernel
theorem dX11_clashOf_16 : decode cX11_clashOf 16 = .ok (.invokestatic 79, 3) := by decide +kernel
theorem dX11_clashOf_19 : decode cX11_clashOf 19 = .ok (.ifCond .ne 9, 3) := by decide +kernel
theorem dX11_clashOf_22 : decode cX11_clashOf 22 = .ok (.aload_n 0, 1) := by decide +kernel
theorem dX11_clashOf_23 : decode cX11_clashOf 23 = .ok (.iconst 1, 1) := by decide +kernel
theorem dX11_clashOf_24 : decode cX11_clashOf 24 = .ok (.invokevirtual 83, 3) := by decide +kernel
theorem dX11_clashOf_27 : decode cX11_clashOf 27 = .ok (.ireturn, 1) := by decide +kernel
theorem dX11_clashOf_28 : decode cX11_clashOf 28 = .ok (.aload_n 0, 1) := by decide +kernel
theorem dX11_clashOf_29 : decode cX11_clashOf 29 = .ok (.getfield 10, 3) := by decide +kernel
theorem dX11_clashOf_32 : decode cX11_clashOf 32 = .ok (.getfield 21, 3) := by decide +kernel
theorem dX11_clashOf_35 : decode cX11_clashOf 35 = .ok (.iload_n 1, 1) := by decide +kernel
theorem dX11_clashOf_36 : decode cX11_clashOf 36 = .ok (.invokevirtual 242, 3) := by decide +kernel
theorem dX11_clashOf_39 : decode cX11_clashOf 39 = .ok (.istore_n 2, 1) := by decide +kernel
theorem dX11_clashOf_40 : decode cX11_clashOf 40 = .ok (.iload_n 2, 1) := by decide +kernel
theorem dX11_clashOf_41 : decode cX11_clashOf 41 = .ok (.ifCond .ge 11, 3) := by decide +kernel
theorem dX11_clashOf_44 : decode cX11_clashOf 44 = .ok (.aload_n 0, 1) := by decide +kernel
theorem dX11_clashOf_45 : decode cX11_clashOf 45 = .ok (.iconst 2, 1) := by decide +kernel
theorem dX11_clashOf_46 : decode cX11_clashOf 46 = .ok (.invokevirtual 83, 3) := by decide +kernel
theorem dX11_clashOf_49 : decode cX11_clashOf 49 = .ok (.goto 4, 3) := by decide +kernel
theorem dX11_clashOf_52 : decode cX11_clashOf 52 = .ok (.iload_n 2, 1) := by decide +kernel
theorem dX11_clashOf_53 : decode cX11_clashOf 53 = .ok (.ireturn, 1) := by decide +kernel
theorem dX11_joined_0 : decode cX11_joined 0 = .ok (.aload_n 0, 1) := by decide +kernel
theorem dX11_joined_1 : decode cX11_joined 1 = .ok (.iload_n 1, 1) := by decide +kernel
theorem dX11_joined_2 : decode cX11_joined 2 = .ok (.invokevirtual 122, 3) := by decide +kernel
theorem dX11_joined_5 : decode cX11_joined 5 = .ok (.ifCond .eq 16, 3) := by decide +kernel
theorem dX11_joined_8 : decode cX11_joined 8 = .ok (.aload_n 0, 1) := by decide +kernel
theorem dX11_joined_9 : decode cX11_joined 9 = .ok (.iload_n 2, 1) := by decide +kernel
theorem dX11_joined_10 : decode cX11_joined 10 = .ok (.invokevirtual 122, 3) := by decide +kernel
theorem dX11_joined_13 : decode cX11_joined 13 = .ok (.ifCond .eq 8, 3) := by decide +kernel
theorem dX11_joined_16 : decode cX11_joined 16 = .ok (.iload_n 1, 1) := by decide +kernel
theorem dX11_joined_17 : decode cX11_joined 17 = .ok (.iload_n 2, 1) := by decide +kernel
theorem dX11_joined_18 : decode cX11_joined 18 = .ok (.if_icmp .ne 9, 3) := by decide +kernel
theorem dX11_joined_21 : decode cX11_joined 21 = .ok (.aload_n 0, 1) := by decide +kernel
theorem dX11_joined_22 : decode cX11_joined 22 = .ok (.iconst 1, 1) := by decide +kernel
theorem dX11_joined_23 : decode cX11_joined 23 = .ok (.invokevirtual 83, 3) := by decide +kernel
theorem dX11_joined_26 : decode cX11_joined 26 = .ok (.ireturn, 1) := by decide +kernel
theorem dX11_joined_27 : decode cX11_joined 27 = .ok (.aload_n 0, 1) := by decide +kernel
theorem dX11_joined_28 : decode cX11_joined 28 = .ok (.getfield 10, 3) := by decide +kernel
theorem dX11_joined_31 : decode cX11_joined 31 = .ok (.getfield 114, 3) := by decide +kernel
theorem dX11_joined_34 : decode cX11_joined 34 = .ok (.getfield 125, 3) := by decide +kernel
theorem dX11_joined_37 : decode cX11_joined 37 = .ok (.iload_n 1, 1) := by decide +kernel
theorem dX11_joined_38 : decode cX11_joined 38 = .ok (.aaload, 1) := by decide +kernel
theorem dX11_joined_39 : decode cX11_joined 39 = .ok (.getfield 245, 3) := by decide +kernel
theorem dX11_joined_42 : decode cX11_joined 42 = .ok (.istore_n 3, 1) := by decide +kernel
theorem dX11_joined_43 : decode cX11_joined 43 = .ok (.aload_n 0, 1) := by decide +kernel
theorem dX11_joined_44 : decode cX11_joined 44 = .ok (.getfield 10, 3) := by decide +kernel
theorem dX11_joined_47 : decode cX11_joined 47 = .ok (.getfield 114, 3) := by decide +kernel
theorem dX11_joined_50 : decode cX11_joined 50 = .ok (.getfield 125, 3) := by decide +kernel
theorem dX11_joined_53 : decode cX11_joined 53 = .ok (.iload_n 2, 1) := by decide +kernel
theorem dX11_joined_54 : decode cX11_joined 54 = .ok (.aaload, 1) := by decide +kernel
theorem dX11_joined_55 : decode cX11_joined 55 = .ok (.getfield 245, 3) := by decide +kernel
theorem dX11_joined_58 : decode cX11_joined 58 = .ok (.istore 4, 2) := by decide +kernel
theorem dX11_joined_60 : decode cX11_joined 60 = .ok (.aload_n 0, 1) := by decide +kernel
theorem dX11_joined_61 : decode cX11_joined 61 = .ok (.getfield 10, 3) := by decide +kernel
theorem dX11_joined_64 : decode cX11_joined 64 = .ok (.getfield 21, 3) := by decide +kernel
theorem dX11_joined_67 : decode cX11_joined 67 = .ok (.iload_n 3, 1) := by decide +kernel
theorem dX11_joined_68 : decode cX11_joined 68 = .ok (.iload 4, 2) := by decide +kernel
theorem dX11_joined_70 : decode cX11_joined 70 = .ok (.invokevirtual 248, 3) := by decide +kernel
theorem dX11_joined_73 : decode cX11_joined 73 = .ok (.ifCond .eq 11, 3) := by decide +kernel
theorem dX11_joined_76 : decode cX11_joined 76 = .ok (.aload_n 0, 1) := by decide +kernel
theorem dX11_joined_77 : decode cX11_joined 77 = .ok (.iconst 2, 1) := by decide +kernel
theorem dX11_joined_78 : decode cX11_joined 78 = .ok (.invokevirtual 83, 3) := by decide +kernel
theorem dX11_joined_81 : decode cX11_joined 81 = .ok (.goto 7, 3) := by decide +kernel
theorem dX11_joined_84 : decode cX11_joined 84 = .ok (.iload_n 3, 1) := by decide +kernel
theorem dX11_joined_85 : decode cX11_joined 85 = .ok (.iload 4, 2) := by decide +kernel
theorem dX11_joined_87 : decode cX11_joined 87 = .ok (.ior, 1) := by decide +kernel
theorem dX11_joined_88 : decode cX11_joined 88 = .ok (.ireturn, 1) := by decide +kernel
theorem dX11_rated_0 : decode cX11_rated 0 = .ok (.aload_n 0, 1) := by decide +kernel
theorem dX11_rated_1 : decode cX11_rated 1 = .ok (.iload_n 1, 1) := by decide +kernel
theorem dX11_rated_2 : decode cX11_rated 2 = .ok (.invokevirtual 122, 3) := by decide +kernel
theorem dX11_rated_5 : decode cX11_rated 5 = .ok (.ifCond .eq 21, 3) := by decide +kernel
theorem dX11_rated_8 : decode cX11_rated 8 = .ok (.iload_n 2, 1) := by decide +kernel
theorem dX11_rated_9 : decode cX11_rated 9 = .ok (.iconst 1, 1) := by decide +kernel
theorem dX11_rated_10 : decode cX11_rated 10 = .ok (.iconst 4, 1) := by decide +kernel
theorem dX11_rated_11 : decode cX11_rated 11 = .ok (.invokestatic 79, 3) := by decide +kernel
theorem dX11_rated_14 : decode cX11_rated 14 = .ok (.ifCond .eq 12, 3) := by decide +kernel
theorem dX11_rated_17 : decode cX11_rated 17 = .ok (.iload_n 3, 1) := by decide +kernel
theorem dX11_rated_18 : decode cX11_rated 18 = .ok (.iconst 0, 1) := by decide +kernel
theorem dX11_rated_19 : decode cX11_rated 19 = .ok (.iconst 1, 1) := by decide +kernel
theorem dX11_rated_20 : decode cX11_rated 20 = .ok (.invokestatic 79, 3) := by decide +kernel
theorem dX11_rated_23 : decode cX11_rated 23 = .ok (.ifCond .ne 9, 3) := by decide +kernel
theorem dX11_rated_26 : decode cX11_rated 26 = .ok (.aload_n 0, 1) := by decide +kernel
theorem dX11_rated_27 : decode cX11_rated 27 = .ok (.iconst 1, 1) := by decide +kernel
theorem dX11_rated_28 : decode cX11_rated 28 = .ok (.invokevirtual 83, 3) := by decide +kernel
theorem dX11_rated_31 : decode cX11_rated 31 = .ok (.ireturn, 1) := by decide +kernel
theorem dX11_rated_32 : decode cX11_rated 32 = .ok (.iload_n 3, 1) := by decide +kernel
theorem dX11_rated_33 : decode cX11_rated 33 = .ok (.ifCond .ne 12, 3) := by decide +kernel
theorem dX11_rated_36 : decode cX11_rated 36 = .ok (.aload_n 0, 1) := by decide +kernel
theorem dX11_rated_37 : decode cX11_rated 37 = .ok (.iload_n 1, 1) := by decide +kernel
theorem dX11_rated_38 : decode cX11_rated 38 = .ok (.iload_n 2, 1) := by decide +kernel
theorem dX11_rated_39 : decode cX11_rated 39 = .ok (.invokevirtual 251, 3) := by decide +kernel
theorem dX11_rated_42 : decode cX11_rated 42 = .ok (.goto 8, 3) := by decide +kernel
theorem dX11_rated_45 : decode cX11_rated 45 = .ok (.aload_n 0, 1) := by decide +kernel
theorem dX11_rated_46 : decode cX11_rated 46 = .ok (.iload_n 1, 1) := by decide +kernel
theorem dX11_rated_47 : decode cX11_rated 47 = .ok (.invokevirtual 254, 3) := by decide +kernel
theorem dX11_rated_50 : decode cX11_rated 50 = .ok (.istore 4, 2) := by decide +kernel
theorem dX11_rated_52 : decode cX11_rated 52 = .ok (.iload 4, 2) := by decide +kernel
theorem dX11_rated_54 : decode cX11_rated 54 = .ok (.ifCond .ge 11, 3) := by decide +kernel
theorem dX11_rated_57 : decode cX11_rated 57 = .ok (.aload_n 0, 1) := by decide +kernel
theorem dX11_rated_58 : decode cX11_rated 58 = .ok (.iconst 2, 1) := by decide +kernel
theorem dX11_rated_59 : decode cX11_rated 59 = .ok (.invokevirtual 83, 3) := by decide +kernel
theorem dX11_rated_62 : decode cX11_rated 62 = .ok (.goto 5, 3) := by decide +kernel
theorem dX11_rated_65 : decode cX11_rated 65 = .ok (.iload 4, 2) := by decide +kernel
theorem dX11_rated_67 : decode cX11_rated 67 = .ok (.ireturn, 1) := by decide +kernel
theorem dX11_explained_0 : decode cX11_explained 0 = .ok (.aload_n 0, 1) := by decide +kernel
theorem dX11_explained_1 : decode cX11_explained 1 = .ok (.iload_n 1, 1) := by decide +kernel
theorem dX11_explained_2 : decode cX11_explained 2 = .ok (.invokevirtual 122, 3) := by decide +kernel
theorem dX11_explained_5 : decode cX11_explained 5 = .ok (.ifCond .eq 10, 3) := by decide +kernel
theorem dX11_explained_8 : decode cX11_explained 8 = .ok (.iload_n 2, 1) := by decide +kernel
theorem dX11_explained_9 : decode cX11_explained 9 = .ok (.invokestatic 257, 3) := by decide +kernel
theorem dX11_explained_12 : decode cX11_explained 12 = .ok (.ifCond .ne 9, 3) := by decide +kernel
theorem dX11_explained_15 : decode cX11_explained 15 = .ok (.aload_n 0, 1) := by decide +kernel
theorem dX11_explained_16 : decode cX11_explained 16 = .ok (.iconst 1, 1) := by decide +kernel
theorem dX11_explained_17 : decode cX11_explained 17 = .ok (.invokevirtual 83, 3) := by decide +kernel
theorem dX11_explained_20 : decode cX11_explained 20 = .ok (.ireturn, 1) := by decide +kernel
theorem dX11_explained_21 : decode cX11_explained 21 = .ok (.aload_n 0, 1) := by decide +kernel
theorem dX11_explained_22 : decode cX11_explained 22 = .ok (.getfield 61, 3) := by decide +kernel
theorem dX11_explained_25 : decode cX11_explained 25 = .ok (.iload_n 2, 1) := by decide +kernel
theorem dX11_explained_26 : decode cX11_explained 26 = .ok (.aaload, 1) := by decide +kernel
theorem dX11_explained_27 : decode cX11_explained 27 = .ok (.invokevirtual 260, 3) := by decide +kernel
theorem dX11_explained_30 : decode cX11_explained 30 = .ok (.ifCond .eq 9, 3) := by decide +kernel
theorem dX11_explained_33 : decode cX11_explained 33 = .ok (.aload_n 0, 1) := by decide +kernel
theorem dX11_explained_34 : decode cX11_explained 34 = .ok (.iconst 2, 1) := by decide +kernel
theorem dX11_explained_35 : decode cX11_explained 35 = .ok (.invokevirtual 83, 3) := by decide +kernel
theorem dX11_explained_38 : decode cX11_explained 38 = .ok (.ireturn, 1) := by decide +kernel
theorem dX11_explained_39 : decode cX11_explained 39 = .ok (.iconst 0, 1) := by decide +kernel
theorem dX11_explained_40 : decode cX11_explained 40 = .ok (.istore_n 3, 1) := by decide +kernel
theorem dX11_explained_41 : decode cX11_explained 41 = .ok (.iload_n 3, 1) := by decide +kernel
theorem dX11_explained_42 : decode cX11_explained 42 = .ok (.bipush 7, 2) := by decide +kernel
theorem dX11_explained_44 : decode cX11_explained 44 = .ok (.if_icmp .ge 26, 3) := by decide +kernel
theorem dX11_explained_47 : decode cX11_explained 47 = .ok (.aload_n 0, 1) := by decide +kernel
theorem dX11_explained_48 : decode cX11_explained 48 = .ok (.iload_n 1, 1) := by decide +kernel
theorem dX11_explained_49 : decode cX11_explained 49 = .ok (.iload_n 3, 1) := by decide +kernel
theorem dX11_explained_50 : decode cX11_explained 50 = .ok (.aload_n 0, 1) := by decide +kernel
theorem dX11_explained_51 : decode cX11_explained 51 = .ok (.getfield 61, 3) := by decide +kernel
theorem dX11_explained_54 : decode cX11_explained 54 = .ok (.iload_n 2, 1) := by decide +kernel
theorem dX11_explained_55 : decode cX11_explained 55 = .ok (.aaload, 1) := by decide +kernel
theorem dX11_explained_56 : decode cX11_explained 56 = .ok (.invokevirtual 264, 3) := by decide +kernel
theorem dX11_explained_59 : decode cX11_explained 59 = .ok (.ifCond .eq 5, 3) := by decide +kernel
theorem dX11_explained_62 : decode cX11_explained 62 = .ok (.iload_n 3, 1) := by decide +kernel
theorem dX11_explained_63 : decode cX11_explained 63 = .ok (.ireturn, 1) := by decide +kernel
theorem dX11_explained_64 : decode cX11_explained 64 = .ok (.iinc 3 1, 3) := by decide +kernel
theorem dX11_explained_67 : decode cX11_explained 67 = .ok (.goto (-26), 3) := by decide +kernel
theorem dX11_explained_70 : decode cX11_explained 70 = .ok (.aload_n 0, 1) := by decide +kernel
theorem dX11_explained_71 : decode cX11_explained 71 = .ok (.iconst 2, 1) := by decide +kernel
theorem dX11_explained_72 : decode cX11_explained 72 = .ok (.invokevirtual 83, 3) := by decide +kernel
theorem dX11_explained_75 : decode cX11_explained 75 = .ok (.ireturn, 1) := by decide +kernel
theorem dX11_meeting_0 : decode cX11_meeting 0 = .ok (.iload_n 1, 1) := by decide +kernel
theorem dX11_meeting_1 : decode cX11_meeting 1 = .ok (.iconst 0, 1) := by decide +kernel
theorem dX11_meeting_2 : decode cX11_meeting 2 = .ok (.sipush 999, 3) := by decide +kernel
theorem dX11_meeting_5 : decode cX11_meeting 5 = .ok (.invokestatic 79, 3) := by decide +kernel
theorem dX11_meeting_8 : decode cX11_meeting 8 = .ok (.ifCond .eq 22, 3) := by decide +kernel
theorem dX11_meeting_11 : decode cX11_meeting 11 = .ok (.iload_n 2, 1) := by decide +kernel
theorem dX11_meeting_12 : decode cX11_meeting 12 = .ok (.invokestatic 268, 3) := by decide +kernel
theorem dX11_meeting_15 : decode cX11_meeting 15 = .ok (.ifCond .eq 15, 3) := by decide +kernel
theorem dX11_meeting_18 : decode cX11_meeting 18 = .ok (.iload_n 3, 1) := by decide +kernel
theorem dX11_meeting_19 : decode cX11_meeting 19 = .ok (.invokestatic 268, 3) := by decide +kernel
theorem dX11_meeting_22 : decode cX11_meeting 22 = .ok (.ifCond .eq 8, 3) := by decide +kernel
theorem dX11_meeting_25 : decode cX11_meeting 25 = .ok (.iload_n 2, 1) := by decide +kernel
theorem dX11_meeting_26 : decode cX11_meeting 26 = .ok (.iload_n 3, 1) := by decide +kernel
theorem dX11_meeting_27 : decode cX11_meeting 27 = .ok (.if_icmp .ne 9, 3) := by decide +kernel
theorem dX11_meeting_30 : decode cX11_meeting 30 = .ok (.aload_n 0, 1) := by decide +kernel
theorem dX11_meeting_31 : decode cX11_meeting 31 = .ok (.iconst 1, 1) := by decide +kernel
theorem dX11_meeting_32 : decode cX11_meeting 32 = .ok (.invokevirtual 83, 3) := by decide +kernel
theorem dX11_meeting_35 : decode cX11_meeting 35 = .ok (.ireturn, 1) := by decide +kernel
theorem dX11_meeting_36 : decode cX11_meeting 36 = .ok (.aload_n 0, 1) := by decide +kernel
theorem dX11_meeting_37 : decode cX11_meeting 37 = .ok (.getfield 10, 3) := by decide +kernel
theorem dX11_meeting_40 : decode cX11_meeting 40 = .ok (.getfield 271, 3) := by decide +kernel
theorem dX11_meeting_43 : decode cX11_meeting 43 = .ok (.getfield 275, 3) := by decide +kernel
theorem dX11_meeting_46 : decode cX11_meeting 46 = .ok (.bipush 12, 2) := by decide +kernel
theorem dX11_meeting_48 : decode cX11_meeting 48 = .ok (.if_icmp .lt 9, 3) := by decide +kernel
theorem dX11_meeting_51 : decode cX11_meeting 51 = .ok (.aload_n 0, 1) := by decide +kernel
theorem dX11_meeting_52 : decode cX11_meeting 52 = .ok (.iconst 4, 1) := by decide +kernel
theorem dX11_meeting_53 : decode cX11_meeting 53 = .ok (.invokevirtual 83, 3) := by decide +kernel
theorem dX11_meeting_56 : decode cX11_meeting 56 = .ok (.ireturn, 1) := by decide +kernel
theorem dX11_meeting_57 : decode cX11_meeting 57 = .ok (.aload_n 0, 1) := by decide +kernel
theorem dX11_meeting_58 : decode cX11_meeting 58 = .ok (.getfield 10, 3) := by decide +kernel
theorem dX11_meeting_61 : decode cX11_meeting 61 = .ok (.getfield 271, 3) := by decide +kernel
theorem dX11_meeting_64 : decode cX11_meeting 64 = .ok (.iload_n 1, 1) := by decide +kernel
theorem dX11_meeting_65 : decode cX11_meeting 65 = .ok (.iload_n 2, 1) := by decide +kernel
theorem dX11_meeting_66 : decode cX11_meeting 66 = .ok (.iload_n 3, 1) := by decide +kernel
theorem dX11_meeting_67 : decode cX11_meeting 67 = .ok (.invokevirtual 278, 3) := by decide +kernel
theorem dX11_meeting_70 : decode cX11_meeting 70 = .ok (.ireturn, 1) := by decide +kernel
theorem dX11_knows_0 : decode cX11_knows 0 = .ok (.iload_n 1, 1) := by decide +kernel
theorem dX11_knows_1 : decode cX11_knows 1 = .ok (.invokestatic 268, 3) := by decide +kernel
theorem dX11_knows_4 : decode cX11_knows 4 = .ok (.ifCond .eq 14, 3) := by decide +kernel
theorem dX11_knows_7 : decode cX11_knows 7 = .ok (.iload_n 2, 1) := by decide +kernel
theorem dX11_knows_8 : decode cX11_knows 8 = .ok (.iconst 0, 1) := by decide +kernel
theorem dX11_knows_9 : decode cX11_knows 9 = .ok (.sipush 999, 3) := by decide +kernel
theorem dX11_knows_12 : decode cX11_knows 12 = .ok (.invokestatic 79, 3) := by decide +kernel
theorem dX11_knows_15 : decode cX11_knows 15 = .ok (.ifCond .ne 9, 3) := by decide +kernel
theorem dX11_knows_18 : decode cX11_knows 18 = .ok (.aload_n 0, 1) := by decide +kernel
theorem dX11_knows_19 : decode cX11_knows 19 = .ok (.iconst 1, 1) := by decide +kernel
theorem dX11_knows_20 : decode cX11_knows 20 = .ok (.invokevirtual 83, 3) := by decide +kernel
theorem dX11_knows_23 : decode cX11_knows 23 = .ok (.ireturn, 1) := by decide +kernel
theorem dX11_knows_24 : decode cX11_knows 24 = .ok (.aload_n 0, 1) := by decide +kernel
theorem dX11_knows_25 : decode cX11_knows 25 = .ok (.getfield 10, 3) := by decide +kernel
theorem dX11_knows_28 : decode cX11_knows 28 = .ok (.iload_n 2, 1) := by decide +kernel
theorem dX11_knows_29 : decode cX11_knows 29 = .ok (.aload_n 0, 1) := by decide +kernel
theorem dX11_knows_30 : decode cX11_knows 30 = .ok (.getfield 65, 3) := by decide +kernel
theorem dX11_knows_33 : decode cX11_knows 33 = .ok (.invokevirtual 280, 3) := by decide +kernel
theorem dX11_knows_36 : decode cX11_knows 36 = .ok (.aload_n 0, 1) := by decide +kernel
theorem dX11_knows_37 : decode cX11_knows 37 = .ok (.getfield 65, 3) := by decide +kernel
theorem dX11_knows_40 : decode cX11_knows 40 = .ok (.iload_n 1, 1) := by decide +kernel
theorem dX11_knows_41 : decode cX11_knows 41 = .ok (.iaload, 1) := by decide +kernel
theorem dX11_knows_42 : decode cX11_knows 42 = .ok (.ireturn, 1) := by decide +kernel
theorem dX11_common_0 : decode cX11_common 0 = .ok (.iload_n 1, 1) := by decide +kernel
theorem dX11_common_1 : decode cX11_common 1 = .ok (.iconst 1, 1) := by decide +kernel
theorem dX11_common_2 : decode cX11_common 2 = .ok (.bipush 31, 2) := by decide +kernel
theorem dX11_common_4 : decode cX11_common 4 = .ok (.invokestatic 79, 3) := by decide +kernel
theorem dX11_common_7 : decode cX11_common 7 = .ok (.ifCond .eq 14, 3) := by decide +kernel
theorem dX11_common_10 : decode cX11_common 10 = .ok (.iload_n 2, 1) := by decide +kernel
theorem dX11_common_11 : decode cX11_common 11 = .ok (.iconst 0, 1) := by decide +kernel
theorem dX11_common_12 : decode cX11_common 12 = .ok (.sipush 999, 3) := by decide +kernel
theorem dX11_common_15 : decode cX11_common 15 = .ok (.invokestatic 79, 3) := by decide +kernel
theorem dX11_common_18 : decode cX11_common 18 = .ok (.ifCond .ne 9, 3) := by decide +kernel
theorem dX11_common_21 : decode cX11_common 21 = .ok (.aload_n 0, 1) := by decide +kernel
theorem dX11_common_22 : decode cX11_common 22 = .ok (.iconst 1, 1) := by decide +kernel
theorem dX11_common_23 : decode cX11_common 23 = .ok (.invokevirtual 83, 3) := by decide +kernel
theorem dX11_common_26 : decode cX11_common 26 = .ok (.ireturn, 1) := by decide +kernel
theorem dX11_common_27 : decode cX11_common 27 = .ok (.aload_n 0, 1) := by decide +kernel
theorem dX11_common_28 : decode cX11_common 28 = .ok (.getfield 10, 3) := by decide +kernel
theorem dX11_common_31 : decode cX11_common 31 = .ok (.iload_n 2, 1) := by decide +kernel
theorem dX11_common_32 : decode cX11_common 32 = .ok (.aload_n 0, 1) := by decide +kernel
theorem dX11_common_33 : decode cX11_common 33 = .ok (.getfield 65, 3) := by decide +kernel
theorem dX11_common_36 : decode cX11_common 36 = .ok (.invokevirtual 280, 3) := by decide +kernel
theorem dX11_common_39 : decode cX11_common 39 = .ok (.sipush 255, 3) := by decide +kernel
theorem dX11_common_42 : decode cX11_common 42 = .ok (.istore_n 3, 1) := by decide +kernel
theorem dX11_common_43 : decode cX11_common 43 = .ok (.iconst 0, 1) := by decide +kernel
theorem dX11_common_44 : decode cX11_common 44 = .ok (.istore 4, 2) := by decide +kernel
theorem dX11_common_46 : decode cX11_common 46 = .ok (.iload 4, 2) := by decide +kernel
theorem dX11_common_48 : decode cX11_common 48 = .ok (.iconst 5, 1) := by decide +kernel
theorem dX11_common_49 : decode cX11_common 49 = .ok (.if_icmp .ge 29, 3) := by decide +kernel
theorem dX11_common_52 : decode cX11_common 52 = .ok (.iload_n 1, 1) := by decide +kernel
theorem dX11_common_53 : decode cX11_common 53 = .ok (.iload 4, 2) := by decide +kernel
theorem dX11_common_55 : decode cX11_common 55 = .ok (.ishr, 1) := by decide +kernel
theorem dX11_common_56 : decode cX11_common 56 = .ok (.iconst 1, 1) := by decide +kernel
theorem dX11_common_57 : decode cX11_common 57 = .ok (.iand, 1) := by decide +kernel
theorem dX11_common_58 : decode cX11_common 58 = .ok (.iconst 1, 1) := by decide +kernel
theorem dX11_common_59 : decode cX11_common 59 = .ok (.if_icmp .ne 13, 3) := by decide +kernel
theorem dX11_common_62 : decode cX11_common 62 = .ok (.iload_n 3, 1) := by decide +kernel
theorem dX11_common_63 : decode cX11_common 63 = .ok (.aload_n 0, 1) := by decide +kernel
theorem dX11_common_64 : decode cX11_common 64 = .ok (.getfield 65, 3) := by decide +kernel
theorem dX11_common_67 : decode cX11_common 67 = .ok (.iload 4, 2) := by decide +kernel
theorem dX11_common_69 : decode cX11_common 69 = .ok (.iaload, 1) := by decide +kernel
theorem dX11_common_70 : decode cX11_common 70 = .ok (.iand, 1) := by decide +kernel
theorem dX11_common_71 : decode cX11_common 71 = .ok (.istore_n 3, 1) := by decide +kernel
theorem dX11_common_72 : decode cX11_common 72 = .ok (.iinc 4 1, 3) := by decide +kernel
theorem dX11_common_75 : decode cX11_common 75 = .ok (.goto (-29), 3) := by decide +kernel
theorem dX11_common_78 : decode cX11_common 78 = .ok (.iload_n 3, 1) := by decide +kernel
theorem dX11_common_79 : decode cX11_common 79 = .ok (.ireturn, 1) := by decide +kernel
theorem dX11_since_0 : decode cX11_since 0 = .ok (.iload_n 1, 1) := by decide +kernel
theorem dX11_since_1 : decode cX11_since 1 = .ok (.invokestatic 268, 3) := by decide +kernel
theorem dX11_since_4 : decode cX11_since 4 = .ok (.ifCond .eq 11, 3) := by decide +kernel
theorem dX11_since_7 : decode cX11_since 7 = .ok (.aload_n 0, 1) := by decide +kernel
theorem dX11_since_8 : decode cX11_since 8 = .ok (.iload_n 2, 1) := by decide +kernel
theorem dX11_since_9 : decode cX11_since 9 = .ok (.invokevirtual 91, 3) := by decide +kernel
theorem dX11_since_12 : decode cX11_since 12 = .ok (.ifCond .ne 9, 3) := by decide +kernel
theorem dX11_since_15 : decode cX11_since 15 = .ok (.aload_n 0, 1) := by decide +kernel
theorem dX11_since_16 : decode cX11_since 16 = .ok (.iconst 1, 1) := by decide +kernel
theorem dX11_since_17 : decode cX11_since 17 = .ok (.invokevirtual 83, 3) := by decide +kernel
theorem dX11_since_20 : decode cX11_since 20 = .ok (.ireturn, 1) := by decide +kernel
theorem dX11_since_21 : decode cX11_since 21 = .ok (.aload_n 0, 1) := by decide +kernel
theorem dX11_since_22 : decode cX11_since 22 = .ok (.getfield 10, 3) := by decide +kernel
theorem dX11_since_25 : decode cX11_since 25 = .ok (.iload_n 2, 1) := by decide +kernel
theorem dX11_since_26 : decode cX11_since 26 = .ok (.aload_n 0, 1) := by decide +kernel
theorem dX11_since_27 : decode cX11_since 27 = .ok (.getfield 65, 3) := by decide +kernel
theorem dX11_since_30 : decode cX11_since 30 = .ok (.invokevirtual 284, 3) := by decide +kernel
theorem dX11_since_33 : decode cX11_since 33 = .ok (.aload_n 0, 1) := by decide +kernel
theorem dX11_since_34 : decode cX11_since 34 = .ok (.getfield 65, 3) := by decide +kernel
theorem dX11_since_37 : decode cX11_since 37 = .ok (.iload_n 1, 1) := by decide +kernel
theorem dX11_since_38 : decode cX11_since 38 = .ok (.iaload, 1) := by decide +kernel
theorem dX11_since_39 : decode cX11_since 39 = .ok (.sipush 999, 3) := by decide +kernel
theorem dX11_since_42 : decode cX11_since 42 = .ok (.if_icmp .le 11, 3) := by decide +kernel
theorem dX11_since_45 : decode cX11_since 45 = .ok (.aload_n 0, 1) := by decide +kernel
theorem dX11_since_46 : decode cX11_since 46 = .ok (.iconst 2, 1) := by decide +kernel
theorem dX11_since_47 : decode cX11_since 47 = .ok (.invokevirtual 83, 3) := by decide +kernel
theorem dX11_since_50 : decode cX11_since 50 = .ok (.goto 9, 3) := by decide +kernel
theorem dX11_since_53 : decode cX11_since 53 = .ok (.aload_n 0, 1) := by decide +kernel
theorem dX11_since_54 : decode cX11_since 54 = .ok (.getfield 65, 3) := by decide +kernel
theorem dX11_since_57 : decode cX11_since 57 = .ok (.iload_n 1, 1) := by decide +kernel
theorem dX11_since_58 : decode cX11_since 58 = .ok (.iaload, 1) := by decide +kernel
theorem dX11_since_59 : decode cX11_since 59 = .ok (.ireturn, 1) := by decide +kernel
theorem dX11_seed_0 : decode cX11_seed 0 = .ok (.aload_n 0, 1) := by decide +kernel
theorem dX11_seed_1 : decode cX11_seed 1 = .ok (.getfield 10, 3) := by decide +kernel
theorem dX11_seed_4 : decode cX11_seed 4 = .ok (.getfield 287, 3) := by decide +kernel
theorem dX11_seed_7 : decode cX11_seed 7 = .ok (.istore_n 2, 1) := by decide +kernel
theorem dX11_seed_8 : decode cX11_seed 8 = .ok (.aload_n 0, 1) := by decide +kernel
theorem dX11_seed_9 : decode cX11_seed 9 = .ok (.getfield 10, 3) := by decide +kernel
theorem dX11_seed_12 : decode cX11_seed 12 = .ok (.iload_n 1, 1) := by decide +kernel
theorem dX11_seed_13 : decode cX11_seed 13 = .ok (.putfield 287, 3) := by decide +kernel
theorem dX11_seed_16 : decode cX11_seed 16 = .ok (.iload_n 2, 1) := by decide +kernel
theorem dX11_seed_17 : decode cX11_seed 17 = .ok (.ireturn, 1) := by decide +kernel
theorem dX11_voice_0 : decode cX11_voice 0 = .ok (.aload_n 0, 1) := by decide +kernel
theorem dX11_voice_1 : decode cX11_voice 1 = .ok (.iload_n 1, 1) := by decide +kernel
theorem dX11_voice_2 : decode cX11_voice 2 = .ok (.invokevirtual 122, 3) := by decide +kernel
theorem dX11_voice_5 : decode cX11_voice 5 = .ok (.ifCond .eq 12, 3) := by decide +kernel
theorem dX11_voice_8 : decode cX11_voice 8 = .ok (.iload_n 2, 1) := by decide +kernel
theorem dX11_voice_9 : decode cX11_voice 9 = .ok (.iconst 0, 1) := by decide +kernel
theorem dX11_voice_10 : decode cX11_voice 10 = .ok (.iconst 3, 1) := by decide +kernel
theorem dX11_voice_11 : decode cX11_voice 11 = .ok (.invokestatic 79, 3) := by decide +kernel
theorem dX11_voice_14 : decode cX11_voice 14 = .ok (.ifCond .ne 9, 3) := by decide +kernel
theorem dX11_voice_17 : decode cX11_voice 17 = .ok (.aload_n 0, 1) := by decide +kernel
theorem dX11_voice_18 : decode cX11_voice 18 = .ok (.iconst 1, 1) := by decide +kernel
theorem dX11_voice_19 : decode cX11_voice 19 = .ok (.invokevirtual 83, 3) := by decide +kernel
theorem dX11_voice_22 : decode cX11_voice 22 = .ok (.ireturn, 1) := by decide +kernel
theorem dX11_voice_23 : decode cX11_voice 23 = .ok (.aload_n 0, 1) := by decide +kernel
theorem dX11_voice_24 : decode cX11_voice 24 = .ok (.getfield 10, 3) := by decide +kernel
theorem dX11_voice_27 : decode cX11_voice 27 = .ok (.getfield 114, 3) := by decide +kernel
theorem dX11_voice_30 : decode cX11_voice 30 = .ok (.getfield 125, 3) := by decide +kernel
theorem dX11_voice_33 : decode cX11_voice 33 = .ok (.iload_n 1, 1) := by decide +kernel
theorem dX11_voice_34 : decode cX11_voice 34 = .ok (.aaload, 1) := by decide +kernel
theorem dX11_voice_35 : decode cX11_voice 35 = .ok (.astore 4, 2) := by decide +kernel
theorem dX11_voice_37 : decode cX11_voice 37 = .ok (.aload_n 0, 1) := by decide +kernel
theorem dX11_voice_38 : decode cX11_voice 38 = .ok (.getfield 55, 3) := by decide +kernel
theorem dX11_voice_41 : decode cX11_voice 41 = .ok (.aload 4, 2) := by decide +kernel
theorem dX11_voice_43 : decode cX11_voice 43 = .ok (.getfield 129, 3) := by decide +kernel
theorem dX11_voice_46 : decode cX11_voice 46 = .ok (.iload_n 1, 1) := by decide +kernel
theorem dX11_voice_47 : decode cX11_voice 47 = .ok (.aload 4, 2) := by decide +kernel
theorem dX11_voice_49 : decode cX11_voice 49 = .ok (.getfield 134, 3) := by decide +kernel
theorem dX11_voice_52 : decode cX11_voice 52 = .ok (.iload_n 2, 1) := by decide +kernel
theorem dX11_voice_53 : decode cX11_voice 53 = .ok (.iload_n 3, 1) := by decide +kernel
theorem dX11_voice_54 : decode cX11_voice 54 = .ok (.invokevirtual 290, 3) := by decide +kernel
theorem dX11_voice_57 : decode cX11_voice 57 = .ok (.ireturn, 1) := by decide +kernel
theorem dX11_trace_0 : decode cX11_trace 0 = .ok (.iload_n 1, 1) := by decide +kernel
theorem dX11_trace_1 : decode cX11_trace 1 = .ok (.iconst 0, 1) := by decide +kernel
theorem dX11_trace_2 : decode cX11_trace 2 = .ok (.aload_n 0, 1) := by decide +kernel
theorem dX11_trace_3 : decode cX11_trace 3 = .ok (.getfield 55, 3) := by decide +kernel
theorem dX11_trace_6 : decode cX11_trace 6 = .ok (.getfield 294, 3) := by decide +kernel
theorem dX11_trace_9 : decode cX11_trace 9 = .ok (.iconst 1, 1) := by decide +kernel
theorem dX11_trace_10 : decode cX11_trace 10 = .ok (.isub, 1) := by decide +kernel
theorem dX11_trace_11 : decode cX11_trace 11 = .ok (.invokestatic 79, 3) := by decide +kernel
theorem dX11_trace_14 : decode cX11_trace 14 = .ok (.ifCond .eq 15, 3) := by decide +kernel
theorem dX11_trace_17 : decode cX11_trace 17 = .ok (.aload_n 0, 1) := by decide +kernel
theorem dX11_trace_18 : decode cX11_trace 18 = .ok (.getfield 55, 3) := by decide +kernel
theorem dX11_trace_21 : decode cX11_trace 21 = .ok (.getfield 295, 3) := by decide +kernel
theorem dX11_trace_24 : decode cX11_trace 24 = .ok (.iload_n 1, 1) := by decide +kernel
theorem dX11_trace_25 : decode cX11_trace 25 = .ok (.iaload, 1) := by decide +kernel
theorem dX11_trace_26 : decode cX11_trace 26 = .ok (.goto 8, 3) := by decide +kernel
theorem dX11_trace_29 : decode cX11_trace 29 = .ok (.aload_n 0, 1) := by decide +kernel
theorem dX11_trace_30 : decode cX11_trace 30 = .ok (.iconst 2, 1) := by decide +kernel
theorem dX11_trace_31 : decode cX11_trace 31 = .ok (.invokevirtual 83, 3) := by decide +kernel
theorem dX11_trace_34 : decode cX11_trace 34 = .ok (.ireturn, 1) := by decide +kernel
theorem dX11_sheet_0 : decode cX11_sheet 0 = .ok (.iload_n 1, 1) := by decide +kernel
theorem dX11_sheet_1 : decode cX11_sheet 1 = .ok (.invokestatic 257, 3) := by decide +kernel
theorem dX11_sheet_4 : decode cX11_sheet 4 = .ok (.ifCond .eq 25, 3) := by decide +kernel
theorem dX11_sheet_7 : decode cX11_sheet 7 = .ok (.iload_n 2, 1) := by decide +kernel
theorem dX11_sheet_8 : decode cX11_sheet 8 = .ok (.ifCond .eq 27, 3) := by decide +kernel
theorem dX11_sheet_11 : decode cX11_sheet 11 = .ok (.iload_n 2, 1) := by decide +kernel
theorem dX11_sheet_12 : decode cX11_sheet 12 = .ok (.bipush 8, 2) := by decide +kernel
theorem dX11_sheet_14 : decode cX11_sheet 14 = .ok (.if_icmp .eq 21, 3) := by decide +kernel
theorem dX11_sheet_17 : decode cX11_sheet 17 = .ok (.iload_n 2, 1) := by decide +kernel
theorem dX11_sheet_18 : decode cX11_sheet 18 = .ok (.bipush 16, 2) := by decide +kernel
theorem dX11_sheet_20 : decode cX11_sheet 20 = .ok (.if_icmp .eq 15, 3) := by decide +kernel
theorem dX11_sheet_23 : decode cX11_sheet 23 = .ok (.iload_n 2, 1) := by decide +kernel
theorem dX11_sheet_24 : decode cX11_sheet 24 = .ok (.bipush 32, 2) := by decide +kernel
theorem dX11_sheet_26 : decode cX11_sheet 26 = .ok (.if_icmp .eq 9, 3) := by decide +kernel
theorem dX11_sheet_29 : decode cX11_sheet 29 = .ok (.aload_n 0, 1) := by decide +kernel
theorem dX11_sheet_30 : decode cX11_sheet 30 = .ok (.iconst 1, 1) := by decide +kernel
theorem dX11_sheet_31 : decode cX11_sheet 31 = .ok (.invokevirtual 83, 3) := by decide +kernel
theorem dX11_sheet_34 : decode cX11_sheet 34 = .ok (.ireturn, 1) := by decide +kernel
theorem dX11_sheet_35 : decode cX11_sheet 35 = .ok (.iload_n 2, 1) := by decide +kernel
theorem dX11_sheet_36 : decode cX11_sheet 36 = .ok (.ifCond .eq 13, 3) := by decide +kernel
theorem dX11_sheet_39 : decode cX11_sheet 39 = .ok (.iload_n 3, 1) := by decide +kernel
theorem dX11_sheet_40 : decode cX11_sheet 40 = .ok (.ifCond .ge 9, 3) := by decide +kernel
theorem dX11_sheet_43 : decode cX11_sheet 43 = .ok (.aload_n 0, 1) := by decide +kernel
theorem dX11_sheet_44 : decode cX11_sheet 44 = .ok (.iconst 3, 1) := by decide +kernel
theorem dX11_sheet_45 : decode cX11_sheet 45 = .ok (.invokevirtual 83, 3) := by decide +kernel
theorem dX11_sheet_48 : decode cX11_sheet 48 = .ok (.ireturn, 1) := by decide +kernel
theorem dX11_sheet_49 : decode cX11_sheet 49 = .ok (.iload_n 2, 1) := by decide +kernel
theorem dX11_sheet_50 : decode cX11_sheet 50 = .ok (.ifCond .eq 15, 3) := by decide +kernel
theorem dX11_sheet_53 : decode cX11_sheet 53 = .ok (.iload_n 3, 1) := by decide +kernel
theorem dX11_sheet_54 : decode cX11_sheet 54 = .ok (.bipush 40, 2) := by decide +kernel
theorem dX11_sheet_56 : decode cX11_sheet 56 = .ok (.if_icmp .le 9, 3) := by decide +kernel
theorem dX11_sheet_59 : decode cX11_sheet 59 = .ok (.aload_n 0, 1) := by decide +kernel
theorem dX11_sheet_60 : decode cX11_sheet 60 = .ok (.iconst 1, 1) := by decide +kernel
theorem dX11_sheet_61 : decode cX11_sheet 61 = .ok (.invokevirtual 83, 3) := by decide +kernel
theorem dX11_sheet_64 : decode cX11_sheet 64 = .ok (.ireturn, 1) := by decide +kernel
theorem dX11_sheet_65 : decode cX11_sheet 65 = .ok (.aload_n 0, 1) := by decide +kernel
theorem dX11_sheet_66 : decode cX11_sheet 66 = .ok (.getfield 61, 3) := by decide +kernel
theorem dX11_sheet_69 : decode cX11_sheet 69 = .ok (.iload_n 1, 1) := by decide +kernel
theorem dX11_sheet_70 : decode cX11_sheet 70 = .ok (.aaload, 1) := by decide +kernel
theorem dX11_sheet_71 : decode cX11_sheet 71 = .ok (.iload_n 2, 1) := by decide +kernel
theorem dX11_sheet_72 : decode cX11_sheet 72 = .ok (.iload_n 2, 1) := by decide +kernel
theorem dX11_sheet_73 : decode cX11_sheet 73 = .ok (.ifCond .ne 7, 3) := by decide +kernel
theorem dX11_sheet_76 : decode cX11_sheet 76 = .ok (.iconst 0, 1) := by decide +kernel
theorem dX11_sheet_77 : decode cX11_sheet 77 = .ok (.goto 4, 3) := by decide +kernel
theorem dX11_sheet_80 : decode cX11_sheet 80 = .ok (.iload_n 3, 1) := by decide +kernel
theorem dX11_sheet_81 : decode cX11_sheet 81 = .ok (.invokevirtual 298, 3) := by decide +kernel
theorem dX11_sheet_84 : decode cX11_sheet 84 = .ok (.iconst 1, 1) := by decide +kernel
theorem dX11_sheet_85 : decode cX11_sheet 85 = .ok (.ireturn, 1) := by decide +kernel
theorem dX11_put_0 : decode cX11_put 0 = .ok (.iload_n 1, 1) := by decide +kernel
theorem dX11_put_1 : decode cX11_put 1 = .ok (.invokestatic 257, 3) := by decide +kernel
theorem dX11_put_4 : decode cX11_put 4 = .ok (.ifCond .ne 9, 3) := by decide +kernel
theorem dX11_put_7 : decode cX11_put 7 = .ok (.aload_n 0, 1) := by decide +kernel
theorem dX11_put_8 : decode cX11_put 8 = .ok (.iconst 1, 1) := by decide +kernel
theorem dX11_put_9 : decode cX11_put 9 = .ok (.invokevirtual 83, 3) := by decide +kernel
theorem dX11_put_12 : decode cX11_put 12 = .ok (.ireturn, 1) := by decide +kernel
theorem dX11_put_13 : decode cX11_put 13 = .ok (.aload_n 0, 1) := by decide +kernel
theorem dX11_put_14 : decode cX11_put 14 = .ok (.getfield 61, 3) := by decide +kernel
theorem dX11_put_17 : decode cX11_put 17 = .ok (.iload_n 1, 1) := by decide +kernel
theorem dX11_put_18 : decode cX11_put 18 = .ok (.aaload, 1) := by decide +kernel
theorem dX11_put_19 : decode cX11_put 19 = .ok (.astore 4, 2) := by decide +kernel
theorem dX11_put_21 : decode cX11_put 21 = .ok (.aload 4, 2) := by decide +kernel
theorem dX11_put_23 : decode cX11_put 23 = .ok (.invokevirtual 260, 3) := by decide +kernel
theorem dX11_put_26 : decode cX11_put 26 = .ok (.ifCond .eq 9, 3) := by decide +kernel
theorem dX11_put_29 : decode cX11_put 29 = .ok (.aload_n 0, 1) := by decide +kernel
theorem dX11_put_30 : decode cX11_put 30 = .ok (.iconst 2, 1) := by decide +kernel
theorem dX11_put_31 : decode cX11_put 31 = .ok (.invokevirtual 83, 3) := by decide +kernel
theorem dX11_put_34 : decode cX11_put 34 = .ok (.ireturn, 1) := by decide +kernel
theorem dX11_put_35 : decode cX11_put 35 = .ok (.iload_n 2, 1) := by decide +kernel
theorem dX11_put_36 : decode cX11_put 36 = .ok (.iconst 0, 1) := by decide +kernel
theorem dX11_put_37 : decode cX11_put 37 = .ok (.aload 4, 2) := by decide +kernel
theorem dX11_put_39 : decode cX11_put 39 = .ok (.getfield 300, 3) := by decide +kernel
theorem dX11_put_42 : decode cX11_put 42 = .ok (.iconst 1, 1) := by decide +kernel
theorem dX11_put_43 : decode cX11_put 43 = .ok (.isub, 1) := by decide +kernel
theorem dX11_put_44 : decode cX11_put 44 = .ok (.invokestatic 79, 3) := by decide +kernel
theorem dX11_put_47 : decode cX11_put 47 = .ok (.ifCond .ne 9, 3) := by decide +kernel
theorem dX11_put_50 : decode cX11_put 50 = .ok (.aload_n 0, 1) := by decide +kernel
theorem dX11_put_51 : decode cX11_put 51 = .ok (.iconst 1, 1) := by decide +kernel
theorem dX11_put_52 : decode cX11_put 52 = .ok (.invokevirtual 83, 3) := by decide +kernel
theorem dX11_put_55 : decode cX11_put 55 = .ok (.ireturn, 1) := by decide +kernel
theorem dX11_put_56 : decode cX11_put 56 = .ok (.aload 4, 2) := by decide +kernel
theorem dX11_put_58 : decode cX11_put 58 = .ok (.getfield 301, 3) := by decide +kernel
theorem dX11_put_61 : decode cX11_put 61 = .ok (.iload_n 2, 1) := by decide +kernel
theorem dX11_put_62 : decode cX11_put 62 = .ok (.aload 4, 2) := by decide +kernel
theorem dX11_put_64 : decode cX11_put 64 = .ok (.iload_n 3, 1) := by decide +kernel
theorem dX11_put_65 : decode cX11_put 65 = .ok (.invokevirtual 304, 3) := by decide +kernel
theorem dX11_put_68 : decode cX11_put 68 = .ok (.iastore, 1) := by decide +kernel
theorem dX11_put_69 : decode cX11_put 69 = .ok (.iconst 1, 1) := by decide +kernel
theorem dX11_put_70 : decode cX11_put 70 = .ok (.ireturn, 1) := by decide +kernel
theorem dX11_move_0 : decode cX11_move 0 = .ok (.iload_n 1, 1) := by decide +kernel
theorem dX11_move_1 : decode cX11_move 1 = .ok (.invokestatic 257, 3) := by decide +kernel
theorem dX11_move_4 : decode cX11_move 4 = .ok (.ifCond .eq 10, 3) := by decide +kernel
theorem dX11_move_7 : decode cX11_move 7 = .ok (.iload_n 3, 1) := by decide +kernel
theorem dX11_move_8 : decode cX11_move 8 = .ok (.invokestatic 257, 3) := by decide +kernel
theorem dX11_move_11 : decode cX11_move 11 = .ok (.ifCond .ne 9, 3) := by decide +kernel
theorem dX11_move_14 : decode cX11_move 14 = .ok (.aload_n 0, 1) := by decide +kernel
theorem dX11_move_15 : decode cX11_move 15 = .ok (.iconst 1, 1) := by decide +kernel
theorem dX11_move_16 : decode cX11_move 16 = .ok (.invokevirtual 83, 3) := by decide +kernel
theorem dX11_move_19 : decode cX11_move 19 = .ok (.ireturn, 1) := by decide +kernel
theorem dX11_move_20 : decode cX11_move 20 = .ok (.aload_n 0, 1) := by decide +kernel
theorem dX11_move_21 : decode cX11_move 21 = .ok (.getfield 61, 3) := by decide +kernel
theorem dX11_move_24 : decode cX11_move 24 = .ok (.iload_n 1, 1) := by decide +kernel
theorem dX11_move_25 : decode cX11_move 25 = .ok (.aaload, 1) := by decide +kernel
theorem dX11_move_26 : decode cX11_move 26 = .ok (.astore 6, 2) := by decide +kernel
theorem dX11_move_28 : decode cX11_move 28 = .ok (.aload_n 0, 1) := by decide +kernel
theorem dX11_move_29 : decode cX11_move 29 = .ok (.getfield 61, 3) := by decide +kernel
theorem dX11_move_32 : decode cX11_move 32 = .ok (.iload_n 3, 1) := by decide +kernel
theorem dX11_move_33 : decode cX11_move 33 = .ok (.aaload, 1) := by decide +kernel
theorem dX11_move_34 : decode cX11_move 34 = .ok (.astore 7, 2) := by decide +kernel
theorem dX11_move_36 : decode cX11_move 36 = .ok (.aload 6, 2) := by decide +kernel
theorem dX11_move_38 : decode cX11_move 38 = .ok (.invokevirtual 260, 3) := by decide +kernel
theorem dX11_move_41 : decode cX11_move 41 = .ok (.ifCond .ne 11, 3) := by decide +kernel
theorem dX11_move_44 : decode cX11_move 44 = .ok (.aload 7, 2) := by decide +kernel
theorem dX11_move_46 : decode cX11_move 46 = .ok (.invokevirtual 260, 3) := by decide +kernel
theorem dX11_move_49 : decode cX11_move 49 = .ok (.ifCond .eq 9, 3) := by decide +kernel
theorem dX11_move_52 : decode cX11_move 52 = .ok (.aload_n 0, 1) := by decide +kernel
theorem dX11_move_53 : decode cX11_move 53 = .ok (.iconst 2, 1) := by decide +kernel
theorem dX11_move_54 : decode cX11_move 54 = .ok (.invokevirtual 83, 3) := by decide +kernel
theorem dX11_move_57 : decode cX11_move 57 = .ok (.ireturn, 1) := by decide +kernel
theorem dX11_move_58 : decode cX11_move 58 = .ok (.aload 6, 2) := by decide +kernel
theorem dX11_move_60 : decode cX11_move 60 = .ok (.getfield 307, 3) := by decide +kernel
theorem dX11_move_63 : decode cX11_move 63 = .ok (.aload 7, 2) := by decide +kernel
theorem dX11_move_65 : decode cX11_move 65 = .ok (.getfield 307, 3) := by decide +kernel
theorem dX11_move_68 : decode cX11_move 68 = .ok (.if_icmp .eq 9, 3) := by decide +kernel
theorem dX11_move_71 : decode cX11_move 71 = .ok (.aload_n 0, 1) := by decide +kernel
theorem dX11_move_72 : decode cX11_move 72 = .ok (.iconst 5, 1) := by decide +kernel
theorem dX11_move_73 : decode cX11_move 73 = .ok (.invokevirtual 83, 3) := by decide +kernel
theorem dX11_move_76 : decode cX11_move 76 = .ok (.ireturn, 1) := by decide +kernel
theorem dX11_move_77 : decode cX11_move 77 = .ok (.aload 6, 2) := by decide +kernel
theorem dX11_move_79 : decode cX11_move 79 = .ok (.iload_n 2, 1) := by decide +kernel
theorem dX11_move_80 : decode cX11_move 80 = .ok (.iload 5, 2) := by decide +kernel
theorem dX11_move_82 : decode cX11_move 82 = .ok (.invokevirtual 310, 3) := by decide +kernel
theorem dX11_move_85 : decode cX11_move 85 = .ok (.ifCond .eq 15, 3) := by decide +kernel
theorem dX11_move_88 : decode cX11_move 88 = .ok (.aload 7, 2) := by decide +kernel
theorem dX11_move_90 : decode cX11_move 90 = .ok (.iload 4, 2) := by decide +kernel
theorem dX11_move_92 : decode cX11_move 92 = .ok (.iload 5, 2) := by decide +kernel
theorem dX11_move_94 : decode cX11_move 94 = .ok (.invokevirtual 310, 3) := by decide +kernel
theorem dX11_move_97 : decode cX11_move 97 = .ok (.ifCond .ne 9, 3) := by decide +kernel
theorem dX11_move_100 : decode cX11_move 100 = .ok (.aload_n 0, 1) := by decide +kernel
theorem dX11_move_101 : decode cX11_move 101 = .ok (.iconst 1, 1) := by decide +kernel
theorem dX11_move_102 : decode cX11_move 102 = .ok (.invokevirtual 83, 3) := by decide +kernel
theorem dX11_move_105 : decode cX11_move 105 = .ok (.ireturn, 1) := by decide +kernel
theorem dX11_move_106 : decode cX11_move 106 = .ok (.aload 6, 2) := by decide +kernel
theorem dX11_move_108 : decode cX11_move 108 = .ok (.getfield 301, 3) := by decide +kernel
theorem dX11_move_111 : decode cX11_move 111 = .ok (.iload_n 2, 1) := by decide +kernel
theorem dX11_move_112 : decode cX11_move 112 = .ok (.aload 7, 2) := by decide +kernel
theorem dX11_move_114 : decode cX11_move 114 = .ok (.getfield 301, 3) := by decide +kernel
theorem dX11_move_117 : decode cX11_move 117 = .ok (.iload 4, 2) := by decide +kernel
theorem dX11_move_119 : decode cX11_move 119 = .ok (.iload 5, 2) := by decide +kernel
theorem dX11_move_121 : decode cX11_move 121 = .ok (.invokestatic 313, 3) := by decide +kernel
theorem dX11_move_124 : decode cX11_move 124 = .ok (.iload 5, 2) := by decide +kernel
theorem dX11_move_126 : decode cX11_move 126 = .ok (.ireturn, 1) := by decide +kernel
theorem dX11_reads_0 : decode cX11_reads 0 = .ok (.iload_n 1, 1) := by decide +kernel
theorem dX11_reads_1 : decode cX11_reads 1 = .ok (.invokestatic 257, 3) := by decide +kernel
theorem dX11_reads_4 : decode cX11_reads 4 = .ok (.ifCond .ne 9, 3) := by decide +kernel
theorem dX11_reads_7 : decode cX11_reads 7 = .ok (.aload_n 0, 1) := by decide +kernel
theorem dX11_reads_8 : decode cX11_reads 8 = .ok (.iconst 1, 1) := by decide +kernel
theorem dX11_reads_9 : decode cX11_reads 9 = .ok (.invokevirtual 83, 3) := by decide +kernel
theorem dX11_reads_12 : decode cX11_reads 12 = .ok (.ireturn, 1) := by decide +kernel
theorem dX11_reads_13 : decode cX11_reads 13 = .ok (.aload_n 0, 1) := by decide +kernel
theorem dX11_reads_14 : decode cX11_reads 14 = .ok (.getfield 61, 3) := by decide +kernel
theorem dX11_reads_17 : decode cX11_reads 17 = .ok (.iload_n 1, 1) := by decide +kernel
theorem dX11_reads_18 : decode cX11_reads 18 = .ok (.aaload, 1) := by decide +kernel
theorem dX11_reads_19 : decode cX11_reads 19 = .ok (.astore_n 2, 1) := by decide +kernel
theorem dX11_reads_20 : decode cX11_reads 20 = .ok (.aload_n 2, 1) := by decide +kernel
theorem dX11_reads_21 : decode cX11_reads 21 = .ok (.invokevirtual 260, 3) := by decide +kernel
theorem dX11_reads_24 : decode cX11_reads 24 = .ok (.ifCond .eq 9, 3) := by decide +kernel
theorem dX11_reads_27 : decode cX11_reads 27 = .ok (.aload_n 0, 1) := by decide +kernel
theorem dX11_reads_28 : decode cX11_reads 28 = .ok (.iconst 2, 1) := by decide +kernel
theorem dX11_reads_29 : decode cX11_reads 29 = .ok (.invokevirtual 83, 3) := by decide +kernel
theorem dX11_reads_32 : decode cX11_reads 32 = .ok (.ireturn, 1) := by decide +kernel
theorem dX11_reads_33 : decode cX11_reads 33 = .ok (.iconst 0, 1) := by decide +kernel
theorem dX11_reads_34 : decode cX11_reads 34 = .ok (.istore_n 3, 1) := by decide +kernel
theorem dX11_reads_35 : decode cX11_reads 35 = .ok (.iload_n 3, 1) := by decide +kernel
theorem dX11_reads_36 : decode cX11_reads 36 = .ok (.aload_n 2, 1) := by decide +kernel
theorem dX11_reads_37 : decode cX11_reads 37 = .ok (.getfield 300, 3) := by decide +kernel
theorem dX11_reads_40 : decode cX11_reads 40 = .ok (.if_icmp .ge 40, 3) := by decide +kernel
theorem dX11_reads_43 : decode cX11_reads 43 = .ok (.aload_n 0, 1) := by decide +kernel
theorem dX11_reads_44 : decode cX11_reads 44 = .ok (.iconst 0, 1) := by decide +kernel
theorem dX11_reads_45 : decode cX11_reads 45 = .ok (.aload_n 2, 1) := by decide +kernel
theorem dX11_reads_46 : decode cX11_reads 46 = .ok (.getfield 301, 3) := by decide +kernel
theorem dX11_reads_49 : decode cX11_reads 49 = .ok (.iload_n 3, 1) := by decide +kernel
theorem dX11_reads_50 : decode cX11_reads 50 = .ok (.iaload, 1) := by decide +kernel
theorem dX11_reads_51 : decode cX11_reads 51 = .ok (.invokevirtual 184, 3) := by decide +kernel
theorem dX11_reads_54 : decode cX11_reads 54 = .ok (.ifCond .eq 26, 3) := by decide +kernel
theorem dX11_reads_57 : decode cX11_reads 57 = .ok (.aload_n 0, 1) := by decide +kernel
theorem dX11_reads_58 : decode cX11_reads 58 = .ok (.getfield 10, 3) := by decide +kernel
theorem dX11_reads_61 : decode cX11_reads 61 = .ok (.getfield 114, 3) := by decide +kernel
theorem dX11_reads_64 : decode cX11_reads 64 = .ok (.iconst 0, 1) := by decide +kernel
theorem dX11_reads_65 : decode cX11_reads 65 = .ok (.aload_n 2, 1) := by decide +kernel
theorem dX11_reads_66 : decode cX11_reads 66 = .ok (.getfield 301, 3) := by decide +kernel
theorem dX11_reads_69 : decode cX11_reads 69 = .ok (.iload_n 3, 1) := by decide +kernel
theorem dX11_reads_70 : decode cX11_reads 70 = .ok (.iaload, 1) := by decide +kernel
theorem dX11_reads_71 : decode cX11_reads 71 = .ok (.invokevirtual 188, 3) := by decide +kernel
theorem dX11_reads_74 : decode cX11_reads 74 = .ok (.iinc 3 1, 3) := by decide +kernel
theorem dX11_reads_77 : decode cX11_reads 77 = .ok (.goto (-42), 3) := by decide +kernel
theorem dX11_reads_80 : decode cX11_reads 80 = .ok (.iload_n 3, 1) := by decide +kernel
theorem dX11_reads_81 : decode cX11_reads 81 = .ok (.ireturn, 1) := by decide +kernel
theorem dX11_judge_0 : decode cX11_judge 0 = .ok (.iload_n 1, 1) := by decide +kernel
theorem dX11_judge_1 : decode cX11_judge 1 = .ok (.invokestatic 257, 3) := by decide +kernel
theorem dX11_judge_4 : decode cX11_judge 4 = .ok (.ifCond .eq 11, 3) := by decide +kernel
theorem dX11_judge_7 : decode cX11_judge 7 = .ok (.aload_n 0, 1) := by decide +kernel
theorem dX11_judge_8 : decode cX11_judge 8 = .ok (.iload_n 2, 1) := by decide +kernel
theorem dX11_judge_9 : decode cX11_judge 9 = .ok (.invokevirtual 122, 3) := by decide +kernel
theorem dX11_judge_12 : decode cX11_judge 12 = .ok (.ifCond .ne 9, 3) := by decide +kernel
theorem dX11_judge_15 : decode cX11_judge 15 = .ok (.aload_n 0, 1) := by decide +kernel
theorem dX11_judge_16 : decode cX11_judge 16 = .ok (.iconst 1, 1) := by decide +kernel
theorem dX11_judge_17 : decode cX11_judge 17 = .ok (.invokevirtual 83, 3) := by decide +kernel
theorem dX11_judge_20 : decode cX11_judge 20 = .ok (.ireturn, 1) := by decide +kernel
theorem dX11_judge_21 : decode cX11_judge 21 = .ok (.aload_n 0, 1) := by decide +kernel
theorem dX11_judge_22 : decode cX11_judge 22 = .ok (.getfield 61, 3) := by decide +kernel
theorem dX11_judge_25 : decode cX11_judge 25 = .ok (.iload_n 1, 1) := by decide +kernel
theorem dX11_judge_26 : decode cX11_judge 26 = .ok (.aaload, 1) := by decide +kernel
theorem dX11_judge_27 : decode cX11_judge 27 = .ok (.astore_n 3, 1) := by decide +kernel
theorem dX11_judge_28 : decode cX11_judge 28 = .ok (.aload_n 3, 1) := by decide +kernel
theorem dX11_judge_29 : decode cX11_judge 29 = .ok (.invokevirtual 260, 3) := by decide +kernel
theorem dX11_judge_32 : decode cX11_judge 32 = .ok (.ifCond .eq 9, 3) := by decide +kernel
theorem dX11_judge_35 : decode cX11_judge 35 = .ok (.aload_n 0, 1) := by decide +kernel
theorem dX11_judge_36 : decode cX11_judge 36 = .ok (.iconst 2, 1) := by decide +kernel
theorem dX11_judge_37 : decode cX11_judge 37 = .ok (.invokevirtual 83, 3) := by decide +kernel
theorem dX11_judge_40 : decode cX11_judge 40 = .ok (.ireturn, 1) := by decide +kernel
theorem dX11_judge_41 : decode cX11_judge 41 = .ok (.aload_n 0, 1) := by decide +kernel
theorem dX11_judge_42 : decode cX11_judge 42 = .ok (.getfield 10, 3) := by decide +kernel
theorem dX11_judge_45 : decode cX11_judge 45 = .ok (.getfield 114, 3) := by decide +kernel
theorem dX11_judge_48 : decode cX11_judge 48 = .ok (.getfield 125, 3) := by decide +kernel
theorem dX11_judge_51 : decode cX11_judge 51 = .ok (.iload_n 2, 1) := by decide +kernel
theorem dX11_judge_52 : decode cX11_judge 52 = .ok (.aaload, 1) := by decide +kernel
theorem dX11_judge_53 : decode cX11_judge 53 = .ok (.astore 4, 2) := by decide +kernel
theorem dX11_judge_55 : decode cX11_judge 55 = .ok (.aload 4, 2) := by decide +kernel
theorem dX11_judge_57 : decode cX11_judge 57 = .ok (.iconst 0, 1) := by decide +kernel
theorem dX11_judge_58 : decode cX11_judge 58 = .ok (.aload_n 3, 1) := by decide +kernel
theorem dX11_judge_59 : decode cX11_judge 59 = .ok (.invokevirtual 319, 3) := by decide +kernel
theorem dX11_judge_62 : decode cX11_judge 62 = .ok (.istore 5, 2) := by decide +kernel
theorem dX11_judge_64 : decode cX11_judge 64 = .ok (.iload 5, 2) := by decide +kernel
theorem dX11_judge_66 : decode cX11_judge 66 = .ok (.aload_n 3, 1) := by decide +kernel
theorem dX11_judge_67 : decode cX11_judge 67 = .ok (.getfield 300, 3) := by decide +kernel
theorem dX11_judge_70 : decode cX11_judge 70 = .ok (.if_icmp .ne 17, 3) := by decide +kernel
theorem dX11_judge_73 : decode cX11_judge 73 = .ok (.iload 5, 2) := by decide +kernel
theorem dX11_judge_75 : decode cX11_judge 75 = .ok (.aload 4, 2) := by decide +kernel
theorem dX11_judge_77 : decode cX11_judge 77 = .ok (.getfield 153, 3) := by decide +kernel
theorem dX11_judge_80 : decode cX11_judge 80 = .ok (.if_icmp .ne 7, 3) := by decide +kernel
theorem dX11_judge_83 : decode cX11_judge 83 = .ok (.iconst (-1), 1) := by decide +kernel
theorem dX11_judge_84 : decode cX11_judge 84 = .ok (.goto 5, 3) := by decide +kernel
theorem dX11_judge_87 : decode cX11_judge 87 = .ok (.iload 5, 2) := by decide +kernel
theorem dX11_judge_89 : decode cX11_judge 89 = .ok (.ireturn, 1) := by decide +kernel
theorem dX11_image_0 : decode cX11_image 0 = .ok (.aload_n 0, 1) := by decide +kernel
theorem dX11_image_1 : decode cX11_image 1 = .ok (.getfield 16, 3) := by decide +kernel
theorem dX11_image_4 : decode cX11_image 4 = .ok (.aload_n 0, 1) := by decide +kernel
theorem dX11_image_5 : decode cX11_image 5 = .ok (.getfield 10, 3) := by decide +kernel
theorem dX11_image_8 : decode cX11_image 8 = .ok (.invokevirtual 323, 3) := by decide +kernel
theorem dX11_image_11 : decode cX11_image 11 = .ok (.aload_n 0, 1) := by decide +kernel
theorem dX11_image_12 : decode cX11_image 12 = .ok (.dup, 1) := by decide +kernel
theorem dX11_image_13 : decode cX11_image 13 = .ok (.getfield 326, 3) := by decide +kernel
theorem dX11_image_16 : decode cX11_image 16 = .ok (.iconst 1, 1) := by decide +kernel
theorem dX11_image_17 : decode cX11_image 17 = .ok (.iadd, 1) := by decide +kernel
theorem dX11_image_18 : decode cX11_image 18 = .ok (.putfield 326, 3) := by decide +kernel
theorem dX11_image_21 : decode cX11_image 21 = .ok (.aload_n 0, 1) := by decide +kernel
theorem dX11_image_22 : decode cX11_image 22 = .ok (.getfield 326, 3) := by decide +kernel
theorem dX11_image_25 : decode cX11_image 25 = .ok (.ireturn, 1) := by decide +kernel
theorem dX11_restore_0 : decode cX11_restore 0 = .ok (.aload_n 0, 1) := by decide +kernel
theorem dX11_restore_1 : decode cX11_restore 1 = .ok (.getfield 326, 3) := by decide +kernel
theorem dX11_restore_4 : decode cX11_restore 4 = .ok (.ifCond .ne 9, 3) := by decide +kernel
theorem dX11_restore_7 : decode cX11_restore 7 = .ok (.aload_n 0, 1) := by decide +kernel
theorem dX11_restore_8 : decode cX11_restore 8 = .ok (.iconst 2, 1) := by decide +kernel
theorem dX11_restore_9 : decode cX11_restore 9 = .ok (.invokevirtual 83, 3) := by decide +kernel
theorem dX11_restore_12 : decode cX11_restore 12 = .ok (.ireturn, 1) := by decide +kernel
theorem dX11_restore_13 : decode cX11_restore 13 = .ok (.aload_n 0, 1) := by decide +kernel
theorem dX11_restore_14 : decode cX11_restore 14 = .ok (.getfield 10, 3) := by decide +kernel
theorem dX11_restore_17 : decode cX11_restore 17 = .ok (.aload_n 0, 1) := by decide +kernel
theorem dX11_restore_18 : decode cX11_restore 18 = .ok (.getfield 16, 3) := by decide +kernel
theorem dX11_restore_21 : decode cX11_restore 21 = .ok (.invokevirtual 323, 3) := by decide +kernel
theorem dX11_restore_24 : decode cX11_restore 24 = .ok (.aload_n 0, 1) := by decide +kernel
theorem dX11_restore_25 : decode cX11_restore 25 = .ok (.getfield 10, 3) := by decide +kernel
theorem dX11_restore_28 : decode cX11_restore 28 = .ok (.getfield 114, 3) := by decide +kernel
theorem dX11_restore_31 : decode cX11_restore 31 = .ok (.getfield 195, 3) := by decide +kernel
theorem dX11_restore_34 : decode cX11_restore 34 = .ok (.ireturn, 1) := by decide +kernel
theorem dX11_tell_0 : decode cX11_tell 0 = .ok (.aload_n 0, 1) := by decide +kernel
theorem dX11_tell_1 : decode cX11_tell 1 = .ok (.getfield 10, 3) := by decide +kernel
theorem dX11_tell_4 : decode cX11_tell 4 = .ok (.getfield 329, 3) := by decide +kernel
theorem dX11_tell_7 : decode cX11_tell 7 = .ok (.bipush 20, 2) := by decide +kernel
theorem dX11_tell_9 : decode cX11_tell 9 = .ok (.if_icmp .lt 9, 3) := by decide +kernel
theorem dX11_tell_12 : decode cX11_tell 12 = .ok (.aload_n 0, 1) := by decide +kernel
theorem dX11_tell_13 : decode cX11_tell 13 = .ok (.iconst 4, 1) := by decide +kernel
theorem dX11_tell_14 : decode cX11_tell 14 = .ok (.invokevirtual 83, 3) := by decide +kernel
theorem dX11_tell_17 : decode cX11_tell 17 = .ok (.ireturn, 1) := by decide +kernel
theorem dX11_tell_18 : decode cX11_tell 18 = .ok (.aload_n 0, 1) := by decide +kernel
theorem dX11_tell_19 : decode cX11_tell 19 = .ok (.getfield 10, 3) := by decide +kernel
theorem dX11_tell_22 : decode cX11_tell 22 = .ok (.getfield 332, 3) := by decide +kernel
theorem dX11_tell_25 : decode cX11_tell 25 = .ok (.aload_n 0, 1) := by decide +kernel
theorem dX11_tell_26 : decode cX11_tell 26 = .ok (.getfield 10, 3) := by decide +kernel
theorem dX11_tell_29 : decode cX11_tell 29 = .ok (.getfield 329, 3) := by decide +kernel
theorem dX11_tell_32 : decode cX11_tell 32 = .ok (.iload_n 1, 1) := by decide +kernel
theorem dX11_tell_33 : decode cX11_tell 33 = .ok (.iastore, 1) := by decide +kernel
theorem dX11_tell_34 : decode cX11_tell 34 = .ok (.aload_n 0, 1) := by decide +kernel
theorem dX11_tell_35 : decode cX11_tell 35 = .ok (.getfield 10, 3) := by decide +kernel
theorem dX11_tell_38 : decode cX11_tell 38 = .ok (.dup, 1) := by decide +kernel
theorem dX11_tell_39 : decode cX11_tell 39 = .ok (.getfield 329, 3) := by decide +kernel
theorem dX11_tell_42 : decode cX11_tell 42 = .ok (.iconst 1, 1) := by decide +kernel
theorem dX11_tell_43 : decode cX11_tell 43 = .ok (.iadd, 1) := by decide +kernel
theorem dX11_tell_44 : decode cX11_tell 44 = .ok (.putfield 329, 3) := by decide +kernel
theorem dX11_tell_47 : decode cX11_tell 47 = .ok (.aload_n 0, 1) := by decide +kernel
theorem dX11_tell_48 : decode cX11_tell 48 = .ok (.getfield 10, 3) := by decide +kernel
theorem dX11_tell_51 : decode cX11_tell 51 = .ok (.getfield 329, 3) := by decide +kernel
theorem dX11_tell_54 : decode cX11_tell 54 = .ok (.ireturn, 1) := by decide +kernel
theorem dX11_check_0 : decode cX11_check 0 = .ok (.aload_n 0, 1) := by decide +kernel
theorem dX11_check_1 : decode cX11_check 1 = .ok (.getfield 10, 3) := by decide +kernel
theorem dX11_check_4 : decode cX11_check 4 = .ok (.getfield 329, 3) := by decide +kernel
theorem dX11_check_7 : decode cX11_check 7 = .ok (.istore_n 1, 1) := by decide +kernel
theorem dX11_check_8 : decode cX11_check 8 = .ok (.aload_n 0, 1) := by decide +kernel
theorem dX11_check_9 : decode cX11_check 9 = .ok (.getfield 10, 3) := by decide +kernel
theorem dX11_check_12 : decode cX11_check 12 = .ok (.iconst 0, 1) := by decide +kernel
theorem dX11_check_13 : decode cX11_check 13 = .ok (.putfield 329, 3) := by decide +kernel
theorem dX11_check_16 : decode cX11_check 16 = .ok (.aload_n 0, 1) := by decide +kernel
theorem dX11_check_17 : decode cX11_check 17 = .ok (.getfield 32, 3) := by decide +kernel
theorem dX11_check_20 : decode cX11_check 20 = .ok (.aload_n 0, 1) := by decide +kernel
theorem dX11_check_21 : decode cX11_check 21 = .ok (.getfield 10, 3) := by decide +kernel
theorem dX11_check_24 : decode cX11_check 24 = .ok (.getfield 114, 3) := by decide +kernel
theorem dX11_check_27 : decode cX11_check 27 = .ok (.invokevirtual 206, 3) := by decide +kernel
theorem dX11_check_30 : decode cX11_check 30 = .ok (.iconst 0, 1) := by decide +kernel
theorem dX11_check_31 : decode cX11_check 31 = .ok (.istore_n 2, 1) := by decide +kernel
theorem dX11_check_32 : decode cX11_check 32 = .ok (.iload_n 2, 1) := by decide +kernel
theorem dX11_check_33 : decode cX11_check 33 = .ok (.iload_n 1, 1) := by decide +kernel
theorem dX11_check_34 : decode cX11_check 34 = .ok (.if_icmp .ge 46, 3) := by decide +kernel
theorem dX11_check_37 : decode cX11_check 37 = .ok (.iload_n 2, 1) := by decide +kernel
theorem dX11_check_38 : decode cX11_check 38 = .ok (.bipush 20, 2) := by decide +kernel
theorem dX11_check_40 : decode cX11_check 40 = .ok (.if_icmp .ge 40, 3) := by decide +kernel
theorem dX11_check_43 : decode cX11_check 43 = .ok (.aload_n 0, 1) := by decide +kernel
theorem dX11_check_44 : decode cX11_check 44 = .ok (.getfield 32, 3) := by decide +kernel
theorem dX11_check_47 : decode cX11_check 47 = .ok (.iconst 1, 1) := by decide +kernel
theorem dX11_check_48 : decode cX11_check 48 = .ok (.invokevirtual 198, 3) := by decide +kernel
theorem dX11_check_51 : decode cX11_check 51 = .ok (.aload_n 0, 1) := by decide +kernel
theorem dX11_check_52 : decode cX11_check 52 = .ok (.getfield 32, 3) := by decide +kernel
theorem dX11_check_55 : decode cX11_check 55 = .ok (.invokevirtual 335, 3) := by decide +kernel
theorem dX11_check_58 : decode cX11_check 58 = .ok (.aload_n 0, 1) := by decide +kernel
theorem dX11_check_59 : decode cX11_check 59 = .ok (.getfield 10, 3) := by decide +kernel
theorem dX11_check_62 : decode cX11_check 62 = .ok (.getfield 332, 3) := by decide +kernel
theorem dX11_check_65 : decode cX11_check 65 = .ok (.iload_n 2, 1) := by decide +kernel
theorem dX11_check_66 : decode cX11_check 66 = .ok (.iaload, 1) := by decide +kernel
theorem dX11_check_67 : decode cX11_check 67 = .ok (.if_icmp .eq 7, 3) := by decide +kernel
theorem dX11_check_70 : decode cX11_check 70 = .ok (.iconst 1, 1) := by decide +kernel
theorem dX11_check_71 : decode cX11_check 71 = .ok (.iload_n 2, 1) := by decide +kernel
theorem dX11_check_72 : decode cX11_check 72 = .ok (.iadd, 1) := by decide +kernel
theorem dX11_check_73 : decode cX11_check 73 = .ok (.ireturn, 1) := by decide +kernel
theorem dX11_check_74 : decode cX11_check 74 = .ok (.iinc 2 1, 3) := by decide +kernel
theorem dX11_check_77 : decode cX11_check 77 = .ok (.goto (-45), 3) := by decide +kernel
theorem dX11_check_80 : decode cX11_check 80 = .ok (.iconst 0, 1) := by decide +kernel
theorem dX11_check_81 : decode cX11_check 81 = .ok (.ireturn, 1) := by decide +kernel
theorem dX11_count_0 : decode cX11_count 0 = .ok (.iload_n 1, 1) := by decide +kernel
theorem dX11_count_1 : decode cX11_count 1 = .ok (.tableswitch 156 0 9 #[55, 66, 77, 88, 99, 110, 121, 132, 140, 148], 55) := by decide +kernel
theorem dX11_count_56 : decode cX11_count 56 = .ok (.aload_n 0, 1) := by decide +kernel
theorem dX11_count_57 : decode cX11_count 57 = .ok (.getfield 10, 3) := by decide +kernel
theorem dX11_count_60 : decode cX11_count 60 = .ok (.getfield 21, 3) := by decide +kernel
theorem dX11_count_63 : decode cX11_count 63 = .ok (.getfield 73, 3) := by decide +kernel
theorem dX11_count_66 : decode cX11_count 66 = .ok (.ireturn, 1) := by decide +kernel
theorem dX11_count_67 : decode cX11_count 67 = .ok (.aload_n 0, 1) := by decide +kernel
theorem dX11_count_68 : decode cX11_count 68 = .ok (.getfield 10, 3) := by decide +kernel
theorem dX11_count_71 : decode cX11_count 71 = .ok (.getfield 114, 3) := by decide +kernel
theorem dX11_count_74 : decode cX11_count 74 = .ok (.getfield 120, 3) := by decide +kernel
theorem dX11_count_77 : decode cX11_count 77 = .ok (.ireturn, 1) := by decide +kernel
theorem dX11_count_78 : decode cX11_count 78 = .ok (.aload_n 0, 1) := by decide +kernel
theorem dX11_count_79 : decode cX11_count 79 = .ok (.getfield 10, 3) := by decide +kernel
theorem dX11_count_82 : decode cX11_count 82 = .ok (.getfield 114, 3) := by decide +kernel
theorem dX11_count_85 : decode cX11_count 85 = .ok (.getfield 195, 3) := by decide +kernel
theorem dX11_count_88 : decode cX11_count 88 = .ok (.ireturn, 1) := by decide +kernel
theorem dX11_count_89 : decode cX11_count 89 = .ok (.aload_n 0, 1) := by decide +kernel
theorem dX11_count_90 : decode cX11_count 90 = .ok (.getfield 10, 3) := by decide +kernel
theorem dX11_count_93 : decode cX11_count 93 = .ok (.getfield 271, 3) := by decide +kernel
theorem dX11_count_96 : decode cX11_count 96 = .ok (.getfield 275, 3) := by decide +kernel
theorem dX11_count_99 : decode cX11_count 99 = .ok (.ireturn, 1) := by decide +kernel
theorem dX11_count_100 : decode cX11_count 100 = .ok (.aload_n 0, 1) := by decide +kernel
theorem dX11_count_101 : decode cX11_count 101 = .ok (.getfield 10, 3) := by decide +kernel
theorem dX11_count_104 : decode cX11_count 104 = .ok (.getfield 114, 3) := by decide +kernel
theorem dX11_count_107 : decode cX11_count 107 = .ok (.invokevirtual 335, 3) := by decide +kernel
theorem dX11_count_110 : decode cX11_count 110 = .ok (.ireturn, 1) := by decide +kernel
theorem dX11_count_111 : decode cX11_count 111 = .ok (.aload_n 0, 1) := by decide +kernel
theorem dX11_count_112 : decode cX11_count 112 = .ok (.getfield 10, 3) := by decide +kernel
theorem dX11_count_115 : decode cX11_count 115 = .ok (.getfield 114, 3) := by decide +kernel
theorem dX11_count_118 : decode cX11_count 118 = .ok (.invokevirtual 201, 3) := by decide +kernel
theorem dX11_count_121 : decode cX11_count 121 = .ok (.ireturn, 1) := by decide +kernel
theorem dX11_count_122 : decode cX11_count 122 = .ok (.aload_n 0, 1) := by decide +kernel
theorem dX11_count_123 : decode cX11_count 123 = .ok (.getfield 10, 3) := by decide +kernel
theorem dX11_count_126 : decode cX11_count 126 = .ok (.getfield 210, 3) := by decide +kernel
theorem dX11_count_129 : decode cX11_count 129 = .ok (.getfield 214, 3) := by decide +kernel
theorem dX11_count_132 : decode cX11_count 132 = .ok (.ireturn, 1) := by decide +kernel
theorem dX11_count_133 : decode cX11_count 133 = .ok (.aload_n 0, 1) := by decide +kernel
theorem dX11_count_134 : decode cX11_count 134 = .ok (.getfield 10, 3) := by decide +kernel
theorem dX11_count_137 : decode cX11_count 137 = .ok (.getfield 329, 3) := by decide +kernel
theorem dX11_count_140 : decode cX11_count 140 = .ok (.ireturn, 1) := by decide +kernel
theorem dX11_count_141 : decode cX11_count 141 = .ok (.aload_n 0, 1) := by decide +kernel
theorem dX11_count_142 : decode cX11_count 142 = .ok (.getfield 55, 3) := by decide +kernel
theorem dX11_count_145 : decode cX11_count 145 = .ok (.getfield 294, 3) := by decide +kernel
theorem dX11_count_148 : decode cX11_count 148 = .ok (.ireturn, 1) := by decide +kernel
theorem dX11_count_149 : decode cX11_count 149 = .ok (.aload_n 0, 1) := by decide +kernel
theorem dX11_count_150 : decode cX11_count 150 = .ok (.getfield 10, 3) := by decide +kernel
theorem dX11_count_153 : decode cX11_count 153 = .ok (.getfield 287, 3) := by decide +kernel
theorem dX11_count_156 : decode cX11_count 156 = .ok (.ireturn, 1) := by decide +kernel
theorem dX11_count_157 : decode cX11_count 157 = .ok (.aload_n 0, 1) := by decide +kernel
theorem dX11_count_158 : decode cX11_count 158 = .ok (.iconst 1, 1) := by decide +kernel
theorem dX11_count_159 : decode cX11_count 159 = .ok (.invokevirtual 83, 3) := by decide +kernel
theorem dX11_count_162 : decode cX11_count 162 = .ok (.ireturn, 1) := by decide +kernel
theorem dX11_told_0 : decode cX11_told 0 = .ok (.iload_n 1, 1) := by decide +kernel
theorem dX11_told_1 : decode cX11_told 1 = .ok (.iconst 1, 1) := by decide +kernel
theorem dX11_told_2 : decode cX11_told 2 = .ok (.iconst 5, 1) := by decide +kernel
theorem dX11_told_3 : decode cX11_told 3 = .ok (.invokestatic 79, 3) := by decide +kernel
theorem dX11_told_6 : decode cX11_told 6 = .ok (.ifCond .eq 12, 3) := by decide +kernel
theorem dX11_told_9 : decode cX11_told 9 = .ok (.aload_n 0, 1) := by decide +kernel
theorem dX11_told_10 : decode cX11_told 10 = .ok (.getfield 69, 3) := by decide +kernel
theorem dX11_told_13 : decode cX11_told 13 = .ok (.iload_n 1, 1) := by decide +kernel
theorem dX11_told_14 : decode cX11_told 14 = .ok (.iaload, 1) := by decide +kernel
theorem dX11_told_15 : decode cX11_told 15 = .ok (.goto 8, 3) := by decide +kernel
theorem dX11_told_18 : decode cX11_told 18 = .ok (.aload_n 0, 1) := by decide +kernel
theorem dX11_told_19 : decode cX11_told 19 = .ok (.iconst 1, 1) := by decide +kernel
theorem dX11_told_20 : decode cX11_told 20 = .ok (.invokevirtual 83, 3) := by decide +kernel
theorem dX11_told_23 : decode cX11_told 23 = .ok (.ireturn, 1) := by decide +kernel
theorem dX11_among_0 : decode cX11_among 0 = .ok (.iload_n 0, 1) := by decide +kernel
theorem dX11_among_1 : decode cX11_among 1 = .ok (.iload_n 1, 1) := by decide +kernel
theorem dX11_among_2 : decode cX11_among 2 = .ok (.if_icmp .lt 12, 3) := by decide +kernel
theorem dX11_among_5 : decode cX11_among 5 = .ok (.iload_n 0, 1) := by decide +kernel
theorem dX11_among_6 : decode cX11_among 6 = .ok (.iload_n 2, 1) := by decide +kernel
theorem dX11_among_7 : decode cX11_among 7 = .ok (.if_icmp .gt 7, 3) := by decide +kernel
theorem dX11_among_10 : decode cX11_among 10 = .ok (.iconst 1, 1) := by decide +kernel
theorem dX11_among_11 : decode cX11_among 11 = .ok (.goto 4, 3) := by decide +kernel
theorem dX11_among_14 : decode cX11_among 14 = .ok (.iconst 0, 1) := by decide +kernel
theorem dX11_among_15 : decode cX11_among 15 = .ok (.ireturn, 1) := by decide +kernel
theorem dX11_isFact_0 : decode cX11_isFact 0 = .ok (.iload_n 1, 1) := by decide +kernel
theorem dX11_isFact_1 : decode cX11_isFact 1 = .ok (.iconst 0, 1) := by decide +kernel
theorem dX11_isFact_2 : decode cX11_isFact 2 = .ok (.aload_n 0, 1) := by decide +kernel
theorem dX11_isFact_3 : decode cX11_isFact 3 = .ok (.getfield 10, 3) := by decide +kernel
theorem dX11_isFact_6 : decode cX11_isFact 6 = .ok (.getfield 21, 3) := by decide +kernel
theorem dX11_isFact_9 : decode cX11_isFact 9 = .ok (.getfield 73, 3) := by decide +kernel
theorem dX11_isFact_12 : decode cX11_isFact 12 = .ok (.iconst 1, 1) := by decide +kernel
theorem dX11_isFact_13 : decode cX11_isFact 13 = .ok (.isub, 1) := by decide +kernel
theorem dX11_isFact_14 : decode cX11_isFact 14 = .ok (.invokestatic 79, 3) := by decide +kernel
theorem dX11_isFact_17 : decode cX11_isFact 17 = .ok (.ireturn, 1) := by decide +kernel
theorem dX11_isDebtor_0 : decode cX11_isDebtor 0 = .ok (.iload_n 1, 1) := by decide +kernel
theorem dX11_isDebtor_1 : decode cX11_isDebtor 1 = .ok (.iconst 0, 1) := by decide +kernel
theorem dX11_isDebtor_2 : decode cX11_isDebtor 2 = .ok (.aload_n 0, 1) := by decide +kernel
theorem dX11_isDebtor_3 : decode cX11_isDebtor 3 = .ok (.getfield 10, 3) := by decide +kernel
theorem dX11_isDebtor_6 : decode cX11_isDebtor 6 = .ok (.getfield 114, 3) := by decide +kernel
theorem dX11_isDebtor_9 : decode cX11_isDebtor 9 = .ok (.getfield 120, 3) := by decide +kernel
theorem dX11_isDebtor_12 : decode cX11_isDebtor 12 = .ok (.iconst 1, 1) := by decide +kernel
theorem dX11_isDebtor_13 : decode cX11_isDebtor 13 = .ok (.isub, 1) := by decide +kernel
theorem dX11_isDebtor_14 : decode cX11_isDebtor 14 = .ok (.invokestatic 79, 3) := by decide +kernel
theorem dX11_isDebtor_17 : decode cX11_isDebtor 17 = .ok (.ireturn, 1) := by decide +kernel
theorem dX11_isKind_0 : decode cX11_isKind 0 = .ok (.iload_n 0, 1) := by decide +kernel
theorem dX11_isKind_1 : decode cX11_isKind 1 = .ok (.iconst 0, 1) := by decide +kernel
theorem dX11_isKind_2 : decode cX11_isKind 2 = .ok (.bipush 6, 2) := by decide +kernel
theorem dX11_isKind_4 : decode cX11_isKind 4 = .ok (.invokestatic 79, 3) := by decide +kernel
theorem dX11_isKind_7 : decode cX11_isKind 7 = .ok (.ireturn, 1) := by decide +kernel
theorem dX11_isFigure_0 : decode cX11_isFigure 0 = .ok (.iload_n 0, 1) := by decide +kernel
theorem dX11_isFigure_1 : decode cX11_isFigure 1 = .ok (.iconst 0, 1) := by decide +kernel
theorem dX11_isFigure_2 : decode cX11_isFigure 2 = .ok (.iconst 4, 1) := by decide +kernel
theorem dX11_isFigure_3 : decode cX11_isFigure 3 = .ok (.invokestatic 79, 3) := by decide +kernel
theorem dX11_isFigure_6 : decode cX11_isFigure 6 = .ok (.ireturn, 1) := by decide +kernel
theorem dX11_isSheet_0 : decode cX11_isSheet 0 = .ok (.iload_n 0, 1) := by decide +kernel
theorem dX11_isSheet_1 : decode cX11_isSheet 1 = .ok (.iconst 0, 1) := by decide +kernel
theorem dX11_isSheet_2 : decode cX11_isSheet 2 = .ok (.iconst 3, 1) := by decide +kernel
theorem dX11_isSheet_3 : decode cX11_isSheet 3 = .ok (.invokestatic 79, 3) := by decide +kernel
theorem dX11_isSheet_6 : decode cX11_isSheet 6 = .ok (.ireturn, 1) := by decide +kernel
theorem dX11_isUse_0 : decode cX11_isUse 0 = .ok (.iload_n 0, 1) := by decide +kernel
theorem dX11_isUse_1 : decode cX11_isUse 1 = .ok (.ifCond .eq 8, 3) := by decide +kernel
theorem dX11_isUse_4 : decode cX11_isUse 4 = .ok (.iload_n 0, 1) := by decide +kernel
theorem dX11_isUse_5 : decode cX11_isUse 5 = .ok (.iconst 1, 1) := by decide +kernel
theorem dX11_isUse_6 : decode cX11_isUse 6 = .ok (.if_icmp .ne 7, 3) := by decide +kernel
theorem dX11_isUse_9 : decode cX11_isUse 9 = .ok (.iconst 1, 1) := by decide +kernel
theorem dX11_isUse_10 : decode cX11_isUse 10 = .ok (.goto 4, 3) := by decide +kernel
theorem dX11_isUse_13 : decode cX11_isUse 13 = .ok (.iconst 0, 1) := by decide +kernel
theorem dX11_isUse_14 : decode cX11_isUse 14 = .ok (.ireturn, 1) := by decide +kernel
theorem dX11_refuse_0 : decode cX11_refuse 0 = .ok (.aload_n 0, 1) := by decide +kernel
theorem dX11_refuse_1 : decode cX11_refuse 1 = .ok (.getfield 69, 3) := by decide +kernel
theorem dX11_refuse_4 : decode cX11_refuse 4 = .ok (.iload_n 1, 1) := by decide +kernel
theorem dX11_refuse_5 : decode cX11_refuse 5 = .ok (.dup2, 1) := by decide +kernel
theorem dX11_refuse_6 : decode cX11_refuse 6 = .ok (.iaload, 1) := by decide +kernel
theorem dX11_refuse_7 : decode cX11_refuse 7 = .ok (.iconst 1, 1) := by decide +kernel
theorem dX11_refuse_8 : decode cX11_refuse 8 = .ok (.iadd, 1) := by decide +kernel
theorem dX11_refuse_9 : decode cX11_refuse 9 = .ok (.iastore, 1) := by decide +kernel
theorem dX11_refuse_10 : decode cX11_refuse 10 = .ok (.ldc_w 338, 3) := by decide +kernel
theorem dX11_refuse_13 : decode cX11_refuse 13 = .ok (.iload_n 1, 1) := by decide +kernel
theorem dX11_refuse_14 : decode cX11_refuse 14 = .ok (.isub, 1) := by decide +kernel
theorem dX11_refuse_15 : decode cX11_refuse 15 = .ok (.ireturn, 1) := by decide +kernel
theorem dX11_lawOf_0 : decode cX11_lawOf 0 = .ok (.iload_n 1, 1) := by decide +kernel
theorem dX11_lawOf_1 : decode cX11_lawOf 1 = .ok (.ifCond .ne 13, 3) := by decide +kernel
theorem dX11_lawOf_4 : decode cX11_lawOf 4 = .ok (.aload_n 0, 1) := by decide +kernel
theorem dX11_lawOf_5 : decode cX11_lawOf 5 = .ok (.getfield 10, 3) := by decide +kernel
theorem dX11_lawOf_8 : decode cX11_lawOf 8 = .ok (.getfield 25, 3) := by decide +kernel
theorem dX11_lawOf_11 : decode cX11_lawOf 11 = .ok (.goto 10, 3) := by decide +kernel
theorem dX11_lawOf_14 : decode cX11_lawOf 14 = .ok (.aload_n 0, 1) := by decide +kernel
theorem dX11_lawOf_15 : decode cX11_lawOf 15 = .ok (.getfield 10, 3) := by decide +kernel
theorem dX11_lawOf_18 : decode cX11_lawOf 18 = .ok (.getfield 144, 3) := by decide +kernel
theorem dX11_lawOf_21 : decode cX11_lawOf 21 = .ok (.areturn, 1) := by decide +kernel
theorem dX11_canTell_0 : decode cX11_canTell 0 = .ok (.aload_n 0, 1) := by decide +kernel
theorem dX11_canTell_1 : decode cX11_canTell 1 = .ok (.iload_n 1, 1) := by decide +kernel
theorem dX11_canTell_2 : decode cX11_canTell 2 = .ok (.invokevirtual 122, 3) := by decide +kernel
theorem dX11_canTell_5 : decode cX11_canTell 5 = .ok (.ifCond .eq 52, 3) := by decide +kernel
theorem dX11_canTell_8 : decode cX11_canTell 8 = .ok (.aload_n 0, 1) := by decide +kernel
theorem dX11_canTell_9 : decode cX11_canTell 9 = .ok (.iload_n 2, 1) := by decide +kernel
theorem dX11_canTell_10 : decode cX11_canTell 10 = .ok (.invokevirtual 91, 3) := by decide +kernel
theorem dX11_canTell_13 : decode cX11_canTell 13 = .ok (.ifCond .eq 44, 3) := by decide +kernel
theorem dX11_canTell_16 : decode cX11_canTell 16 = .ok (.aload_n 0, 1) := by decide +kernel
theorem dX11_canTell_17 : decode cX11_canTell 17 = .ok (.getfield 10, 3) := by decide +kernel
theorem dX11_canTell_20 : decode cX11_canTell 20 = .ok (.getfield 114, 3) := by decide +kernel
theorem dX11_canTell_23 : decode cX11_canTell 23 = .ok (.getfield 125, 3) := by decide +kernel
theorem dX11_canTell_26 : decode cX11_canTell 26 = .ok (.iload_n 1, 1) := by decide +kernel
theorem dX11_canTell_27 : decode cX11_canTell 27 = .ok (.aaload, 1) := by decide +kernel
theorem dX11_canTell_28 : decode cX11_canTell 28 = .ok (.getfield 176, 3) := by decide +kernel
theorem dX11_canTell_31 : decode cX11_canTell 31 = .ok (.ifCond .ne 26, 3) := by decide +kernel
theorem dX11_canTell_34 : decode cX11_canTell 34 = .ok (.aload_n 0, 1) := by decide +kernel
theorem dX11_canTell_35 : decode cX11_canTell 35 = .ok (.getfield 10, 3) := by decide +kernel
theorem dX11_canTell_38 : decode cX11_canTell 38 = .ok (.getfield 114, 3) := by decide +kernel
theorem dX11_canTell_41 : decode cX11_canTell 41 = .ok (.iload_n 1, 1) := by decide +kernel
theorem dX11_canTell_42 : decode cX11_canTell 42 = .ok (.invokevirtual 141, 3) := by decide +kernel
theorem dX11_canTell_45 : decode cX11_canTell 45 = .ok (.iload_n 2, 1) := by decide +kernel
theorem dX11_canTell_46 : decode cX11_canTell 46 = .ok (.ishr, 1) := by decide +kernel
theorem dX11_canTell_47 : decode cX11_canTell 47 = .ok (.iconst 1, 1) := by decide +kernel
theorem dX11_canTell_48 : decode cX11_canTell 48 = .ok (.iand, 1) := by decide +kernel
theorem dX11_canTell_49 : decode cX11_canTell 49 = .ok (.iconst 1, 1) := by decide +kernel
theorem dX11_canTell_50 : decode cX11_canTell 50 = .ok (.if_icmp .ne 7, 3) := by decide +kernel
theorem dX11_canTell_53 : decode cX11_canTell 53 = .ok (.iconst 1, 1) := by decide +kernel
theorem dX11_canTell_54 : decode cX11_canTell 54 = .ok (.goto 4, 3) := by decide +kernel
theorem dX11_canTell_57 : decode cX11_canTell 57 = .ok (.iconst 0, 1) := by decide +kernel
theorem dX11_canTell_58 : decode cX11_canTell 58 = .ok (.ireturn, 1) := by decide +kernel
theorem dX11_stateOf_0 : decode cX11_stateOf 0 = .ok (.aload_n 0, 1) := by decide +kernel
theorem dX11_stateOf_1 : decode cX11_stateOf 1 = .ok (.getfield 125, 3) := by decide +kernel
theorem dX11_stateOf_4 : decode cX11_stateOf 4 = .ok (.iload_n 1, 1) := by decide +kernel
theorem dX11_stateOf_5 : decode cX11_stateOf 5 = .ok (.aaload, 1) := by decide +kernel
theorem dX11_stateOf_6 : decode cX11_stateOf 6 = .ok (.astore_n 3, 1) := by decide +kernel
theorem dX11_stateOf_7 : decode cX11_stateOf 7 = .ok (.iload_n 2, 1) := by decide +kernel
theorem dX11_stateOf_8 : decode cX11_stateOf 8 = .ok (.tableswitch 60 2 5 #[32, 37, 42, 47], 32) := by decide +kernel
theorem dX11_stateOf_40 : decode cX11_stateOf 40 = .ok (.aload_n 3, 1) := by decide +kernel
theorem dX11_stateOf_41 : decode cX11_stateOf 41 = .ok (.getfield 147, 3) := by decide +kernel
theorem dX11_stateOf_44 : decode cX11_stateOf 44 = .ok (.ireturn, 1) := by decide +kernel
theorem dX11_stateOf_45 : decode cX11_stateOf 45 = .ok (.aload_n 3, 1) := by decide +kernel
theorem dX11_stateOf_46 : decode cX11_stateOf 46 = .ok (.getfield 153, 3) := by decide +kernel
theorem dX11_stateOf_49 : decode cX11_stateOf 49 = .ok (.ireturn, 1) := by decide +kernel
theorem dX11_stateOf_50 : decode cX11_stateOf 50 = .ok (.aload_n 3, 1) := by decide +kernel
theorem dX11_stateOf_51 : decode cX11_stateOf 51 = .ok (.getfield 245, 3) := by decide +kernel
theorem dX11_stateOf_54 : decode cX11_stateOf 54 = .ok (.ireturn, 1) := by decide +kernel
theorem dX11_stateOf_55 : decode cX11_stateOf 55 = .ok (.aload_n 3, 1) := by decide +kernel
theorem dX11_stateOf_56 : decode cX11_stateOf 56 = .ok (.getfield 176, 3) := by decide +kernel
theorem dX11_stateOf_59 : decode cX11_stateOf 59 = .ok (.ifCond .eq 7, 3) := by decide +kernel
theorem dX11_stateOf_62 : decode cX11_stateOf 62 = .ok (.iconst 1, 1) := by decide +kernel
theorem dX11_stateOf_63 : decode cX11_stateOf 63 = .ok (.goto 4, 3) := by decide +kernel
theorem dX11_stateOf_66 : decode cX11_stateOf 66 = .ok (.iconst 0, 1) := by decide +kernel
theorem dX11_stateOf_67 : decode cX11_stateOf 67 = .ok (.ireturn, 1) := by decide +kernel
theorem dX11_stateOf_68 : decode cX11_stateOf 68 = .ok (.aload_n 0, 1) := by decide +kernel
theorem dX11_stateOf_69 : decode cX11_stateOf 69 = .ok (.iload_n 1, 1) := by decide +kernel
theorem dX11_stateOf_70 : decode cX11_stateOf 70 = .ok (.invokevirtual 150, 3) := by decide +kernel
theorem dX11_stateOf_73 : decode cX11_stateOf 73 = .ok (.ireturn, 1) := by decide +kernel
theorem dX11_searched_0 : decode cX11_searched 0 = .ok (.aload_n 0, 1) := by decide +kernel
theorem dX11_searched_1 : decode cX11_searched 1 = .ok (.iload_n 1, 1) := by decide +kernel
theorem dX11_searched_2 : decode cX11_searched 2 = .ok (.invokevirtual 122, 3) := by decide +kernel
theorem dX11_searched_5 : decode cX11_searched 5 = .ok (.ifCond .eq 13, 3) := by decide +kernel
theorem dX11_searched_8 : decode cX11_searched 8 = .ok (.iload_n 2, 1) := by decide +kernel
theorem dX11_searched_9 : decode cX11_searched 9 = .ok (.iconst (-1), 1) := by decide +kernel
theorem dX11_searched_10 : decode cX11_searched 10 = .ok (.bipush 7, 2) := by decide +kernel
theorem dX11_searched_12 : decode cX11_searched 12 = .ok (.invokestatic 79, 3) := by decide +kernel
theorem dX11_searched_15 : decode cX11_searched 15 = .ok (.ifCond .ne 9, 3) := by decide +kernel
theorem dX11_searched_18 : decode cX11_searched 18 = .ok (.aload_n 0, 1) := by decide +kernel
theorem dX11_searched_19 : decode cX11_searched 19 = .ok (.iconst 1, 1) := by decide +kernel
theorem dX11_searched_20 : decode cX11_searched 20 = .ok (.invokevirtual 83, 3) := by decide +kernel
theorem dX11_searched_23 : decode cX11_searched 23 = .ok (.ireturn, 1) := by decide +kernel
theorem dX11_searched_24 : decode cX11_searched 24 = .ok (.aload_n 0, 1) := by decide +kernel
theorem dX11_searched_25 : decode cX11_searched 25 = .ok (.getfield 10, 3) := by decide +kernel
theorem dX11_searched_28 : decode cX11_searched 28 = .ok (.getfield 114, 3) := by decide +kernel
theorem dX11_searched_31 : decode cX11_searched 31 = .ok (.getfield 125, 3) := by decide +kernel
theorem dX11_searched_34 : decode cX11_searched 34 = .ok (.iload_n 1, 1) := by decide +kernel
theorem dX11_searched_35 : decode cX11_searched 35 = .ok (.aaload, 1) := by decide +kernel
theorem dX11_searched_36 : decode cX11_searched 36 = .ok (.astore 4, 2) := by decide +kernel
theorem dX11_searched_38 : decode cX11_searched 38 = .ok (.aload 4, 2) := by decide +kernel
theorem dX11_searched_40 : decode cX11_searched 40 = .ok (.getfield 176, 3) := by decide +kernel
theorem dX11_searched_43 : decode cX11_searched 43 = .ok (.ifCond .eq 9, 3) := by decide +kernel
theorem dX11_searched_46 : decode cX11_searched 46 = .ok (.aload_n 0, 1) := by decide +kernel
theorem dX11_searched_47 : decode cX11_searched 47 = .ok (.iconst 3, 1) := by decide +kernel
theorem dX11_searched_48 : decode cX11_searched 48 = .ok (.invokevirtual 83, 3) := by decide +kernel
theorem dX11_searched_51 : decode cX11_searched 51 = .ok (.ireturn, 1) := by decide +kernel
theorem dX11_searched_52 : decode cX11_searched 52 = .ok (.aload_n 0, 1) := by decide +kernel
theorem dX11_searched_53 : decode cX11_searched 53 = .ok (.getfield 41, 3) := by decide +kernel
theorem dX11_searched_56 : decode cX11_searched 56 = .ok (.aload 4, 2) := by decide +kernel
theorem dX11_searched_58 : decode cX11_searched 58 = .ok (.aload_n 0, 1) := by decide +kernel
theorem dX11_searched_59 : decode cX11_searched 59 = .ok (.getfield 10, 3) := by decide +kernel
theorem dX11_searched_62 : decode cX11_searched 62 = .ok (.getfield 114, 3) := by decide +kernel
theorem dX11_searched_65 : decode cX11_searched 65 = .ok (.iload_n 1, 1) := by decide +kernel
theorem dX11_searched_66 : decode cX11_searched 66 = .ok (.invokevirtual 339, 3) := by decide +kernel
theorem dX11_searched_69 : decode cX11_searched 69 = .ok (.aload_n 0, 1) := by decide +kernel
theorem dX11_searched_70 : decode cX11_searched 70 = .ok (.getfield 10, 3) := by decide +kernel
theorem dX11_searched_73 : decode cX11_searched 73 = .ok (.getfield 114, 3) := by decide +kernel
theorem dX11_searched_76 : decode cX11_searched 76 = .ok (.getfield 195, 3) := by decide +kernel
theorem dX11_searched_79 : decode cX11_searched 79 = .ok (.iload_n 3, 1) := by decide +kernel
theorem dX11_searched_80 : decode cX11_searched 80 = .ok (.invokevirtual 342, 3) := by decide +kernel
theorem dX11_searched_83 : decode cX11_searched 83 = .ok (.aload_n 0, 1) := by decide +kernel
theorem dX11_searched_84 : decode cX11_searched 84 = .ok (.getfield 41, 3) := by decide +kernel
theorem dX11_searched_87 : decode cX11_searched 87 = .ok (.getfield 345, 3) := by decide +kernel
theorem dX11_searched_90 : decode cX11_searched 90 = .ok (.ifCond .lt 14, 3) := by decide +kernel
theorem dX11_searched_93 : decode cX11_searched 93 = .ok (.iload_n 2, 1) := by decide +kernel
theorem dX11_searched_94 : decode cX11_searched 94 = .ok (.aload_n 0, 1) := by decide +kernel
theorem dX11_searched_95 : decode cX11_searched 95 = .ok (.getfield 41, 3) := by decide +kernel
theorem dX11_searched_98 : decode cX11_searched 98 = .ok (.getfield 345, 3) := by decide +kernel
theorem dX11_searched_101 : decode cX11_searched 101 = .ok (.if_icmp .lt 9, 3) := by decide +kernel
theorem dX11_searched_104 : decode cX11_searched 104 = .ok (.aload_n 0, 1) := by decide +kernel
theorem dX11_searched_105 : decode cX11_searched 105 = .ok (.iconst 2, 1) := by decide +kernel
theorem dX11_searched_106 : decode cX11_searched 106 = .ok (.invokevirtual 83, 3) := by decide +kernel
theorem dX11_searched_109 : decode cX11_searched 109 = .ok (.ireturn, 1) := by decide +kernel
theorem dX11_searched_110 : decode cX11_searched 110 = .ok (.iload_n 2, 1) := by decide +kernel
theorem dX11_searched_111 : decode cX11_searched 111 = .ok (.ifCond .ge 13, 3) := by decide +kernel
theorem dX11_searched_114 : decode cX11_searched 114 = .ok (.aload_n 0, 1) := by decide +kernel
theorem dX11_searched_115 : decode cX11_searched 115 = .ok (.getfield 41, 3) := by decide +kernel
theorem dX11_searched_118 : decode cX11_searched 118 = .ok (.getfield 345, 3) := by decide +kernel
theorem dX11_searched_121 : decode cX11_searched 121 = .ok (.goto 12, 3) := by decide +kernel
theorem dX11_searched_124 : decode cX11_searched 124 = .ok (.aload_n 0, 1) := by decide +kernel
theorem dX11_searched_125 : decode cX11_searched 125 = .ok (.getfield 41, 3) := by decide +kernel
theorem dX11_searched_128 : decode cX11_searched 128 = .ok (.getfield 348, 3) := by decide +kernel
theorem dX11_searched_131 : decode cX11_searched 131 = .ok (.iload_n 2, 1) := by decide +kernel
theorem dX11_searched_132 : decode cX11_searched 132 = .ok (.iaload, 1) := by decide +kernel
theorem dX11_searched_133 : decode cX11_searched 133 = .ok (.ireturn, 1) := by decide +kernel
theorem dX11_weeksUntilFree_0 : decode cX11_weeksUntilFree 0 = .ok (.aload_n 0, 1) := by decide +kernel
theorem dX11_weeksUntilFree_1 : decode cX11_weeksUntilFree 1 = .ok (.getfield 32, 3) := by decide +kernel
theorem dX11_weeksUntilFree_4 : decode cX11_weeksUntilFree 4 = .ok (.aload_n 0, 1) := by decide +kernel
theorem dX11_weeksUntilFree_5 : decode cX11_weeksUntilFree 5 = .ok (.getfield 10, 3) := by decide +kernel
theorem dX11_weeksUntilFree_8 : decode cX11_weeksUntilFree 8 = .ok (.getfield 114, 3) := by decide +kernel
theorem dX11_weeksUntilFree_11 : decode cX11_weeksUntilFree 11 = .ok (.invokevirtual 206, 3) := by decide +kernel
theorem dX11_weeksUntilFree_14 : decode cX11_weeksUntilFree 14 = .ok (.iconst 0, 1) := by decide +kernel
theorem dX11_weeksUntilFree_15 : decode cX11_weeksUntilFree 15 = .ok (.istore_n 3, 1) := by decide +kernel
theorem dX11_weeksUntilFree_16 : decode cX11_weeksUntilFree 16 = .ok (.iload_n 3, 1) := by decide +kernel
theorem dX11_weeksUntilFree_17 : decode cX11_weeksUntilFree 17 = .ok (.bipush 60, 2) := by decide +kernel
theorem dX11_weeksUntilFree_19 : decode cX11_weeksUntilFree 19 = .ok (.if_icmp .gt 35, 3) := by decide +kernel
theorem dX11_weeksUntilFree_22 : decode cX11_weeksUntilFree 22 = .ok (.aload_n 0, 1) := by decide +kernel
theorem dX11_weeksUntilFree_23 : decode cX11_weeksUntilFree 23 = .ok (.getfield 32, 3) := by decide +kernel
theorem dX11_weeksUntilFree_26 : decode cX11_weeksUntilFree 26 = .ok (.getfield 125, 3) := by decide +kernel
theorem dX11_weeksUntilFree_29 : decode cX11_weeksUntilFree 29 = .ok (.iload_n 1, 1) := by decide +kernel
theorem dX11_weeksUntilFree_30 : decode cX11_weeksUntilFree 30 = .ok (.aaload, 1) := by decide +kernel
theorem dX11_weeksUntilFree_31 : decode cX11_weeksUntilFree 31 = .ok (.getfield 147, 3) := by decide +kernel
theorem dX11_weeksUntilFree_34 : decode cX11_weeksUntilFree 34 = .ok (.ifCond .ne 5, 3) := by decide +kernel
theorem dX11_weeksUntilFree_37 : decode cX11_weeksUntilFree 37 = .ok (.iload_n 3, 1) := by decide +kernel
theorem dX11_weeksUntilFree_38 : decode cX11_weeksUntilFree 38 = .ok (.ireturn, 1) := by decide +kernel
theorem dX11_weeksUntilFree_39 : decode cX11_weeksUntilFree 39 = .ok (.aload_n 0, 1) := by decide +kernel
theorem dX11_weeksUntilFree_40 : decode cX11_weeksUntilFree 40 = .ok (.getfield 32, 3) := by decide +kernel
theorem dX11_weeksUntilFree_43 : decode cX11_weeksUntilFree 43 = .ok (.iload_n 1, 1) := by decide +kernel
theorem dX11_weeksUntilFree_44 : decode cX11_weeksUntilFree 44 = .ok (.iload_n 2, 1) := by decide +kernel
theorem dX11_weeksUntilFree_45 : decode cX11_weeksUntilFree 45 = .ok (.invokevirtual 351, 3) := by decide +kernel
theorem dX11_weeksUntilFree_48 : decode cX11_weeksUntilFree 48 = .ok (.iinc 3 1, 3) := by decide +kernel
theorem dX11_weeksUntilFree_51 : decode cX11_weeksUntilFree 51 = .ok (.goto (-35), 3) := by decide +kernel
theorem dX11_weeksUntilFree_54 : decode cX11_weeksUntilFree 54 = .ok (.iconst (-1), 1) := by decide +kernel
theorem dX11_weeksUntilFree_55 : decode cX11_weeksUntilFree 55 = .ok (.ireturn, 1) := by decide +kernel
theorem dX11_bestRate_0 : decode cX11_bestRate 0 = .ok (.iconst (-1), 1) := by decide +kernel
theorem dX11_bestRate_1 : decode cX11_bestRate 1 = .ok (.istore_n 2, 1) := by decide +kernel
theorem dX11_bestRate_2 : decode cX11_bestRate 2 = .ok (.bipush 61, 2) := by decide +kernel
theorem dX11_bestRate_4 : decode cX11_bestRate 4 = .ok (.istore_n 3, 1) := by decide +kernel
theorem dX11_bestRate_5 : decode cX11_bestRate 5 = .ok (.iconst 1, 1) := by decide +kernel
theorem dX11_bestRate_6 : decode cX11_bestRate 6 = .ok (.istore 4, 2) := by decide +kernel
theorem dX11_bestRate_8 : decode cX11_bestRate 8 = .ok (.iload 4, 2) := by decide +kernel
theorem dX11_bestRate_10 : decode cX11_bestRate 10 = .ok (.iconst 4, 1) := by decide +kernel
theorem dX11_bestRate_11 : decode cX11_bestRate 11 = .ok (.if_icmp .gt 35, 3) := by decide +kernel
theorem dX11_bestRate_14 : decode cX11_bestRate 14 = .ok (.aload_n 0, 1) := by decide +kernel
theorem dX11_bestRate_15 : decode cX11_bestRate 15 = .ok (.iload_n 1, 1) := by decide +kernel
theorem dX11_bestRate_16 : decode cX11_bestRate 16 = .ok (.iload 4, 2) := by decide +kernel
theorem dX11_bestRate_18 : decode cX11_bestRate 18 = .ok (.invokevirtual 251, 3) := by decide +kernel
theorem dX11_bestRate_21 : decode cX11_bestRate 21 = .ok (.istore 5, 2) := by decide +kernel
theorem dX11_bestRate_23 : decode cX11_bestRate 23 = .ok (.iload 5, 2) := by decide +kernel
theorem dX11_bestRate_25 : decode cX11_bestRate 25 = .ok (.ifCond .lt 15, 3) := by decide +kernel
theorem dX11_bestRate_28 : decode cX11_bestRate 28 = .ok (.iload 5, 2) := by decide +kernel
theorem dX11_bestRate_30 : decode cX11_bestRate 30 = .ok (.iload_n 3, 1) := by decide +kernel
theorem dX11_bestRate_31 : decode cX11_bestRate 31 = .ok (.if_icmp .ge 9, 3) := by decide +kernel
theorem dX11_bestRate_34 : decode cX11_bestRate 34 = .ok (.iload 5, 2) := by decide +kernel
theorem dX11_bestRate_36 : decode cX11_bestRate 36 = .ok (.istore_n 3, 1) := by decide +kernel
theorem dX11_bestRate_37 : decode cX11_bestRate 37 = .ok (.iload 4, 2) := by decide +kernel
theorem dX11_bestRate_39 : decode cX11_bestRate 39 = .ok (.istore_n 2, 1) := by decide +kernel
theorem dX11_bestRate_40 : decode cX11_bestRate 40 = .ok (.iinc 4 1, 3) := by decide +kernel
theorem dX11_bestRate_43 : decode cX11_bestRate 43 = .ok (.goto (-35), 3) := by decide +kernel
theorem dX11_bestRate_46 : decode cX11_bestRate 46 = .ok (.iload_n 2, 1) := by decide +kernel
theorem dX11_bestRate_47 : decode cX11_bestRate 47 = .ok (.ireturn, 1) := by decide +kernel
theorem dX11_wouldTell_0 : decode cX11_wouldTell 0 = .ok (.aload_n 0, 1) := by decide +kernel
theorem dX11_wouldTell_1 : decode cX11_wouldTell 1 = .ok (.getfield 32, 3) := by decide +kernel
theorem dX11_wouldTell_4 : decode cX11_wouldTell 4 = .ok (.aload_n 0, 1) := by decide +kernel
theorem dX11_wouldTell_5 : decode cX11_wouldTell 5 = .ok (.getfield 10, 3) := by decide +kernel
theorem dX11_wouldTell_8 : decode cX11_wouldTell 8 = .ok (.getfield 114, 3) := by decide +kernel
theorem dX11_wouldTell_11 : decode cX11_wouldTell 11 = .ok (.invokevirtual 206, 3) := by decide +kernel
theorem dX11_wouldTell_14 : decode cX11_wouldTell 14 = .ok (.aload_n 0, 1) := by decide +kernel
theorem dX11_wouldTell_15 : decode cX11_wouldTell 15 = .ok (.getfield 32, 3) := by decide +kernel
theorem dX11_wouldTell_18 : decode cX11_wouldTell 18 = .ok (.getfield 125, 3) := by decide +kernel
theorem dX11_wouldTell_21 : decode cX11_wouldTell 21 = .ok (.iload_n 1, 1) := by decide +kernel
theorem dX11_wouldTell_22 : decode cX11_wouldTell 22 = .ok (.aaload, 1) := by decide +kernel
theorem dX11_wouldTell_23 : decode cX11_wouldTell 23 = .ok (.astore 4, 2) := by decide +kernel
theorem dX11_wouldTell_25 : decode cX11_wouldTell 25 = .ok (.aload 4, 2) := by decide +kernel
theorem dX11_wouldTell_27 : decode cX11_wouldTell 27 = .ok (.getfield 153, 3) := by decide +kernel
theorem dX11_wouldTell_30 : decode cX11_wouldTell 30 = .ok (.istore 5, 2) := by decide +kernel
theorem dX11_wouldTell_32 : decode cX11_wouldTell 32 = .ok (.aload 4, 2) := by decide +kernel
theorem dX11_wouldTell_34 : decode cX11_wouldTell 34 = .ok (.iload_n 2, 1) := by decide +kernel
theorem dX11_wouldTell_35 : decode cX11_wouldTell 35 = .ok (.putfield 129, 3) := by decide +kernel
theorem dX11_wouldTell_38 : decode cX11_wouldTell 38 = .ok (.aload_n 0, 1) := by decide +kernel
theorem dX11_wouldTell_39 : decode cX11_wouldTell 39 = .ok (.getfield 32, 3) := by decide +kernel
theorem dX11_wouldTell_42 : decode cX11_wouldTell 42 = .ok (.bipush 60, 2) := by decide +kernel
theorem dX11_wouldTell_44 : decode cX11_wouldTell 44 = .ok (.invokevirtual 198, 3) := by decide +kernel
theorem dX11_wouldTell_47 : decode cX11_wouldTell 47 = .ok (.aload 4, 2) := by decide +kernel
theorem dX11_wouldTell_49 : decode cX11_wouldTell 49 = .ok (.iload 5, 2) := by decide +kernel
theorem dX11_wouldTell_51 : decode cX11_wouldTell 51 = .ok (.aload_n 3, 1) := by decide +kernel
theorem dX11_wouldTell_52 : decode cX11_wouldTell 52 = .ok (.invokevirtual 319, 3) := by decide +kernel
theorem dX11_wouldTell_55 : decode cX11_wouldTell 55 = .ok (.aload_n 3, 1) := by decide +kernel
theorem dX11_wouldTell_56 : decode cX11_wouldTell 56 = .ok (.getfield 300, 3) := by decide +kernel
theorem dX11_wouldTell_59 : decode cX11_wouldTell 59 = .ok (.if_icmp .ne 7, 3) := by decide +kernel
theorem dX11_wouldTell_62 : decode cX11_wouldTell 62 = .ok (.iconst 1, 1) := by decide +kernel
theorem dX11_wouldTell_63 : decode cX11_wouldTell 63 = .ok (.goto 4, 3) := by decide +kernel
theorem dX11_wouldTell_66 : decode cX11_wouldTell 66 = .ok (.iconst 0, 1) := by decide +kernel
theorem dX11_wouldTell_67 : decode cX11_wouldTell 67 = .ok (.ireturn, 1) := by decide +kernel
theorem dX12_init_0 : decode cX12_init 0 = .ok (.aload_n 0, 1) := by decide +kernel
theorem dX12_init_1 : decode cX12_init 1 = .ok (.invokespecial 1, 3) := by decide +kernel
theorem dX12_init_4 : decode cX12_init 4 = .ok (.aload_n 0, 1) := by decide +kernel
theorem dX12_init_5 : decode cX12_init 5 = .ok (.sipush 342, 3) := by decide +kernel
theorem dX12_init_8 : decode cX12_init 8 = .ok (.newarray .int, 2) := by decide +kernel
theorem dX12_init_10 : decode cX12_init 10 = .ok (.putfield 7, 3) := by decide +kernel
theorem dX12_init_13 : decode cX12_init 13 = .ok (.aload_n 0, 1) := by decide +kernel
theorem dX12_init_14 : decode cX12_init 14 = .ok (.sipush 342, 3) := by decide +kernel
theorem dX12_init_17 : decode cX12_init 17 = .ok (.newarray .int, 2) := by decide +kernel
theorem dX12_init_19 : decode cX12_init 19 = .ok (.putfield 13, 3) := by decide +kernel
theorem dX12_init_22 : decode cX12_init 22 = .ok (.aload_n 0, 1) := by decide +kernel
theorem dX12_init_23 : decode cX12_init 23 = .ok (.sipush 170, 3) := by decide +kernel
theorem dX12_init_26 : decode cX12_init 26 = .ok (.newarray .int, 2) := by decide +kernel
theorem dX12_init_28 : decode cX12_init 28 = .ok (.putfield 16, 3) := by decide +kernel
theorem dX12_init_31 : decode cX12_init 31 = .ok (.aload_n 0, 1) := by decide +kernel
theorem dX12_init_32 : decode cX12_init 32 = .ok (.bipush 6, 2) := by decide +kernel
theorem dX12_init_34 : decode cX12_init 34 = .ok (.newarray .int, 2) := by decide +kernel
theorem dX12_init_36 : decode cX12_init 36 = .ok (.putfield 19, 3) := by decide +kernel
theorem dX12_init_39 : decode cX12_init 39 = .ok (.aload_n 0, 1) := by decide +kernel
theorem dX12_init_40 : decode cX12_init 40 = .ok (.iconst 3, 1) := by decide +kernel
theorem dX12_init_41 : decode cX12_init 41 = .ok (.newarray .int, 2) := by decide +kernel
theorem dX12_init_43 : decode cX12_init 43 = .ok (.putfield 22, 3) := by decide +kernel
theorem dX12_init_46 : decode cX12_init 46 = .ok (.aload_n 0, 1) := by decide +kernel
theorem dX12_init_47 : decode cX12_init 47 = .ok (.iconst (-1), 1) := by decide +kernel
theorem dX12_init_48 : decode cX12_init 48 = .ok (.putfield 25, 3) := by decide +kernel
theorem dX12_init_51 : decode cX12_init 51 = .ok (.aload_n 0, 1) := by decide +kernel
theorem dX12_init_52 : decode cX12_init 52 = .ok (.bipush 9, 2) := by decide +kernel
theorem dX12_init_54 : decode cX12_init 54 = .ok (.newarray .int, 2) := by decide +kernel
theorem dX12_init_56 : decode cX12_init 56 = .ok (.putfield 29, 3) := by decide +kernel
theorem dX12_init_59 : decode cX12_init 59 = .ok (.aload_n 0, 1) := by decide +kernel
theorem dX12_init_60 : decode cX12_init 60 = .ok (.bipush 9, 2) := by decide +kernel
theorem dX12_init_62 : decode cX12_init 62 = .ok (.newarray .int, 2) := by decide +kernel
theorem dX12_init_64 : decode cX12_init 64 = .ok (.putfield 32, 3) := by decide +kernel
theorem dX12_init_67 : decode cX12_init 67 = .ok (.aload_n 0, 1) := by decide +kernel
theorem dX12_init_68 : decode cX12_init 68 = .ok (.bipush 9, 2) := by decide +kernel
theorem dX12_init_70 : decode cX12_init 70 = .ok (.newarray .int, 2) := by decide +kernel
theorem dX12_init_72 : decode cX12_init 72 = .ok (.putfield 35, 3) := by decide +kernel
theorem dX12_init_75 : decode cX12_init 75 = .ok (.aload_n 0, 1) := by decide +kernel
theorem dX12_init_76 : decode cX12_init 76 = .ok (.iconst 5, 1) := by decide +kernel
theorem dX12_init_77 : decode cX12_init 77 = .ok (.newarray .int, 2) := by decide +kernel
theorem dX12_init_79 : decode cX12_init 79 = .ok (.putfield 38, 3) := by decide +kernel
theorem dX12_init_82 : decode cX12_init 82 = .ok (.aload_n 0, 1) := by decide +kernel
theorem dX12_init_83 : decode cX12_init 83 = .ok (.bipush 40, 2) := by decide +kernel
theorem dX12_init_85 : decode cX12_init 85 = .ok (.newarray .int, 2) := by decide +kernel
theorem dX12_init_87 : decode cX12_init 87 = .ok (.putfield 41, 3) := by decide +kernel
theorem dX12_init_90 : decode cX12_init 90 = .ok (.aload_n 0, 1) := by decide +kernel
theorem dX12_init_91 : decode cX12_init 91 = .ok (.iconst 4, 1) := by decide +kernel
theorem dX12_init_92 : decode cX12_init 92 = .ok (.newarray .int, 2) := by decide +kernel
theorem dX12_init_94 : decode cX12_init 94 = .ok (.putfield 44, 3) := by decide +kernel
theorem dX12_init_97 : decode cX12_init 97 = .ok (.aload_n 0, 1) := by decide +kernel
theorem dX12_init_98 : decode cX12_init 98 = .ok (.iconst 4, 1) := by decide +kernel
theorem dX12_init_99 : decode cX12_init 99 = .ok (.newarray .int, 2) := by decide +kernel
theorem dX12_init_101 : decode cX12_init 101 = .ok (.putfield 47, 3) := by decide +kernel
theorem dX12_init_104 : decode cX12_init 104 = .ok (.aload_n 0, 1) := by decide +kernel
theorem dX12_init_105 : decode cX12_init 105 = .ok (.sipush 160, 3) := by decide +kernel
theorem dX12_init_108 : decode cX12_init 108 = .ok (.newarray .int, 2) := by decide +kernel
theorem dX12_init_110 : decode cX12_init 110 = .ok (.putfield 50, 3) := by decide +kernel
theorem dX12_init_113 : decode cX12_init 113 = .ok (.aload_n 0, 1) := by decide +kernel
theorem dX12_init_114 : decode cX12_init 114 = .ok (.bipush 40, 2) := by decide +kernel
theorem dX12_init_116 : decode cX12_init 116 = .ok (.newarray .int, 2) := by decide +kernel
theorem dX12_init_118 : decode cX12_init 118 = .ok (.putfield 53, 3) := by decide +kernel
theorem dX12_init_121 : decode cX12_init 121 = .ok (.aload_n 0, 1) := by decide +kernel
theorem dX12_init_122 : decode cX12_init 122 = .ok (.getfield 7, 3) := by decide +kernel
theorem dX12_init_125 : decode cX12_init 125 = .ok (.iconst 4, 1) := by decide +kernel
theorem dX12_init_126 : decode cX12_init 126 = .ok (.iconst 1, 1) := by decide +kernel
theorem dX12_init_127 : decode cX12_init 127 = .ok (.iastore, 1) := by decide +kernel
theorem dX12_init_128 : decode cX12_init 128 = .ok (.return_, 1) := by decide +kernel
theorem dX12_finds_0 : decode cX12_finds 0 = .ok (.aload_n 0, 1) := by decide +kernel
theorem dX12_finds_1 : decode cX12_finds 1 = .ok (.getfield 19, 3) := by decide +kernel
theorem dX12_finds_4 : decode cX12_finds 4 = .ok (.iload_n 1, 1) := by decide +kernel
theorem dX12_finds_5 : decode cX12_finds 5 = .ok (.dup2, 1) := by decide +kernel
theorem dX12_finds_6 : decode cX12_finds 6 = .ok (.iaload, 1) := by decide +kernel
theorem dX12_finds_7 : decode cX12_finds 7 = .ok (.iconst 1, 1) := by decide +kernel
theorem dX12_finds_8 : decode cX12_finds 8 = .ok (.iadd, 1) := by decide +kernel
theorem dX12_finds_9 : decode cX12_finds 9 = .ok (.iastore, 1) := by decide +kernel
theorem dX12_finds_10 : decode cX12_finds 10 = .ok (.ldc 56, 2) := by decide +kernel
theorem dX12_finds_12 : decode cX12_finds 12 = .ok (.iload_n 1, 1) := by decide +kernel
theorem dX12_finds_13 : decode cX12_finds 13 = .ok (.isub, 1) := by decide +kernel
theorem dX12_finds_14 : decode cX12_finds 14 = .ok (.ireturn, 1) := by decide +kernel
theorem dX12_in_0 : decode cX12_in 0 = .ok (.lload_n 0, 1) := by decide +kernel
theorem dX12_in_1 : decode cX12_in 1 = .ok (.lload_n 2, 1) := by decide +kernel
theorem dX12_in_2 : decode cX12_in 2 = .ok (.lcmp, 1) := by decide +kernel
theorem dX12_in_3 : decode cX12_in 3 = .ok (.ifCond .lt 14, 3) := by decide +kernel
theorem dX12_in_6 : decode cX12_in 6 = .ok (.lload_n 0, 1) := by decide +kernel
theorem dX12_in_7 : decode cX12_in 7 = .ok (.lload 4, 2) := by decide +kernel
theorem dX12_in_9 : decode cX12_in 9 = .ok (.lcmp, 1) := by decide +kernel
theorem dX12_in_10 : decode cX12_in 10 = .ok (.ifCond .gt 7, 3) := by decide +kernel
theorem dX12_in_13 : decode cX12_in 13 = .ok (.iconst 1, 1) := by decide +kernel
theorem dX12_in_14 : decode cX12_in 14 = .ok (.goto 4, 3) := by decide +kernel
theorem dX12_in_17 : decode cX12_in 17 = .ok (.iconst 0, 1) := by decide +kernel
theorem dX12_in_18 : decode cX12_in 18 = .ok (.ireturn, 1) := by decide +kernel
theorem dX12_held_0 : decode cX12_held 0 = .ok (.iload_n 0, 1) := by decide +kernel
theorem dX12_held_1 : decode cX12_held 1 = .ok (.iload_n 1, 1) := by decide +kernel
theorem dX12_held_2 : decode cX12_held 2 = .ok (.if_icmp .ge 7, 3) := by decide +kernel
theorem dX12_held_5 : decode cX12_held 5 = .ok (.iload_n 1, 1) := by decide +kernel
theorem dX12_held_6 : decode cX12_held 6 = .ok (.goto 13, 3) := by decide +kernel
theorem dX12_held_9 : decode cX12_held 9 = .ok (.iload_n 0, 1) := by decide +kernel
theorem dX12_held_10 : decode cX12_held 10 = .ok (.iload_n 2, 1) := by decide +kernel
theorem dX12_held_11 : decode cX12_held 11 = .ok (.if_icmp .le 7, 3) := by decide +kernel
theorem dX12_held_14 : decode cX12_held 14 = .ok (.iload_n 2, 1) := by decide +kernel
theorem dX12_held_15 : decode cX12_held 15 = .ok (.goto 4, 3) := by decide +kernel
theorem dX12_held_18 : decode cX12_held 18 = .ok (.iload_n 0, 1) := by decide +kernel
theorem dX12_held_19 : decode cX12_held 19 = .ok (.ireturn, 1) := by decide +kernel
theorem dX12_isFact_0 : decode cX12_isFact 0 = .ok (.iload_n 1, 1) := by decide +kernel
theorem dX12_isFact_1 : decode cX12_isFact 1 = .ok (.i2l, 1) := by decide +kernel
theorem dX12_isFact_2 : decode cX12_isFact 2 = .ok (.lconst 0, 1) := by decide +kernel
theorem dX12_isFact_3 : decode cX12_isFact 3 = .ok (.aload_n 0, 1) := by decide +kernel
theorem dX12_isFact_4 : decode cX12_isFact 4 = .ok (.getfield 7, 3) := by decide +kernel
theorem dX12_isFact_7 : decode cX12_isFact 7 = .ok (.iconst 0, 1) := by decide +kernel
theorem dX12_isFact_8 : decode cX12_isFact 8 = .ok (.iaload, 1) := by decide +kernel
theorem dX12_isFact_9 : decode cX12_isFact 9 = .ok (.iconst 1, 1) := by decide +kernel
theorem dX12_isFact_10 : decode cX12_isFact 10 = .ok (.isub, 1) := by decide +kernel
theorem dX12_isFact_11 : decode cX12_isFact 11 = .ok (.i2l, 1) := by decide +kernel
theorem dX12_isFact_12 : decode cX12_isFact 12 = .ok (.invokestatic 57, 3) := by decide +kernel
theorem dX12_isFact_15 : decode cX12_isFact 15 = .ok (.ireturn, 1) := by decide +kernel
theorem dX12_isDebtor_0 : decode cX12_isDebtor 0 = .ok (.iload_n 1, 1) := by decide +kernel
theorem dX12_isDebtor_1 : decode cX12_isDebtor 1 = .ok (.i2l, 1) := by decide +kernel
theorem dX12_isDebtor_2 : decode cX12_isDebtor 2 = .ok (.lconst 0, 1) := by decide +kernel
theorem dX12_isDebtor_3 : decode cX12_isDebtor 3 = .ok (.aload_n 0, 1) := by decide +kernel
theorem dX12_isDebtor_4 : decode cX12_isDebtor 4 = .ok (.getfield 7, 3) := by decide +kernel
theorem dX12_isDebtor_7 : decode cX12_isDebtor 7 = .ok (.iconst 1, 1) := by decide +kernel
theorem dX12_isDebtor_8 : decode cX12_isDebtor 8 = .ok (.iaload, 1) := by decide +kernel
theorem dX12_isDebtor_9 : decode cX12_isDebtor 9 = .ok (.iconst 1, 1) := by decide +kernel
theorem dX12_isDebtor_10 : decode cX12_isDebtor 10 = .ok (.isub, 1) := by decide +kernel
theorem dX12_isDebtor_11 : decode cX12_isDebtor 11 = .ok (.i2l, 1) := by decide +kernel
theorem dX12_isDebtor_12 : decode cX12_isDebtor 12 = .ok (.invokestatic 57, 3) := by decide +kernel
theorem dX12_isDebtor_15 : decode cX12_isDebtor 15 = .ok (.ireturn, 1) := by decide +kernel
theorem dX12_its_0 : decode cX12_its 0 = .ok (.aload_n 0, 1) := by decide +kernel
theorem dX12_its_1 : decode cX12_its 1 = .ok (.getfield 7, 3) := by decide +kernel
theorem dX12_its_4 : decode cX12_its 4 = .ok (.bipush 10, 2) := by decide +kernel
theorem dX12_its_6 : decode cX12_its 6 = .ok (.iconst 5, 1) := by decide +kernel
theorem dX12_its_7 : decode cX12_its 7 = .ok (.iload_n 1, 1) := by decide +kernel
theorem dX12_its_8 : decode cX12_its 8 = .ok (.imul, 1) := by decide +kernel
theorem dX12_its_9 : decode cX12_its 9 = .ok (.iadd, 1) := by decide +kernel
theorem dX12_its_10 : decode cX12_its 10 = .ok (.iload_n 2, 1) := by decide +kernel
theorem dX12_its_11 : decode cX12_its 11 = .ok (.iadd, 1) := by decide +kernel
theorem dX12_its_12 : decode cX12_its 12 = .ok (.iaload, 1) := by decide +kernel
theorem dX12_its_13 : decode cX12_its 13 = .ok (.ireturn, 1) := by decide +kernel
theorem dX12_puts_0 : decode cX12_puts 0 = .ok (.aload_n 0, 1) := by decide +kernel
theorem dX12_puts_1 : decode cX12_puts 1 = .ok (.getfield 7, 3) := by decide +kernel
theorem dX12_puts_4 : decode cX12_puts 4 = .ok (.bipush 10, 2) := by decide +kernel
theorem dX12_puts_6 : decode cX12_puts 6 = .ok (.iconst 5, 1) := by decide +kernel
theorem dX12_puts_7 : decode cX12_puts 7 = .ok (.iload_n 1, 1) := by decide +kernel
theorem dX12_puts_8 : decode cX12_puts 8 = .ok (.imul, 1) := by decide +kernel
theorem dX12_puts_9 : decode cX12_puts 9 = .ok (.iadd, 1) := by decide +kernel
theorem dX12_puts_10 : decode cX12_puts 10 = .ok (.iload_n 2, 1) := by decide +kernel
theorem dX12_puts_11 : decode cX12_puts 11 = .ok (.iadd, 1) := by decide +kernel
theorem dX12_puts_12 : decode cX12_puts 12 = .ok (.iload_n 3, 1) := by decide +kernel
theorem dX12_puts_13 : decode cX12_puts 13 = .ok (.iastore, 1) := by decide +kernel
theorem dX12_puts_14 : decode cX12_puts 14 = .ok (.return_, 1) := by decide +kernel
theorem dX12_of_0 : decode cX12_of 0 = .ok (.aload_n 0, 1) := by decide +kernel
theorem dX12_of_1 : decode cX12_of 1 = .ok (.getfield 7, 3) := by decide +kernel
theorem dX12_of_4 : decode cX12_of 4 = .ok (.bipush 50, 2) := by decide +kernel
theorem dX12_of_6 : decode cX12_of 6 = .ok (.bipush 21, 2) := by decide +kernel
theorem dX12_of_8 : decode cX12_of 8 = .ok (.iload_n 1, 1) := by decide +kernel
theorem dX12_of_9 : decode cX12_of 9 = .ok (.imul, 1) := by decide +kernel
theorem dX12_of_10 : decode cX12_of 10 = .ok (.iadd, 1) := by decide +kernel
theorem dX12_of_11 : decode cX12_of 11 = .ok (.iload_n 2, 1) := by decide +kernel
theorem dX12_of_12 : decode cX12_of 12 = .ok (.iadd, 1) := by decide +kernel
theorem dX12_of_13 : decode cX12_of 13 = .ok (.iaload, 1) := by decide +kernel
theorem dX12_of_14 : decode cX12_of 14 = .ok (.ireturn, 1) := by decide +kernel
theorem dX12_sets_0 : decode cX12_sets 0 = .ok (.aload_n 0, 1) := by decide +kernel
theorem dX12_sets_1 : decode cX12_sets 1 = .ok (.getfield 7, 3) := by decide +kernel
theorem dX12_sets_4 : decode cX12_sets 4 = .ok (.bipush 50, 2) := by decide +kernel
theorem dX12_sets_6 : decode cX12_sets 6 = .ok (.bipush 21, 2) := by decide +kernel
theorem dX12_sets_8 : decode cX12_sets 8 = .ok (.iload_n 1, 1) := by decide +kernel
theorem dX12_sets_9 : decode cX12_sets 9 = .ok (.imul, 1) := by decide +kernel
theorem dX12_sets_10 : decode cX12_sets 10 = .ok (.iadd, 1) := by decide +kernel
theorem dX12_sets_11 : decode cX12_sets 11 = .ok (.iload_n 2, 1) := by decide +kernel
theorem dX12_sets_12 : decode cX12_sets 12 = .ok (.iadd, 1) := by decide +kernel
theorem dX12_sets_13 : decode cX12_sets 13 = .ok (.iload_n 3, 1) := by decide +kernel
theorem dX12_sets_14 : decode cX12_sets 14 = .ok (.iastore, 1) := by decide +kernel
theorem dX12_sets_15 : decode cX12_sets 15 = .ok (.return_, 1) := by decide +kernel
theorem dX12_ones_0 : decode cX12_ones 0 = .ok (.iconst 0, 1) := by decide +kernel
theorem dX12_ones_1 : decode cX12_ones 1 = .ok (.istore_n 1, 1) := by decide +kernel
theorem dX12_ones_2 : decode cX12_ones 2 = .ok (.iconst 0, 1) := by decide +kernel
theorem dX12_ones_3 : decode cX12_ones 3 = .ok (.istore_n 2, 1) := by decide +kernel
theorem dX12_ones_4 : decode cX12_ones 4 = .ok (.iload_n 2, 1) := by decide +kernel
theorem dX12_ones_5 : decode cX12_ones 5 = .ok (.bipush 8, 2) := by decide +kernel
theorem dX12_ones_7 : decode cX12_ones 7 = .ok (.if_icmp .ge 17, 3) := by decide +kernel
theorem dX12_ones_10 : decode cX12_ones 10 = .ok (.iload_n 1, 1) := by decide +kernel
theorem dX12_ones_11 : decode cX12_ones 11 = .ok (.iload_n 0, 1) := by decide +kernel
theorem dX12_ones_12 : decode cX12_ones 12 = .ok (.iload_n 2, 1) := by decide +kernel
theorem dX12_ones_13 : decode cX12_ones 13 = .ok (.ishr, 1) := by decide +kernel
theorem dX12_ones_14 : decode cX12_ones 14 = .ok (.iconst 1, 1) := by decide +kernel
theorem dX12_ones_15 : decode cX12_ones 15 = .ok (.iand, 1) := by decide +kernel
theorem dX12_ones_16 : decode cX12_ones 16 = .ok (.iadd, 1) := by decide +kernel
theorem dX12_ones_17 : decode cX12_ones 17 = .ok (.istore_n 1, 1) := by decide +kernel
theorem dX12_ones_18 : decode cX12_ones 18 = .ok (.iinc 2 1, 3) := by decide +kernel
theorem dX12_ones_21 : decode cX12_ones 21 = .ok (.goto (-17), 3) := by decide +kernel
theorem dX12_ones_24 : decode cX12_ones 24 = .ok (.iload_n 1, 1) := by decide +kernel
theorem dX12_ones_25 : decode cX12_ones 25 = .ok (.ireturn, 1) := by decide +kernel
theorem dX12_keepAside_0 : decode cX12_keepAside 0 = .ok (.iconst 0, 1) := by decide +kernel
theorem dX12_keepAside_1 : decode cX12_keepAside 1 = .ok (.istore_n 1, 1) := by decide +kernel
theorem dX12_keepAside_2 : decode cX12_keepAside 2 = .ok (.iload_n 1, 1) := by decide +kernel
theorem dX12_keepAside_3 : decode cX12_keepAside 3 = .ok (.sipush 170, 3) := by decide +kernel
theorem dX12_keepAside_6 : decode cX12_keepAside 6 = .ok (.if_icmp .ge 21, 3) := by decide +kernel
theorem dX12_keepAside_9 : decode cX12_keepAside 9 = .ok (.aload_n 0, 1) := by decide +kernel
theorem dX12_keepAside_10 : decode cX12_keepAside 10 = .ok (.getfield 16, 3) := by decide +kernel
theorem dX12_keepAside_13 : decode cX12_keepAside 13 = .ok (.iload_n 1, 1) := by decide +kernel
theorem dX12_keepAside_14 : decode cX12_keepAside 14 = .ok (.aload_n 0, 1) := by decide +kernel
theorem dX12_keepAside_15 : decode cX12_keepAside 15 = .ok (.getfield 7, 3) := by decide +kernel
theorem dX12_keepAside_18 : decode cX12_keepAside 18 = .ok (.iload_n 1, 1) := by decide +kernel
theorem dX12_keepAside_19 : decode cX12_keepAside 19 = .ok (.iaload, 1) := by decide +kernel
theorem dX12_keepAside_20 : decode cX12_keepAside 20 = .ok (.iastore, 1) := by decide +kernel
theorem dX12_keepAside_21 : decode cX12_keepAside 21 = .ok (.iinc 1 1, 3) := by decide +kernel
theorem dX12_keepAside_24 : decode cX12_keepAside 24 = .ok (.goto (-22), 3) := by decide +kernel
theorem dX12_keepAside_27 : decode cX12_keepAside 27 = .ok (.return_, 1) := by decide +kernel
theorem dX12_putBack_0 : decode cX12_putBack 0 = .ok (.iconst 0, 1) := by decide +kernel
theorem dX12_putBack_1 : decode cX12_putBack 1 = .ok (.istore_n 1, 1) := by decide +kernel
theorem dX12_putBack_2 : decode cX12_putBack 2 = .ok (.iload_n 1, 1) := by decide +kernel
theorem dX12_putBack_3 : decode cX12_putBack 3 = .ok (.sipush 170, 3) := by decide +kernel
theorem dX12_putBack_6 : decode cX12_putBack 6 = .ok (.if_icmp .ge 21, 3) := by decide +kernel
theorem dX12_putBack_9 : decode cX12_putBack 9 = .ok (.aload_n 0, 1) := by decide +kernel
theorem dX12_putBack_10 : decode cX12_putBack 10 = .ok (.getfield 7, 3) := by decide +kernel
theorem dX12_putBack_13 : decode cX12_putBack 13 = .ok (.iload_n 1, 1) := by decide +kernel
theorem dX12_putBack_14 : decode cX12_putBack 14 = .ok (.aload_n 0, 1) := by decide +kernel
theorem dX12_putBack_15 : decode cX12_putBack 15 = .ok (.getfield 16, 3) := by decide +kernel
theorem dX12_putBack_18 : decode cX12_putBack 18 = .ok (.iload_n 1, 1) := by decide +kernel
theorem dX12_putBack_19 : decode cX12_putBack 19 = .ok (.iaload, 1) := by decide +kernel
theorem dX12_putBack_20 : decode cX12_putBack 20 = .ok (.iastore, 1) := by decide +kernel
theorem dX12_putBack_21 : decode cX12_putBack 21 = .ok (.iinc 1 1, 3) := by decide +kernel
theorem dX12_putBack_24 : decode cX12_putBack 24 = .ok (.goto (-22), 3) := by decide +kernel
theorem dX12_putBack_27 : decode cX12_putBack 27 = .ok (.return_, 1) := by decide +kernel
theorem dX12_here_0 : decode cX12_here 0 = .ok (.aload_n 0, 1) := by decide +kernel
theorem dX12_here_1 : decode cX12_here 1 = .ok (.getfield 61, 3) := by decide +kernel
theorem dX12_here_4 : decode cX12_here 4 = .ok (.aload_n 0, 1) := by decide +kernel
theorem dX12_here_5 : decode cX12_here 5 = .ok (.getfield 64, 3) := by decide +kernel
theorem dX12_here_8 : decode cX12_here 8 = .ok (.if_icmp .ge 27, 3) := by decide +kernel
theorem dX12_here_11 : decode cX12_here 11 = .ok (.aload_n 0, 1) := by decide +kernel
theorem dX12_here_12 : decode cX12_here 12 = .ok (.getfield 67, 3) := by decide +kernel
theorem dX12_here_15 : decode cX12_here 15 = .ok (.ifCond .ge 20, 3) := by decide +kernel
theorem dX12_here_18 : decode cX12_here 18 = .ok (.aload_n 0, 1) := by decide +kernel
theorem dX12_here_19 : decode cX12_here 19 = .ok (.getfield 7, 3) := by decide +kernel
theorem dX12_here_22 : decode cX12_here 22 = .ok (.aload_n 0, 1) := by decide +kernel
theorem dX12_here_23 : decode cX12_here 23 = .ok (.getfield 70, 3) := by decide +kernel
theorem dX12_here_26 : decode cX12_here 26 = .ok (.aload_n 0, 1) := by decide +kernel
theorem dX12_here_27 : decode cX12_here 27 = .ok (.getfield 61, 3) := by decide +kernel
theorem dX12_here_30 : decode cX12_here 30 = .ok (.iadd, 1) := by decide +kernel
theorem dX12_here_31 : decode cX12_here 31 = .ok (.iaload, 1) := by decide +kernel
theorem dX12_here_32 : decode cX12_here 32 = .ok (.goto 4, 3) := by decide +kernel
theorem dX12_here_35 : decode cX12_here 35 = .ok (.iconst (-1), 1) := by decide +kernel
theorem dX12_here_36 : decode cX12_here 36 = .ok (.ireturn, 1) := by decide +kernel
theorem dX12_wrong_0 : decode cX12_wrong 0 = .ok (.aload_n 0, 1) := by decide +kernel
theorem dX12_wrong_1 : decode cX12_wrong 1 = .ok (.aload_n 0, 1) := by decide +kernel
theorem dX12_wrong_2 : decode cX12_wrong 2 = .ok (.getfield 67, 3) := by decide +kernel
theorem dX12_wrong_5 : decode cX12_wrong 5 = .ok (.ifCond .ge 10, 3) := by decide +kernel
theorem dX12_wrong_8 : decode cX12_wrong 8 = .ok (.aload_n 0, 1) := by decide +kernel
theorem dX12_wrong_9 : decode cX12_wrong 9 = .ok (.getfield 61, 3) := by decide +kernel
theorem dX12_wrong_12 : decode cX12_wrong 12 = .ok (.goto 7, 3) := by decide +kernel
theorem dX12_wrong_15 : decode cX12_wrong 15 = .ok (.aload_n 0, 1) := by decide +kernel
theorem dX12_wrong_16 : decode cX12_wrong 16 = .ok (.getfield 67, 3) := by decide +kernel
theorem dX12_wrong_19 : decode cX12_wrong 19 = .ok (.putfield 67, 3) := by decide +kernel
theorem dX12_wrong_22 : decode cX12_wrong 22 = .ok (.iconst 0, 1) := by decide +kernel
theorem dX12_wrong_23 : decode cX12_wrong 23 = .ok (.ireturn, 1) := by decide +kernel
theorem dX12_takes_0 : decode cX12_takes 0 = .ok (.aload_n 0, 1) := by decide +kernel
theorem dX12_takes_1 : decode cX12_takes 1 = .ok (.invokevirtual 73, 3) := by decide +kernel
theorem dX12_takes_4 : decode cX12_takes 4 = .ok (.iload_n 1, 1) := by decide +kernel
theorem dX12_takes_5 : decode cX12_takes 5 = .ok (.if_icmp .eq 5, 3) := by decide +kernel
theorem dX12_takes_8 : decode cX12_takes 8 = .ok (.iconst 0, 1) := by decide +kernel
theorem dX12_takes_9 : decode cX12_takes 9 = .ok (.ireturn, 1) := by decide +kernel
theorem dX12_takes_10 : decode cX12_takes 10 = .ok (.aload_n 0, 1) := by decide +kernel
theorem dX12_takes_11 : decode cX12_takes 11 = .ok (.dup, 1) := by decide +kernel
theorem dX12_takes_12 : decode cX12_takes 12 = .ok (.getfield 61, 3) := by decide +kernel
theorem dX12_takes_15 : decode cX12_takes 15 = .ok (.iconst 1, 1) := by decide +kernel
theorem dX12_takes_16 : decode cX12_takes 16 = .ok (.iadd, 1) := by decide +kernel
theorem dX12_takes_17 : decode cX12_takes 17 = .ok (.putfield 61, 3) := by decide +kernel
theorem dX12_takes_20 : decode cX12_takes 20 = .ok (.iconst 1, 1) := by decide +kernel
theorem dX12_takes_21 : decode cX12_takes 21 = .ok (.ireturn, 1) := by decide +kernel
theorem dX12_nameOf_0 : decode cX12_nameOf 0 = .ok (.aload_n 0, 1) := by decide +kernel
theorem dX12_nameOf_1 : decode cX12_nameOf 1 = .ok (.getfield 77, 3) := by decide +kernel
theorem dX12_nameOf_4 : decode cX12_nameOf 4 = .ok (.ifCond .eq 35, 3) := by decide +kernel
theorem dX12_nameOf_7 : decode cX12_nameOf 7 = .ok (.iload_n 1, 1) := by decide +kernel
theorem dX12_nameOf_8 : decode cX12_nameOf 8 = .ok (.bipush 100, 2) := by decide +kernel
theorem dX12_nameOf_10 : decode cX12_nameOf 10 = .ok (.if_icmp .ne 7, 3) := by decide +kernel
theorem dX12_nameOf_13 : decode cX12_nameOf 13 = .ok (.iconst 0, 1) := by decide +kernel
theorem dX12_nameOf_14 : decode cX12_nameOf 14 = .ok (.goto 24, 3) := by decide +kernel
theorem dX12_nameOf_17 : decode cX12_nameOf 17 = .ok (.iload_n 1, 1) := by decide +kernel
theorem dX12_nameOf_18 : decode cX12_nameOf 18 = .ok (.bipush 111, 2) := by decide +kernel
theorem dX12_nameOf_20 : decode cX12_nameOf 20 = .ok (.if_icmp .ne 7, 3) := by decide +kernel
theorem dX12_nameOf_23 : decode cX12_nameOf 23 = .ok (.iconst 1, 1) := by decide +kernel
theorem dX12_nameOf_24 : decode cX12_nameOf 24 = .ok (.goto 14, 3) := by decide +kernel
theorem dX12_nameOf_27 : decode cX12_nameOf 27 = .ok (.iload_n 1, 1) := by decide +kernel
theorem dX12_nameOf_28 : decode cX12_nameOf 28 = .ok (.bipush 110, 2) := by decide +kernel
theorem dX12_nameOf_30 : decode cX12_nameOf 30 = .ok (.if_icmp .ne 7, 3) := by decide +kernel
theorem dX12_nameOf_33 : decode cX12_nameOf 33 = .ok (.iconst 2, 1) := by decide +kernel
theorem dX12_nameOf_34 : decode cX12_nameOf 34 = .ok (.goto 4, 3) := by decide +kernel
theorem dX12_nameOf_37 : decode cX12_nameOf 37 = .ok (.iconst (-1), 1) := by decide +kernel
theorem dX12_nameOf_38 : decode cX12_nameOf 38 = .ok (.ireturn, 1) := by decide +kernel
theorem dX12_nameOf_39 : decode cX12_nameOf 39 = .ok (.iload_n 1, 1) := by decide +kernel
theorem dX12_nameOf_40 : decode cX12_nameOf 40 = .ok (.bipush 102, 2) := by decide +kernel
theorem dX12_nameOf_42 : decode cX12_nameOf 42 = .ok (.if_icmp .ne 7, 3) := by decide +kernel
theorem dX12_nameOf_45 : decode cX12_nameOf 45 = .ok (.iconst 0, 1) := by decide +kernel
theorem dX12_nameOf_46 : decode cX12_nameOf 46 = .ok (.goto 24, 3) := by decide +kernel
theorem dX12_nameOf_49 : decode cX12_nameOf 49 = .ok (.iload_n 1, 1) := by decide +kernel
theorem dX12_nameOf_50 : decode cX12_nameOf 50 = .ok (.bipush 119, 2) := by decide +kernel
theorem dX12_nameOf_52 : decode cX12_nameOf 52 = .ok (.if_icmp .ne 7, 3) := by decide +kernel
theorem dX12_nameOf_55 : decode cX12_nameOf 55 = .ok (.iconst 1, 1) := by decide +kernel
theorem dX12_nameOf_56 : decode cX12_nameOf 56 = .ok (.goto 14, 3) := by decide +kernel
theorem dX12_nameOf_59 : decode cX12_nameOf 59 = .ok (.iload_n 1, 1) := by decide +kernel
theorem dX12_nameOf_60 : decode cX12_nameOf 60 = .ok (.bipush 100, 2) := by decide +kernel
theorem dX12_nameOf_62 : decode cX12_nameOf 62 = .ok (.if_icmp .ne 7, 3) := by decide +kernel
theorem dX12_nameOf_65 : decode cX12_nameOf 65 = .ok (.iconst 2, 1) := by decide +kernel
theorem dX12_nameOf_66 : decode cX12_nameOf 66 = .ok (.goto 4, 3) := by decide +kernel
theorem dX12_nameOf_69 : decode cX12_nameOf 69 = .ok (.iconst (-1), 1) := by decide +kernel
theorem dX12_nameOf_70 : decode cX12_nameOf 70 = .ok (.ireturn, 1) := by decide +kernel
theorem dX12_either_0 : decode cX12_either 0 = .ok (.aload_n 0, 1) := by decide +kernel
theorem dX12_either_1 : decode cX12_either 1 = .ok (.invokevirtual 81, 3) := by decide +kernel
theorem dX12_either_4 : decode cX12_either 4 = .ok (.istore_n 1, 1) := by decide +kernel
theorem dX12_either_5 : decode cX12_either 5 = .ok (.aload_n 0, 1) := by decide +kernel
theorem dX12_either_6 : decode cX12_either 6 = .ok (.bipush 124, 2) := by decide +kernel
theorem dX12_either_8 : decode cX12_either 8 = .ok (.invokevirtual 84, 3) := by decide +kernel
theorem dX12_either_11 : decode cX12_either 11 = .ok (.ifCond .eq 25, 3) := by decide +kernel
theorem dX12_either_14 : decode cX12_either 14 = .ok (.aload_n 0, 1) := by decide +kernel
theorem dX12_either_15 : decode cX12_either 15 = .ok (.invokevirtual 81, 3) := by decide +kernel
theorem dX12_either_18 : decode cX12_either 18 = .ok (.istore_n 2, 1) := by decide +kernel
theorem dX12_either_19 : decode cX12_either 19 = .ok (.iload_n 1, 1) := by decide +kernel
theorem dX12_either_20 : decode cX12_either 20 = .ok (.ifCond .ne 7, 3) := by decide +kernel
theorem dX12_either_23 : decode cX12_either 23 = .ok (.iload_n 2, 1) := by decide +kernel
theorem dX12_either_24 : decode cX12_either 24 = .ok (.ifCond .eq 7, 3) := by decide +kernel
theorem dX12_either_27 : decode cX12_either 27 = .ok (.iconst 1, 1) := by decide +kernel
theorem dX12_either_28 : decode cX12_either 28 = .ok (.goto 4, 3) := by decide +kernel
theorem dX12_either_31 : decode cX12_either 31 = .ok (.iconst 0, 1) := by decide +kernel
theorem dX12_either_32 : decode cX12_either 32 = .ok (.istore_n 1, 1) := by decide +kernel
theorem dX12_either_33 : decode cX12_either 33 = .ok (.goto (-28), 3) := by decide +kernel
theorem dX12_either_36 : decode cX12_either 36 = .ok (.iload_n 1, 1) := by decide +kernel
theorem dX12_either_37 : decode cX12_either 37 = .ok (.ireturn, 1) := by decide +kernel
theorem dX12_both_0 : decode cX12_both 0 = .ok (.aload_n 0, 1) := by decide +kernel
theorem dX12_both_1 : decode cX12_both 1 = .ok (.invokevirtual 88, 3) := by decide +kernel
theorem dX12_both_4 : decode cX12_both 4 = .ok (.istore_n 1, 1) := by decide +kernel
theorem dX12_both_5 : decode cX12_both 5 = .ok (.aload_n 0, 1) := by decide +kernel
theorem dX12_both_6 : decode cX12_both 6 = .ok (.bipush 38, 2) := by decide +kernel
theorem dX12_both_8 : decode cX12_both 8 = .ok (.invokevirtual 84, 3) := by decide +kernel
theorem dX12_both_11 : decode cX12_both 11 = .ok (.ifCond .eq 25, 3) := by decide +kernel
theorem dX12_both_14 : decode cX12_both 14 = .ok (.aload_n 0, 1) := by decide +kernel
theorem dX12_both_15 : decode cX12_both 15 = .ok (.invokevirtual 88, 3) := by decide +kernel
theorem dX12_both_18 : decode cX12_both 18 = .ok (.istore_n 2, 1) := by decide +kernel
theorem dX12_both_19 : decode cX12_both 19 = .ok (.iload_n 1, 1) := by decide +kernel
theorem dX12_both_20 : decode cX12_both 20 = .ok (.ifCond .eq 11, 3) := by decide +kernel
theorem dX12_both_23 : decode cX12_both 23 = .ok (.iload_n 2, 1) := by decide +kernel
theorem dX12_both_24 : decode cX12_both 24 = .ok (.ifCond .eq 7, 3) := by decide +kernel
theorem dX12_both_27 : decode cX12_both 27 = .ok (.iconst 1, 1) := by decide +kernel
theorem dX12_both_28 : decode cX12_both 28 = .ok (.goto 4, 3) := by decide +kernel
theorem dX12_both_31 : decode cX12_both 31 = .ok (.iconst 0, 1) := by decide +kernel
theorem dX12_both_32 : decode cX12_both 32 = .ok (.istore_n 1, 1) := by decide +kernel
theorem dX12_both_33 : decode cX12_both 33 = .ok (.goto (-28), 3) := by decide +kernel
theorem dX12_both_36 : decode cX12_both 36 = .ok (.iload_n 1, 1) := by decide +kernel
theorem dX12_both_37 : decode cX12_both 37 = .ok (.ireturn, 1) := by decide +kernel
theorem dX12_compared_0 : decode cX12_compared 0 = .ok (.aload_n 0, 1) := by decide +kernel
theorem dX12_compared_1 : decode cX12_compared 1 = .ok (.invokevirtual 91, 3) := by decide +kernel
theorem dX12_compared_4 : decode cX12_compared 4 = .ok (.istore_n 1, 1) := by decide +kernel
theorem dX12_compared_5 : decode cX12_compared 5 = .ok (.aload_n 0, 1) := by decide +kernel
theorem dX12_compared_6 : decode cX12_compared 6 = .ok (.invokevirtual 73, 3) := by decide +kernel
theorem dX12_compared_9 : decode cX12_compared 9 = .ok (.istore_n 2, 1) := by decide +kernel
theorem dX12_compared_10 : decode cX12_compared 10 = .ok (.iload_n 2, 1) := by decide +kernel
theorem dX12_compared_11 : decode cX12_compared 11 = .ok (.bipush 60, 2) := by decide +kernel
theorem dX12_compared_13 : decode cX12_compared 13 = .ok (.if_icmp .eq 17, 3) := by decide +kernel
theorem dX12_compared_16 : decode cX12_compared 16 = .ok (.iload_n 2, 1) := by decide +kernel
theorem dX12_compared_17 : decode cX12_compared 17 = .ok (.bipush 61, 2) := by decide +kernel
theorem dX12_compared_19 : decode cX12_compared 19 = .ok (.if_icmp .eq 11, 3) := by decide +kernel
theorem dX12_compared_22 : decode cX12_compared 22 = .ok (.iload_n 2, 1) := by decide +kernel
theorem dX12_compared_23 : decode cX12_compared 23 = .ok (.bipush 62, 2) := by decide +kernel
theorem dX12_compared_25 : decode cX12_compared 25 = .ok (.if_icmp .eq 5, 3) := by decide +kernel
theorem dX12_compared_28 : decode cX12_compared 28 = .ok (.iload_n 1, 1) := by decide +kernel
theorem dX12_compared_29 : decode cX12_compared 29 = .ok (.ireturn, 1) := by decide +kernel
theorem dX12_compared_30 : decode cX12_compared 30 = .ok (.aload_n 0, 1) := by decide +kernel
theorem dX12_compared_31 : decode cX12_compared 31 = .ok (.dup, 1) := by decide +kernel
theorem dX12_compared_32 : decode cX12_compared 32 = .ok (.getfield 61, 3) := by decide +kernel
theorem dX12_compared_35 : decode cX12_compared 35 = .ok (.iconst 1, 1) := by decide +kernel
theorem dX12_compared_36 : decode cX12_compared 36 = .ok (.iadd, 1) := by decide +kernel
theorem dX12_compared_37 : decode cX12_compared 37 = .ok (.putfield 61, 3) := by decide +kernel
theorem dX12_compared_40 : decode cX12_compared 40 = .ok (.aload_n 0, 1) := by decide +kernel
theorem dX12_compared_41 : decode cX12_compared 41 = .ok (.invokevirtual 91, 3) := by decide +kernel
theorem dX12_compared_44 : decode cX12_compared 44 = .ok (.istore_n 3, 1) := by decide +kernel
theorem dX12_compared_45 : decode cX12_compared 45 = .ok (.iload_n 2, 1) := by decide +kernel
theorem dX12_compared_46 : decode cX12_compared 46 = .ok (.bipush 60, 2) := by decide +kernel
theorem dX12_compared_48 : decode cX12_compared 48 = .ok (.if_icmp .ne 11, 3) := by decide +kernel
theorem dX12_compared_51 : decode cX12_compared 51 = .ok (.iload_n 1, 1) := by decide +kernel
theorem dX12_compared_52 : decode cX12_compared 52 = .ok (.iload_n 3, 1) := by decide +kernel
theorem dX12_compared_53 : decode cX12_compared 53 = .ok (.if_icmp .ge 29, 3) := by decide +kernel
theorem dX12_compared_56 : decode cX12_compared 56 = .ok (.goto 22, 3) := by decide +kernel
theorem dX12_compared_59 : decode cX12_compared 59 = .ok (.iload_n 2, 1) := by decide +kernel
theorem dX12_compared_60 : decode cX12_compared 60 = .ok (.bipush 61, 2) := by decide +kernel
theorem dX12_compared_62 : decode cX12_compared 62 = .ok (.if_icmp .ne 11, 3) := by decide +kernel
theorem dX12_compared_65 : decode cX12_compared 65 = .ok (.iload_n 1, 1) := by decide +kernel
theorem dX12_compared_66 : decode cX12_compared 66 = .ok (.iload_n 3, 1) := by decide +kernel
theorem dX12_compared_67 : decode cX12_compared 67 = .ok (.if_icmp .ne 15, 3) := by decide +kernel
theorem dX12_compared_70 : decode cX12_compared 70 = .ok (.goto 8, 3) := by decide +kernel
theorem dX12_compared_73 : decode cX12_compared 73 = .ok (.iload_n 1, 1) := by decide +kernel
theorem dX12_compared_74 : decode cX12_compared 74 = .ok (.iload_n 3, 1) := by decide +kernel
theorem dX12_compared_75 : decode cX12_compared 75 = .ok (.if_icmp .le 7, 3) := by decide +kernel
theorem dX12_compared_78 : decode cX12_compared 78 = .ok (.iconst 1, 1) := by decide +kernel
theorem dX12_compared_79 : decode cX12_compared 79 = .ok (.goto 4, 3) := by decide +kernel
theorem dX12_compared_82 : decode cX12_compared 82 = .ok (.iconst 0, 1) := by decide +kernel
theorem dX12_compared_83 : decode cX12_compared 83 = .ok (.ireturn, 1) := by decide +kernel
theorem dX12_sum_0 : decode cX12_sum 0 = .ok (.aload_n 0, 1) := by decide +kernel
theorem dX12_sum_1 : decode cX12_sum 1 = .ok (.invokevirtual 94, 3) := by decide +kernel
theorem dX12_sum_4 : decode cX12_sum 4 = .ok (.istore_n 1, 1) := by decide +kernel
theorem dX12_sum_5 : decode cX12_sum 5 = .ok (.aload_n 0, 1) := by decide +kernel
theorem dX12_sum_6 : decode cX12_sum 6 = .ok (.invokevirtual 73, 3) := by decide +kernel
theorem dX12_sum_9 : decode cX12_sum 9 = .ok (.bipush 43, 2) := by decide +kernel
theorem dX12_sum_11 : decode cX12_sum 11 = .ok (.if_icmp .eq 12, 3) := by decide +kernel
theorem dX12_sum_14 : decode cX12_sum 14 = .ok (.aload_n 0, 1) := by decide +kernel
theorem dX12_sum_15 : decode cX12_sum 15 = .ok (.invokevirtual 73, 3) := by decide +kernel
theorem dX12_sum_18 : decode cX12_sum 18 = .ok (.bipush 45, 2) := by decide +kernel
theorem dX12_sum_20 : decode cX12_sum 20 = .ok (.if_icmp .ne 42, 3) := by decide +kernel
theorem dX12_sum_23 : decode cX12_sum 23 = .ok (.aload_n 0, 1) := by decide +kernel
theorem dX12_sum_24 : decode cX12_sum 24 = .ok (.invokevirtual 73, 3) := by decide +kernel
theorem dX12_sum_27 : decode cX12_sum 27 = .ok (.istore_n 2, 1) := by decide +kernel
theorem dX12_sum_28 : decode cX12_sum 28 = .ok (.aload_n 0, 1) := by decide +kernel
theorem dX12_sum_29 : decode cX12_sum 29 = .ok (.dup, 1) := by decide +kernel
theorem dX12_sum_30 : decode cX12_sum 30 = .ok (.getfield 61, 3) := by decide +kernel
theorem dX12_sum_33 : decode cX12_sum 33 = .ok (.iconst 1, 1) := by decide +kernel
theorem dX12_sum_34 : decode cX12_sum 34 = .ok (.iadd, 1) := by decide +kernel
theorem dX12_sum_35 : decode cX12_sum 35 = .ok (.putfield 61, 3) := by decide +kernel
theorem dX12_sum_38 : decode cX12_sum 38 = .ok (.aload_n 0, 1) := by decide +kernel
theorem dX12_sum_39 : decode cX12_sum 39 = .ok (.invokevirtual 94, 3) := by decide +kernel
theorem dX12_sum_42 : decode cX12_sum 42 = .ok (.istore_n 3, 1) := by decide +kernel
theorem dX12_sum_43 : decode cX12_sum 43 = .ok (.iload_n 2, 1) := by decide +kernel
theorem dX12_sum_44 : decode cX12_sum 44 = .ok (.bipush 43, 2) := by decide +kernel
theorem dX12_sum_46 : decode cX12_sum 46 = .ok (.if_icmp .ne 9, 3) := by decide +kernel
theorem dX12_sum_49 : decode cX12_sum 49 = .ok (.iload_n 1, 1) := by decide +kernel
theorem dX12_sum_50 : decode cX12_sum 50 = .ok (.iload_n 3, 1) := by decide +kernel
theorem dX12_sum_51 : decode cX12_sum 51 = .ok (.iadd, 1) := by decide +kernel
theorem dX12_sum_52 : decode cX12_sum 52 = .ok (.goto 6, 3) := by decide +kernel
theorem dX12_sum_55 : decode cX12_sum 55 = .ok (.iload_n 1, 1) := by decide +kernel
theorem dX12_sum_56 : decode cX12_sum 56 = .ok (.iload_n 3, 1) := by decide +kernel
theorem dX12_sum_57 : decode cX12_sum 57 = .ok (.isub, 1) := by decide +kernel
theorem dX12_sum_58 : decode cX12_sum 58 = .ok (.istore_n 1, 1) := by decide +kernel
theorem dX12_sum_59 : decode cX12_sum 59 = .ok (.goto (-54), 3) := by decide +kernel
theorem dX12_sum_62 : decode cX12_sum 62 = .ok (.iload_n 1, 1) := by decide +kernel
theorem dX12_sum_63 : decode cX12_sum 63 = .ok (.ireturn, 1) := by decide +kernel
theorem dX12_product_0 : decode cX12_product 0 = .ok (.aload_n 0, 1) := by decide +kernel
theorem dX12_product_1 : decode cX12_product 1 = .ok (.invokevirtual 97, 3) := by decide +kernel
theorem dX12_product_4 : decode cX12_product 4 = .ok (.istore_n 1, 1) := by decide +kernel
theorem dX12_product_5 : decode cX12_product 5 = .ok (.aload_n 0, 1) := by decide +kernel
theorem dX12_product_6 : decode cX12_product 6 = .ok (.invokevirtual 73, 3) := by decide +kernel
theorem dX12_product_9 : decode cX12_product 9 = .ok (.bipush 42, 2) := by decide +kernel
theorem dX12_product_11 : decode cX12_product 11 = .ok (.if_icmp .eq 21, 3) := by decide +kernel
theorem dX12_product_14 : decode cX12_product 14 = .ok (.aload_n 0, 1) := by decide +kernel
theorem dX12_product_15 : decode cX12_product 15 = .ok (.invokevirtual 73, 3) := by decide +kernel
theorem dX12_product_18 : decode cX12_product 18 = .ok (.bipush 47, 2) := by decide +kernel
theorem dX12_product_20 : decode cX12_product 20 = .ok (.if_icmp .eq 12, 3) := by decide +kernel
theorem dX12_product_23 : decode cX12_product 23 = .ok (.aload_n 0, 1) := by decide +kernel
theorem dX12_product_24 : decode cX12_product 24 = .ok (.invokevirtual 73, 3) := by decide +kernel
theorem dX12_product_27 : decode cX12_product 27 = .ok (.bipush 37, 2) := by decide +kernel
theorem dX12_product_29 : decode cX12_product 29 = .ok (.if_icmp .ne 62, 3) := by decide +kernel
theorem dX12_product_32 : decode cX12_product 32 = .ok (.aload_n 0, 1) := by decide +kernel
theorem dX12_product_33 : decode cX12_product 33 = .ok (.invokevirtual 73, 3) := by decide +kernel
theorem dX12_product_36 : decode cX12_product 36 = .ok (.istore_n 2, 1) := by decide +kernel
theorem dX12_product_37 : decode cX12_product 37 = .ok (.aload_n 0, 1) := by decide +kernel
theorem dX12_product_38 : decode cX12_product 38 = .ok (.dup, 1) := by decide +kernel
theorem dX12_product_39 : decode cX12_product 39 = .ok (.getfield 61, 3) := by decide +kernel
theorem dX12_product_42 : decode cX12_product 42 = .ok (.iconst 1, 1) := by decide +kernel
theorem dX12_product_43 : decode cX12_product 43 = .ok (.iadd, 1) := by decide +kernel
theorem dX12_product_44 : decode cX12_product 44 = .ok (.putfield 61, 3) := by decide +kernel
theorem dX12_product_47 : decode cX12_product 47 = .ok (.aload_n 0, 1) := by decide +kernel
theorem dX12_product_48 : decode cX12_product 48 = .ok (.invokevirtual 97, 3) := by decide +kernel
theorem dX12_product_51 : decode cX12_product 51 = .ok (.istore_n 3, 1) := by decide +kernel
theorem dX12_product_52 : decode cX12_product 52 = .ok (.iload_n 2, 1) := by decide +kernel
theorem dX12_product_53 : decode cX12_product 53 = .ok (.bipush 42, 2) := by decide +kernel
theorem dX12_product_55 : decode cX12_product 55 = .ok (.if_icmp .ne 9, 3) := by decide +kernel
theorem dX12_product_58 : decode cX12_product 58 = .ok (.iload_n 1, 1) := by decide +kernel
theorem dX12_product_59 : decode cX12_product 59 = .ok (.iload_n 3, 1) := by decide +kernel
theorem dX12_product_60 : decode cX12_product 60 = .ok (.imul, 1) := by decide +kernel
theorem dX12_product_61 : decode cX12_product 61 = .ok (.goto 26, 3) := by decide +kernel
theorem dX12_product_64 : decode cX12_product 64 = .ok (.iload_n 3, 1) := by decide +kernel
theorem dX12_product_65 : decode cX12_product 65 = .ok (.ifCond .ne 7, 3) := by decide +kernel
theorem dX12_product_68 : decode cX12_product 68 = .ok (.iconst 0, 1) := by decide +kernel
theorem dX12_product_69 : decode cX12_product 69 = .ok (.goto 18, 3) := by decide +kernel
theorem dX12_product_72 : decode cX12_product 72 = .ok (.iload_n 2, 1) := by decide +kernel
theorem dX12_product_73 : decode cX12_product 73 = .ok (.bipush 47, 2) := by decide +kernel
theorem dX12_product_75 : decode cX12_product 75 = .ok (.if_icmp .ne 9, 3) := by decide +kernel
theorem dX12_product_78 : decode cX12_product 78 = .ok (.iload_n 1, 1) := by decide +kernel
theorem dX12_product_79 : decode cX12_product 79 = .ok (.iload_n 3, 1) := by decide +kernel
theorem dX12_product_80 : decode cX12_product 80 = .ok (.idiv, 1) := by decide +kernel
theorem dX12_product_81 : decode cX12_product 81 = .ok (.goto 6, 3) := by decide +kernel
theorem dX12_product_84 : decode cX12_product 84 = .ok (.iload_n 1, 1) := by decide +kernel
theorem dX12_product_85 : decode cX12_product 85 = .ok (.iload_n 3, 1) := by decide +kernel
theorem dX12_product_86 : decode cX12_product 86 = .ok (.irem, 1) := by decide +kernel
theorem dX12_product_87 : decode cX12_product 87 = .ok (.istore_n 1, 1) := by decide +kernel
theorem dX12_product_88 : decode cX12_product 88 = .ok (.goto (-83), 3) := by decide +kernel
theorem dX12_product_91 : decode cX12_product 91 = .ok (.iload_n 1, 1) := by decide +kernel
theorem dX12_product_92 : decode cX12_product 92 = .ok (.ireturn, 1) := by decide +kernel
theorem dX12_unit_0 : decode cX12_unit 0 = .ok (.aload_n 0, 1) := by decide +kernel
theorem dX12_unit_1 : decode cX12_unit 1 = .ok (.invokevirtual 73, 3) := by decide +kernel
theorem dX12_unit_4 : decode cX12_unit 4 = .ok (.istore_n 1, 1) := by decide +kernel
theorem dX12_unit_5 : decode cX12_unit 5 = .ok (.iload_n 1, 1) := by decide +kernel
theorem dX12_unit_6 : decode cX12_unit 6 = .ok (.bipush 33, 2) := by decide +kernel
theorem dX12_unit_8 : decode cX12_unit 8 = .ok (.if_icmp .eq 9, 3) := by decide +kernel
theorem dX12_unit_11 : decode cX12_unit 11 = .ok (.iload_n 1, 1) := by decide +kernel
theorem dX12_unit_12 : decode cX12_unit 12 = .ok (.bipush 40, 2) := by decide +kernel
theorem dX12_unit_14 : decode cX12_unit 14 = .ok (.if_icmp .ne 104, 3) := by decide +kernel
theorem dX12_unit_17 : decode cX12_unit 17 = .ok (.aload_n 0, 1) := by decide +kernel
theorem dX12_unit_18 : decode cX12_unit 18 = .ok (.getfield 100, 3) := by decide +kernel
theorem dX12_unit_21 : decode cX12_unit 21 = .ok (.iconst 5, 1) := by decide +kernel
theorem dX12_unit_22 : decode cX12_unit 22 = .ok (.if_icmp .ne 8, 3) := by decide +kernel
theorem dX12_unit_25 : decode cX12_unit 25 = .ok (.aload_n 0, 1) := by decide +kernel
theorem dX12_unit_26 : decode cX12_unit 26 = .ok (.invokevirtual 103, 3) := by decide +kernel
theorem dX12_unit_29 : decode cX12_unit 29 = .ok (.ireturn, 1) := by decide +kernel
theorem dX12_unit_30 : decode cX12_unit 30 = .ok (.aload_n 0, 1) := by decide +kernel
theorem dX12_unit_31 : decode cX12_unit 31 = .ok (.dup, 1) := by decide +kernel
theorem dX12_unit_32 : decode cX12_unit 32 = .ok (.getfield 100, 3) := by decide +kernel
theorem dX12_unit_35 : decode cX12_unit 35 = .ok (.iconst 1, 1) := by decide +kernel
theorem dX12_unit_36 : decode cX12_unit 36 = .ok (.iadd, 1) := by decide +kernel
theorem dX12_unit_37 : decode cX12_unit 37 = .ok (.putfield 100, 3) := by decide +kernel
theorem dX12_unit_40 : decode cX12_unit 40 = .ok (.aload_n 0, 1) := by decide +kernel
theorem dX12_unit_41 : decode cX12_unit 41 = .ok (.dup, 1) := by decide +kernel
theorem dX12_unit_42 : decode cX12_unit 42 = .ok (.getfield 61, 3) := by decide +kernel
theorem dX12_unit_45 : decode cX12_unit 45 = .ok (.iconst 1, 1) := by decide +kernel
theorem dX12_unit_46 : decode cX12_unit 46 = .ok (.iadd, 1) := by decide +kernel
theorem dX12_unit_47 : decode cX12_unit 47 = .ok (.putfield 61, 3) := by decide +kernel
theorem dX12_unit_50 : decode cX12_unit 50 = .ok (.iload_n 1, 1) := by decide +kernel
theorem dX12_unit_51 : decode cX12_unit 51 = .ok (.bipush 40, 2) := by decide +kernel
theorem dX12_unit_53 : decode cX12_unit 53 = .ok (.if_icmp .ne 10, 3) := by decide +kernel
theorem dX12_unit_56 : decode cX12_unit 56 = .ok (.aload_n 0, 1) := by decide +kernel
theorem dX12_unit_57 : decode cX12_unit 57 = .ok (.invokevirtual 106, 3) := by decide +kernel
theorem dX12_unit_60 : decode cX12_unit 60 = .ok (.goto 7, 3) := by decide +kernel
theorem dX12_unit_63 : decode cX12_unit 63 = .ok (.aload_n 0, 1) := by decide +kernel
theorem dX12_unit_64 : decode cX12_unit 64 = .ok (.invokevirtual 97, 3) := by decide +kernel
theorem dX12_unit_67 : decode cX12_unit 67 = .ok (.istore_n 2, 1) := by decide +kernel
theorem dX12_unit_68 : decode cX12_unit 68 = .ok (.iload_n 1, 1) := by decide +kernel
theorem dX12_unit_69 : decode cX12_unit 69 = .ok (.bipush 40, 2) := by decide +kernel
theorem dX12_unit_71 : decode cX12_unit 71 = .ok (.if_icmp .ne 17, 3) := by decide +kernel
theorem dX12_unit_74 : decode cX12_unit 74 = .ok (.aload_n 0, 1) := by decide +kernel
theorem dX12_unit_75 : decode cX12_unit 75 = .ok (.bipush 41, 2) := by decide +kernel
theorem dX12_unit_77 : decode cX12_unit 77 = .ok (.invokevirtual 84, 3) := by decide +kernel
theorem dX12_unit_80 : decode cX12_unit 80 = .ok (.ifCond .ne 8, 3) := by decide +kernel
theorem dX12_unit_83 : decode cX12_unit 83 = .ok (.aload_n 0, 1) := by decide +kernel
theorem dX12_unit_84 : decode cX12_unit 84 = .ok (.invokevirtual 103, 3) := by decide +kernel
theorem dX12_unit_87 : decode cX12_unit 87 = .ok (.ireturn, 1) := by decide +kernel
theorem dX12_unit_88 : decode cX12_unit 88 = .ok (.aload_n 0, 1) := by decide +kernel
theorem dX12_unit_89 : decode cX12_unit 89 = .ok (.dup, 1) := by decide +kernel
theorem dX12_unit_90 : decode cX12_unit 90 = .ok (.getfield 100, 3) := by decide +kernel
theorem dX12_unit_93 : decode cX12_unit 93 = .ok (.iconst 1, 1) := by decide +kernel
theorem dX12_unit_94 : decode cX12_unit 94 = .ok (.isub, 1) := by decide +kernel
theorem dX12_unit_95 : decode cX12_unit 95 = .ok (.putfield 100, 3) := by decide +kernel
theorem dX12_unit_98 : decode cX12_unit 98 = .ok (.iload_n 1, 1) := by decide +kernel
theorem dX12_unit_99 : decode cX12_unit 99 = .ok (.bipush 40, 2) := by decide +kernel
theorem dX12_unit_101 : decode cX12_unit 101 = .ok (.if_icmp .ne 7, 3) := by decide +kernel
theorem dX12_unit_104 : decode cX12_unit 104 = .ok (.iload_n 2, 1) := by decide +kernel
theorem dX12_unit_105 : decode cX12_unit 105 = .ok (.goto 12, 3) := by decide +kernel
theorem dX12_unit_108 : decode cX12_unit 108 = .ok (.iload_n 2, 1) := by decide +kernel
theorem dX12_unit_109 : decode cX12_unit 109 = .ok (.ifCond .ne 7, 3) := by decide +kernel
theorem dX12_unit_112 : decode cX12_unit 112 = .ok (.iconst 1, 1) := by decide +kernel
theorem dX12_unit_113 : decode cX12_unit 113 = .ok (.goto 4, 3) := by decide +kernel
theorem dX12_unit_116 : decode cX12_unit 116 = .ok (.iconst 0, 1) := by decide +kernel
theorem dX12_unit_117 : decode cX12_unit 117 = .ok (.ireturn, 1) := by decide +kernel
theorem dX12_unit_118 : decode cX12_unit 118 = .ok (.aload_n 0, 1) := by decide +kernel
theorem dX12_unit_119 : decode cX12_unit 119 = .ok (.iload_n 1, 1) := by decide +kernel
theorem dX12_unit_120 : decode cX12_unit 120 = .ok (.invokevirtual 109, 3) := by decide +kernel
theorem dX12_unit_123 : decode cX12_unit 123 = .ok (.istore_n 2, 1) := by decide +kernel
theorem dX12_unit_124 : decode cX12_unit 124 = .ok (.iload_n 2, 1) := by decide +kernel
theorem dX12_unit_125 : decode cX12_unit 125 = .ok (.ifCond .lt 20, 3) := by decide +kernel
theorem dX12_unit_128 : decode cX12_unit 128 = .ok (.aload_n 0, 1) := by decide +kernel
theorem dX12_unit_129 : decode cX12_unit 129 = .ok (.dup, 1) := by decide +kernel
theorem dX12_unit_130 : decode cX12_unit 130 = .ok (.getfield 61, 3) := by decide +kernel
theorem dX12_unit_133 : decode cX12_unit 133 = .ok (.iconst 1, 1) := by decide +kernel
theorem dX12_unit_134 : decode cX12_unit 134 = .ok (.iadd, 1) := by decide +kernel
theorem dX12_unit_135 : decode cX12_unit 135 = .ok (.putfield 61, 3) := by decide +kernel
theorem dX12_unit_138 : decode cX12_unit 138 = .ok (.aload_n 0, 1) := by decide +kernel
theorem dX12_unit_139 : decode cX12_unit 139 = .ok (.getfield 22, 3) := by decide +kernel
theorem dX12_unit_142 : decode cX12_unit 142 = .ok (.iload_n 2, 1) := by decide +kernel
theorem dX12_unit_143 : decode cX12_unit 143 = .ok (.iaload, 1) := by decide +kernel
theorem dX12_unit_144 : decode cX12_unit 144 = .ok (.ireturn, 1) := by decide +kernel
theorem dX12_unit_145 : decode cX12_unit 145 = .ok (.iconst 0, 1) := by decide +kernel
theorem dX12_unit_146 : decode cX12_unit 146 = .ok (.istore_n 3, 1) := by decide +kernel
theorem dX12_unit_147 : decode cX12_unit 147 = .ok (.iconst 0, 1) := by decide +kernel
theorem dX12_unit_148 : decode cX12_unit 148 = .ok (.istore 4, 2) := by decide +kernel
theorem dX12_unit_150 : decode cX12_unit 150 = .ok (.iload 4, 2) := by decide +kernel
theorem dX12_unit_152 : decode cX12_unit 152 = .ok (.iconst 4, 1) := by decide +kernel
theorem dX12_unit_153 : decode cX12_unit 153 = .ok (.if_icmp .ge 49, 3) := by decide +kernel
theorem dX12_unit_156 : decode cX12_unit 156 = .ok (.aload_n 0, 1) := by decide +kernel
theorem dX12_unit_157 : decode cX12_unit 157 = .ok (.invokevirtual 73, 3) := by decide +kernel
theorem dX12_unit_160 : decode cX12_unit 160 = .ok (.i2l, 1) := by decide +kernel
theorem dX12_unit_161 : decode cX12_unit 161 = .ok (.ldc2_w 113, 3) := by decide +kernel
theorem dX12_unit_164 : decode cX12_unit 164 = .ok (.ldc2_w 115, 3) := by decide +kernel
theorem dX12_unit_167 : decode cX12_unit 167 = .ok (.invokestatic 57, 3) := by decide +kernel
theorem dX12_unit_170 : decode cX12_unit 170 = .ok (.ifCond .eq 32, 3) := by decide +kernel
theorem dX12_unit_173 : decode cX12_unit 173 = .ok (.bipush 10, 2) := by decide +kernel
theorem dX12_unit_175 : decode cX12_unit 175 = .ok (.iload_n 3, 1) := by decide +kernel
theorem dX12_unit_176 : decode cX12_unit 176 = .ok (.imul, 1) := by decide +kernel
theorem dX12_unit_177 : decode cX12_unit 177 = .ok (.aload_n 0, 1) := by decide +kernel
theorem dX12_unit_178 : decode cX12_unit 178 = .ok (.invokevirtual 73, 3) := by decide +kernel
theorem dX12_unit_181 : decode cX12_unit 181 = .ok (.iadd, 1) := by decide +kernel
theorem dX12_unit_182 : decode cX12_unit 182 = .ok (.bipush 48, 2) := by decide +kernel
theorem dX12_unit_184 : decode cX12_unit 184 = .ok (.isub, 1) := by decide +kernel
theorem dX12_unit_185 : decode cX12_unit 185 = .ok (.istore_n 3, 1) := by decide +kernel
theorem dX12_unit_186 : decode cX12_unit 186 = .ok (.aload_n 0, 1) := by decide +kernel
theorem dX12_unit_187 : decode cX12_unit 187 = .ok (.dup, 1) := by decide +kernel
theorem dX12_unit_188 : decode cX12_unit 188 = .ok (.getfield 61, 3) := by decide +kernel
theorem dX12_unit_191 : decode cX12_unit 191 = .ok (.iconst 1, 1) := by decide +kernel
theorem dX12_unit_192 : decode cX12_unit 192 = .ok (.iadd, 1) := by decide +kernel
theorem dX12_unit_193 : decode cX12_unit 193 = .ok (.putfield 61, 3) := by decide +kernel
theorem dX12_unit_196 : decode cX12_unit 196 = .ok (.iinc 4 1, 3) := by decide +kernel
theorem dX12_unit_199 : decode cX12_unit 199 = .ok (.goto (-49), 3) := by decide +kernel
theorem dX12_unit_202 : decode cX12_unit 202 = .ok (.iload 4, 2) := by decide +kernel
theorem dX12_unit_204 : decode cX12_unit 204 = .ok (.ifCond .ne 10, 3) := by decide +kernel
theorem dX12_unit_207 : decode cX12_unit 207 = .ok (.aload_n 0, 1) := by decide +kernel
theorem dX12_unit_208 : decode cX12_unit 208 = .ok (.invokevirtual 103, 3) := by decide +kernel
theorem dX12_unit_211 : decode cX12_unit 211 = .ok (.goto 4, 3) := by decide +kernel
theorem dX12_unit_214 : decode cX12_unit 214 = .ok (.iload_n 3, 1) := by decide +kernel
theorem dX12_unit_215 : decode cX12_unit 215 = .ok (.ireturn, 1) := by decide +kernel
theorem dX12_worked_0 : decode cX12_worked 0 = .ok (.aload_n 0, 1) := by decide +kernel
theorem dX12_worked_1 : decode cX12_worked 1 = .ok (.iload_n 1, 1) := by decide +kernel
theorem dX12_worked_2 : decode cX12_worked 2 = .ok (.putfield 70, 3) := by decide +kernel
theorem dX12_worked_5 : decode cX12_worked 5 = .ok (.aload_n 0, 1) := by decide +kernel
theorem dX12_worked_6 : decode cX12_worked 6 = .ok (.iconst 0, 1) := by decide +kernel
theorem dX12_worked_7 : decode cX12_worked 7 = .ok (.putfield 61, 3) := by decide +kernel
theorem dX12_worked_10 : decode cX12_worked 10 = .ok (.aload_n 0, 1) := by decide +kernel
theorem dX12_worked_11 : decode cX12_worked 11 = .ok (.iload_n 2, 1) := by decide +kernel
theorem dX12_worked_12 : decode cX12_worked 12 = .ok (.putfield 64, 3) := by decide +kernel
theorem dX12_worked_15 : decode cX12_worked 15 = .ok (.aload_n 0, 1) := by decide +kernel
theorem dX12_worked_16 : decode cX12_worked 16 = .ok (.iconst (-1), 1) := by decide +kernel
theorem dX12_worked_17 : decode cX12_worked 17 = .ok (.putfield 67, 3) := by decide +kernel
theorem dX12_worked_20 : decode cX12_worked 20 = .ok (.aload_n 0, 1) := by decide +kernel
theorem dX12_worked_21 : decode cX12_worked 21 = .ok (.iconst 0, 1) := by decide +kernel
theorem dX12_worked_22 : decode cX12_worked 22 = .ok (.putfield 100, 3) := by decide +kernel
theorem dX12_worked_25 : decode cX12_worked 25 = .ok (.aload_n 0, 1) := by decide +kernel
theorem dX12_worked_26 : decode cX12_worked 26 = .ok (.iload_n 3, 1) := by decide +kernel
theorem dX12_worked_27 : decode cX12_worked 27 = .ok (.iconst 1, 1) := by decide +kernel
theorem dX12_worked_28 : decode cX12_worked 28 = .ok (.if_icmp .ne 7, 3) := by decide +kernel
theorem dX12_worked_31 : decode cX12_worked 31 = .ok (.iconst 1, 1) := by decide +kernel
theorem dX12_worked_32 : decode cX12_worked 32 = .ok (.goto 4, 3) := by decide +kernel
theorem dX12_worked_35 : decode cX12_worked 35 = .ok (.iconst 0, 1) := by decide +kernel
theorem dX12_worked_36 : decode cX12_worked 36 = .ok (.putfield 77, 3) := by decide +kernel
theorem dX12_worked_39 : decode cX12_worked 39 = .ok (.aload_n 0, 1) := by decide +kernel
theorem dX12_worked_40 : decode cX12_worked 40 = .ok (.invokevirtual 106, 3) := by decide +kernel
theorem dX12_worked_43 : decode cX12_worked 43 = .ok (.istore 4, 2) := by decide +kernel
theorem dX12_worked_45 : decode cX12_worked 45 = .ok (.aload_n 0, 1) := by decide +kernel
theorem dX12_worked_46 : decode cX12_worked 46 = .ok (.getfield 67, 3) := by decide +kernel
theorem dX12_worked_49 : decode cX12_worked 49 = .ok (.ifCond .ge 19, 3) := by decide +kernel
theorem dX12_worked_52 : decode cX12_worked 52 = .ok (.aload_n 0, 1) := by decide +kernel
theorem dX12_worked_53 : decode cX12_worked 53 = .ok (.getfield 61, 3) := by decide +kernel
theorem dX12_worked_56 : decode cX12_worked 56 = .ok (.aload_n 0, 1) := by decide +kernel
theorem dX12_worked_57 : decode cX12_worked 57 = .ok (.getfield 64, 3) := by decide +kernel
theorem dX12_worked_60 : decode cX12_worked 60 = .ok (.if_icmp .ge 8, 3) := by decide +kernel
theorem dX12_worked_63 : decode cX12_worked 63 = .ok (.aload_n 0, 1) := by decide +kernel
theorem dX12_worked_64 : decode cX12_worked 64 = .ok (.invokevirtual 103, 3) := by decide +kernel
theorem dX12_worked_67 : decode cX12_worked 67 = .ok (.ireturn, 1) := by decide +kernel
theorem dX12_worked_68 : decode cX12_worked 68 = .ok (.iload 4, 2) := by decide +kernel
theorem dX12_worked_70 : decode cX12_worked 70 = .ok (.ireturn, 1) := by decide +kernel
theorem dX12_feed_0 : decode cX12_feed 0 = .ok (.iload_n 3, 1) := by decide +kernel
theorem dX12_feed_1 : decode cX12_feed 1 = .ok (.i2l, 1) := by decide +kernel
theorem dX12_feed_2 : decode cX12_feed 2 = .ok (.lconst 1, 1) := by decide +kernel
theorem dX12_feed_3 : decode cX12_feed 3 = .ok (.ldc2_w 117, 3) := by decide +kernel
theorem dX12_feed_6 : decode cX12_feed 6 = .ok (.invokestatic 57, 3) := by decide +kernel
theorem dX12_feed_9 : decode cX12_feed 9 = .ok (.ifCond .ne 9, 3) := by decide +kernel
theorem dX12_feed_12 : decode cX12_feed 12 = .ok (.aload_n 0, 1) := by decide +kernel
theorem dX12_feed_13 : decode cX12_feed 13 = .ok (.iconst 1, 1) := by decide +kernel
theorem dX12_feed_14 : decode cX12_feed 14 = .ok (.invokevirtual 119, 3) := by decide +kernel
theorem dX12_feed_17 : decode cX12_feed 17 = .ok (.ireturn, 1) := by decide +kernel
theorem dX12_feed_18 : decode cX12_feed 18 = .ok (.aload_n 0, 1) := by decide +kernel
theorem dX12_feed_19 : decode cX12_feed 19 = .ok (.getfield 7, 3) := by decide +kernel
theorem dX12_feed_22 : decode cX12_feed 22 = .ok (.iconst 5, 1) := by decide +kernel
theorem dX12_feed_23 : decode cX12_feed 23 = .ok (.iaload, 1) := by decide +kernel
theorem dX12_feed_24 : decode cX12_feed 24 = .ok (.iload_n 3, 1) := by decide +kernel
theorem dX12_feed_25 : decode cX12_feed 25 = .ok (.iadd, 1) := by decide +kernel
theorem dX12_feed_26 : decode cX12_feed 26 = .ok (.bipush 50, 2) := by decide +kernel
theorem dX12_feed_28 : decode cX12_feed 28 = .ok (.if_icmp .le 9, 3) := by decide +kernel
theorem dX12_feed_31 : decode cX12_feed 31 = .ok (.aload_n 0, 1) := by decide +kernel
theorem dX12_feed_32 : decode cX12_feed 32 = .ok (.iconst 4, 1) := by decide +kernel
theorem dX12_feed_33 : decode cX12_feed 33 = .ok (.invokevirtual 119, 3) := by decide +kernel
theorem dX12_feed_36 : decode cX12_feed 36 = .ok (.ireturn, 1) := by decide +kernel
theorem dX12_feed_37 : decode cX12_feed 37 = .ok (.iconst 0, 1) := by decide +kernel
theorem dX12_feed_38 : decode cX12_feed 38 = .ok (.istore 4, 2) := by decide +kernel
theorem dX12_feed_40 : decode cX12_feed 40 = .ok (.iload 4, 2) := by decide +kernel
theorem dX12_feed_42 : decode cX12_feed 42 = .ok (.iload_n 3, 1) := by decide +kernel
theorem dX12_feed_43 : decode cX12_feed 43 = .ok (.if_icmp .ge 46, 3) := by decide +kernel
theorem dX12_feed_46 : decode cX12_feed 46 = .ok (.aload_n 0, 1) := by decide +kernel
theorem dX12_feed_47 : decode cX12_feed 47 = .ok (.getfield 7, 3) := by decide +kernel
theorem dX12_feed_50 : decode cX12_feed 50 = .ok (.sipush 292, 3) := by decide +kernel
theorem dX12_feed_53 : decode cX12_feed 53 = .ok (.aload_n 0, 1) := by decide +kernel
theorem dX12_feed_54 : decode cX12_feed 54 = .ok (.getfield 7, 3) := by decide +kernel
theorem dX12_feed_57 : decode cX12_feed 57 = .ok (.iconst 5, 1) := by decide +kernel
theorem dX12_feed_58 : decode cX12_feed 58 = .ok (.iaload, 1) := by decide +kernel
theorem dX12_feed_59 : decode cX12_feed 59 = .ok (.iadd, 1) := by decide +kernel
theorem dX12_feed_60 : decode cX12_feed 60 = .ok (.lload_n 1, 1) := by decide +kernel
theorem dX12_feed_61 : decode cX12_feed 61 = .ok (.bipush 8, 2) := by decide +kernel
theorem dX12_feed_63 : decode cX12_feed 63 = .ok (.iload 4, 2) := by decide +kernel
theorem dX12_feed_65 : decode cX12_feed 65 = .ok (.imul, 1) := by decide +kernel
theorem dX12_feed_66 : decode cX12_feed 66 = .ok (.lshr, 1) := by decide +kernel
theorem dX12_feed_67 : decode cX12_feed 67 = .ok (.ldc2_w 122, 3) := by decide +kernel
theorem dX12_feed_70 : decode cX12_feed 70 = .ok (.land, 1) := by decide +kernel
theorem dX12_feed_71 : decode cX12_feed 71 = .ok (.l2i, 1) := by decide +kernel
theorem dX12_feed_72 : decode cX12_feed 72 = .ok (.iastore, 1) := by decide +kernel
theorem dX12_feed_73 : decode cX12_feed 73 = .ok (.aload_n 0, 1) := by decide +kernel
theorem dX12_feed_74 : decode cX12_feed 74 = .ok (.getfield 7, 3) := by decide +kernel
theorem dX12_feed_77 : decode cX12_feed 77 = .ok (.iconst 5, 1) := by decide +kernel
theorem dX12_feed_78 : decode cX12_feed 78 = .ok (.dup2, 1) := by decide +kernel
theorem dX12_feed_79 : decode cX12_feed 79 = .ok (.iaload, 1) := by decide +kernel
theorem dX12_feed_80 : decode cX12_feed 80 = .ok (.iconst 1, 1) := by decide +kernel
theorem dX12_feed_81 : decode cX12_feed 81 = .ok (.iadd, 1) := by decide +kernel
theorem dX12_feed_82 : decode cX12_feed 82 = .ok (.iastore, 1) := by decide +kernel
theorem dX12_feed_83 : decode cX12_feed 83 = .ok (.iinc 4 1, 3) := by decide +kernel
theorem dX12_feed_86 : decode cX12_feed 86 = .ok (.goto (-46), 3) := by decide +kernel
theorem dX12_feed_89 : decode cX12_feed 89 = .ok (.aload_n 0, 1) := by decide +kernel
theorem dX12_feed_90 : decode cX12_feed 90 = .ok (.getfield 7, 3) := by decide +kernel
theorem dX12_feed_93 : decode cX12_feed 93 = .ok (.iconst 5, 1) := by decide +kernel
theorem dX12_feed_94 : decode cX12_feed 94 = .ok (.iaload, 1) := by decide +kernel
theorem dX12_feed_95 : decode cX12_feed 95 = .ok (.ireturn, 1) := by decide +kernel
theorem dX12_text_0 : decode cX12_text 0 = .ok (.iload_n 1, 1) := by decide +kernel
theorem dX12_text_1 : decode cX12_text 1 = .ok (.i2l, 1) := by decide +kernel
theorem dX12_text_2 : decode cX12_text 2 = .ok (.lconst 0, 1) := by decide +kernel
theorem dX12_text_3 : decode cX12_text 3 = .ok (.lconst 1, 1) := by decide +kernel
theorem dX12_text_4 : decode cX12_text 4 = .ok (.invokestatic 57, 3) := by decide +kernel
theorem dX12_text_7 : decode cX12_text 7 = .ok (.ifCond .ne 9, 3) := by decide +kernel
theorem dX12_text_10 : decode cX12_text 10 = .ok (.aload_n 0, 1) := by decide +kernel
theorem dX12_text_11 : decode cX12_text 11 = .ok (.iconst 1, 1) := by decide +kernel
theorem dX12_text_12 : decode cX12_text 12 = .ok (.invokevirtual 119, 3) := by decide +kernel
theorem dX12_text_15 : decode cX12_text 15 = .ok (.ireturn, 1) := by decide +kernel
theorem dX12_text_16 : decode cX12_text 16 = .ok (.aload_n 0, 1) := by decide +kernel
theorem dX12_text_17 : decode cX12_text 17 = .ok (.getfield 7, 3) := by decide +kernel
theorem dX12_text_20 : decode cX12_text 20 = .ok (.iconst 5, 1) := by decide +kernel
theorem dX12_text_21 : decode cX12_text 21 = .ok (.iaload, 1) := by decide +kernel
theorem dX12_text_22 : decode cX12_text 22 = .ok (.istore_n 2, 1) := by decide +kernel
theorem dX12_text_23 : decode cX12_text 23 = .ok (.aload_n 0, 1) := by decide +kernel
theorem dX12_text_24 : decode cX12_text 24 = .ok (.getfield 7, 3) := by decide +kernel
theorem dX12_text_27 : decode cX12_text 27 = .ok (.iconst 5, 1) := by decide +kernel
theorem dX12_text_28 : decode cX12_text 28 = .ok (.iconst 0, 1) := by decide +kernel
theorem dX12_text_29 : decode cX12_text 29 = .ok (.iastore, 1) := by decide +kernel
theorem dX12_text_30 : decode cX12_text 30 = .ok (.aload_n 0, 1) := by decide +kernel
theorem dX12_text_31 : decode cX12_text 31 = .ok (.sipush 292, 3) := by decide +kernel
theorem dX12_text_34 : decode cX12_text 34 = .ok (.iload_n 2, 1) := by decide +kernel
theorem dX12_text_35 : decode cX12_text 35 = .ok (.iload_n 1, 1) := by decide +kernel
theorem dX12_text_36 : decode cX12_text 36 = .ok (.invokevirtual 124, 3) := by decide +kernel
theorem dX12_text_39 : decode cX12_text 39 = .ok (.istore_n 3, 1) := by decide +kernel
theorem dX12_text_40 : decode cX12_text 40 = .ok (.aload_n 0, 1) := by decide +kernel
theorem dX12_text_41 : decode cX12_text 41 = .ok (.getfield 67, 3) := by decide +kernel
theorem dX12_text_44 : decode cX12_text 44 = .ok (.ifCond .lt 11, 3) := by decide +kernel
theorem dX12_text_47 : decode cX12_text 47 = .ok (.bipush (-10), 2) := by decide +kernel
theorem dX12_text_49 : decode cX12_text 49 = .ok (.aload_n 0, 1) := by decide +kernel
theorem dX12_text_50 : decode cX12_text 50 = .ok (.getfield 67, 3) := by decide +kernel
theorem dX12_text_53 : decode cX12_text 53 = .ok (.isub, 1) := by decide +kernel
theorem dX12_text_54 : decode cX12_text 54 = .ok (.ireturn, 1) := by decide +kernel
theorem dX12_text_55 : decode cX12_text 55 = .ok (.aload_n 0, 1) := by decide +kernel
theorem dX12_text_56 : decode cX12_text 56 = .ok (.getfield 7, 3) := by decide +kernel
theorem dX12_text_59 : decode cX12_text 59 = .ok (.sipush 170, 3) := by decide +kernel
theorem dX12_text_62 : decode cX12_text 62 = .ok (.iload_n 1, 1) := by decide +kernel
theorem dX12_text_63 : decode cX12_text 63 = .ok (.iadd, 1) := by decide +kernel
theorem dX12_text_64 : decode cX12_text 64 = .ok (.iload_n 2, 1) := by decide +kernel
theorem dX12_text_65 : decode cX12_text 65 = .ok (.iastore, 1) := by decide +kernel
theorem dX12_text_66 : decode cX12_text 66 = .ok (.iconst 0, 1) := by decide +kernel
theorem dX12_text_67 : decode cX12_text 67 = .ok (.istore 4, 2) := by decide +kernel
theorem dX12_text_69 : decode cX12_text 69 = .ok (.iload 4, 2) := by decide +kernel
theorem dX12_text_71 : decode cX12_text 71 = .ok (.iload_n 2, 1) := by decide +kernel
theorem dX12_text_72 : decode cX12_text 72 = .ok (.if_icmp .ge 36, 3) := by decide +kernel
theorem dX12_text_75 : decode cX12_text 75 = .ok (.aload_n 0, 1) := by decide +kernel
theorem dX12_text_76 : decode cX12_text 76 = .ok (.getfield 7, 3) := by decide +kernel
theorem dX12_text_79 : decode cX12_text 79 = .ok (.sipush 192, 3) := by decide +kernel
theorem dX12_text_82 : decode cX12_text 82 = .ok (.bipush 50, 2) := by decide +kernel
theorem dX12_text_84 : decode cX12_text 84 = .ok (.iload_n 1, 1) := by decide +kernel
theorem dX12_text_85 : decode cX12_text 85 = .ok (.imul, 1) := by decide +kernel
theorem dX12_text_86 : decode cX12_text 86 = .ok (.iadd, 1) := by decide +kernel
theorem dX12_text_87 : decode cX12_text 87 = .ok (.iload 4, 2) := by decide +kernel
theorem dX12_text_89 : decode cX12_text 89 = .ok (.iadd, 1) := by decide +kernel
theorem dX12_text_90 : decode cX12_text 90 = .ok (.aload_n 0, 1) := by decide +kernel
theorem dX12_text_91 : decode cX12_text 91 = .ok (.getfield 7, 3) := by decide +kernel
theorem dX12_text_94 : decode cX12_text 94 = .ok (.sipush 292, 3) := by decide +kernel
theorem dX12_text_97 : decode cX12_text 97 = .ok (.iload 4, 2) := by decide +kernel
theorem dX12_text_99 : decode cX12_text 99 = .ok (.iadd, 1) := by decide +kernel
theorem dX12_text_100 : decode cX12_text 100 = .ok (.iaload, 1) := by decide +kernel
theorem dX12_text_101 : decode cX12_text 101 = .ok (.iastore, 1) := by decide +kernel
theorem dX12_text_102 : decode cX12_text 102 = .ok (.iinc 4 1, 3) := by decide +kernel
theorem dX12_text_105 : decode cX12_text 105 = .ok (.goto (-36), 3) := by decide +kernel
theorem dX12_text_108 : decode cX12_text 108 = .ok (.iconst 1, 1) := by decide +kernel
theorem dX12_text_109 : decode cX12_text 109 = .ok (.ireturn, 1) := by decide +kernel
theorem dX12_textGives_0 : decode cX12_textGives 0 = .ok (.iload_n 1, 1) := by decide +kernel
theorem dX12_textGives_1 : decode cX12_textGives 1 = .ok (.ifCond .ne 8, 3) := by decide +kernel
theorem dX12_textGives_4 : decode cX12_textGives 4 = .ok (.bipush 10, 2) := by decide +kernel
theorem dX12_textGives_6 : decode cX12_textGives 6 = .ok (.goto 14, 3) := by decide +kernel
theorem dX12_textGives_9 : decode cX12_textGives 9 = .ok (.bipush 10, 2) := by decide +kernel
theorem dX12_textGives_11 : decode cX12_textGives 11 = .ok (.iload 4, 2) := by decide +kernel
theorem dX12_textGives_13 : decode cX12_textGives 13 = .ok (.imul, 1) := by decide +kernel
theorem dX12_textGives_14 : decode cX12_textGives 14 = .ok (.iconst 5, 1) := by decide +kernel
theorem dX12_textGives_15 : decode cX12_textGives 15 = .ok (.iload_n 3, 1) := by decide +kernel
theorem dX12_textGives_16 : decode cX12_textGives 16 = .ok (.imul, 1) := by decide +kernel
theorem dX12_textGives_17 : decode cX12_textGives 17 = .ok (.isub, 1) := by decide +kernel
theorem dX12_textGives_18 : decode cX12_textGives 18 = .ok (.iload_n 2, 1) := by decide +kernel
theorem dX12_textGives_19 : decode cX12_textGives 19 = .ok (.isub, 1) := by decide +kernel
theorem dX12_textGives_20 : decode cX12_textGives 20 = .ok (.istore 5, 2) := by decide +kernel
theorem dX12_textGives_22 : decode cX12_textGives 22 = .ok (.aload_n 0, 1) := by decide +kernel
theorem dX12_textGives_23 : decode cX12_textGives 23 = .ok (.getfield 7, 3) := by decide +kernel
theorem dX12_textGives_26 : decode cX12_textGives 26 = .ok (.sipush 170, 3) := by decide +kernel
theorem dX12_textGives_29 : decode cX12_textGives 29 = .ok (.iload_n 1, 1) := by decide +kernel
theorem dX12_textGives_30 : decode cX12_textGives 30 = .ok (.iadd, 1) := by decide +kernel
theorem dX12_textGives_31 : decode cX12_textGives 31 = .ok (.iaload, 1) := by decide +kernel
theorem dX12_textGives_32 : decode cX12_textGives 32 = .ok (.ifCond .le 50, 3) := by decide +kernel
theorem dX12_textGives_35 : decode cX12_textGives 35 = .ok (.aload_n 0, 1) := by decide +kernel
theorem dX12_textGives_36 : decode cX12_textGives 36 = .ok (.getfield 22, 3) := by decide +kernel
theorem dX12_textGives_39 : decode cX12_textGives 39 = .ok (.iconst 0, 1) := by decide +kernel
theorem dX12_textGives_40 : decode cX12_textGives 40 = .ok (.iload_n 2, 1) := by decide +kernel
theorem dX12_textGives_41 : decode cX12_textGives 41 = .ok (.iastore, 1) := by decide +kernel
theorem dX12_textGives_42 : decode cX12_textGives 42 = .ok (.aload_n 0, 1) := by decide +kernel
theorem dX12_textGives_43 : decode cX12_textGives 43 = .ok (.getfield 22, 3) := by decide +kernel
theorem dX12_textGives_46 : decode cX12_textGives 46 = .ok (.iconst 1, 1) := by decide +kernel
theorem dX12_textGives_47 : decode cX12_textGives 47 = .ok (.iload_n 3, 1) := by decide +kernel
theorem dX12_textGives_48 : decode cX12_textGives 48 = .ok (.iastore, 1) := by decide +kernel
theorem dX12_textGives_49 : decode cX12_textGives 49 = .ok (.aload_n 0, 1) := by decide +kernel
theorem dX12_textGives_50 : decode cX12_textGives 50 = .ok (.getfield 22, 3) := by decide +kernel
theorem dX12_textGives_53 : decode cX12_textGives 53 = .ok (.iconst 2, 1) := by decide +kernel
theorem dX12_textGives_54 : decode cX12_textGives 54 = .ok (.iload 4, 2) := by decide +kernel
theorem dX12_textGives_56 : decode cX12_textGives 56 = .ok (.iastore, 1) := by decide +kernel
theorem dX12_textGives_57 : decode cX12_textGives 57 = .ok (.aload_n 0, 1) := by decide +kernel
theorem dX12_textGives_58 : decode cX12_textGives 58 = .ok (.sipush 192, 3) := by decide +kernel
theorem dX12_textGives_61 : decode cX12_textGives 61 = .ok (.bipush 50, 2) := by decide +kernel
theorem dX12_textGives_63 : decode cX12_textGives 63 = .ok (.iload_n 1, 1) := by decide +kernel
theorem dX12_textGives_64 : decode cX12_textGives 64 = .ok (.imul, 1) := by decide +kernel
theorem dX12_textGives_65 : decode cX12_textGives 65 = .ok (.iadd, 1) := by decide +kernel
theorem dX12_textGives_66 : decode cX12_textGives 66 = .ok (.aload_n 0, 1) := by decide +kernel
theorem dX12_textGives_67 : decode cX12_textGives 67 = .ok (.getfield 7, 3) := by decide +kernel
theorem dX12_textGives_70 : decode cX12_textGives 70 = .ok (.sipush 170, 3) := by decide +kernel
theorem dX12_textGives_73 : decode cX12_textGives 73 = .ok (.iload_n 1, 1) := by decide +kernel
theorem dX12_textGives_74 : decode cX12_textGives 74 = .ok (.iadd, 1) := by decide +kernel
theorem dX12_textGives_75 : decode cX12_textGives 75 = .ok (.iaload, 1) := by decide +kernel
theorem dX12_textGives_76 : decode cX12_textGives 76 = .ok (.iload_n 1, 1) := by decide +kernel
theorem dX12_textGives_77 : decode cX12_textGives 77 = .ok (.invokevirtual 124, 3) := by decide +kernel
theorem dX12_textGives_80 : decode cX12_textGives 80 = .ok (.istore 5, 2) := by decide +kernel
theorem dX12_textGives_82 : decode cX12_textGives 82 = .ok (.iload_n 1, 1) := by decide +kernel
theorem dX12_textGives_83 : decode cX12_textGives 83 = .ok (.ifCond .ne 15, 3) := by decide +kernel
theorem dX12_textGives_86 : decode cX12_textGives 86 = .ok (.iload 5, 2) := by decide +kernel
theorem dX12_textGives_88 : decode cX12_textGives 88 = .ok (.iconst 0, 1) := by decide +kernel
theorem dX12_textGives_89 : decode cX12_textGives 89 = .ok (.sipush 999, 3) := by decide +kernel
theorem dX12_textGives_92 : decode cX12_textGives 92 = .ok (.invokestatic 128, 3) := by decide +kernel
theorem dX12_textGives_95 : decode cX12_textGives 95 = .ok (.goto 14, 3) := by decide +kernel
theorem dX12_textGives_98 : decode cX12_textGives 98 = .ok (.iload 5, 2) := by decide +kernel
theorem dX12_textGives_100 : decode cX12_textGives 100 = .ok (.sipush (-999), 3) := by decide +kernel
theorem dX12_textGives_103 : decode cX12_textGives 103 = .ok (.sipush 999, 3) := by decide +kernel
theorem dX12_textGives_106 : decode cX12_textGives 106 = .ok (.invokestatic 128, 3) := by decide +kernel
theorem dX12_textGives_109 : decode cX12_textGives 109 = .ok (.ireturn, 1) := by decide +kernel
theorem dX12_law_0 : decode cX12_law 0 = .ok (.iload_n 1, 1) := by decide +kernel
theorem dX12_law_1 : decode cX12_law 1 = .ok (.i2l, 1) := by decide +kernel
theorem dX12_law_2 : decode cX12_law 2 = .ok (.lconst 0, 1) := by decide +kernel
theorem dX12_law_3 : decode cX12_law 3 = .ok (.lconst 1, 1) := by decide +kernel
theorem dX12_law_4 : decode cX12_law 4 = .ok (.invokestatic 57, 3) := by decide +kernel
theorem dX12_law_7 : decode cX12_law 7 = .ok (.ifCond .eq 15, 3) := by decide +kernel
theorem dX12_law_10 : decode cX12_law 10 = .ok (.aload_n 0, 1) := by decide +kernel
theorem dX12_law_11 : decode cX12_law 11 = .ok (.iload_n 1, 1) := by decide +kernel
theorem dX12_law_12 : decode cX12_law 12 = .ok (.iload_n 2, 1) := by decide +kernel
theorem dX12_law_13 : decode cX12_law 13 = .ok (.iload_n 3, 1) := by decide +kernel
theorem dX12_law_14 : decode cX12_law 14 = .ok (.iload 4, 2) := by decide +kernel
theorem dX12_law_16 : decode cX12_law 16 = .ok (.invokevirtual 131, 3) := by decide +kernel
theorem dX12_law_19 : decode cX12_law 19 = .ok (.goto 8, 3) := by decide +kernel
theorem dX12_law_22 : decode cX12_law 22 = .ok (.aload_n 0, 1) := by decide +kernel
theorem dX12_law_23 : decode cX12_law 23 = .ok (.iconst 1, 1) := by decide +kernel
theorem dX12_law_24 : decode cX12_law 24 = .ok (.invokevirtual 119, 3) := by decide +kernel
theorem dX12_law_27 : decode cX12_law 27 = .ok (.ireturn, 1) := by decide +kernel
theorem dX12_fact_0 : decode cX12_fact 0 = .ok (.iload_n 1, 1) := by decide +kernel
theorem dX12_fact_1 : decode cX12_fact 1 = .ok (.i2l, 1) := by decide +kernel
theorem dX12_fact_2 : decode cX12_fact 2 = .ok (.lconst 0, 1) := by decide +kernel
theorem dX12_fact_3 : decode cX12_fact 3 = .ok (.ldc2_w 122, 3) := by decide +kernel
theorem dX12_fact_6 : decode cX12_fact 6 = .ok (.invokestatic 57, 3) := by decide +kernel
theorem dX12_fact_9 : decode cX12_fact 9 = .ok (.ifCond .eq 29, 3) := by decide +kernel
theorem dX12_fact_12 : decode cX12_fact 12 = .ok (.iload_n 1, 1) := by decide +kernel
theorem dX12_fact_13 : decode cX12_fact 13 = .ok (.aload_n 0, 1) := by decide +kernel
theorem dX12_fact_14 : decode cX12_fact 14 = .ok (.getfield 7, 3) := by decide +kernel
theorem dX12_fact_17 : decode cX12_fact 17 = .ok (.iconst 0, 1) := by decide +kernel
theorem dX12_fact_18 : decode cX12_fact 18 = .ok (.iaload, 1) := by decide +kernel
theorem dX12_fact_19 : decode cX12_fact 19 = .ok (.ishr, 1) := by decide +kernel
theorem dX12_fact_20 : decode cX12_fact 20 = .ok (.iconst 1, 1) := by decide +kernel
theorem dX12_fact_21 : decode cX12_fact 21 = .ok (.iand, 1) := by decide +kernel
theorem dX12_fact_22 : decode cX12_fact 22 = .ok (.iconst 1, 1) := by decide +kernel
theorem dX12_fact_23 : decode cX12_fact 23 = .ok (.if_icmp .eq 15, 3) := by decide +kernel
theorem dX12_fact_26 : decode cX12_fact 26 = .ok (.iload_n 2, 1) := by decide +kernel
theorem dX12_fact_27 : decode cX12_fact 27 = .ok (.i2l, 1) := by decide +kernel
theorem dX12_fact_28 : decode cX12_fact 28 = .ok (.lconst 0, 1) := by decide +kernel
theorem dX12_fact_29 : decode cX12_fact 29 = .ok (.ldc2_w 135, 3) := by decide +kernel
theorem dX12_fact_32 : decode cX12_fact 32 = .ok (.invokestatic 57, 3) := by decide +kernel
theorem dX12_fact_35 : decode cX12_fact 35 = .ok (.ifCond .ne 9, 3) := by decide +kernel
theorem dX12_fact_38 : decode cX12_fact 38 = .ok (.aload_n 0, 1) := by decide +kernel
theorem dX12_fact_39 : decode cX12_fact 39 = .ok (.iconst 1, 1) := by decide +kernel
theorem dX12_fact_40 : decode cX12_fact 40 = .ok (.invokevirtual 119, 3) := by decide +kernel
theorem dX12_fact_43 : decode cX12_fact 43 = .ok (.ireturn, 1) := by decide +kernel
theorem dX12_fact_44 : decode cX12_fact 44 = .ok (.aload_n 0, 1) := by decide +kernel
theorem dX12_fact_45 : decode cX12_fact 45 = .ok (.getfield 7, 3) := by decide +kernel
theorem dX12_fact_48 : decode cX12_fact 48 = .ok (.iconst 0, 1) := by decide +kernel
theorem dX12_fact_49 : decode cX12_fact 49 = .ok (.iaload, 1) := by decide +kernel
theorem dX12_fact_50 : decode cX12_fact 50 = .ok (.bipush 8, 2) := by decide +kernel
theorem dX12_fact_52 : decode cX12_fact 52 = .ok (.if_icmp .ne 9, 3) := by decide +kernel
theorem dX12_fact_55 : decode cX12_fact 55 = .ok (.aload_n 0, 1) := by decide +kernel
theorem dX12_fact_56 : decode cX12_fact 56 = .ok (.iconst 4, 1) := by decide +kernel
theorem dX12_fact_57 : decode cX12_fact 57 = .ok (.invokevirtual 119, 3) := by decide +kernel
theorem dX12_fact_60 : decode cX12_fact 60 = .ok (.ireturn, 1) := by decide +kernel
theorem dX12_fact_61 : decode cX12_fact 61 = .ok (.aload_n 0, 1) := by decide +kernel
theorem dX12_fact_62 : decode cX12_fact 62 = .ok (.getfield 7, 3) := by decide +kernel
theorem dX12_fact_65 : decode cX12_fact 65 = .ok (.iconst 0, 1) := by decide +kernel
theorem dX12_fact_66 : decode cX12_fact 66 = .ok (.iaload, 1) := by decide +kernel
theorem dX12_fact_67 : decode cX12_fact 67 = .ok (.istore_n 3, 1) := by decide +kernel
theorem dX12_fact_68 : decode cX12_fact 68 = .ok (.aload_n 0, 1) := by decide +kernel
theorem dX12_fact_69 : decode cX12_fact 69 = .ok (.getfield 7, 3) := by decide +kernel
theorem dX12_fact_72 : decode cX12_fact 72 = .ok (.iconst 0, 1) := by decide +kernel
theorem dX12_fact_73 : decode cX12_fact 73 = .ok (.dup2, 1) := by decide +kernel
theorem dX12_fact_74 : decode cX12_fact 74 = .ok (.iaload, 1) := by decide +kernel
theorem dX12_fact_75 : decode cX12_fact 75 = .ok (.iconst 1, 1) := by decide +kernel
theorem dX12_fact_76 : decode cX12_fact 76 = .ok (.iadd, 1) := by decide +kernel
theorem dX12_fact_77 : decode cX12_fact 77 = .ok (.iastore, 1) := by decide +kernel
theorem dX12_fact_78 : decode cX12_fact 78 = .ok (.aload_n 0, 1) := by decide +kernel
theorem dX12_fact_79 : decode cX12_fact 79 = .ok (.iload_n 3, 1) := by decide +kernel
theorem dX12_fact_80 : decode cX12_fact 80 = .ok (.iconst 0, 1) := by decide +kernel
theorem dX12_fact_81 : decode cX12_fact 81 = .ok (.iload_n 1, 1) := by decide +kernel
theorem dX12_fact_82 : decode cX12_fact 82 = .ok (.invokevirtual 137, 3) := by decide +kernel
theorem dX12_fact_85 : decode cX12_fact 85 = .ok (.aload_n 0, 1) := by decide +kernel
theorem dX12_fact_86 : decode cX12_fact 86 = .ok (.iload_n 3, 1) := by decide +kernel
theorem dX12_fact_87 : decode cX12_fact 87 = .ok (.iconst 1, 1) := by decide +kernel
theorem dX12_fact_88 : decode cX12_fact 88 = .ok (.iconst 0, 1) := by decide +kernel
theorem dX12_fact_89 : decode cX12_fact 89 = .ok (.invokevirtual 137, 3) := by decide +kernel
theorem dX12_fact_92 : decode cX12_fact 92 = .ok (.aload_n 0, 1) := by decide +kernel
theorem dX12_fact_93 : decode cX12_fact 93 = .ok (.iload_n 3, 1) := by decide +kernel
theorem dX12_fact_94 : decode cX12_fact 94 = .ok (.iconst 2, 1) := by decide +kernel
theorem dX12_fact_95 : decode cX12_fact 95 = .ok (.iconst 0, 1) := by decide +kernel
theorem dX12_fact_96 : decode cX12_fact 96 = .ok (.invokevirtual 137, 3) := by decide +kernel
theorem dX12_fact_99 : decode cX12_fact 99 = .ok (.aload_n 0, 1) := by decide +kernel
theorem dX12_fact_100 : decode cX12_fact 100 = .ok (.iload_n 3, 1) := by decide +kernel
theorem dX12_fact_101 : decode cX12_fact 101 = .ok (.iconst 3, 1) := by decide +kernel
theorem dX12_fact_102 : decode cX12_fact 102 = .ok (.iconst (-1), 1) := by decide +kernel
theorem dX12_fact_103 : decode cX12_fact 103 = .ok (.invokevirtual 137, 3) := by decide +kernel
theorem dX12_fact_106 : decode cX12_fact 106 = .ok (.aload_n 0, 1) := by decide +kernel
theorem dX12_fact_107 : decode cX12_fact 107 = .ok (.iload_n 3, 1) := by decide +kernel
theorem dX12_fact_108 : decode cX12_fact 108 = .ok (.iconst 4, 1) := by decide +kernel
theorem dX12_fact_109 : decode cX12_fact 109 = .ok (.iload_n 2, 1) := by decide +kernel
theorem dX12_fact_110 : decode cX12_fact 110 = .ok (.invokevirtual 137, 3) := by decide +kernel
theorem dX12_fact_113 : decode cX12_fact 113 = .ok (.iload_n 3, 1) := by decide +kernel
theorem dX12_fact_114 : decode cX12_fact 114 = .ok (.ireturn, 1) := by decide +kernel
theorem dX12_clash_0 : decode cX12_clash 0 = .ok (.aload_n 0, 1) := by decide +kernel
theorem dX12_clash_1 : decode cX12_clash 1 = .ok (.iload_n 1, 1) := by decide +kernel
theorem dX12_clash_2 : decode cX12_clash 2 = .ok (.invokevirtual 141, 3) := by decide +kernel
theorem dX12_clash_5 : decode cX12_clash 5 = .ok (.ifCond .eq 26, 3) := by decide +kernel
theorem dX12_clash_8 : decode cX12_clash 8 = .ok (.aload_n 0, 1) := by decide +kernel
theorem dX12_clash_9 : decode cX12_clash 9 = .ok (.iload_n 2, 1) := by decide +kernel
theorem dX12_clash_10 : decode cX12_clash 10 = .ok (.invokevirtual 141, 3) := by decide +kernel
theorem dX12_clash_13 : decode cX12_clash 13 = .ok (.ifCond .eq 18, 3) := by decide +kernel
theorem dX12_clash_16 : decode cX12_clash 16 = .ok (.iload_n 1, 1) := by decide +kernel
theorem dX12_clash_17 : decode cX12_clash 17 = .ok (.iload_n 2, 1) := by decide +kernel
theorem dX12_clash_18 : decode cX12_clash 18 = .ok (.if_icmp .eq 13, 3) := by decide +kernel
theorem dX12_clash_21 : decode cX12_clash 21 = .ok (.iload_n 3, 1) := by decide +kernel
theorem dX12_clash_22 : decode cX12_clash 22 = .ok (.i2l, 1) := by decide +kernel
theorem dX12_clash_23 : decode cX12_clash 23 = .ok (.lconst 0, 1) := by decide +kernel
theorem dX12_clash_24 : decode cX12_clash 24 = .ok (.lconst 1, 1) := by decide +kernel
theorem dX12_clash_25 : decode cX12_clash 25 = .ok (.invokestatic 57, 3) := by decide +kernel
theorem dX12_clash_28 : decode cX12_clash 28 = .ok (.ifCond .ne 9, 3) := by decide +kernel
theorem dX12_clash_31 : decode cX12_clash 31 = .ok (.aload_n 0, 1) := by decide +kernel
theorem dX12_clash_32 : decode cX12_clash 32 = .ok (.iconst 1, 1) := by decide +kernel
theorem dX12_clash_33 : decode cX12_clash 33 = .ok (.invokevirtual 119, 3) := by decide +kernel
theorem dX12_clash_36 : decode cX12_clash 36 = .ok (.ireturn, 1) := by decide +kernel
theorem dX12_clash_37 : decode cX12_clash 37 = .ok (.aload_n 0, 1) := by decide +kernel
theorem dX12_clash_38 : decode cX12_clash 38 = .ok (.iload_n 1, 1) := by decide +kernel
theorem dX12_clash_39 : decode cX12_clash 39 = .ok (.iconst 1, 1) := by decide +kernel
theorem dX12_clash_40 : decode cX12_clash 40 = .ok (.invokevirtual 144, 3) := by decide +kernel
theorem dX12_clash_43 : decode cX12_clash 43 = .ok (.iload_n 2, 1) := by decide +kernel
theorem dX12_clash_44 : decode cX12_clash 44 = .ok (.ishr, 1) := by decide +kernel
theorem dX12_clash_45 : decode cX12_clash 45 = .ok (.iconst 1, 1) := by decide +kernel
theorem dX12_clash_46 : decode cX12_clash 46 = .ok (.iand, 1) := by decide +kernel
theorem dX12_clash_47 : decode cX12_clash 47 = .ok (.istore 4, 2) := by decide +kernel
theorem dX12_clash_49 : decode cX12_clash 49 = .ok (.aload_n 0, 1) := by decide +kernel
theorem dX12_clash_50 : decode cX12_clash 50 = .ok (.iload_n 1, 1) := by decide +kernel
theorem dX12_clash_51 : decode cX12_clash 51 = .ok (.iconst 1, 1) := by decide +kernel
theorem dX12_clash_52 : decode cX12_clash 52 = .ok (.aload_n 0, 1) := by decide +kernel
theorem dX12_clash_53 : decode cX12_clash 53 = .ok (.iload_n 1, 1) := by decide +kernel
theorem dX12_clash_54 : decode cX12_clash 54 = .ok (.iconst 1, 1) := by decide +kernel
theorem dX12_clash_55 : decode cX12_clash 55 = .ok (.invokevirtual 144, 3) := by decide +kernel
theorem dX12_clash_58 : decode cX12_clash 58 = .ok (.iconst 1, 1) := by decide +kernel
theorem dX12_clash_59 : decode cX12_clash 59 = .ok (.iload_n 2, 1) := by decide +kernel
theorem dX12_clash_60 : decode cX12_clash 60 = .ok (.ishl, 1) := by decide +kernel
theorem dX12_clash_61 : decode cX12_clash 61 = .ok (.iconst (-1), 1) := by decide +kernel
theorem dX12_clash_62 : decode cX12_clash 62 = .ok (.ixor, 1) := by decide +kernel
theorem dX12_clash_63 : decode cX12_clash 63 = .ok (.iand, 1) := by decide +kernel
theorem dX12_clash_64 : decode cX12_clash 64 = .ok (.iload_n 3, 1) := by decide +kernel
theorem dX12_clash_65 : decode cX12_clash 65 = .ok (.iload_n 2, 1) := by decide +kernel
theorem dX12_clash_66 : decode cX12_clash 66 = .ok (.ishl, 1) := by decide +kernel
theorem dX12_clash_67 : decode cX12_clash 67 = .ok (.ior, 1) := by decide +kernel
theorem dX12_clash_68 : decode cX12_clash 68 = .ok (.invokevirtual 137, 3) := by decide +kernel
theorem dX12_clash_71 : decode cX12_clash 71 = .ok (.aload_n 0, 1) := by decide +kernel
theorem dX12_clash_72 : decode cX12_clash 72 = .ok (.iload_n 2, 1) := by decide +kernel
theorem dX12_clash_73 : decode cX12_clash 73 = .ok (.iconst 1, 1) := by decide +kernel
theorem dX12_clash_74 : decode cX12_clash 74 = .ok (.aload_n 0, 1) := by decide +kernel
theorem dX12_clash_75 : decode cX12_clash 75 = .ok (.iload_n 2, 1) := by decide +kernel
theorem dX12_clash_76 : decode cX12_clash 76 = .ok (.iconst 1, 1) := by decide +kernel
theorem dX12_clash_77 : decode cX12_clash 77 = .ok (.invokevirtual 144, 3) := by decide +kernel
theorem dX12_clash_80 : decode cX12_clash 80 = .ok (.iconst 1, 1) := by decide +kernel
theorem dX12_clash_81 : decode cX12_clash 81 = .ok (.iload_n 1, 1) := by decide +kernel
theorem dX12_clash_82 : decode cX12_clash 82 = .ok (.ishl, 1) := by decide +kernel
theorem dX12_clash_83 : decode cX12_clash 83 = .ok (.iconst (-1), 1) := by decide +kernel
theorem dX12_clash_84 : decode cX12_clash 84 = .ok (.ixor, 1) := by decide +kernel
theorem dX12_clash_85 : decode cX12_clash 85 = .ok (.iand, 1) := by decide +kernel
theorem dX12_clash_86 : decode cX12_clash 86 = .ok (.iload_n 3, 1) := by decide +kernel
theorem dX12_clash_87 : decode cX12_clash 87 = .ok (.iload_n 1, 1) := by decide +kernel
theorem dX12_clash_88 : decode cX12_clash 88 = .ok (.ishl, 1) := by decide +kernel
theorem dX12_clash_89 : decode cX12_clash 89 = .ok (.ior, 1) := by decide +kernel
theorem dX12_clash_90 : decode cX12_clash 90 = .ok (.invokevirtual 137, 3) := by decide +kernel
theorem dX12_clash_93 : decode cX12_clash 93 = .ok (.iload 4, 2) := by decide +kernel
theorem dX12_clash_95 : decode cX12_clash 95 = .ok (.ireturn, 1) := by decide +kernel
theorem dX12_explain_0 : decode cX12_explain 0 = .ok (.aload_n 0, 1) := by decide +kernel
theorem dX12_explain_1 : decode cX12_explain 1 = .ok (.iload_n 1, 1) := by decide +kernel
theorem dX12_explain_2 : decode cX12_explain 2 = .ok (.invokevirtual 141, 3) := by decide +kernel
theorem dX12_explain_5 : decode cX12_explain 5 = .ok (.ifCond .eq 32, 3) := by decide +kernel
theorem dX12_explain_8 : decode cX12_explain 8 = .ok (.iload_n 2, 1) := by decide +kernel
theorem dX12_explain_9 : decode cX12_explain 9 = .ok (.i2l, 1) := by decide +kernel
theorem dX12_explain_10 : decode cX12_explain 10 = .ok (.lconst 0, 1) := by decide +kernel
theorem dX12_explain_11 : decode cX12_explain 11 = .ok (.ldc2_w 148, 3) := by decide +kernel
theorem dX12_explain_14 : decode cX12_explain 14 = .ok (.invokestatic 57, 3) := by decide +kernel
theorem dX12_explain_17 : decode cX12_explain 17 = .ok (.ifCond .eq 20, 3) := by decide +kernel
theorem dX12_explain_20 : decode cX12_explain 20 = .ok (.iload_n 2, 1) := by decide +kernel
theorem dX12_explain_21 : decode cX12_explain 21 = .ok (.ifCond .le 22, 3) := by decide +kernel
theorem dX12_explain_24 : decode cX12_explain 24 = .ok (.aload_n 0, 1) := by decide +kernel
theorem dX12_explain_25 : decode cX12_explain 25 = .ok (.iload_n 3, 1) := by decide +kernel
theorem dX12_explain_26 : decode cX12_explain 26 = .ok (.invokevirtual 141, 3) := by decide +kernel
theorem dX12_explain_29 : decode cX12_explain 29 = .ok (.ifCond .eq 8, 3) := by decide +kernel
theorem dX12_explain_32 : decode cX12_explain 32 = .ok (.iload_n 3, 1) := by decide +kernel
theorem dX12_explain_33 : decode cX12_explain 33 = .ok (.iload_n 1, 1) := by decide +kernel
theorem dX12_explain_34 : decode cX12_explain 34 = .ok (.if_icmp .ne 9, 3) := by decide +kernel
theorem dX12_explain_37 : decode cX12_explain 37 = .ok (.aload_n 0, 1) := by decide +kernel
theorem dX12_explain_38 : decode cX12_explain 38 = .ok (.iconst 1, 1) := by decide +kernel
theorem dX12_explain_39 : decode cX12_explain 39 = .ok (.invokevirtual 119, 3) := by decide +kernel
theorem dX12_explain_42 : decode cX12_explain 42 = .ok (.ireturn, 1) := by decide +kernel
theorem dX12_explain_43 : decode cX12_explain 43 = .ok (.aload_n 0, 1) := by decide +kernel
theorem dX12_explain_44 : decode cX12_explain 44 = .ok (.iload_n 1, 1) := by decide +kernel
theorem dX12_explain_45 : decode cX12_explain 45 = .ok (.iconst 2, 1) := by decide +kernel
theorem dX12_explain_46 : decode cX12_explain 46 = .ok (.invokevirtual 144, 3) := by decide +kernel
theorem dX12_explain_49 : decode cX12_explain 49 = .ok (.istore 4, 2) := by decide +kernel
theorem dX12_explain_51 : decode cX12_explain 51 = .ok (.aload_n 0, 1) := by decide +kernel
theorem dX12_explain_52 : decode cX12_explain 52 = .ok (.iload_n 1, 1) := by decide +kernel
theorem dX12_explain_53 : decode cX12_explain 53 = .ok (.iconst 2, 1) := by decide +kernel
theorem dX12_explain_54 : decode cX12_explain 54 = .ok (.iload_n 2, 1) := by decide +kernel
theorem dX12_explain_55 : decode cX12_explain 55 = .ok (.invokevirtual 137, 3) := by decide +kernel
theorem dX12_explain_58 : decode cX12_explain 58 = .ok (.aload_n 0, 1) := by decide +kernel
theorem dX12_explain_59 : decode cX12_explain 59 = .ok (.iload_n 1, 1) := by decide +kernel
theorem dX12_explain_60 : decode cX12_explain 60 = .ok (.iconst 3, 1) := by decide +kernel
theorem dX12_explain_61 : decode cX12_explain 61 = .ok (.iload_n 2, 1) := by decide +kernel
theorem dX12_explain_62 : decode cX12_explain 62 = .ok (.ifCond .le 7, 3) := by decide +kernel
theorem dX12_explain_65 : decode cX12_explain 65 = .ok (.iload_n 3, 1) := by decide +kernel
theorem dX12_explain_66 : decode cX12_explain 66 = .ok (.goto 4, 3) := by decide +kernel
theorem dX12_explain_69 : decode cX12_explain 69 = .ok (.iconst (-1), 1) := by decide +kernel
theorem dX12_explain_70 : decode cX12_explain 70 = .ok (.invokevirtual 137, 3) := by decide +kernel
theorem dX12_explain_73 : decode cX12_explain 73 = .ok (.iload 4, 2) := by decide +kernel
theorem dX12_explain_75 : decode cX12_explain 75 = .ok (.ireturn, 1) := by decide +kernel
theorem dX12_bookOf_0 : decode cX12_bookOf 0 = .ok (.iconst 0, 1) := by decide +kernel
theorem dX12_bookOf_1 : decode cX12_bookOf 1 = .ok (.istore_n 2, 1) := by decide +kernel
theorem dX12_bookOf_2 : decode cX12_bookOf 2 = .ok (.iconst 0, 1) := by decide +kernel
theorem dX12_bookOf_3 : decode cX12_bookOf 3 = .ok (.istore_n 3, 1) := by decide +kernel
theorem dX12_bookOf_4 : decode cX12_bookOf 4 = .ok (.iload_n 3, 1) := by decide +kernel
theorem dX12_bookOf_5 : decode cX12_bookOf 5 = .ok (.aload_n 0, 1) := by decide +kernel
theorem dX12_bookOf_6 : decode cX12_bookOf 6 = .ok (.iload_n 1, 1) := by decide +kernel
theorem dX12_bookOf_7 : decode cX12_bookOf 7 = .ok (.iconst 4, 1) := by decide +kernel
theorem dX12_bookOf_8 : decode cX12_bookOf 8 = .ok (.invokevirtual 150, 3) := by decide +kernel
theorem dX12_bookOf_11 : decode cX12_bookOf 11 = .ok (.if_icmp .ge 22, 3) := by decide +kernel
theorem dX12_bookOf_14 : decode cX12_bookOf 14 = .ok (.iload_n 2, 1) := by decide +kernel
theorem dX12_bookOf_15 : decode cX12_bookOf 15 = .ok (.iconst 1, 1) := by decide +kernel
theorem dX12_bookOf_16 : decode cX12_bookOf 16 = .ok (.aload_n 0, 1) := by decide +kernel
theorem dX12_bookOf_17 : decode cX12_bookOf 17 = .ok (.iload_n 1, 1) := by decide +kernel
theorem dX12_bookOf_18 : decode cX12_bookOf 18 = .ok (.iconst 5, 1) := by decide +kernel
theorem dX12_bookOf_19 : decode cX12_bookOf 19 = .ok (.iload_n 3, 1) := by decide +kernel
theorem dX12_bookOf_20 : decode cX12_bookOf 20 = .ok (.iadd, 1) := by decide +kernel
theorem dX12_bookOf_21 : decode cX12_bookOf 21 = .ok (.invokevirtual 150, 3) := by decide +kernel
theorem dX12_bookOf_24 : decode cX12_bookOf 24 = .ok (.ishl, 1) := by decide +kernel
theorem dX12_bookOf_25 : decode cX12_bookOf 25 = .ok (.ior, 1) := by decide +kernel
theorem dX12_bookOf_26 : decode cX12_bookOf 26 = .ok (.istore_n 2, 1) := by decide +kernel
theorem dX12_bookOf_27 : decode cX12_bookOf 27 = .ok (.iinc 3 1, 3) := by decide +kernel
theorem dX12_bookOf_30 : decode cX12_bookOf 30 = .ok (.goto (-26), 3) := by decide +kernel
theorem dX12_bookOf_33 : decode cX12_bookOf 33 = .ok (.iload_n 2, 1) := by decide +kernel
theorem dX12_bookOf_34 : decode cX12_bookOf 34 = .ok (.ireturn, 1) := by decide +kernel
theorem dX12_booksWith_0 : decode cX12_booksWith 0 = .ok (.iconst 0, 1) := by decide +kernel
theorem dX12_booksWith_1 : decode cX12_booksWith 1 = .ok (.istore_n 2, 1) := by decide +kernel
theorem dX12_booksWith_2 : decode cX12_booksWith 2 = .ok (.iconst 0, 1) := by decide +kernel
theorem dX12_booksWith_3 : decode cX12_booksWith 3 = .ok (.istore_n 3, 1) := by decide +kernel
theorem dX12_booksWith_4 : decode cX12_booksWith 4 = .ok (.iload_n 3, 1) := by decide +kernel
theorem dX12_booksWith_5 : decode cX12_booksWith 5 = .ok (.aload_n 0, 1) := by decide +kernel
theorem dX12_booksWith_6 : decode cX12_booksWith 6 = .ok (.getfield 7, 3) := by decide +kernel
theorem dX12_booksWith_9 : decode cX12_booksWith 9 = .ok (.iconst 1, 1) := by decide +kernel
theorem dX12_booksWith_10 : decode cX12_booksWith 10 = .ok (.iaload, 1) := by decide +kernel
theorem dX12_booksWith_11 : decode cX12_booksWith 11 = .ok (.if_icmp .ge 21, 3) := by decide +kernel
theorem dX12_booksWith_14 : decode cX12_booksWith 14 = .ok (.iload_n 2, 1) := by decide +kernel
theorem dX12_booksWith_15 : decode cX12_booksWith 15 = .ok (.aload_n 0, 1) := by decide +kernel
theorem dX12_booksWith_16 : decode cX12_booksWith 16 = .ok (.iload_n 3, 1) := by decide +kernel
theorem dX12_booksWith_17 : decode cX12_booksWith 17 = .ok (.invokevirtual 153, 3) := by decide +kernel
theorem dX12_booksWith_20 : decode cX12_booksWith 20 = .ok (.iload_n 1, 1) := by decide +kernel
theorem dX12_booksWith_21 : decode cX12_booksWith 21 = .ok (.ishr, 1) := by decide +kernel
theorem dX12_booksWith_22 : decode cX12_booksWith 22 = .ok (.iconst 1, 1) := by decide +kernel
theorem dX12_booksWith_23 : decode cX12_booksWith 23 = .ok (.iand, 1) := by decide +kernel
theorem dX12_booksWith_24 : decode cX12_booksWith 24 = .ok (.iadd, 1) := by decide +kernel
theorem dX12_booksWith_25 : decode cX12_booksWith 25 = .ok (.istore_n 2, 1) := by decide +kernel
theorem dX12_booksWith_26 : decode cX12_booksWith 26 = .ok (.iinc 3 1, 3) := by decide +kernel
theorem dX12_booksWith_29 : decode cX12_booksWith 29 = .ok (.goto (-25), 3) := by decide +kernel
theorem dX12_booksWith_32 : decode cX12_booksWith 32 = .ok (.iload_n 2, 1) := by decide +kernel
theorem dX12_booksWith_33 : decode cX12_booksWith 33 = .ok (.ireturn, 1) := by decide +kernel
theorem dX12_ofFact_0 : decode cX12_ofFact 0 = .ok (.aload_n 0, 1) := by decide +kernel
theorem dX12_ofFact_1 : decode cX12_ofFact 1 = .ok (.iload_n 1, 1) := by decide +kernel
theorem dX12_ofFact_2 : decode cX12_ofFact 2 = .ok (.invokevirtual 141, 3) := by decide +kernel
theorem dX12_ofFact_5 : decode cX12_ofFact 5 = .ok (.ifCond .eq 15, 3) := by decide +kernel
theorem dX12_ofFact_8 : decode cX12_ofFact 8 = .ok (.iload_n 2, 1) := by decide +kernel
theorem dX12_ofFact_9 : decode cX12_ofFact 9 = .ok (.i2l, 1) := by decide +kernel
theorem dX12_ofFact_10 : decode cX12_ofFact 10 = .ok (.lconst 0, 1) := by decide +kernel
theorem dX12_ofFact_11 : decode cX12_ofFact 11 = .ok (.ldc2_w 156, 3) := by decide +kernel
theorem dX12_ofFact_14 : decode cX12_ofFact 14 = .ok (.invokestatic 57, 3) := by decide +kernel
theorem dX12_ofFact_17 : decode cX12_ofFact 17 = .ok (.ifCond .ne 9, 3) := by decide +kernel
theorem dX12_ofFact_20 : decode cX12_ofFact 20 = .ok (.aload_n 0, 1) := by decide +kernel
theorem dX12_ofFact_21 : decode cX12_ofFact 21 = .ok (.iconst 1, 1) := by decide +kernel
theorem dX12_ofFact_22 : decode cX12_ofFact 22 = .ok (.invokevirtual 119, 3) := by decide +kernel
theorem dX12_ofFact_25 : decode cX12_ofFact 25 = .ok (.ireturn, 1) := by decide +kernel
theorem dX12_ofFact_26 : decode cX12_ofFact 26 = .ok (.iload_n 2, 1) := by decide +kernel
theorem dX12_ofFact_27 : decode cX12_ofFact 27 = .ok (.iconst 5, 1) := by decide +kernel
theorem dX12_ofFact_28 : decode cX12_ofFact 28 = .ok (.if_icmp .ge 12, 3) := by decide +kernel
theorem dX12_ofFact_31 : decode cX12_ofFact 31 = .ok (.aload_n 0, 1) := by decide +kernel
theorem dX12_ofFact_32 : decode cX12_ofFact 32 = .ok (.iload_n 1, 1) := by decide +kernel
theorem dX12_ofFact_33 : decode cX12_ofFact 33 = .ok (.iload_n 2, 1) := by decide +kernel
theorem dX12_ofFact_34 : decode cX12_ofFact 34 = .ok (.invokevirtual 144, 3) := by decide +kernel
theorem dX12_ofFact_37 : decode cX12_ofFact 37 = .ok (.goto 8, 3) := by decide +kernel
theorem dX12_ofFact_40 : decode cX12_ofFact 40 = .ok (.aload_n 0, 1) := by decide +kernel
theorem dX12_ofFact_41 : decode cX12_ofFact 41 = .ok (.iload_n 1, 1) := by decide +kernel
theorem dX12_ofFact_42 : decode cX12_ofFact 42 = .ok (.invokevirtual 158, 3) := by decide +kernel
theorem dX12_ofFact_45 : decode cX12_ofFact 45 = .ok (.ireturn, 1) := by decide +kernel
theorem dX12_mayTell_0 : decode cX12_mayTell 0 = .ok (.aload_n 0, 1) := by decide +kernel
theorem dX12_mayTell_1 : decode cX12_mayTell 1 = .ok (.iload_n 1, 1) := by decide +kernel
theorem dX12_mayTell_2 : decode cX12_mayTell 2 = .ok (.invokevirtual 153, 3) := by decide +kernel
theorem dX12_mayTell_5 : decode cX12_mayTell 5 = .ok (.istore_n 3, 1) := by decide +kernel
theorem dX12_mayTell_6 : decode cX12_mayTell 6 = .ok (.iload_n 3, 1) := by decide +kernel
theorem dX12_mayTell_7 : decode cX12_mayTell 7 = .ok (.iload_n 2, 1) := by decide +kernel
theorem dX12_mayTell_8 : decode cX12_mayTell 8 = .ok (.ishr, 1) := by decide +kernel
theorem dX12_mayTell_9 : decode cX12_mayTell 9 = .ok (.iconst 1, 1) := by decide +kernel
theorem dX12_mayTell_10 : decode cX12_mayTell 10 = .ok (.iand, 1) := by decide +kernel
theorem dX12_mayTell_11 : decode cX12_mayTell 11 = .ok (.iconst 1, 1) := by decide +kernel
theorem dX12_mayTell_12 : decode cX12_mayTell 12 = .ok (.if_icmp .ne 5, 3) := by decide +kernel
theorem dX12_mayTell_15 : decode cX12_mayTell 15 = .ok (.iconst 0, 1) := by decide +kernel
theorem dX12_mayTell_16 : decode cX12_mayTell 16 = .ok (.ireturn, 1) := by decide +kernel
theorem dX12_mayTell_17 : decode cX12_mayTell 17 = .ok (.aload_n 0, 1) := by decide +kernel
theorem dX12_mayTell_18 : decode cX12_mayTell 18 = .ok (.iload_n 2, 1) := by decide +kernel
theorem dX12_mayTell_19 : decode cX12_mayTell 19 = .ok (.iconst 0, 1) := by decide +kernel
theorem dX12_mayTell_20 : decode cX12_mayTell 20 = .ok (.invokevirtual 144, 3) := by decide +kernel
theorem dX12_mayTell_23 : decode cX12_mayTell 23 = .ok (.iload_n 3, 1) := by decide +kernel
theorem dX12_mayTell_24 : decode cX12_mayTell 24 = .ok (.iconst (-1), 1) := by decide +kernel
theorem dX12_mayTell_25 : decode cX12_mayTell 25 = .ok (.ixor, 1) := by decide +kernel
theorem dX12_mayTell_26 : decode cX12_mayTell 26 = .ok (.iand, 1) := by decide +kernel
theorem dX12_mayTell_27 : decode cX12_mayTell 27 = .ok (.invokestatic 161, 3) := by decide +kernel
theorem dX12_mayTell_30 : decode cX12_mayTell 30 = .ok (.istore 4, 2) := by decide +kernel
theorem dX12_mayTell_32 : decode cX12_mayTell 32 = .ok (.aload_n 0, 1) := by decide +kernel
theorem dX12_mayTell_33 : decode cX12_mayTell 33 = .ok (.iload_n 2, 1) := by decide +kernel
theorem dX12_mayTell_34 : decode cX12_mayTell 34 = .ok (.iconst 1, 1) := by decide +kernel
theorem dX12_mayTell_35 : decode cX12_mayTell 35 = .ok (.invokevirtual 144, 3) := by decide +kernel
theorem dX12_mayTell_38 : decode cX12_mayTell 38 = .ok (.iload_n 3, 1) := by decide +kernel
theorem dX12_mayTell_39 : decode cX12_mayTell 39 = .ok (.iand, 1) := by decide +kernel
theorem dX12_mayTell_40 : decode cX12_mayTell 40 = .ok (.ifCond .ne 7, 3) := by decide +kernel
theorem dX12_mayTell_43 : decode cX12_mayTell 43 = .ok (.iconst 1, 1) := by decide +kernel
theorem dX12_mayTell_44 : decode cX12_mayTell 44 = .ok (.goto 4, 3) := by decide +kernel
theorem dX12_mayTell_47 : decode cX12_mayTell 47 = .ok (.iconst 0, 1) := by decide +kernel
theorem dX12_mayTell_48 : decode cX12_mayTell 48 = .ok (.istore 5, 2) := by decide +kernel
theorem dX12_mayTell_50 : decode cX12_mayTell 50 = .ok (.aload_n 0, 1) := by decide +kernel
theorem dX12_mayTell_51 : decode cX12_mayTell 51 = .ok (.iload_n 1, 1) := by decide +kernel
theorem dX12_mayTell_52 : decode cX12_mayTell 52 = .ok (.iconst 1, 1) := by decide +kernel
theorem dX12_mayTell_53 : decode cX12_mayTell 53 = .ok (.invokevirtual 150, 3) := by decide +kernel
theorem dX12_mayTell_56 : decode cX12_mayTell 56 = .ok (.istore 6, 2) := by decide +kernel
theorem dX12_mayTell_58 : decode cX12_mayTell 58 = .ok (.aload_n 0, 1) := by decide +kernel
theorem dX12_mayTell_59 : decode cX12_mayTell 59 = .ok (.iload_n 1, 1) := by decide +kernel
theorem dX12_mayTell_60 : decode cX12_mayTell 60 = .ok (.iconst 0, 1) := by decide +kernel
theorem dX12_mayTell_61 : decode cX12_mayTell 61 = .ok (.invokevirtual 150, 3) := by decide +kernel
theorem dX12_mayTell_64 : decode cX12_mayTell 64 = .ok (.tableswitch 145 1 6 #[40, 64, 110, 40, 84, 121], 40) := by decide +kernel
theorem dX12_mayTell_104 : decode cX12_mayTell 104 = .ok (.iload 5, 2) := by decide +kernel
theorem dX12_mayTell_106 : decode cX12_mayTell 106 = .ok (.ifCond .eq 20, 3) := by decide +kernel
theorem dX12_mayTell_109 : decode cX12_mayTell 109 = .ok (.iload 4, 2) := by decide +kernel
theorem dX12_mayTell_111 : decode cX12_mayTell 111 = .ok (.ifCond .eq 11, 3) := by decide +kernel
theorem dX12_mayTell_114 : decode cX12_mayTell 114 = .ok (.aload_n 0, 1) := by decide +kernel
theorem dX12_mayTell_115 : decode cX12_mayTell 115 = .ok (.iload_n 2, 1) := by decide +kernel
theorem dX12_mayTell_116 : decode cX12_mayTell 116 = .ok (.invokevirtual 158, 3) := by decide +kernel
theorem dX12_mayTell_119 : decode cX12_mayTell 119 = .ok (.ifCond .le 7, 3) := by decide +kernel
theorem dX12_mayTell_122 : decode cX12_mayTell 122 = .ok (.iconst 1, 1) := by decide +kernel
theorem dX12_mayTell_123 : decode cX12_mayTell 123 = .ok (.goto 4, 3) := by decide +kernel
theorem dX12_mayTell_126 : decode cX12_mayTell 126 = .ok (.iconst 0, 1) := by decide +kernel
theorem dX12_mayTell_127 : decode cX12_mayTell 127 = .ok (.ireturn, 1) := by decide +kernel
theorem dX12_mayTell_128 : decode cX12_mayTell 128 = .ok (.iload 5, 2) := by decide +kernel
theorem dX12_mayTell_130 : decode cX12_mayTell 130 = .ok (.ifCond .eq 16, 3) := by decide +kernel
theorem dX12_mayTell_133 : decode cX12_mayTell 133 = .ok (.iload 4, 2) := by decide +kernel
theorem dX12_mayTell_135 : decode cX12_mayTell 135 = .ok (.iload 6, 2) := by decide +kernel
theorem dX12_mayTell_137 : decode cX12_mayTell 137 = .ok (.iconst 3, 1) := by decide +kernel
theorem dX12_mayTell_138 : decode cX12_mayTell 138 = .ok (.irem, 1) := by decide +kernel
theorem dX12_mayTell_139 : decode cX12_mayTell 139 = .ok (.if_icmp .gt 7, 3) := by decide +kernel
theorem dX12_mayTell_142 : decode cX12_mayTell 142 = .ok (.iconst 1, 1) := by decide +kernel
theorem dX12_mayTell_143 : decode cX12_mayTell 143 = .ok (.goto 4, 3) := by decide +kernel
theorem dX12_mayTell_146 : decode cX12_mayTell 146 = .ok (.iconst 0, 1) := by decide +kernel
theorem dX12_mayTell_147 : decode cX12_mayTell 147 = .ok (.ireturn, 1) := by decide +kernel
theorem dX12_mayTell_148 : decode cX12_mayTell 148 = .ok (.iload 5, 2) := by decide +kernel
theorem dX12_mayTell_150 : decode cX12_mayTell 150 = .ok (.ifCond .eq 22, 3) := by decide +kernel
theorem dX12_mayTell_153 : decode cX12_mayTell 153 = .ok (.iload 4, 2) := by decide +kernel
theorem dX12_mayTell_155 : decode cX12_mayTell 155 = .ok (.iload 6, 2) := by decide +kernel
theorem dX12_mayTell_157 : decode cX12_mayTell 157 = .ok (.iconst 3, 1) := by decide +kernel
theorem dX12_mayTell_158 : decode cX12_mayTell 158 = .ok (.irem, 1) := by decide +kernel
theorem dX12_mayTell_159 : decode cX12_mayTell 159 = .ok (.if_icmp .gt 13, 3) := by decide +kernel
theorem dX12_mayTell_162 : decode cX12_mayTell 162 = .ok (.iload_n 2, 1) := by decide +kernel
theorem dX12_mayTell_163 : decode cX12_mayTell 163 = .ok (.iload 6, 2) := by decide +kernel
theorem dX12_mayTell_165 : decode cX12_mayTell 165 = .ok (.if_icmp .eq 7, 3) := by decide +kernel
theorem dX12_mayTell_168 : decode cX12_mayTell 168 = .ok (.iconst 1, 1) := by decide +kernel
theorem dX12_mayTell_169 : decode cX12_mayTell 169 = .ok (.goto 4, 3) := by decide +kernel
theorem dX12_mayTell_172 : decode cX12_mayTell 172 = .ok (.iconst 0, 1) := by decide +kernel
theorem dX12_mayTell_173 : decode cX12_mayTell 173 = .ok (.ireturn, 1) := by decide +kernel
theorem dX12_mayTell_174 : decode cX12_mayTell 174 = .ok (.iload 4, 2) := by decide +kernel
theorem dX12_mayTell_176 : decode cX12_mayTell 176 = .ok (.ifCond .ne 7, 3) := by decide +kernel
theorem dX12_mayTell_179 : decode cX12_mayTell 179 = .ok (.iconst 1, 1) := by decide +kernel
theorem dX12_mayTell_180 : decode cX12_mayTell 180 = .ok (.goto 4, 3) := by decide +kernel
theorem dX12_mayTell_183 : decode cX12_mayTell 183 = .ok (.iconst 0, 1) := by decide +kernel
theorem dX12_mayTell_184 : decode cX12_mayTell 184 = .ok (.ireturn, 1) := by decide +kernel
theorem dX12_mayTell_185 : decode cX12_mayTell 185 = .ok (.iload 4, 2) := by decide +kernel
theorem dX12_mayTell_187 : decode cX12_mayTell 187 = .ok (.ifCond .ne 20, 3) := by decide +kernel
theorem dX12_mayTell_190 : decode cX12_mayTell 190 = .ok (.iload 5, 2) := by decide +kernel
theorem dX12_mayTell_192 : decode cX12_mayTell 192 = .ok (.ifCond .ne 11, 3) := by decide +kernel
theorem dX12_mayTell_195 : decode cX12_mayTell 195 = .ok (.iload 6, 2) := by decide +kernel
theorem dX12_mayTell_197 : decode cX12_mayTell 197 = .ok (.iconst 2, 1) := by decide +kernel
theorem dX12_mayTell_198 : decode cX12_mayTell 198 = .ok (.irem, 1) := by decide +kernel
theorem dX12_mayTell_199 : decode cX12_mayTell 199 = .ok (.iconst 1, 1) := by decide +kernel
theorem dX12_mayTell_200 : decode cX12_mayTell 200 = .ok (.if_icmp .ne 7, 3) := by decide +kernel
theorem dX12_mayTell_203 : decode cX12_mayTell 203 = .ok (.iconst 1, 1) := by decide +kernel
theorem dX12_mayTell_204 : decode cX12_mayTell 204 = .ok (.goto 4, 3) := by decide +kernel
theorem dX12_mayTell_207 : decode cX12_mayTell 207 = .ok (.iconst 0, 1) := by decide +kernel
theorem dX12_mayTell_208 : decode cX12_mayTell 208 = .ok (.ireturn, 1) := by decide +kernel
theorem dX12_mayTell_209 : decode cX12_mayTell 209 = .ok (.iload 5, 2) := by decide +kernel
theorem dX12_mayTell_211 : decode cX12_mayTell 211 = .ok (.ifCond .eq 12, 3) := by decide +kernel
theorem dX12_mayTell_214 : decode cX12_mayTell 214 = .ok (.iload 4, 2) := by decide +kernel
theorem dX12_mayTell_216 : decode cX12_mayTell 216 = .ok (.ifCond .ne 7, 3) := by decide +kernel
theorem dX12_mayTell_219 : decode cX12_mayTell 219 = .ok (.iconst 1, 1) := by decide +kernel
theorem dX12_mayTell_220 : decode cX12_mayTell 220 = .ok (.goto 4, 3) := by decide +kernel
theorem dX12_mayTell_223 : decode cX12_mayTell 223 = .ok (.iconst 0, 1) := by decide +kernel
theorem dX12_mayTell_224 : decode cX12_mayTell 224 = .ok (.ireturn, 1) := by decide +kernel
theorem dX12_allMay_0 : decode cX12_allMay 0 = .ok (.iconst 0, 1) := by decide +kernel
theorem dX12_allMay_1 : decode cX12_allMay 1 = .ok (.istore_n 2, 1) := by decide +kernel
theorem dX12_allMay_2 : decode cX12_allMay 2 = .ok (.iconst 0, 1) := by decide +kernel
theorem dX12_allMay_3 : decode cX12_allMay 3 = .ok (.istore_n 3, 1) := by decide +kernel
theorem dX12_allMay_4 : decode cX12_allMay 4 = .ok (.iload_n 3, 1) := by decide +kernel
theorem dX12_allMay_5 : decode cX12_allMay 5 = .ok (.aload_n 0, 1) := by decide +kernel
theorem dX12_allMay_6 : decode cX12_allMay 6 = .ok (.getfield 7, 3) := by decide +kernel
theorem dX12_allMay_9 : decode cX12_allMay 9 = .ok (.iconst 0, 1) := by decide +kernel
theorem dX12_allMay_10 : decode cX12_allMay 10 = .ok (.iaload, 1) := by decide +kernel
theorem dX12_allMay_11 : decode cX12_allMay 11 = .ok (.if_icmp .ge 28, 3) := by decide +kernel
theorem dX12_allMay_14 : decode cX12_allMay 14 = .ok (.iload_n 2, 1) := by decide +kernel
theorem dX12_allMay_15 : decode cX12_allMay 15 = .ok (.aload_n 0, 1) := by decide +kernel
theorem dX12_allMay_16 : decode cX12_allMay 16 = .ok (.iload_n 1, 1) := by decide +kernel
theorem dX12_allMay_17 : decode cX12_allMay 17 = .ok (.iload_n 3, 1) := by decide +kernel
theorem dX12_allMay_18 : decode cX12_allMay 18 = .ok (.invokevirtual 164, 3) := by decide +kernel
theorem dX12_allMay_21 : decode cX12_allMay 21 = .ok (.ifCond .eq 9, 3) := by decide +kernel
theorem dX12_allMay_24 : decode cX12_allMay 24 = .ok (.iconst 1, 1) := by decide +kernel
theorem dX12_allMay_25 : decode cX12_allMay 25 = .ok (.iload_n 3, 1) := by decide +kernel
theorem dX12_allMay_26 : decode cX12_allMay 26 = .ok (.ishl, 1) := by decide +kernel
theorem dX12_allMay_27 : decode cX12_allMay 27 = .ok (.goto 4, 3) := by decide +kernel
theorem dX12_allMay_30 : decode cX12_allMay 30 = .ok (.iconst 0, 1) := by decide +kernel
theorem dX12_allMay_31 : decode cX12_allMay 31 = .ok (.ior, 1) := by decide +kernel
theorem dX12_allMay_32 : decode cX12_allMay 32 = .ok (.istore_n 2, 1) := by decide +kernel
theorem dX12_allMay_33 : decode cX12_allMay 33 = .ok (.iinc 3 1, 3) := by decide +kernel
theorem dX12_allMay_36 : decode cX12_allMay 36 = .ok (.goto (-32), 3) := by decide +kernel
theorem dX12_allMay_39 : decode cX12_allMay 39 = .ok (.iload_n 2, 1) := by decide +kernel
theorem dX12_allMay_40 : decode cX12_allMay 40 = .ok (.ireturn, 1) := by decide +kernel
theorem dX12_dueOf_0 : decode cX12_dueOf 0 = .ok (.iload_n 1, 1) := by decide +kernel
theorem dX12_dueOf_1 : decode cX12_dueOf 1 = .ok (.aload_n 0, 1) := by decide +kernel
theorem dX12_dueOf_2 : decode cX12_dueOf 2 = .ok (.getfield 25, 3) := by decide +kernel
theorem dX12_dueOf_5 : decode cX12_dueOf 5 = .ok (.if_icmp .ne 8, 3) := by decide +kernel
theorem dX12_dueOf_8 : decode cX12_dueOf 8 = .ok (.aload_n 0, 1) := by decide +kernel
theorem dX12_dueOf_9 : decode cX12_dueOf 9 = .ok (.getfield 168, 3) := by decide +kernel
theorem dX12_dueOf_12 : decode cX12_dueOf 12 = .ok (.ireturn, 1) := by decide +kernel
theorem dX12_dueOf_13 : decode cX12_dueOf 13 = .ok (.aload_n 0, 1) := by decide +kernel
theorem dX12_dueOf_14 : decode cX12_dueOf 14 = .ok (.iload_n 1, 1) := by decide +kernel
theorem dX12_dueOf_15 : decode cX12_dueOf 15 = .ok (.iconst 1, 1) := by decide +kernel
theorem dX12_dueOf_16 : decode cX12_dueOf 16 = .ok (.invokevirtual 150, 3) := by decide +kernel
theorem dX12_dueOf_19 : decode cX12_dueOf 19 = .ok (.iconst 2, 1) := by decide +kernel
theorem dX12_dueOf_20 : decode cX12_dueOf 20 = .ok (.irem, 1) := by decide +kernel
theorem dX12_dueOf_21 : decode cX12_dueOf 21 = .ok (.istore_n 2, 1) := by decide +kernel
theorem dX12_dueOf_22 : decode cX12_dueOf 22 = .ok (.aload_n 0, 1) := by decide +kernel
theorem dX12_dueOf_23 : decode cX12_dueOf 23 = .ok (.iload_n 1, 1) := by decide +kernel
theorem dX12_dueOf_24 : decode cX12_dueOf 24 = .ok (.iconst 0, 1) := by decide +kernel
theorem dX12_dueOf_25 : decode cX12_dueOf 25 = .ok (.invokevirtual 150, 3) := by decide +kernel
theorem dX12_dueOf_28 : decode cX12_dueOf 28 = .ok (.istore_n 3, 1) := by decide +kernel
theorem dX12_dueOf_29 : decode cX12_dueOf 29 = .ok (.iload_n 3, 1) := by decide +kernel
theorem dX12_dueOf_30 : decode cX12_dueOf 30 = .ok (.iconst 3, 1) := by decide +kernel
theorem dX12_dueOf_31 : decode cX12_dueOf 31 = .ok (.if_icmp .ne 7, 3) := by decide +kernel
theorem dX12_dueOf_34 : decode cX12_dueOf 34 = .ok (.iconst 2, 1) := by decide +kernel
theorem dX12_dueOf_35 : decode cX12_dueOf 35 = .ok (.goto 27, 3) := by decide +kernel
theorem dX12_dueOf_38 : decode cX12_dueOf 38 = .ok (.iload_n 3, 1) := by decide +kernel
theorem dX12_dueOf_39 : decode cX12_dueOf 39 = .ok (.bipush 6, 2) := by decide +kernel
theorem dX12_dueOf_41 : decode cX12_dueOf 41 = .ok (.if_icmp .ne 9, 3) := by decide +kernel
theorem dX12_dueOf_44 : decode cX12_dueOf 44 = .ok (.iconst 2, 1) := by decide +kernel
theorem dX12_dueOf_45 : decode cX12_dueOf 45 = .ok (.iload_n 2, 1) := by decide +kernel
theorem dX12_dueOf_46 : decode cX12_dueOf 46 = .ok (.isub, 1) := by decide +kernel
theorem dX12_dueOf_47 : decode cX12_dueOf 47 = .ok (.goto 15, 3) := by decide +kernel
theorem dX12_dueOf_50 : decode cX12_dueOf 50 = .ok (.iload_n 3, 1) := by decide +kernel
theorem dX12_dueOf_51 : decode cX12_dueOf 51 = .ok (.iconst 4, 1) := by decide +kernel
theorem dX12_dueOf_52 : decode cX12_dueOf 52 = .ok (.if_icmp .ne 9, 3) := by decide +kernel
theorem dX12_dueOf_55 : decode cX12_dueOf 55 = .ok (.iconst 1, 1) := by decide +kernel
theorem dX12_dueOf_56 : decode cX12_dueOf 56 = .ok (.iload_n 2, 1) := by decide +kernel
theorem dX12_dueOf_57 : decode cX12_dueOf 57 = .ok (.iadd, 1) := by decide +kernel
theorem dX12_dueOf_58 : decode cX12_dueOf 58 = .ok (.goto 4, 3) := by decide +kernel
theorem dX12_dueOf_61 : decode cX12_dueOf 61 = .ok (.iconst 1, 1) := by decide +kernel
theorem dX12_dueOf_62 : decode cX12_dueOf 62 = .ok (.ireturn, 1) := by decide +kernel
theorem dX12_paysOf_0 : decode cX12_paysOf 0 = .ok (.aload_n 0, 1) := by decide +kernel
theorem dX12_paysOf_1 : decode cX12_paysOf 1 = .ok (.iconst 0, 1) := by decide +kernel
theorem dX12_paysOf_2 : decode cX12_paysOf 2 = .ok (.iload_n 2, 1) := by decide +kernel
theorem dX12_paysOf_3 : decode cX12_paysOf 3 = .ok (.aload_n 0, 1) := by decide +kernel
theorem dX12_paysOf_4 : decode cX12_paysOf 4 = .ok (.getfield 7, 3) := by decide +kernel
theorem dX12_paysOf_7 : decode cX12_paysOf 7 = .ok (.iconst 3, 1) := by decide +kernel
theorem dX12_paysOf_8 : decode cX12_paysOf 8 = .ok (.iaload, 1) := by decide +kernel
theorem dX12_paysOf_9 : decode cX12_paysOf 9 = .ok (.aload_n 0, 1) := by decide +kernel
theorem dX12_paysOf_10 : decode cX12_paysOf 10 = .ok (.iload_n 1, 1) := by decide +kernel
theorem dX12_paysOf_11 : decode cX12_paysOf 11 = .ok (.iconst 2, 1) := by decide +kernel
theorem dX12_paysOf_12 : decode cX12_paysOf 12 = .ok (.invokevirtual 150, 3) := by decide +kernel
theorem dX12_paysOf_15 : decode cX12_paysOf 15 = .ok (.invokevirtual 131, 3) := by decide +kernel
theorem dX12_paysOf_18 : decode cX12_paysOf 18 = .ok (.istore_n 3, 1) := by decide +kernel
theorem dX12_paysOf_19 : decode cX12_paysOf 19 = .ok (.aload_n 0, 1) := by decide +kernel
theorem dX12_paysOf_20 : decode cX12_paysOf 20 = .ok (.iload_n 1, 1) := by decide +kernel
theorem dX12_paysOf_21 : decode cX12_paysOf 21 = .ok (.iconst 0, 1) := by decide +kernel
theorem dX12_paysOf_22 : decode cX12_paysOf 22 = .ok (.invokevirtual 150, 3) := by decide +kernel
theorem dX12_paysOf_25 : decode cX12_paysOf 25 = .ok (.istore 4, 2) := by decide +kernel
theorem dX12_paysOf_27 : decode cX12_paysOf 27 = .ok (.iload 4, 2) := by decide +kernel
theorem dX12_paysOf_29 : decode cX12_paysOf 29 = .ok (.iconst 5, 1) := by decide +kernel
theorem dX12_paysOf_30 : decode cX12_paysOf 30 = .ok (.if_icmp .ne 9, 3) := by decide +kernel
theorem dX12_paysOf_33 : decode cX12_paysOf 33 = .ok (.iconst 2, 1) := by decide +kernel
theorem dX12_paysOf_34 : decode cX12_paysOf 34 = .ok (.iload_n 3, 1) := by decide +kernel
theorem dX12_paysOf_35 : decode cX12_paysOf 35 = .ok (.imul, 1) := by decide +kernel
theorem dX12_paysOf_36 : decode cX12_paysOf 36 = .ok (.goto 22, 3) := by decide +kernel
theorem dX12_paysOf_39 : decode cX12_paysOf 39 = .ok (.iload 4, 2) := by decide +kernel
theorem dX12_paysOf_41 : decode cX12_paysOf 41 = .ok (.iconst 1, 1) := by decide +kernel
theorem dX12_paysOf_42 : decode cX12_paysOf 42 = .ok (.if_icmp .eq 9, 3) := by decide +kernel
theorem dX12_paysOf_45 : decode cX12_paysOf 45 = .ok (.iload 4, 2) := by decide +kernel
theorem dX12_paysOf_47 : decode cX12_paysOf 47 = .ok (.iconst 4, 1) := by decide +kernel
theorem dX12_paysOf_48 : decode cX12_paysOf 48 = .ok (.if_icmp .ne 9, 3) := by decide +kernel
theorem dX12_paysOf_51 : decode cX12_paysOf 51 = .ok (.iload_n 3, 1) := by decide +kernel
theorem dX12_paysOf_52 : decode cX12_paysOf 52 = .ok (.iconst 2, 1) := by decide +kernel
theorem dX12_paysOf_53 : decode cX12_paysOf 53 = .ok (.idiv, 1) := by decide +kernel
theorem dX12_paysOf_54 : decode cX12_paysOf 54 = .ok (.goto 4, 3) := by decide +kernel
theorem dX12_paysOf_57 : decode cX12_paysOf 57 = .ok (.iload_n 3, 1) := by decide +kernel
theorem dX12_paysOf_58 : decode cX12_paysOf 58 = .ok (.ireturn, 1) := by decide +kernel
theorem dX12_isOpen_0 : decode cX12_isOpen 0 = .ok (.aload_n 0, 1) := by decide +kernel
theorem dX12_isOpen_1 : decode cX12_isOpen 1 = .ok (.iload_n 1, 1) := by decide +kernel
theorem dX12_isOpen_2 : decode cX12_isOpen 2 = .ok (.iconst 2, 1) := by decide +kernel
theorem dX12_isOpen_3 : decode cX12_isOpen 3 = .ok (.invokevirtual 144, 3) := by decide +kernel
theorem dX12_isOpen_6 : decode cX12_isOpen 6 = .ok (.ifCond .le 20, 3) := by decide +kernel
theorem dX12_isOpen_9 : decode cX12_isOpen 9 = .ok (.iload_n 2, 1) := by decide +kernel
theorem dX12_isOpen_10 : decode cX12_isOpen 10 = .ok (.aload_n 0, 1) := by decide +kernel
theorem dX12_isOpen_11 : decode cX12_isOpen 11 = .ok (.iload_n 1, 1) := by decide +kernel
theorem dX12_isOpen_12 : decode cX12_isOpen 12 = .ok (.iconst 3, 1) := by decide +kernel
theorem dX12_isOpen_13 : decode cX12_isOpen 13 = .ok (.invokevirtual 144, 3) := by decide +kernel
theorem dX12_isOpen_16 : decode cX12_isOpen 16 = .ok (.ishr, 1) := by decide +kernel
theorem dX12_isOpen_17 : decode cX12_isOpen 17 = .ok (.iconst 1, 1) := by decide +kernel
theorem dX12_isOpen_18 : decode cX12_isOpen 18 = .ok (.iand, 1) := by decide +kernel
theorem dX12_isOpen_19 : decode cX12_isOpen 19 = .ok (.ifCond .ne 7, 3) := by decide +kernel
theorem dX12_isOpen_22 : decode cX12_isOpen 22 = .ok (.iconst 1, 1) := by decide +kernel
theorem dX12_isOpen_23 : decode cX12_isOpen 23 = .ok (.goto 4, 3) := by decide +kernel
theorem dX12_isOpen_26 : decode cX12_isOpen 26 = .ok (.iconst 0, 1) := by decide +kernel
theorem dX12_isOpen_27 : decode cX12_isOpen 27 = .ok (.ireturn, 1) := by decide +kernel
theorem dX12_openOf_0 : decode cX12_openOf 0 = .ok (.aload_n 0, 1) := by decide +kernel
theorem dX12_openOf_1 : decode cX12_openOf 1 = .ok (.iload_n 1, 1) := by decide +kernel
theorem dX12_openOf_2 : decode cX12_openOf 2 = .ok (.invokevirtual 153, 3) := by decide +kernel
theorem dX12_openOf_5 : decode cX12_openOf 5 = .ok (.istore_n 2, 1) := by decide +kernel
theorem dX12_openOf_6 : decode cX12_openOf 6 = .ok (.iconst 0, 1) := by decide +kernel
theorem dX12_openOf_7 : decode cX12_openOf 7 = .ok (.istore_n 3, 1) := by decide +kernel
theorem dX12_openOf_8 : decode cX12_openOf 8 = .ok (.iconst 0, 1) := by decide +kernel
theorem dX12_openOf_9 : decode cX12_openOf 9 = .ok (.istore 4, 2) := by decide +kernel
theorem dX12_openOf_11 : decode cX12_openOf 11 = .ok (.iload 4, 2) := by decide +kernel
theorem dX12_openOf_13 : decode cX12_openOf 13 = .ok (.aload_n 0, 1) := by decide +kernel
theorem dX12_openOf_14 : decode cX12_openOf 14 = .ok (.iload_n 1, 1) := by decide +kernel
theorem dX12_openOf_15 : decode cX12_openOf 15 = .ok (.iconst 4, 1) := by decide +kernel
theorem dX12_openOf_16 : decode cX12_openOf 16 = .ok (.invokevirtual 150, 3) := by decide +kernel
theorem dX12_openOf_19 : decode cX12_openOf 19 = .ok (.if_icmp .ge 34, 3) := by decide +kernel
theorem dX12_openOf_22 : decode cX12_openOf 22 = .ok (.iload_n 3, 1) := by decide +kernel
theorem dX12_openOf_23 : decode cX12_openOf 23 = .ok (.aload_n 0, 1) := by decide +kernel
theorem dX12_openOf_24 : decode cX12_openOf 24 = .ok (.aload_n 0, 1) := by decide +kernel
theorem dX12_openOf_25 : decode cX12_openOf 25 = .ok (.iload_n 1, 1) := by decide +kernel
theorem dX12_openOf_26 : decode cX12_openOf 26 = .ok (.iconst 5, 1) := by decide +kernel
theorem dX12_openOf_27 : decode cX12_openOf 27 = .ok (.iload 4, 2) := by decide +kernel
theorem dX12_openOf_29 : decode cX12_openOf 29 = .ok (.iadd, 1) := by decide +kernel
theorem dX12_openOf_30 : decode cX12_openOf 30 = .ok (.invokevirtual 150, 3) := by decide +kernel
theorem dX12_openOf_33 : decode cX12_openOf 33 = .ok (.iload_n 2, 1) := by decide +kernel
theorem dX12_openOf_34 : decode cX12_openOf 34 = .ok (.invokevirtual 171, 3) := by decide +kernel
theorem dX12_openOf_37 : decode cX12_openOf 37 = .ok (.ifCond .eq 7, 3) := by decide +kernel
theorem dX12_openOf_40 : decode cX12_openOf 40 = .ok (.iconst 1, 1) := by decide +kernel
theorem dX12_openOf_41 : decode cX12_openOf 41 = .ok (.goto 4, 3) := by decide +kernel
theorem dX12_openOf_44 : decode cX12_openOf 44 = .ok (.iconst 0, 1) := by decide +kernel
theorem dX12_openOf_45 : decode cX12_openOf 45 = .ok (.iadd, 1) := by decide +kernel
theorem dX12_openOf_46 : decode cX12_openOf 46 = .ok (.istore_n 3, 1) := by decide +kernel
theorem dX12_openOf_47 : decode cX12_openOf 47 = .ok (.iinc 4 1, 3) := by decide +kernel
theorem dX12_openOf_50 : decode cX12_openOf 50 = .ok (.goto (-39), 3) := by decide +kernel
theorem dX12_openOf_53 : decode cX12_openOf 53 = .ok (.iload_n 3, 1) := by decide +kernel
theorem dX12_openOf_54 : decode cX12_openOf 54 = .ok (.ireturn, 1) := by decide +kernel
theorem dX12_isOverdue_0 : decode cX12_isOverdue 0 = .ok (.aload_n 0, 1) := by decide +kernel
theorem dX12_isOverdue_1 : decode cX12_isOverdue 1 = .ok (.iload_n 1, 1) := by decide +kernel
theorem dX12_isOverdue_2 : decode cX12_isOverdue 2 = .ok (.invokevirtual 153, 3) := by decide +kernel
theorem dX12_isOverdue_5 : decode cX12_isOverdue 5 = .ok (.istore_n 2, 1) := by decide +kernel
theorem dX12_isOverdue_6 : decode cX12_isOverdue 6 = .ok (.iconst 0, 1) := by decide +kernel
theorem dX12_isOverdue_7 : decode cX12_isOverdue 7 = .ok (.istore_n 3, 1) := by decide +kernel
theorem dX12_isOverdue_8 : decode cX12_isOverdue 8 = .ok (.iconst 0, 1) := by decide +kernel
theorem dX12_isOverdue_9 : decode cX12_isOverdue 9 = .ok (.istore 4, 2) := by decide +kernel
theorem dX12_isOverdue_11 : decode cX12_isOverdue 11 = .ok (.iload 4, 2) := by decide +kernel
theorem dX12_isOverdue_13 : decode cX12_isOverdue 13 = .ok (.aload_n 0, 1) := by decide +kernel
theorem dX12_isOverdue_14 : decode cX12_isOverdue 14 = .ok (.iload_n 1, 1) := by decide +kernel
theorem dX12_isOverdue_15 : decode cX12_isOverdue 15 = .ok (.iconst 4, 1) := by decide +kernel
theorem dX12_isOverdue_16 : decode cX12_isOverdue 16 = .ok (.invokevirtual 150, 3) := by decide +kernel
theorem dX12_isOverdue_19 : decode cX12_isOverdue 19 = .ok (.if_icmp .ge 67, 3) := by decide +kernel
theorem dX12_isOverdue_22 : decode cX12_isOverdue 22 = .ok (.aload_n 0, 1) := by decide +kernel
theorem dX12_isOverdue_23 : decode cX12_isOverdue 23 = .ok (.iload_n 1, 1) := by decide +kernel
theorem dX12_isOverdue_24 : decode cX12_isOverdue 24 = .ok (.iconst 5, 1) := by decide +kernel
theorem dX12_isOverdue_25 : decode cX12_isOverdue 25 = .ok (.iload 4, 2) := by decide +kernel
theorem dX12_isOverdue_27 : decode cX12_isOverdue 27 = .ok (.iadd, 1) := by decide +kernel
theorem dX12_isOverdue_28 : decode cX12_isOverdue 28 = .ok (.invokevirtual 150, 3) := by decide +kernel
theorem dX12_isOverdue_31 : decode cX12_isOverdue 31 = .ok (.istore 5, 2) := by decide +kernel
theorem dX12_isOverdue_33 : decode cX12_isOverdue 33 = .ok (.iload_n 3, 1) := by decide +kernel
theorem dX12_isOverdue_34 : decode cX12_isOverdue 34 = .ok (.ifCond .ne 40, 3) := by decide +kernel
theorem dX12_isOverdue_37 : decode cX12_isOverdue 37 = .ok (.aload_n 0, 1) := by decide +kernel
theorem dX12_isOverdue_38 : decode cX12_isOverdue 38 = .ok (.iload 5, 2) := by decide +kernel
theorem dX12_isOverdue_40 : decode cX12_isOverdue 40 = .ok (.iload_n 2, 1) := by decide +kernel
theorem dX12_isOverdue_41 : decode cX12_isOverdue 41 = .ok (.invokevirtual 171, 3) := by decide +kernel
theorem dX12_isOverdue_44 : decode cX12_isOverdue 44 = .ok (.ifCond .eq 34, 3) := by decide +kernel
theorem dX12_isOverdue_47 : decode cX12_isOverdue 47 = .ok (.aload_n 0, 1) := by decide +kernel
theorem dX12_isOverdue_48 : decode cX12_isOverdue 48 = .ok (.getfield 7, 3) := by decide +kernel
theorem dX12_isOverdue_51 : decode cX12_isOverdue 51 = .ok (.iconst 3, 1) := by decide +kernel
theorem dX12_isOverdue_52 : decode cX12_isOverdue 52 = .ok (.iaload, 1) := by decide +kernel
theorem dX12_isOverdue_53 : decode cX12_isOverdue 53 = .ok (.aload_n 0, 1) := by decide +kernel
theorem dX12_isOverdue_54 : decode cX12_isOverdue 54 = .ok (.iload_n 1, 1) := by decide +kernel
theorem dX12_isOverdue_55 : decode cX12_isOverdue 55 = .ok (.bipush 13, 2) := by decide +kernel
theorem dX12_isOverdue_57 : decode cX12_isOverdue 57 = .ok (.iload 4, 2) := by decide +kernel
theorem dX12_isOverdue_59 : decode cX12_isOverdue 59 = .ok (.iadd, 1) := by decide +kernel
theorem dX12_isOverdue_60 : decode cX12_isOverdue 60 = .ok (.invokevirtual 150, 3) := by decide +kernel
theorem dX12_isOverdue_63 : decode cX12_isOverdue 63 = .ok (.aload_n 0, 1) := by decide +kernel
theorem dX12_isOverdue_64 : decode cX12_isOverdue 64 = .ok (.iload 5, 2) := by decide +kernel
theorem dX12_isOverdue_66 : decode cX12_isOverdue 66 = .ok (.iconst 2, 1) := by decide +kernel
theorem dX12_isOverdue_67 : decode cX12_isOverdue 67 = .ok (.invokevirtual 144, 3) := by decide +kernel
theorem dX12_isOverdue_70 : decode cX12_isOverdue 70 = .ok (.iadd, 1) := by decide +kernel
theorem dX12_isOverdue_71 : decode cX12_isOverdue 71 = .ok (.if_icmp .lt 7, 3) := by decide +kernel
theorem dX12_isOverdue_74 : decode cX12_isOverdue 74 = .ok (.iconst 1, 1) := by decide +kernel
theorem dX12_isOverdue_75 : decode cX12_isOverdue 75 = .ok (.goto 4, 3) := by decide +kernel
theorem dX12_isOverdue_78 : decode cX12_isOverdue 78 = .ok (.iconst 0, 1) := by decide +kernel
theorem dX12_isOverdue_79 : decode cX12_isOverdue 79 = .ok (.istore_n 3, 1) := by decide +kernel
theorem dX12_isOverdue_80 : decode cX12_isOverdue 80 = .ok (.iinc 4 1, 3) := by decide +kernel
theorem dX12_isOverdue_83 : decode cX12_isOverdue 83 = .ok (.goto (-72), 3) := by decide +kernel
theorem dX12_isOverdue_86 : decode cX12_isOverdue 86 = .ok (.iload_n 3, 1) := by decide +kernel
theorem dX12_isOverdue_87 : decode cX12_isOverdue 87 = .ok (.ireturn, 1) := by decide +kernel
theorem dX12_writes_0 : decode cX12_writes 0 = .ok (.aload_n 0, 1) := by decide +kernel
theorem dX12_writes_1 : decode cX12_writes 1 = .ok (.iload_n 1, 1) := by decide +kernel
theorem dX12_writes_2 : decode cX12_writes 2 = .ok (.iconst 5, 1) := by decide +kernel
theorem dX12_writes_3 : decode cX12_writes 3 = .ok (.aload_n 0, 1) := by decide +kernel
theorem dX12_writes_4 : decode cX12_writes 4 = .ok (.iload_n 1, 1) := by decide +kernel
theorem dX12_writes_5 : decode cX12_writes 5 = .ok (.iconst 4, 1) := by decide +kernel
theorem dX12_writes_6 : decode cX12_writes 6 = .ok (.invokevirtual 150, 3) := by decide +kernel
theorem dX12_writes_9 : decode cX12_writes 9 = .ok (.iadd, 1) := by decide +kernel
theorem dX12_writes_10 : decode cX12_writes 10 = .ok (.iload_n 2, 1) := by decide +kernel
theorem dX12_writes_11 : decode cX12_writes 11 = .ok (.invokevirtual 174, 3) := by decide +kernel
theorem dX12_writes_14 : decode cX12_writes 14 = .ok (.aload_n 0, 1) := by decide +kernel
theorem dX12_writes_15 : decode cX12_writes 15 = .ok (.iload_n 1, 1) := by decide +kernel
theorem dX12_writes_16 : decode cX12_writes 16 = .ok (.bipush 13, 2) := by decide +kernel
theorem dX12_writes_18 : decode cX12_writes 18 = .ok (.aload_n 0, 1) := by decide +kernel
theorem dX12_writes_19 : decode cX12_writes 19 = .ok (.iload_n 1, 1) := by decide +kernel
theorem dX12_writes_20 : decode cX12_writes 20 = .ok (.iconst 4, 1) := by decide +kernel
theorem dX12_writes_21 : decode cX12_writes 21 = .ok (.invokevirtual 150, 3) := by decide +kernel
theorem dX12_writes_24 : decode cX12_writes 24 = .ok (.iadd, 1) := by decide +kernel
theorem dX12_writes_25 : decode cX12_writes 25 = .ok (.aload_n 0, 1) := by decide +kernel
theorem dX12_writes_26 : decode cX12_writes 26 = .ok (.getfield 7, 3) := by decide +kernel
theorem dX12_writes_29 : decode cX12_writes 29 = .ok (.iconst 3, 1) := by decide +kernel
theorem dX12_writes_30 : decode cX12_writes 30 = .ok (.iaload, 1) := by decide +kernel
theorem dX12_writes_31 : decode cX12_writes 31 = .ok (.invokevirtual 174, 3) := by decide +kernel
theorem dX12_writes_34 : decode cX12_writes 34 = .ok (.aload_n 0, 1) := by decide +kernel
theorem dX12_writes_35 : decode cX12_writes 35 = .ok (.iload_n 1, 1) := by decide +kernel
theorem dX12_writes_36 : decode cX12_writes 36 = .ok (.iconst 4, 1) := by decide +kernel
theorem dX12_writes_37 : decode cX12_writes 37 = .ok (.aload_n 0, 1) := by decide +kernel
theorem dX12_writes_38 : decode cX12_writes 38 = .ok (.iload_n 1, 1) := by decide +kernel
theorem dX12_writes_39 : decode cX12_writes 39 = .ok (.iconst 4, 1) := by decide +kernel
theorem dX12_writes_40 : decode cX12_writes 40 = .ok (.invokevirtual 150, 3) := by decide +kernel
theorem dX12_writes_43 : decode cX12_writes 43 = .ok (.iconst 1, 1) := by decide +kernel
theorem dX12_writes_44 : decode cX12_writes 44 = .ok (.iadd, 1) := by decide +kernel
theorem dX12_writes_45 : decode cX12_writes 45 = .ok (.invokevirtual 174, 3) := by decide +kernel
theorem dX12_writes_48 : decode cX12_writes 48 = .ok (.return_, 1) := by decide +kernel
theorem dX12_tellsNow_0 : decode cX12_tellsNow 0 = .ok (.aload_n 0, 1) := by decide +kernel
theorem dX12_tellsNow_1 : decode cX12_tellsNow 1 = .ok (.iload_n 1, 1) := by decide +kernel
theorem dX12_tellsNow_2 : decode cX12_tellsNow 2 = .ok (.iload_n 2, 1) := by decide +kernel
theorem dX12_tellsNow_3 : decode cX12_tellsNow 3 = .ok (.invokevirtual 177, 3) := by decide +kernel
theorem dX12_tellsNow_6 : decode cX12_tellsNow 6 = .ok (.istore_n 3, 1) := by decide +kernel
theorem dX12_tellsNow_7 : decode cX12_tellsNow 7 = .ok (.aload_n 0, 1) := by decide +kernel
theorem dX12_tellsNow_8 : decode cX12_tellsNow 8 = .ok (.iload_n 1, 1) := by decide +kernel
theorem dX12_tellsNow_9 : decode cX12_tellsNow 9 = .ok (.iload_n 2, 1) := by decide +kernel
theorem dX12_tellsNow_10 : decode cX12_tellsNow 10 = .ok (.invokevirtual 180, 3) := by decide +kernel
theorem dX12_tellsNow_13 : decode cX12_tellsNow 13 = .ok (.aload_n 0, 1) := by decide +kernel
theorem dX12_tellsNow_14 : decode cX12_tellsNow 14 = .ok (.iload_n 1, 1) := by decide +kernel
theorem dX12_tellsNow_15 : decode cX12_tellsNow 15 = .ok (.iconst 2, 1) := by decide +kernel
theorem dX12_tellsNow_16 : decode cX12_tellsNow 16 = .ok (.iload_n 3, 1) := by decide +kernel
theorem dX12_tellsNow_17 : decode cX12_tellsNow 17 = .ok (.aload_n 0, 1) := by decide +kernel
theorem dX12_tellsNow_18 : decode cX12_tellsNow 18 = .ok (.iload_n 1, 1) := by decide +kernel
theorem dX12_tellsNow_19 : decode cX12_tellsNow 19 = .ok (.iconst 2, 1) := by decide +kernel
theorem dX12_tellsNow_20 : decode cX12_tellsNow 20 = .ok (.invokevirtual 150, 3) := by decide +kernel
theorem dX12_tellsNow_23 : decode cX12_tellsNow 23 = .ok (.if_icmp .ge 14, 3) := by decide +kernel
theorem dX12_tellsNow_26 : decode cX12_tellsNow 26 = .ok (.aload_n 0, 1) := by decide +kernel
theorem dX12_tellsNow_27 : decode cX12_tellsNow 27 = .ok (.iload_n 1, 1) := by decide +kernel
theorem dX12_tellsNow_28 : decode cX12_tellsNow 28 = .ok (.iconst 2, 1) := by decide +kernel
theorem dX12_tellsNow_29 : decode cX12_tellsNow 29 = .ok (.invokevirtual 150, 3) := by decide +kernel
theorem dX12_tellsNow_32 : decode cX12_tellsNow 32 = .ok (.iload_n 3, 1) := by decide +kernel
theorem dX12_tellsNow_33 : decode cX12_tellsNow 33 = .ok (.isub, 1) := by decide +kernel
theorem dX12_tellsNow_34 : decode cX12_tellsNow 34 = .ok (.goto 4, 3) := by decide +kernel
theorem dX12_tellsNow_37 : decode cX12_tellsNow 37 = .ok (.iconst 0, 1) := by decide +kernel
theorem dX12_tellsNow_38 : decode cX12_tellsNow 38 = .ok (.invokevirtual 174, 3) := by decide +kernel
theorem dX12_tellsNow_41 : decode cX12_tellsNow 41 = .ok (.return_, 1) := by decide +kernel
theorem dX12_debtor_0 : decode cX12_debtor 0 = .ok (.iload_n 1, 1) := by decide +kernel
theorem dX12_debtor_1 : decode cX12_debtor 1 = .ok (.i2l, 1) := by decide +kernel
theorem dX12_debtor_2 : decode cX12_debtor 2 = .ok (.lconst 0, 1) := by decide +kernel
theorem dX12_debtor_3 : decode cX12_debtor 3 = .ok (.ldc2_w 184, 3) := by decide +kernel
theorem dX12_debtor_6 : decode cX12_debtor 6 = .ok (.invokestatic 57, 3) := by decide +kernel
theorem dX12_debtor_9 : decode cX12_debtor 9 = .ok (.ifCond .eq 15, 3) := by decide +kernel
theorem dX12_debtor_12 : decode cX12_debtor 12 = .ok (.iload_n 2, 1) := by decide +kernel
theorem dX12_debtor_13 : decode cX12_debtor 13 = .ok (.i2l, 1) := by decide +kernel
theorem dX12_debtor_14 : decode cX12_debtor 14 = .ok (.lconst 0, 1) := by decide +kernel
theorem dX12_debtor_15 : decode cX12_debtor 15 = .ok (.ldc2_w 186, 3) := by decide +kernel
theorem dX12_debtor_18 : decode cX12_debtor 18 = .ok (.invokestatic 57, 3) := by decide +kernel
theorem dX12_debtor_21 : decode cX12_debtor 21 = .ok (.ifCond .ne 9, 3) := by decide +kernel
theorem dX12_debtor_24 : decode cX12_debtor 24 = .ok (.aload_n 0, 1) := by decide +kernel
theorem dX12_debtor_25 : decode cX12_debtor 25 = .ok (.iconst 1, 1) := by decide +kernel
theorem dX12_debtor_26 : decode cX12_debtor 26 = .ok (.invokevirtual 119, 3) := by decide +kernel
theorem dX12_debtor_29 : decode cX12_debtor 29 = .ok (.ireturn, 1) := by decide +kernel
theorem dX12_debtor_30 : decode cX12_debtor 30 = .ok (.aload_n 0, 1) := by decide +kernel
theorem dX12_debtor_31 : decode cX12_debtor 31 = .ok (.getfield 7, 3) := by decide +kernel
theorem dX12_debtor_34 : decode cX12_debtor 34 = .ok (.iconst 1, 1) := by decide +kernel
theorem dX12_debtor_35 : decode cX12_debtor 35 = .ok (.iaload, 1) := by decide +kernel
theorem dX12_debtor_36 : decode cX12_debtor 36 = .ok (.iconst 4, 1) := by decide +kernel
