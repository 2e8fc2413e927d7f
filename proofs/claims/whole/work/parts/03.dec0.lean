theorem dX0_init_0 : decode cX0_init 0 = .ok (.aload_n 0, 1) := by decide +kernel
theorem dX0_init_1 : decode cX0_init 1 = .ok (.invokespecial 3, 3) := by decide +kernel
theorem dX0_init_4 : decode cX0_init 4 = .ok (.aload_n 0, 1) := by decide +kernel
theorem dX0_init_5 : decode cX0_init 5 = .ok (.bipush 8, 2) := by decide +kernel
theorem dX0_init_7 : decode cX0_init 7 = .ok (.newarray .int, 2) := by decide +kernel
theorem dX0_init_9 : decode cX0_init 9 = .ok (.putfield 9, 3) := by decide +kernel
theorem dX0_init_12 : decode cX0_init 12 = .ok (.aload_n 0, 1) := by decide +kernel
theorem dX0_init_13 : decode cX0_init 13 = .ok (.bipush 8, 2) := by decide +kernel
theorem dX0_init_15 : decode cX0_init 15 = .ok (.newarray .int, 2) := by decide +kernel
theorem dX0_init_17 : decode cX0_init 17 = .ok (.putfield 15, 3) := by decide +kernel
theorem dX0_init_20 : decode cX0_init 20 = .ok (.return_, 1) := by decide +kernel
theorem dX0_copyFrom_0 : decode cX0_copyFrom 0 = .ok (.aload_n 1, 1) := by decide +kernel
theorem dX0_copyFrom_1 : decode cX0_copyFrom 1 = .ok (.getfield 9, 3) := by decide +kernel
theorem dX0_copyFrom_4 : decode cX0_copyFrom 4 = .ok (.iconst 0, 1) := by decide +kernel
theorem dX0_copyFrom_5 : decode cX0_copyFrom 5 = .ok (.aload_n 0, 1) := by decide +kernel
theorem dX0_copyFrom_6 : decode cX0_copyFrom 6 = .ok (.getfield 9, 3) := by decide +kernel
theorem dX0_copyFrom_9 : decode cX0_copyFrom 9 = .ok (.iconst 0, 1) := by decide +kernel
theorem dX0_copyFrom_10 : decode cX0_copyFrom 10 = .ok (.bipush 8, 2) := by decide +kernel
theorem dX0_copyFrom_12 : decode cX0_copyFrom 12 = .ok (.invokestatic 18, 3) := by decide +kernel
theorem dX0_copyFrom_15 : decode cX0_copyFrom 15 = .ok (.aload_n 1, 1) := by decide +kernel
theorem dX0_copyFrom_16 : decode cX0_copyFrom 16 = .ok (.getfield 15, 3) := by decide +kernel
theorem dX0_copyFrom_19 : decode cX0_copyFrom 19 = .ok (.iconst 0, 1) := by decide +kernel
theorem dX0_copyFrom_20 : decode cX0_copyFrom 20 = .ok (.aload_n 0, 1) := by decide +kernel
theorem dX0_copyFrom_21 : decode cX0_copyFrom 21 = .ok (.getfield 15, 3) := by decide +kernel
theorem dX0_copyFrom_24 : decode cX0_copyFrom 24 = .ok (.iconst 0, 1) := by decide +kernel
theorem dX0_copyFrom_25 : decode cX0_copyFrom 25 = .ok (.bipush 8, 2) := by decide +kernel
theorem dX0_copyFrom_27 : decode cX0_copyFrom 27 = .ok (.invokestatic 18, 3) := by decide +kernel
theorem dX0_copyFrom_30 : decode cX0_copyFrom 30 = .ok (.aload_n 0, 1) := by decide +kernel
theorem dX0_copyFrom_31 : decode cX0_copyFrom 31 = .ok (.aload_n 1, 1) := by decide +kernel
theorem dX0_copyFrom_32 : decode cX0_copyFrom 32 = .ok (.getfield 24, 3) := by decide +kernel
theorem dX0_copyFrom_35 : decode cX0_copyFrom 35 = .ok (.putfield 24, 3) := by decide +kernel
theorem dX0_copyFrom_38 : decode cX0_copyFrom 38 = .ok (.aload_n 0, 1) := by decide +kernel
theorem dX0_copyFrom_39 : decode cX0_copyFrom 39 = .ok (.aload_n 1, 1) := by decide +kernel
theorem dX0_copyFrom_40 : decode cX0_copyFrom 40 = .ok (.getfield 28, 3) := by decide +kernel
theorem dX0_copyFrom_43 : decode cX0_copyFrom 43 = .ok (.putfield 28, 3) := by decide +kernel
theorem dX0_copyFrom_46 : decode cX0_copyFrom 46 = .ok (.aload_n 0, 1) := by decide +kernel
theorem dX0_copyFrom_47 : decode cX0_copyFrom 47 = .ok (.aload_n 1, 1) := by decide +kernel
theorem dX0_copyFrom_48 : decode cX0_copyFrom 48 = .ok (.getfield 31, 3) := by decide +kernel
theorem dX0_copyFrom_51 : decode cX0_copyFrom 51 = .ok (.putfield 31, 3) := by decide +kernel
theorem dX0_copyFrom_54 : decode cX0_copyFrom 54 = .ok (.aload_n 0, 1) := by decide +kernel
theorem dX0_copyFrom_55 : decode cX0_copyFrom 55 = .ok (.aload_n 1, 1) := by decide +kernel
theorem dX0_copyFrom_56 : decode cX0_copyFrom 56 = .ok (.getfield 34, 3) := by decide +kernel
theorem dX0_copyFrom_59 : decode cX0_copyFrom 59 = .ok (.putfield 34, 3) := by decide +kernel
theorem dX0_copyFrom_62 : decode cX0_copyFrom 62 = .ok (.aload_n 0, 1) := by decide +kernel
theorem dX0_copyFrom_63 : decode cX0_copyFrom 63 = .ok (.aload_n 1, 1) := by decide +kernel
theorem dX0_copyFrom_64 : decode cX0_copyFrom 64 = .ok (.getfield 37, 3) := by decide +kernel
theorem dX0_copyFrom_67 : decode cX0_copyFrom 67 = .ok (.putfield 37, 3) := by decide +kernel
theorem dX0_copyFrom_70 : decode cX0_copyFrom 70 = .ok (.aload_n 0, 1) := by decide +kernel
theorem dX0_copyFrom_71 : decode cX0_copyFrom 71 = .ok (.aload_n 1, 1) := by decide +kernel
theorem dX0_copyFrom_72 : decode cX0_copyFrom 72 = .ok (.getfield 40, 3) := by decide +kernel
theorem dX0_copyFrom_75 : decode cX0_copyFrom 75 = .ok (.putfield 40, 3) := by decide +kernel
theorem dX0_copyFrom_78 : decode cX0_copyFrom 78 = .ok (.return_, 1) := by decide +kernel
theorem dX0_is_0 : decode cX0_is 0 = .ok (.aload_n 0, 1) := by decide +kernel
theorem dX0_is_1 : decode cX0_is 1 = .ok (.getfield 31, 3) := by decide +kernel
theorem dX0_is_4 : decode cX0_is 4 = .ok (.istore_n 2, 1) := by decide +kernel
theorem dX0_is_5 : decode cX0_is 5 = .ok (.iconst 0, 1) := by decide +kernel
theorem dX0_is_6 : decode cX0_is 6 = .ok (.istore_n 3, 1) := by decide +kernel
theorem dX0_is_7 : decode cX0_is 7 = .ok (.iload_n 3, 1) := by decide +kernel
theorem dX0_is_8 : decode cX0_is 8 = .ok (.bipush 7, 2) := by decide +kernel
theorem dX0_is_10 : decode cX0_is 10 = .ok (.if_icmp .ge 20, 3) := by decide +kernel
theorem dX0_is_13 : decode cX0_is 13 = .ok (.iload_n 2, 1) := by decide +kernel
theorem dX0_is_14 : decode cX0_is 14 = .ok (.iload_n 1, 1) := by decide +kernel
theorem dX0_is_15 : decode cX0_is 15 = .ok (.if_icmp .le 15, 3) := by decide +kernel
theorem dX0_is_18 : decode cX0_is 18 = .ok (.getstatic 44, 3) := by decide +kernel
theorem dX0_is_21 : decode cX0_is 21 = .ok (.iload_n 2, 1) := by decide +kernel
theorem dX0_is_22 : decode cX0_is 22 = .ok (.iaload, 1) := by decide +kernel
theorem dX0_is_23 : decode cX0_is 23 = .ok (.istore_n 2, 1) := by decide +kernel
theorem dX0_is_24 : decode cX0_is 24 = .ok (.iinc 3 1, 3) := by decide +kernel
theorem dX0_is_27 : decode cX0_is 27 = .ok (.goto (-20), 3) := by decide +kernel
theorem dX0_is_30 : decode cX0_is 30 = .ok (.iload_n 2, 1) := by decide +kernel
theorem dX0_is_31 : decode cX0_is 31 = .ok (.iload_n 1, 1) := by decide +kernel
theorem dX0_is_32 : decode cX0_is 32 = .ok (.if_icmp .ne 7, 3) := by decide +kernel
theorem dX0_is_35 : decode cX0_is 35 = .ok (.iconst 1, 1) := by decide +kernel
theorem dX0_is_36 : decode cX0_is 36 = .ok (.goto 4, 3) := by decide +kernel
theorem dX0_is_39 : decode cX0_is 39 = .ok (.iconst 0, 1) := by decide +kernel
theorem dX0_is_40 : decode cX0_is 40 = .ok (.ireturn, 1) := by decide +kernel
theorem dX0_due_0 : decode cX0_due 0 = .ok (.aload_n 0, 1) := by decide +kernel
theorem dX0_due_1 : decode cX0_due 1 = .ok (.getfield 31, 3) := by decide +kernel
theorem dX0_due_4 : decode cX0_due 4 = .ok (.tableswitch 52 3 6 #[32, 34, 52, 43], 32) := by decide +kernel
theorem dX0_due_36 : decode cX0_due 36 = .ok (.iconst 2, 1) := by decide +kernel
theorem dX0_due_37 : decode cX0_due 37 = .ok (.ireturn, 1) := by decide +kernel
theorem dX0_due_38 : decode cX0_due 38 = .ok (.iconst 1, 1) := by decide +kernel
theorem dX0_due_39 : decode cX0_due 39 = .ok (.aload_n 0, 1) := by decide +kernel
theorem dX0_due_40 : decode cX0_due 40 = .ok (.getfield 34, 3) := by decide +kernel
theorem dX0_due_43 : decode cX0_due 43 = .ok (.iconst 2, 1) := by decide +kernel
theorem dX0_due_44 : decode cX0_due 44 = .ok (.irem, 1) := by decide +kernel
theorem dX0_due_45 : decode cX0_due 45 = .ok (.iadd, 1) := by decide +kernel
theorem dX0_due_46 : decode cX0_due 46 = .ok (.ireturn, 1) := by decide +kernel
theorem dX0_due_47 : decode cX0_due 47 = .ok (.iconst 2, 1) := by decide +kernel
theorem dX0_due_48 : decode cX0_due 48 = .ok (.aload_n 0, 1) := by decide +kernel
theorem dX0_due_49 : decode cX0_due 49 = .ok (.getfield 34, 3) := by decide +kernel
theorem dX0_due_52 : decode cX0_due 52 = .ok (.iconst 2, 1) := by decide +kernel
theorem dX0_due_53 : decode cX0_due 53 = .ok (.irem, 1) := by decide +kernel
theorem dX0_due_54 : decode cX0_due 54 = .ok (.isub, 1) := by decide +kernel
theorem dX0_due_55 : decode cX0_due 55 = .ok (.ireturn, 1) := by decide +kernel
theorem dX0_due_56 : decode cX0_due 56 = .ok (.iconst 1, 1) := by decide +kernel
theorem dX0_due_57 : decode cX0_due 57 = .ok (.ireturn, 1) := by decide +kernel
theorem dX0_owe_0 : decode cX0_owe 0 = .ok (.aload_n 0, 1) := by decide +kernel
theorem dX0_owe_1 : decode cX0_owe 1 = .ok (.sipush 9999, 3) := by decide +kernel
theorem dX0_owe_4 : decode cX0_owe 4 = .ok (.aload_n 0, 1) := by decide +kernel
theorem dX0_owe_5 : decode cX0_owe 5 = .ok (.getfield 37, 3) := by decide +kernel
theorem dX0_owe_8 : decode cX0_owe 8 = .ok (.iload_n 1, 1) := by decide +kernel
theorem dX0_owe_9 : decode cX0_owe 9 = .ok (.iadd, 1) := by decide +kernel
theorem dX0_owe_10 : decode cX0_owe 10 = .ok (.invokestatic 47, 3) := by decide +kernel
theorem dX0_owe_13 : decode cX0_owe 13 = .ok (.putfield 37, 3) := by decide +kernel
theorem dX0_owe_16 : decode cX0_owe 16 = .ok (.return_, 1) := by decide +kernel
theorem dX0_letOff_0 : decode cX0_letOff 0 = .ok (.aload_n 0, 1) := by decide +kernel
theorem dX0_letOff_1 : decode cX0_letOff 1 = .ok (.iconst 0, 1) := by decide +kernel
theorem dX0_letOff_2 : decode cX0_letOff 2 = .ok (.putfield 37, 3) := by decide +kernel
theorem dX0_letOff_5 : decode cX0_letOff 5 = .ok (.aload_n 0, 1) := by decide +kernel
theorem dX0_letOff_6 : decode cX0_letOff 6 = .ok (.iconst 0, 1) := by decide +kernel
theorem dX0_letOff_7 : decode cX0_letOff 7 = .ok (.putfield 24, 3) := by decide +kernel
theorem dX0_letOff_10 : decode cX0_letOff 10 = .ok (.aload_n 0, 1) := by decide +kernel
theorem dX0_letOff_11 : decode cX0_letOff 11 = .ok (.iconst 0, 1) := by decide +kernel
theorem dX0_letOff_12 : decode cX0_letOff 12 = .ok (.putfield 28, 3) := by decide +kernel
theorem dX0_letOff_15 : decode cX0_letOff 15 = .ok (.aload_n 0, 1) := by decide +kernel
theorem dX0_letOff_16 : decode cX0_letOff 16 = .ok (.iconst 0, 1) := by decide +kernel
theorem dX0_letOff_17 : decode cX0_letOff 17 = .ok (.putfield 40, 3) := by decide +kernel
theorem dX0_letOff_20 : decode cX0_letOff 20 = .ok (.return_, 1) := by decide +kernel
theorem dX0_keep_0 : decode cX0_keep 0 = .ok (.aload_n 0, 1) := by decide +kernel
theorem dX0_keep_1 : decode cX0_keep 1 = .ok (.getfield 28, 3) := by decide +kernel
theorem dX0_keep_4 : decode cX0_keep 4 = .ok (.bipush 8, 2) := by decide +kernel
theorem dX0_keep_6 : decode cX0_keep 6 = .ok (.if_icmp .ge 52, 3) := by decide +kernel
theorem dX0_keep_9 : decode cX0_keep 9 = .ok (.iload_n 1, 1) := by decide +kernel
theorem dX0_keep_10 : decode cX0_keep 10 = .ok (.ifCond .lt 48, 3) := by decide +kernel
theorem dX0_keep_13 : decode cX0_keep 13 = .ok (.iload_n 1, 1) := by decide +kernel
theorem dX0_keep_14 : decode cX0_keep 14 = .ok (.bipush 8, 2) := by decide +kernel
theorem dX0_keep_16 : decode cX0_keep 16 = .ok (.if_icmp .ge 42, 3) := by decide +kernel
theorem dX0_keep_19 : decode cX0_keep 19 = .ok (.aload_n 0, 1) := by decide +kernel
theorem dX0_keep_20 : decode cX0_keep 20 = .ok (.getfield 9, 3) := by decide +kernel
theorem dX0_keep_23 : decode cX0_keep 23 = .ok (.aload_n 0, 1) := by decide +kernel
theorem dX0_keep_24 : decode cX0_keep 24 = .ok (.getfield 28, 3) := by decide +kernel
theorem dX0_keep_27 : decode cX0_keep 27 = .ok (.iload_n 1, 1) := by decide +kernel
theorem dX0_keep_28 : decode cX0_keep 28 = .ok (.iastore, 1) := by decide +kernel
theorem dX0_keep_29 : decode cX0_keep 29 = .ok (.aload_n 0, 1) := by decide +kernel
theorem dX0_keep_30 : decode cX0_keep 30 = .ok (.getfield 15, 3) := by decide +kernel
theorem dX0_keep_33 : decode cX0_keep 33 = .ok (.iload_n 1, 1) := by decide +kernel
theorem dX0_keep_34 : decode cX0_keep 34 = .ok (.iload_n 2, 1) := by decide +kernel
theorem dX0_keep_35 : decode cX0_keep 35 = .ok (.iastore, 1) := by decide +kernel
theorem dX0_keep_36 : decode cX0_keep 36 = .ok (.aload_n 0, 1) := by decide +kernel
theorem dX0_keep_37 : decode cX0_keep 37 = .ok (.dup, 1) := by decide +kernel
theorem dX0_keep_38 : decode cX0_keep 38 = .ok (.getfield 24, 3) := by decide +kernel
theorem dX0_keep_41 : decode cX0_keep 41 = .ok (.iconst 1, 1) := by decide +kernel
theorem dX0_keep_42 : decode cX0_keep 42 = .ok (.iload_n 1, 1) := by decide +kernel
theorem dX0_keep_43 : decode cX0_keep 43 = .ok (.ishl, 1) := by decide +kernel
theorem dX0_keep_44 : decode cX0_keep 44 = .ok (.ior, 1) := by decide +kernel
theorem dX0_keep_45 : decode cX0_keep 45 = .ok (.putfield 24, 3) := by decide +kernel
theorem dX0_keep_48 : decode cX0_keep 48 = .ok (.aload_n 0, 1) := by decide +kernel
theorem dX0_keep_49 : decode cX0_keep 49 = .ok (.dup, 1) := by decide +kernel
theorem dX0_keep_50 : decode cX0_keep 50 = .ok (.getfield 28, 3) := by decide +kernel
theorem dX0_keep_53 : decode cX0_keep 53 = .ok (.iconst 1, 1) := by decide +kernel
theorem dX0_keep_54 : decode cX0_keep 54 = .ok (.iadd, 1) := by decide +kernel
theorem dX0_keep_55 : decode cX0_keep 55 = .ok (.putfield 28, 3) := by decide +kernel
theorem dX0_keep_58 : decode cX0_keep 58 = .ok (.return_, 1) := by decide +kernel
theorem dX0_alikeFrom_0 : decode cX0_alikeFrom 0 = .ok (.iconst 0, 1) := by decide +kernel
theorem dX0_alikeFrom_1 : decode cX0_alikeFrom 1 = .ok (.istore_n 3, 1) := by decide +kernel
theorem dX0_alikeFrom_2 : decode cX0_alikeFrom 2 = .ok (.iload_n 3, 1) := by decide +kernel
theorem dX0_alikeFrom_3 : decode cX0_alikeFrom 3 = .ok (.aload_n 2, 1) := by decide +kernel
theorem dX0_alikeFrom_4 : decode cX0_alikeFrom 4 = .ok (.getfield 53, 3) := by decide +kernel
theorem dX0_alikeFrom_7 : decode cX0_alikeFrom 7 = .ok (.if_icmp .ge 36, 3) := by decide +kernel
theorem dX0_alikeFrom_10 : decode cX0_alikeFrom 10 = .ok (.iload_n 1, 1) := by decide +kernel
theorem dX0_alikeFrom_11 : decode cX0_alikeFrom 11 = .ok (.iload_n 3, 1) := by decide +kernel
theorem dX0_alikeFrom_12 : decode cX0_alikeFrom 12 = .ok (.iadd, 1) := by decide +kernel
theorem dX0_alikeFrom_13 : decode cX0_alikeFrom 13 = .ok (.aload_n 0, 1) := by decide +kernel
theorem dX0_alikeFrom_14 : decode cX0_alikeFrom 14 = .ok (.getfield 28, 3) := by decide +kernel
theorem dX0_alikeFrom_17 : decode cX0_alikeFrom 17 = .ok (.if_icmp .ge 26, 3) := by decide +kernel
theorem dX0_alikeFrom_20 : decode cX0_alikeFrom 20 = .ok (.aload_n 0, 1) := by decide +kernel
theorem dX0_alikeFrom_21 : decode cX0_alikeFrom 21 = .ok (.getfield 9, 3) := by decide +kernel
theorem dX0_alikeFrom_24 : decode cX0_alikeFrom 24 = .ok (.iload_n 1, 1) := by decide +kernel
theorem dX0_alikeFrom_25 : decode cX0_alikeFrom 25 = .ok (.iload_n 3, 1) := by decide +kernel
theorem dX0_alikeFrom_26 : decode cX0_alikeFrom 26 = .ok (.iadd, 1) := by decide +kernel
theorem dX0_alikeFrom_27 : decode cX0_alikeFrom 27 = .ok (.iaload, 1) := by decide +kernel
theorem dX0_alikeFrom_28 : decode cX0_alikeFrom 28 = .ok (.aload_n 2, 1) := by decide +kernel
theorem dX0_alikeFrom_29 : decode cX0_alikeFrom 29 = .ok (.getfield 56, 3) := by decide +kernel
theorem dX0_alikeFrom_32 : decode cX0_alikeFrom 32 = .ok (.iload_n 3, 1) := by decide +kernel
theorem dX0_alikeFrom_33 : decode cX0_alikeFrom 33 = .ok (.iaload, 1) := by decide +kernel
theorem dX0_alikeFrom_34 : decode cX0_alikeFrom 34 = .ok (.if_icmp .ne 9, 3) := by decide +kernel
theorem dX0_alikeFrom_37 : decode cX0_alikeFrom 37 = .ok (.iinc 3 1, 3) := by decide +kernel
theorem dX0_alikeFrom_40 : decode cX0_alikeFrom 40 = .ok (.goto (-38), 3) := by decide +kernel
theorem dX0_alikeFrom_43 : decode cX0_alikeFrom 43 = .ok (.iload_n 3, 1) := by decide +kernel
theorem dX0_alikeFrom_44 : decode cX0_alikeFrom 44 = .ok (.ireturn, 1) := by decide +kernel
theorem dX1_init_0 : decode cX1_init 0 = .ok (.aload_n 0, 1) := by decide +kernel
theorem dX1_init_1 : decode cX1_init 1 = .ok (.invokespecial 3, 3) := by decide +kernel
theorem dX1_init_4 : decode cX1_init 4 = .ok (.aload_n 0, 1) := by decide +kernel
theorem dX1_init_5 : decode cX1_init 5 = .ok (.bipush 8, 2) := by decide +kernel
theorem dX1_init_7 : decode cX1_init 7 = .ok (.newarray .int, 2) := by decide +kernel
theorem dX1_init_9 : decode cX1_init 9 = .ok (.putfield 9, 3) := by decide +kernel
theorem dX1_init_12 : decode cX1_init 12 = .ok (.aload_n 0, 1) := by decide +kernel
theorem dX1_init_13 : decode cX1_init 13 = .ok (.bipush 8, 2) := by decide +kernel
theorem dX1_init_15 : decode cX1_init 15 = .ok (.newarray .int, 2) := by decide +kernel
theorem dX1_init_17 : decode cX1_init 17 = .ok (.putfield 15, 3) := by decide +kernel
theorem dX1_init_20 : decode cX1_init 20 = .ok (.aload_n 0, 1) := by decide +kernel
theorem dX1_init_21 : decode cX1_init 21 = .ok (.bipush 8, 2) := by decide +kernel
theorem dX1_init_23 : decode cX1_init 23 = .ok (.newarray .int, 2) := by decide +kernel
theorem dX1_init_25 : decode cX1_init 25 = .ok (.putfield 18, 3) := by decide +kernel
theorem dX1_init_28 : decode cX1_init 28 = .ok (.aload_n 0, 1) := by decide +kernel
theorem dX1_init_29 : decode cX1_init 29 = .ok (.bipush 8, 2) := by decide +kernel
theorem dX1_init_31 : decode cX1_init 31 = .ok (.newarray .int, 2) := by decide +kernel
theorem dX1_init_33 : decode cX1_init 33 = .ok (.putfield 21, 3) := by decide +kernel
theorem dX1_init_36 : decode cX1_init 36 = .ok (.aload_n 0, 1) := by decide +kernel
theorem dX1_init_37 : decode cX1_init 37 = .ok (.bipush 8, 2) := by decide +kernel
theorem dX1_init_39 : decode cX1_init 39 = .ok (.newarray .int, 2) := by decide +kernel
theorem dX1_init_41 : decode cX1_init 41 = .ok (.putfield 24, 3) := by decide +kernel
theorem dX1_init_44 : decode cX1_init 44 = .ok (.return_, 1) := by decide +kernel
theorem dX1_add_0 : decode cX1_add 0 = .ok (.aload_n 0, 1) := by decide +kernel
theorem dX1_add_1 : decode cX1_add 1 = .ok (.getfield 27, 3) := by decide +kernel
theorem dX1_add_4 : decode cX1_add 4 = .ok (.istore_n 3, 1) := by decide +kernel
theorem dX1_add_5 : decode cX1_add 5 = .ok (.iload_n 3, 1) := by decide +kernel
theorem dX1_add_6 : decode cX1_add 6 = .ok (.bipush 8, 2) := by decide +kernel
theorem dX1_add_8 : decode cX1_add 8 = .ok (.if_icmp .ge 48, 3) := by decide +kernel
theorem dX1_add_11 : decode cX1_add 11 = .ok (.aload_n 0, 1) := by decide +kernel
theorem dX1_add_12 : decode cX1_add 12 = .ok (.getfield 9, 3) := by decide +kernel
theorem dX1_add_15 : decode cX1_add 15 = .ok (.iload_n 3, 1) := by decide +kernel
theorem dX1_add_16 : decode cX1_add 16 = .ok (.iload_n 1, 1) := by decide +kernel
theorem dX1_add_17 : decode cX1_add 17 = .ok (.iastore, 1) := by decide +kernel
theorem dX1_add_18 : decode cX1_add 18 = .ok (.aload_n 0, 1) := by decide +kernel
theorem dX1_add_19 : decode cX1_add 19 = .ok (.getfield 15, 3) := by decide +kernel
theorem dX1_add_22 : decode cX1_add 22 = .ok (.iload_n 3, 1) := by decide +kernel
theorem dX1_add_23 : decode cX1_add 23 = .ok (.iconst 0, 1) := by decide +kernel
theorem dX1_add_24 : decode cX1_add 24 = .ok (.iastore, 1) := by decide +kernel
theorem dX1_add_25 : decode cX1_add 25 = .ok (.aload_n 0, 1) := by decide +kernel
theorem dX1_add_26 : decode cX1_add 26 = .ok (.getfield 18, 3) := by decide +kernel
theorem dX1_add_29 : decode cX1_add 29 = .ok (.iload_n 3, 1) := by decide +kernel
theorem dX1_add_30 : decode cX1_add 30 = .ok (.iconst 0, 1) := by decide +kernel
theorem dX1_add_31 : decode cX1_add 31 = .ok (.iastore, 1) := by decide +kernel
theorem dX1_add_32 : decode cX1_add 32 = .ok (.aload_n 0, 1) := by decide +kernel
theorem dX1_add_33 : decode cX1_add 33 = .ok (.getfield 21, 3) := by decide +kernel
theorem dX1_add_36 : decode cX1_add 36 = .ok (.iload_n 3, 1) := by decide +kernel
theorem dX1_add_37 : decode cX1_add 37 = .ok (.iconst (-1), 1) := by decide +kernel
theorem dX1_add_38 : decode cX1_add 38 = .ok (.iastore, 1) := by decide +kernel
theorem dX1_add_39 : decode cX1_add 39 = .ok (.aload_n 0, 1) := by decide +kernel
theorem dX1_add_40 : decode cX1_add 40 = .ok (.getfield 24, 3) := by decide +kernel
theorem dX1_add_43 : decode cX1_add 43 = .ok (.iload_n 3, 1) := by decide +kernel
theorem dX1_add_44 : decode cX1_add 44 = .ok (.iload_n 2, 1) := by decide +kernel
theorem dX1_add_45 : decode cX1_add 45 = .ok (.iastore, 1) := by decide +kernel
theorem dX1_add_46 : decode cX1_add 46 = .ok (.aload_n 0, 1) := by decide +kernel
theorem dX1_add_47 : decode cX1_add 47 = .ok (.dup, 1) := by decide +kernel
theorem dX1_add_48 : decode cX1_add 48 = .ok (.getfield 27, 3) := by decide +kernel
theorem dX1_add_51 : decode cX1_add 51 = .ok (.iconst 1, 1) := by decide +kernel
theorem dX1_add_52 : decode cX1_add 52 = .ok (.iadd, 1) := by decide +kernel
theorem dX1_add_53 : decode cX1_add 53 = .ok (.putfield 27, 3) := by decide +kernel
theorem dX1_add_56 : decode cX1_add 56 = .ok (.iload_n 3, 1) := by decide +kernel
theorem dX1_add_57 : decode cX1_add 57 = .ok (.ireturn, 1) := by decide +kernel
theorem dX1_copyFrom_0 : decode cX1_copyFrom 0 = .ok (.aload_n 1, 1) := by decide +kernel
theorem dX1_copyFrom_1 : decode cX1_copyFrom 1 = .ok (.getfield 9, 3) := by decide +kernel
theorem dX1_copyFrom_4 : decode cX1_copyFrom 4 = .ok (.iconst 0, 1) := by decide +kernel
theorem dX1_copyFrom_5 : decode cX1_copyFrom 5 = .ok (.aload_n 0, 1) := by decide +kernel
theorem dX1_copyFrom_6 : decode cX1_copyFrom 6 = .ok (.getfield 9, 3) := by decide +kernel
theorem dX1_copyFrom_9 : decode cX1_copyFrom 9 = .ok (.iconst 0, 1) := by decide +kernel
theorem dX1_copyFrom_10 : decode cX1_copyFrom 10 = .ok (.bipush 8, 2) := by decide +kernel
theorem dX1_copyFrom_12 : decode cX1_copyFrom 12 = .ok (.invokestatic 31, 3) := by decide +kernel
theorem dX1_copyFrom_15 : decode cX1_copyFrom 15 = .ok (.aload_n 1, 1) := by decide +kernel
theorem dX1_copyFrom_16 : decode cX1_copyFrom 16 = .ok (.getfield 15, 3) := by decide +kernel
theorem dX1_copyFrom_19 : decode cX1_copyFrom 19 = .ok (.iconst 0, 1) := by decide +kernel
theorem dX1_copyFrom_20 : decode cX1_copyFrom 20 = .ok (.aload_n 0, 1) := by decide +kernel
theorem dX1_copyFrom_21 : decode cX1_copyFrom 21 = .ok (.getfield 15, 3) := by decide +kernel
theorem dX1_copyFrom_24 : decode cX1_copyFrom 24 = .ok (.iconst 0, 1) := by decide +kernel
theorem dX1_copyFrom_25 : decode cX1_copyFrom 25 = .ok (.bipush 8, 2) := by decide +kernel
theorem dX1_copyFrom_27 : decode cX1_copyFrom 27 = .ok (.invokestatic 31, 3) := by decide +kernel
theorem dX1_copyFrom_30 : decode cX1_copyFrom 30 = .ok (.aload_n 1, 1) := by decide +kernel
theorem dX1_copyFrom_31 : decode cX1_copyFrom 31 = .ok (.getfield 18, 3) := by decide +kernel
theorem dX1_copyFrom_34 : decode cX1_copyFrom 34 = .ok (.iconst 0, 1) := by decide +kernel
theorem dX1_copyFrom_35 : decode cX1_copyFrom 35 = .ok (.aload_n 0, 1) := by decide +kernel
theorem dX1_copyFrom_36 : decode cX1_copyFrom 36 = .ok (.getfield 18, 3) := by decide +kernel
theorem dX1_copyFrom_39 : decode cX1_copyFrom 39 = .ok (.iconst 0, 1) := by decide +kernel
theorem dX1_copyFrom_40 : decode cX1_copyFrom 40 = .ok (.bipush 8, 2) := by decide +kernel
theorem dX1_copyFrom_42 : decode cX1_copyFrom 42 = .ok (.invokestatic 31, 3) := by decide +kernel
theorem dX1_copyFrom_45 : decode cX1_copyFrom 45 = .ok (.aload_n 1, 1) := by decide +kernel
theorem dX1_copyFrom_46 : decode cX1_copyFrom 46 = .ok (.getfield 21, 3) := by decide +kernel
theorem dX1_copyFrom_49 : decode cX1_copyFrom 49 = .ok (.iconst 0, 1) := by decide +kernel
theorem dX1_copyFrom_50 : decode cX1_copyFrom 50 = .ok (.aload_n 0, 1) := by decide +kernel
theorem dX1_copyFrom_51 : decode cX1_copyFrom 51 = .ok (.getfield 21, 3) := by decide +kernel
theorem dX1_copyFrom_54 : decode cX1_copyFrom 54 = .ok (.iconst 0, 1) := by decide +kernel
theorem dX1_copyFrom_55 : decode cX1_copyFrom 55 = .ok (.bipush 8, 2) := by decide +kernel
theorem dX1_copyFrom_57 : decode cX1_copyFrom 57 = .ok (.invokestatic 31, 3) := by decide +kernel
theorem dX1_copyFrom_60 : decode cX1_copyFrom 60 = .ok (.aload_n 1, 1) := by decide +kernel
theorem dX1_copyFrom_61 : decode cX1_copyFrom 61 = .ok (.getfield 24, 3) := by decide +kernel
theorem dX1_copyFrom_64 : decode cX1_copyFrom 64 = .ok (.iconst 0, 1) := by decide +kernel
theorem dX1_copyFrom_65 : decode cX1_copyFrom 65 = .ok (.aload_n 0, 1) := by decide +kernel
theorem dX1_copyFrom_66 : decode cX1_copyFrom 66 = .ok (.getfield 24, 3) := by decide +kernel
theorem dX1_copyFrom_69 : decode cX1_copyFrom 69 = .ok (.iconst 0, 1) := by decide +kernel
theorem dX1_copyFrom_70 : decode cX1_copyFrom 70 = .ok (.bipush 8, 2) := by decide +kernel
theorem dX1_copyFrom_72 : decode cX1_copyFrom 72 = .ok (.invokestatic 31, 3) := by decide +kernel
theorem dX1_copyFrom_75 : decode cX1_copyFrom 75 = .ok (.aload_n 0, 1) := by decide +kernel
theorem dX1_copyFrom_76 : decode cX1_copyFrom 76 = .ok (.aload_n 1, 1) := by decide +kernel
theorem dX1_copyFrom_77 : decode cX1_copyFrom 77 = .ok (.getfield 27, 3) := by decide +kernel
theorem dX1_copyFrom_80 : decode cX1_copyFrom 80 = .ok (.putfield 27, 3) := by decide +kernel
theorem dX1_copyFrom_83 : decode cX1_copyFrom 83 = .ok (.return_, 1) := by decide +kernel
theorem dX1_setClash_0 : decode cX1_setClash 0 = .ok (.aload_n 0, 1) := by decide +kernel
theorem dX1_setClash_1 : decode cX1_setClash 1 = .ok (.getfield 15, 3) := by decide +kernel
theorem dX1_setClash_4 : decode cX1_setClash 4 = .ok (.iload_n 1, 1) := by decide +kernel
theorem dX1_setClash_5 : decode cX1_setClash 5 = .ok (.aload_n 0, 1) := by decide +kernel
theorem dX1_setClash_6 : decode cX1_setClash 6 = .ok (.getfield 15, 3) := by decide +kernel
theorem dX1_setClash_9 : decode cX1_setClash 9 = .ok (.iload_n 1, 1) := by decide +kernel
theorem dX1_setClash_10 : decode cX1_setClash 10 = .ok (.iaload, 1) := by decide +kernel
theorem dX1_setClash_11 : decode cX1_setClash 11 = .ok (.iconst 1, 1) := by decide +kernel
theorem dX1_setClash_12 : decode cX1_setClash 12 = .ok (.iload_n 2, 1) := by decide +kernel
theorem dX1_setClash_13 : decode cX1_setClash 13 = .ok (.ishl, 1) := by decide +kernel
theorem dX1_setClash_14 : decode cX1_setClash 14 = .ok (.iconst (-1), 1) := by decide +kernel
theorem dX1_setClash_15 : decode cX1_setClash 15 = .ok (.ixor, 1) := by decide +kernel
theorem dX1_setClash_16 : decode cX1_setClash 16 = .ok (.iand, 1) := by decide +kernel
theorem dX1_setClash_17 : decode cX1_setClash 17 = .ok (.iload_n 3, 1) := by decide +kernel
theorem dX1_setClash_18 : decode cX1_setClash 18 = .ok (.iload_n 2, 1) := by decide +kernel
theorem dX1_setClash_19 : decode cX1_setClash 19 = .ok (.ishl, 1) := by decide +kernel
theorem dX1_setClash_20 : decode cX1_setClash 20 = .ok (.ior, 1) := by decide +kernel
theorem dX1_setClash_21 : decode cX1_setClash 21 = .ok (.iastore, 1) := by decide +kernel
theorem dX1_setClash_22 : decode cX1_setClash 22 = .ok (.aload_n 0, 1) := by decide +kernel
theorem dX1_setClash_23 : decode cX1_setClash 23 = .ok (.getfield 15, 3) := by decide +kernel
theorem dX1_setClash_26 : decode cX1_setClash 26 = .ok (.iload_n 2, 1) := by decide +kernel
theorem dX1_setClash_27 : decode cX1_setClash 27 = .ok (.aload_n 0, 1) := by decide +kernel
theorem dX1_setClash_28 : decode cX1_setClash 28 = .ok (.getfield 15, 3) := by decide +kernel
theorem dX1_setClash_31 : decode cX1_setClash 31 = .ok (.iload_n 2, 1) := by decide +kernel
theorem dX1_setClash_32 : decode cX1_setClash 32 = .ok (.iaload, 1) := by decide +kernel
theorem dX1_setClash_33 : decode cX1_setClash 33 = .ok (.iconst 1, 1) := by decide +kernel
theorem dX1_setClash_34 : decode cX1_setClash 34 = .ok (.iload_n 1, 1) := by decide +kernel
theorem dX1_setClash_35 : decode cX1_setClash 35 = .ok (.ishl, 1) := by decide +kernel
theorem dX1_setClash_36 : decode cX1_setClash 36 = .ok (.iconst (-1), 1) := by decide +kernel
theorem dX1_setClash_37 : decode cX1_setClash 37 = .ok (.ixor, 1) := by decide +kernel
theorem dX1_setClash_38 : decode cX1_setClash 38 = .ok (.iand, 1) := by decide +kernel
theorem dX1_setClash_39 : decode cX1_setClash 39 = .ok (.iload_n 3, 1) := by decide +kernel
theorem dX1_setClash_40 : decode cX1_setClash 40 = .ok (.iload_n 1, 1) := by decide +kernel
theorem dX1_setClash_41 : decode cX1_setClash 41 = .ok (.ishl, 1) := by decide +kernel
theorem dX1_setClash_42 : decode cX1_setClash 42 = .ok (.ior, 1) := by decide +kernel
theorem dX1_setClash_43 : decode cX1_setClash 43 = .ok (.iastore, 1) := by decide +kernel
theorem dX1_setClash_44 : decode cX1_setClash 44 = .ok (.return_, 1) := by decide +kernel
theorem dX1_firstClash_0 : decode cX1_firstClash 0 = .ok (.iconst 0, 1) := by decide +kernel
theorem dX1_firstClash_1 : decode cX1_firstClash 1 = .ok (.istore_n 2, 1) := by decide +kernel
theorem dX1_firstClash_2 : decode cX1_firstClash 2 = .ok (.iload_n 2, 1) := by decide +kernel
theorem dX1_firstClash_3 : decode cX1_firstClash 3 = .ok (.aload_n 0, 1) := by decide +kernel
theorem dX1_firstClash_4 : decode cX1_firstClash 4 = .ok (.getfield 27, 3) := by decide +kernel
theorem dX1_firstClash_7 : decode cX1_firstClash 7 = .ok (.if_icmp .ge 46, 3) := by decide +kernel
theorem dX1_firstClash_10 : decode cX1_firstClash 10 = .ok (.aload_n 0, 1) := by decide +kernel
theorem dX1_firstClash_11 : decode cX1_firstClash 11 = .ok (.getfield 15, 3) := by decide +kernel
theorem dX1_firstClash_14 : decode cX1_firstClash 14 = .ok (.iload_n 2, 1) := by decide +kernel
theorem dX1_firstClash_15 : decode cX1_firstClash 15 = .ok (.iaload, 1) := by decide +kernel
theorem dX1_firstClash_16 : decode cX1_firstClash 16 = .ok (.iload_n 1, 1) := by decide +kernel
theorem dX1_firstClash_17 : decode cX1_firstClash 17 = .ok (.iand, 1) := by decide +kernel
theorem dX1_firstClash_18 : decode cX1_firstClash 18 = .ok (.bipush (-2), 2) := by decide +kernel
theorem dX1_firstClash_20 : decode cX1_firstClash 20 = .ok (.iload_n 2, 1) := by decide +kernel
theorem dX1_firstClash_21 : decode cX1_firstClash 21 = .ok (.ishl, 1) := by decide +kernel
theorem dX1_firstClash_22 : decode cX1_firstClash 22 = .ok (.iand, 1) := by decide +kernel
theorem dX1_firstClash_23 : decode cX1_firstClash 23 = .ok (.istore_n 3, 1) := by decide +kernel
theorem dX1_firstClash_24 : decode cX1_firstClash 24 = .ok (.iload_n 1, 1) := by decide +kernel
theorem dX1_firstClash_25 : decode cX1_firstClash 25 = .ok (.iload_n 2, 1) := by decide +kernel
theorem dX1_firstClash_26 : decode cX1_firstClash 26 = .ok (.ishr, 1) := by decide +kernel
theorem dX1_firstClash_27 : decode cX1_firstClash 27 = .ok (.iconst 1, 1) := by decide +kernel
theorem dX1_firstClash_28 : decode cX1_firstClash 28 = .ok (.iand, 1) := by decide +kernel
theorem dX1_firstClash_29 : decode cX1_firstClash 29 = .ok (.iconst 1, 1) := by decide +kernel
theorem dX1_firstClash_30 : decode cX1_firstClash 30 = .ok (.if_icmp .ne 17, 3) := by decide +kernel
theorem dX1_firstClash_33 : decode cX1_firstClash 33 = .ok (.iload_n 3, 1) := by decide +kernel
theorem dX1_firstClash_34 : decode cX1_firstClash 34 = .ok (.ifCond .eq 13, 3) := by decide +kernel
theorem dX1_firstClash_37 : decode cX1_firstClash 37 = .ok (.bipush 10, 2) := by decide +kernel
theorem dX1_firstClash_39 : decode cX1_firstClash 39 = .ok (.iload_n 2, 1) := by decide +kernel
theorem dX1_firstClash_40 : decode cX1_firstClash 40 = .ok (.imul, 1) := by decide +kernel
theorem dX1_firstClash_41 : decode cX1_firstClash 41 = .ok (.iload_n 3, 1) := by decide +kernel
theorem dX1_firstClash_42 : decode cX1_firstClash 42 = .ok (.invokestatic 37, 3) := by decide +kernel
theorem dX1_firstClash_45 : decode cX1_firstClash 45 = .ok (.iadd, 1) := by decide +kernel
theorem dX1_firstClash_46 : decode cX1_firstClash 46 = .ok (.ireturn, 1) := by decide +kernel
theorem dX1_firstClash_47 : decode cX1_firstClash 47 = .ok (.iinc 2 1, 3) := by decide +kernel
theorem dX1_firstClash_50 : decode cX1_firstClash 50 = .ok (.goto (-48), 3) := by decide +kernel
theorem dX1_firstClash_53 : decode cX1_firstClash 53 = .ok (.iconst (-1), 1) := by decide +kernel
theorem dX1_firstClash_54 : decode cX1_firstClash 54 = .ok (.ireturn, 1) := by decide +kernel
theorem dX1_clashBetween_0 : decode cX1_clashBetween 0 = .ok (.iconst 0, 1) := by decide +kernel
theorem dX1_clashBetween_1 : decode cX1_clashBetween 1 = .ok (.istore_n 3, 1) := by decide +kernel
theorem dX1_clashBetween_2 : decode cX1_clashBetween 2 = .ok (.iload_n 3, 1) := by decide +kernel
theorem dX1_clashBetween_3 : decode cX1_clashBetween 3 = .ok (.aload_n 0, 1) := by decide +kernel
theorem dX1_clashBetween_4 : decode cX1_clashBetween 4 = .ok (.getfield 27, 3) := by decide +kernel
theorem dX1_clashBetween_7 : decode cX1_clashBetween 7 = .ok (.if_icmp .ge 31, 3) := by decide +kernel
theorem dX1_clashBetween_10 : decode cX1_clashBetween 10 = .ok (.iload_n 1, 1) := by decide +kernel
theorem dX1_clashBetween_11 : decode cX1_clashBetween 11 = .ok (.iload_n 3, 1) := by decide +kernel
theorem dX1_clashBetween_12 : decode cX1_clashBetween 12 = .ok (.ishr, 1) := by decide +kernel
theorem dX1_clashBetween_13 : decode cX1_clashBetween 13 = .ok (.iconst 1, 1) := by decide +kernel
theorem dX1_clashBetween_14 : decode cX1_clashBetween 14 = .ok (.iand, 1) := by decide +kernel
theorem dX1_clashBetween_15 : decode cX1_clashBetween 15 = .ok (.iconst 1, 1) := by decide +kernel
theorem dX1_clashBetween_16 : decode cX1_clashBetween 16 = .ok (.if_icmp .ne 16, 3) := by decide +kernel
theorem dX1_clashBetween_19 : decode cX1_clashBetween 19 = .ok (.aload_n 0, 1) := by decide +kernel
theorem dX1_clashBetween_20 : decode cX1_clashBetween 20 = .ok (.getfield 15, 3) := by decide +kernel
theorem dX1_clashBetween_23 : decode cX1_clashBetween 23 = .ok (.iload_n 3, 1) := by decide +kernel
theorem dX1_clashBetween_24 : decode cX1_clashBetween 24 = .ok (.iaload, 1) := by decide +kernel
theorem dX1_clashBetween_25 : decode cX1_clashBetween 25 = .ok (.iload_n 2, 1) := by decide +kernel
theorem dX1_clashBetween_26 : decode cX1_clashBetween 26 = .ok (.iand, 1) := by decide +kernel
theorem dX1_clashBetween_27 : decode cX1_clashBetween 27 = .ok (.ifCond .eq 5, 3) := by decide +kernel
theorem dX1_clashBetween_30 : decode cX1_clashBetween 30 = .ok (.iconst 1, 1) := by decide +kernel
theorem dX1_clashBetween_31 : decode cX1_clashBetween 31 = .ok (.ireturn, 1) := by decide +kernel
theorem dX1_clashBetween_32 : decode cX1_clashBetween 32 = .ok (.iinc 3 1, 3) := by decide +kernel
theorem dX1_clashBetween_35 : decode cX1_clashBetween 35 = .ok (.goto (-33), 3) := by decide +kernel
theorem dX1_clashBetween_38 : decode cX1_clashBetween 38 = .ok (.iconst 0, 1) := by decide +kernel
theorem dX1_clashBetween_39 : decode cX1_clashBetween 39 = .ok (.ireturn, 1) := by decide +kernel
theorem dX1_mayTell_0 : decode cX1_mayTell 0 = .ok (.iconst 0, 1) := by decide +kernel
theorem dX1_mayTell_1 : decode cX1_mayTell 1 = .ok (.istore 5, 2) := by decide +kernel
theorem dX1_mayTell_3 : decode cX1_mayTell 3 = .ok (.iconst 0, 1) := by decide +kernel
theorem dX1_mayTell_4 : decode cX1_mayTell 4 = .ok (.istore 6, 2) := by decide +kernel
theorem dX1_mayTell_6 : decode cX1_mayTell 6 = .ok (.iload 6, 2) := by decide +kernel
theorem dX1_mayTell_8 : decode cX1_mayTell 8 = .ok (.aload_n 0, 1) := by decide +kernel
theorem dX1_mayTell_9 : decode cX1_mayTell 9 = .ok (.getfield 27, 3) := by decide +kernel
theorem dX1_mayTell_12 : decode cX1_mayTell 12 = .ok (.if_icmp .ge 108, 3) := by decide +kernel
theorem dX1_mayTell_15 : decode cX1_mayTell 15 = .ok (.iload_n 3, 1) := by decide +kernel
theorem dX1_mayTell_16 : decode cX1_mayTell 16 = .ok (.iload 6, 2) := by decide +kernel
theorem dX1_mayTell_18 : decode cX1_mayTell 18 = .ok (.ishr, 1) := by decide +kernel
theorem dX1_mayTell_19 : decode cX1_mayTell 19 = .ok (.iconst 1, 1) := by decide +kernel
theorem dX1_mayTell_20 : decode cX1_mayTell 20 = .ok (.iand, 1) := by decide +kernel
theorem dX1_mayTell_21 : decode cX1_mayTell 21 = .ok (.ifCond .ne 7, 3) := by decide +kernel
theorem dX1_mayTell_24 : decode cX1_mayTell 24 = .ok (.iconst 1, 1) := by decide +kernel
theorem dX1_mayTell_25 : decode cX1_mayTell 25 = .ok (.goto 4, 3) := by decide +kernel
theorem dX1_mayTell_28 : decode cX1_mayTell 28 = .ok (.iconst 0, 1) := by decide +kernel
theorem dX1_mayTell_29 : decode cX1_mayTell 29 = .ok (.istore 7, 2) := by decide +kernel
theorem dX1_mayTell_31 : decode cX1_mayTell 31 = .ok (.iload 4, 2) := by decide +kernel
theorem dX1_mayTell_33 : decode cX1_mayTell 33 = .ok (.iload 6, 2) := by decide +kernel
theorem dX1_mayTell_35 : decode cX1_mayTell 35 = .ok (.ishr, 1) := by decide +kernel
theorem dX1_mayTell_36 : decode cX1_mayTell 36 = .ok (.iconst 1, 1) := by decide +kernel
theorem dX1_mayTell_37 : decode cX1_mayTell 37 = .ok (.iand, 1) := by decide +kernel
theorem dX1_mayTell_38 : decode cX1_mayTell 38 = .ok (.iconst 1, 1) := by decide +kernel
theorem dX1_mayTell_39 : decode cX1_mayTell 39 = .ok (.if_icmp .ne 7, 3) := by decide +kernel
theorem dX1_mayTell_42 : decode cX1_mayTell 42 = .ok (.iconst 1, 1) := by decide +kernel
theorem dX1_mayTell_43 : decode cX1_mayTell 43 = .ok (.goto 4, 3) := by decide +kernel
theorem dX1_mayTell_46 : decode cX1_mayTell 46 = .ok (.iconst 0, 1) := by decide +kernel
theorem dX1_mayTell_47 : decode cX1_mayTell 47 = .ok (.istore 8, 2) := by decide +kernel
theorem dX1_mayTell_49 : decode cX1_mayTell 49 = .ok (.aload_n 0, 1) := by decide +kernel
theorem dX1_mayTell_50 : decode cX1_mayTell 50 = .ok (.getfield 15, 3) := by decide +kernel
theorem dX1_mayTell_53 : decode cX1_mayTell 53 = .ok (.iload 6, 2) := by decide +kernel
theorem dX1_mayTell_55 : decode cX1_mayTell 55 = .ok (.iaload, 1) := by decide +kernel
theorem dX1_mayTell_56 : decode cX1_mayTell 56 = .ok (.iload_n 3, 1) := by decide +kernel
theorem dX1_mayTell_57 : decode cX1_mayTell 57 = .ok (.iand, 1) := by decide +kernel
theorem dX1_mayTell_58 : decode cX1_mayTell 58 = .ok (.ifCond .ne 7, 3) := by decide +kernel
theorem dX1_mayTell_61 : decode cX1_mayTell 61 = .ok (.iconst 1, 1) := by decide +kernel
theorem dX1_mayTell_62 : decode cX1_mayTell 62 = .ok (.goto 4, 3) := by decide +kernel
theorem dX1_mayTell_65 : decode cX1_mayTell 65 = .ok (.iconst 0, 1) := by decide +kernel
theorem dX1_mayTell_66 : decode cX1_mayTell 66 = .ok (.istore 9, 2) := by decide +kernel
theorem dX1_mayTell_68 : decode cX1_mayTell 68 = .ok (.aload_n 0, 1) := by decide +kernel
theorem dX1_mayTell_69 : decode cX1_mayTell 69 = .ok (.getfield 9, 3) := by decide +kernel
theorem dX1_mayTell_72 : decode cX1_mayTell 72 = .ok (.iload 6, 2) := by decide +kernel
theorem dX1_mayTell_74 : decode cX1_mayTell 74 = .ok (.iaload, 1) := by decide +kernel
theorem dX1_mayTell_75 : decode cX1_mayTell 75 = .ok (.iload_n 3, 1) := by decide +kernel
theorem dX1_mayTell_76 : decode cX1_mayTell 76 = .ok (.iconst (-1), 1) := by decide +kernel
theorem dX1_mayTell_77 : decode cX1_mayTell 77 = .ok (.ixor, 1) := by decide +kernel
theorem dX1_mayTell_78 : decode cX1_mayTell 78 = .ok (.iand, 1) := by decide +kernel
theorem dX1_mayTell_79 : decode cX1_mayTell 79 = .ok (.invokestatic 43, 3) := by decide +kernel
theorem dX1_mayTell_82 : decode cX1_mayTell 82 = .ok (.istore 10, 2) := by decide +kernel
theorem dX1_mayTell_84 : decode cX1_mayTell 84 = .ok (.iload 7, 2) := by decide +kernel
theorem dX1_mayTell_86 : decode cX1_mayTell 86 = .ok (.ifCond .eq 28, 3) := by decide +kernel
theorem dX1_mayTell_89 : decode cX1_mayTell 89 = .ok (.iload_n 1, 1) := by decide +kernel
theorem dX1_mayTell_90 : decode cX1_mayTell 90 = .ok (.iload_n 2, 1) := by decide +kernel
theorem dX1_mayTell_91 : decode cX1_mayTell 91 = .ok (.iload 6, 2) := by decide +kernel
theorem dX1_mayTell_93 : decode cX1_mayTell 93 = .ok (.iload 10, 2) := by decide +kernel
theorem dX1_mayTell_95 : decode cX1_mayTell 95 = .ok (.iload 9, 2) := by decide +kernel
theorem dX1_mayTell_97 : decode cX1_mayTell 97 = .ok (.iload 8, 2) := by decide +kernel
theorem dX1_mayTell_99 : decode cX1_mayTell 99 = .ok (.invokestatic 46, 3) := by decide +kernel
theorem dX1_mayTell_102 : decode cX1_mayTell 102 = .ok (.ifCond .eq 12, 3) := by decide +kernel
theorem dX1_mayTell_105 : decode cX1_mayTell 105 = .ok (.iload 5, 2) := by decide +kernel
theorem dX1_mayTell_107 : decode cX1_mayTell 107 = .ok (.iconst 1, 1) := by decide +kernel
theorem dX1_mayTell_108 : decode cX1_mayTell 108 = .ok (.iload 6, 2) := by decide +kernel
theorem dX1_mayTell_110 : decode cX1_mayTell 110 = .ok (.ishl, 1) := by decide +kernel
theorem dX1_mayTell_111 : decode cX1_mayTell 111 = .ok (.ior, 1) := by decide +kernel
theorem dX1_mayTell_112 : decode cX1_mayTell 112 = .ok (.istore 5, 2) := by decide +kernel
theorem dX1_mayTell_114 : decode cX1_mayTell 114 = .ok (.iinc 6 1, 3) := by decide +kernel
theorem dX1_mayTell_117 : decode cX1_mayTell 117 = .ok (.goto (-111), 3) := by decide +kernel
theorem dX1_mayTell_120 : decode cX1_mayTell 120 = .ok (.iload 5, 2) := by decide +kernel
theorem dX1_mayTell_122 : decode cX1_mayTell 122 = .ok (.ireturn, 1) := by decide +kernel
theorem dX1_allows_0 : decode cX1_allows 0 = .ok (.iload_n 0, 1) := by decide +kernel
theorem dX1_allows_1 : decode cX1_allows 1 = .ok (.tableswitch 132 1 6 #[39, 59, 100, 39, 77, 110], 39) := by decide +kernel
theorem dX1_allows_40 : decode cX1_allows 40 = .ok (.iload 4, 2) := by decide +kernel
theorem dX1_allows_42 : decode cX1_allows 42 = .ok (.ifCond .eq 16, 3) := by decide +kernel
theorem dX1_allows_45 : decode cX1_allows 45 = .ok (.iload_n 3, 1) := by decide +kernel
theorem dX1_allows_46 : decode cX1_allows 46 = .ok (.ifCond .eq 8, 3) := by decide +kernel
theorem dX1_allows_49 : decode cX1_allows 49 = .ok (.iload 5, 2) := by decide +kernel
theorem dX1_allows_51 : decode cX1_allows 51 = .ok (.ifCond .eq 7, 3) := by decide +kernel
theorem dX1_allows_54 : decode cX1_allows 54 = .ok (.iconst 1, 1) := by decide +kernel
theorem dX1_allows_55 : decode cX1_allows 55 = .ok (.goto 4, 3) := by decide +kernel
theorem dX1_allows_58 : decode cX1_allows 58 = .ok (.iconst 0, 1) := by decide +kernel
theorem dX1_allows_59 : decode cX1_allows 59 = .ok (.ireturn, 1) := by decide +kernel
theorem dX1_allows_60 : decode cX1_allows 60 = .ok (.iload 4, 2) := by decide +kernel
theorem dX1_allows_62 : decode cX1_allows 62 = .ok (.ifCond .eq 14, 3) := by decide +kernel
theorem dX1_allows_65 : decode cX1_allows 65 = .ok (.iload_n 3, 1) := by decide +kernel
theorem dX1_allows_66 : decode cX1_allows 66 = .ok (.iload_n 1, 1) := by decide +kernel
theorem dX1_allows_67 : decode cX1_allows 67 = .ok (.iconst 3, 1) := by decide +kernel
theorem dX1_allows_68 : decode cX1_allows 68 = .ok (.irem, 1) := by decide +kernel
theorem dX1_allows_69 : decode cX1_allows 69 = .ok (.if_icmp .gt 7, 3) := by decide +kernel
theorem dX1_allows_72 : decode cX1_allows 72 = .ok (.iconst 1, 1) := by decide +kernel
theorem dX1_allows_73 : decode cX1_allows 73 = .ok (.goto 4, 3) := by decide +kernel
theorem dX1_allows_76 : decode cX1_allows 76 = .ok (.iconst 0, 1) := by decide +kernel
theorem dX1_allows_77 : decode cX1_allows 77 = .ok (.ireturn, 1) := by decide +kernel
theorem dX1_allows_78 : decode cX1_allows 78 = .ok (.iload 4, 2) := by decide +kernel
theorem dX1_allows_80 : decode cX1_allows 80 = .ok (.ifCond .eq 19, 3) := by decide +kernel
theorem dX1_allows_83 : decode cX1_allows 83 = .ok (.iload_n 3, 1) := by decide +kernel
theorem dX1_allows_84 : decode cX1_allows 84 = .ok (.iload_n 1, 1) := by decide +kernel
theorem dX1_allows_85 : decode cX1_allows 85 = .ok (.iconst 3, 1) := by decide +kernel
theorem dX1_allows_86 : decode cX1_allows 86 = .ok (.irem, 1) := by decide +kernel
theorem dX1_allows_87 : decode cX1_allows 87 = .ok (.if_icmp .gt 12, 3) := by decide +kernel
theorem dX1_allows_90 : decode cX1_allows 90 = .ok (.iload_n 2, 1) := by decide +kernel
theorem dX1_allows_91 : decode cX1_allows 91 = .ok (.iload_n 1, 1) := by decide +kernel
theorem dX1_allows_92 : decode cX1_allows 92 = .ok (.if_icmp .eq 7, 3) := by decide +kernel
theorem dX1_allows_95 : decode cX1_allows 95 = .ok (.iconst 1, 1) := by decide +kernel
theorem dX1_allows_96 : decode cX1_allows 96 = .ok (.goto 4, 3) := by decide +kernel
theorem dX1_allows_99 : decode cX1_allows 99 = .ok (.iconst 0, 1) := by decide +kernel
theorem dX1_allows_100 : decode cX1_allows 100 = .ok (.ireturn, 1) := by decide +kernel
theorem dX1_allows_101 : decode cX1_allows 101 = .ok (.iload_n 3, 1) := by decide +kernel
theorem dX1_allows_102 : decode cX1_allows 102 = .ok (.ifCond .ne 7, 3) := by decide +kernel
theorem dX1_allows_105 : decode cX1_allows 105 = .ok (.iconst 1, 1) := by decide +kernel
theorem dX1_allows_106 : decode cX1_allows 106 = .ok (.goto 4, 3) := by decide +kernel
theorem dX1_allows_109 : decode cX1_allows 109 = .ok (.iconst 0, 1) := by decide +kernel
theorem dX1_allows_110 : decode cX1_allows 110 = .ok (.ireturn, 1) := by decide +kernel
theorem dX1_allows_111 : decode cX1_allows 111 = .ok (.iload_n 3, 1) := by decide +kernel
theorem dX1_allows_112 : decode cX1_allows 112 = .ok (.ifCond .ne 19, 3) := by decide +kernel
theorem dX1_allows_115 : decode cX1_allows 115 = .ok (.iload 4, 2) := by decide +kernel
theorem dX1_allows_117 : decode cX1_allows 117 = .ok (.ifCond .ne 10, 3) := by decide +kernel
theorem dX1_allows_120 : decode cX1_allows 120 = .ok (.iload_n 1, 1) := by decide +kernel
theorem dX1_allows_121 : decode cX1_allows 121 = .ok (.iconst 2, 1) := by decide +kernel
theorem dX1_allows_122 : decode cX1_allows 122 = .ok (.irem, 1) := by decide +kernel
theorem dX1_allows_123 : decode cX1_allows 123 = .ok (.iconst 1, 1) := by decide +kernel
theorem dX1_allows_124 : decode cX1_allows 124 = .ok (.if_icmp .ne 7, 3) := by decide +kernel
theorem dX1_allows_127 : decode cX1_allows 127 = .ok (.iconst 1, 1) := by decide +kernel
theorem dX1_allows_128 : decode cX1_allows 128 = .ok (.goto 4, 3) := by decide +kernel
theorem dX1_allows_131 : decode cX1_allows 131 = .ok (.iconst 0, 1) := by decide +kernel
theorem dX1_allows_132 : decode cX1_allows 132 = .ok (.ireturn, 1) := by decide +kernel
theorem dX1_allows_133 : decode cX1_allows 133 = .ok (.iload 4, 2) := by decide +kernel
theorem dX1_allows_135 : decode cX1_allows 135 = .ok (.ifCond .eq 11, 3) := by decide +kernel
theorem dX1_allows_138 : decode cX1_allows 138 = .ok (.iload_n 3, 1) := by decide +kernel
theorem dX1_allows_139 : decode cX1_allows 139 = .ok (.ifCond .ne 7, 3) := by decide +kernel
theorem dX1_allows_142 : decode cX1_allows 142 = .ok (.iconst 1, 1) := by decide +kernel
theorem dX1_allows_143 : decode cX1_allows 143 = .ok (.goto 4, 3) := by decide +kernel
theorem dX1_allows_146 : decode cX1_allows 146 = .ok (.iconst 0, 1) := by decide +kernel
theorem dX1_allows_147 : decode cX1_allows 147 = .ok (.ireturn, 1) := by decide +kernel
theorem dX1_isOpen_0 : decode cX1_isOpen 0 = .ok (.iload_n 2, 1) := by decide +kernel
theorem dX1_isOpen_1 : decode cX1_isOpen 1 = .ok (.iload_n 1, 1) := by decide +kernel
theorem dX1_isOpen_2 : decode cX1_isOpen 2 = .ok (.ishr, 1) := by decide +kernel
theorem dX1_isOpen_3 : decode cX1_isOpen 3 = .ok (.iconst 1, 1) := by decide +kernel
theorem dX1_isOpen_4 : decode cX1_isOpen 4 = .ok (.iand, 1) := by decide +kernel
theorem dX1_isOpen_5 : decode cX1_isOpen 5 = .ok (.iconst 1, 1) := by decide +kernel
theorem dX1_isOpen_6 : decode cX1_isOpen 6 = .ok (.if_icmp .ne 29, 3) := by decide +kernel
theorem dX1_isOpen_9 : decode cX1_isOpen 9 = .ok (.aload_n 0, 1) := by decide +kernel
theorem dX1_isOpen_10 : decode cX1_isOpen 10 = .ok (.getfield 18, 3) := by decide +kernel
theorem dX1_isOpen_13 : decode cX1_isOpen 13 = .ok (.iload_n 1, 1) := by decide +kernel
theorem dX1_isOpen_14 : decode cX1_isOpen 14 = .ok (.iaload, 1) := by decide +kernel
theorem dX1_isOpen_15 : decode cX1_isOpen 15 = .ok (.ifCond .le 20, 3) := by decide +kernel
theorem dX1_isOpen_18 : decode cX1_isOpen 18 = .ok (.iload_n 2, 1) := by decide +kernel
theorem dX1_isOpen_19 : decode cX1_isOpen 19 = .ok (.aload_n 0, 1) := by decide +kernel
theorem dX1_isOpen_20 : decode cX1_isOpen 20 = .ok (.getfield 21, 3) := by decide +kernel
theorem dX1_isOpen_23 : decode cX1_isOpen 23 = .ok (.iload_n 1, 1) := by decide +kernel
theorem dX1_isOpen_24 : decode cX1_isOpen 24 = .ok (.iaload, 1) := by decide +kernel
theorem dX1_isOpen_25 : decode cX1_isOpen 25 = .ok (.ishr, 1) := by decide +kernel
theorem dX1_isOpen_26 : decode cX1_isOpen 26 = .ok (.iconst 1, 1) := by decide +kernel
theorem dX1_isOpen_27 : decode cX1_isOpen 27 = .ok (.iand, 1) := by decide +kernel
theorem dX1_isOpen_28 : decode cX1_isOpen 28 = .ok (.ifCond .ne 7, 3) := by decide +kernel
theorem dX1_isOpen_31 : decode cX1_isOpen 31 = .ok (.iconst 1, 1) := by decide +kernel
theorem dX1_isOpen_32 : decode cX1_isOpen 32 = .ok (.goto 4, 3) := by decide +kernel
theorem dX1_isOpen_35 : decode cX1_isOpen 35 = .ok (.iconst 0, 1) := by decide +kernel
theorem dX1_isOpen_36 : decode cX1_isOpen 36 = .ok (.ireturn, 1) := by decide +kernel
theorem dX1_openIn_0 : decode cX1_openIn 0 = .ok (.iconst 0, 1) := by decide +kernel
theorem dX1_openIn_1 : decode cX1_openIn 1 = .ok (.istore_n 2, 1) := by decide +kernel
theorem dX1_openIn_2 : decode cX1_openIn 2 = .ok (.iconst 0, 1) := by decide +kernel
theorem dX1_openIn_3 : decode cX1_openIn 3 = .ok (.istore_n 3, 1) := by decide +kernel
theorem dX1_openIn_4 : decode cX1_openIn 4 = .ok (.iload_n 3, 1) := by decide +kernel
theorem dX1_openIn_5 : decode cX1_openIn 5 = .ok (.aload_n 0, 1) := by decide +kernel
theorem dX1_openIn_6 : decode cX1_openIn 6 = .ok (.getfield 27, 3) := by decide +kernel
theorem dX1_openIn_9 : decode cX1_openIn 9 = .ok (.if_icmp .ge 24, 3) := by decide +kernel
theorem dX1_openIn_12 : decode cX1_openIn 12 = .ok (.aload_n 0, 1) := by decide +kernel
theorem dX1_openIn_13 : decode cX1_openIn 13 = .ok (.iload_n 3, 1) := by decide +kernel
theorem dX1_openIn_14 : decode cX1_openIn 14 = .ok (.iload_n 1, 1) := by decide +kernel
theorem dX1_openIn_15 : decode cX1_openIn 15 = .ok (.invokevirtual 50, 3) := by decide +kernel
theorem dX1_openIn_18 : decode cX1_openIn 18 = .ok (.ifCond .eq 9, 3) := by decide +kernel
theorem dX1_openIn_21 : decode cX1_openIn 21 = .ok (.iload_n 2, 1) := by decide +kernel
theorem dX1_openIn_22 : decode cX1_openIn 22 = .ok (.iconst 1, 1) := by decide +kernel
theorem dX1_openIn_23 : decode cX1_openIn 23 = .ok (.iload_n 3, 1) := by decide +kernel
theorem dX1_openIn_24 : decode cX1_openIn 24 = .ok (.ishl, 1) := by decide +kernel
theorem dX1_openIn_25 : decode cX1_openIn 25 = .ok (.ior, 1) := by decide +kernel
theorem dX1_openIn_26 : decode cX1_openIn 26 = .ok (.istore_n 2, 1) := by decide +kernel
theorem dX1_openIn_27 : decode cX1_openIn 27 = .ok (.iinc 3 1, 3) := by decide +kernel
theorem dX1_openIn_30 : decode cX1_openIn 30 = .ok (.goto (-26), 3) := by decide +kernel
theorem dX1_openIn_33 : decode cX1_openIn 33 = .ok (.iload_n 2, 1) := by decide +kernel
theorem dX1_openIn_34 : decode cX1_openIn 34 = .ok (.ireturn, 1) := by decide +kernel
theorem dX1_anyOverdue_0 : decode cX1_anyOverdue 0 = .ok (.iconst 0, 1) := by decide +kernel
theorem dX1_anyOverdue_1 : decode cX1_anyOverdue 1 = .ok (.istore 4, 2) := by decide +kernel
theorem dX1_anyOverdue_3 : decode cX1_anyOverdue 3 = .ok (.iload 4, 2) := by decide +kernel
theorem dX1_anyOverdue_5 : decode cX1_anyOverdue 5 = .ok (.aload_n 0, 1) := by decide +kernel
theorem dX1_anyOverdue_6 : decode cX1_anyOverdue 6 = .ok (.getfield 27, 3) := by decide +kernel
theorem dX1_anyOverdue_9 : decode cX1_anyOverdue 9 = .ok (.if_icmp .ge 37, 3) := by decide +kernel
theorem dX1_anyOverdue_12 : decode cX1_anyOverdue 12 = .ok (.aload_n 0, 1) := by decide +kernel
theorem dX1_anyOverdue_13 : decode cX1_anyOverdue 13 = .ok (.iload 4, 2) := by decide +kernel
theorem dX1_anyOverdue_15 : decode cX1_anyOverdue 15 = .ok (.iload_n 1, 1) := by decide +kernel
theorem dX1_anyOverdue_16 : decode cX1_anyOverdue 16 = .ok (.invokevirtual 50, 3) := by decide +kernel
theorem dX1_anyOverdue_19 : decode cX1_anyOverdue 19 = .ok (.ifCond .eq 21, 3) := by decide +kernel
theorem dX1_anyOverdue_22 : decode cX1_anyOverdue 22 = .ok (.iload_n 3, 1) := by decide +kernel
theorem dX1_anyOverdue_23 : decode cX1_anyOverdue 23 = .ok (.aload_n 2, 1) := by decide +kernel
theorem dX1_anyOverdue_24 : decode cX1_anyOverdue 24 = .ok (.iload 4, 2) := by decide +kernel
theorem dX1_anyOverdue_26 : decode cX1_anyOverdue 26 = .ok (.iaload, 1) := by decide +kernel
theorem dX1_anyOverdue_27 : decode cX1_anyOverdue 27 = .ok (.aload_n 0, 1) := by decide +kernel
theorem dX1_anyOverdue_28 : decode cX1_anyOverdue 28 = .ok (.getfield 18, 3) := by decide +kernel
theorem dX1_anyOverdue_31 : decode cX1_anyOverdue 31 = .ok (.iload 4, 2) := by decide +kernel
theorem dX1_anyOverdue_33 : decode cX1_anyOverdue 33 = .ok (.iaload, 1) := by decide +kernel
theorem dX1_anyOverdue_34 : decode cX1_anyOverdue 34 = .ok (.iadd, 1) := by decide +kernel
theorem dX1_anyOverdue_35 : decode cX1_anyOverdue 35 = .ok (.if_icmp .lt 5, 3) := by decide +kernel
theorem dX1_anyOverdue_38 : decode cX1_anyOverdue 38 = .ok (.iconst 1, 1) := by decide +kernel
theorem dX1_anyOverdue_39 : decode cX1_anyOverdue 39 = .ok (.ireturn, 1) := by decide +kernel
theorem dX1_anyOverdue_40 : decode cX1_anyOverdue 40 = .ok (.iinc 4 1, 3) := by decide +kernel
theorem dX1_anyOverdue_43 : decode cX1_anyOverdue 43 = .ok (.goto (-40), 3) := by decide +kernel
theorem dX1_anyOverdue_46 : decode cX1_anyOverdue 46 = .ok (.iconst 0, 1) := by decide +kernel
theorem dX1_anyOverdue_47 : decode cX1_anyOverdue 47 = .ok (.ireturn, 1) := by decide +kernel
theorem dX2_init_0 : decode cX2_init 0 = .ok (.aload_n 0, 1) := by decide +kernel
theorem dX2_init_1 : decode cX2_init 1 = .ok (.invokespecial 3, 3) := by decide +kernel
theorem dX2_init_4 : decode cX2_init 4 = .ok (.aload_n 0, 1) := by decide +kernel
theorem dX2_init_5 : decode cX2_init 5 = .ok (.bipush 50, 2) := by decide +kernel
theorem dX2_init_7 : decode cX2_init 7 = .ok (.newarray .int, 2) := by decide +kernel
theorem dX2_init_9 : decode cX2_init 9 = .ok (.putfield 9, 3) := by decide +kernel
theorem dX2_init_12 : decode cX2_init 12 = .ok (.aload_n 0, 1) := by decide +kernel
theorem dX2_init_13 : decode cX2_init 13 = .ok (.bipush 50, 2) := by decide +kernel
theorem dX2_init_15 : decode cX2_init 15 = .ok (.newarray .int, 2) := by decide +kernel
theorem dX2_init_17 : decode cX2_init 17 = .ok (.putfield 15, 3) := by decide +kernel
theorem dX2_init_20 : decode cX2_init 20 = .ok (.iload_n 1, 1) := by decide +kernel
theorem dX2_init_21 : decode cX2_init 21 = .ok (.ifCond .ne 9, 3) := by decide +kernel
theorem dX2_init_24 : decode cX2_init 24 = .ok (.getstatic 18, 3) := by decide +kernel
theorem dX2_init_27 : decode cX2_init 27 = .ok (.goto 6, 3) := by decide +kernel
theorem dX2_init_30 : decode cX2_init 30 = .ok (.getstatic 21, 3) := by decide +kernel
theorem dX2_init_33 : decode cX2_init 33 = .ok (.astore_n 2, 1) := by decide +kernel
theorem dX2_init_34 : decode cX2_init 34 = .ok (.aload_n 0, 1) := by decide +kernel
theorem dX2_init_35 : decode cX2_init 35 = .ok (.iload_n 1, 1) := by decide +kernel
theorem dX2_init_36 : decode cX2_init 36 = .ok (.ifCond .ne 7, 3) := by decide +kernel
theorem dX2_init_39 : decode cX2_init 39 = .ok (.iconst 0, 1) := by decide +kernel
theorem dX2_init_40 : decode cX2_init 40 = .ok (.goto 6, 3) := by decide +kernel
theorem dX2_init_43 : decode cX2_init 43 = .ok (.sipush (-999), 3) := by decide +kernel
theorem dX2_init_46 : decode cX2_init 46 = .ok (.putfield 24, 3) := by decide +kernel
theorem dX2_init_49 : decode cX2_init 49 = .ok (.aload_n 0, 1) := by decide +kernel
theorem dX2_init_50 : decode cX2_init 50 = .ok (.aload_n 2, 1) := by decide +kernel
theorem dX2_init_51 : decode cX2_init 51 = .ok (.arraylength, 1) := by decide +kernel
theorem dX2_init_52 : decode cX2_init 52 = .ok (.putfield 28, 3) := by decide +kernel
theorem dX2_init_55 : decode cX2_init 55 = .ok (.aload_n 2, 1) := by decide +kernel
theorem dX2_init_56 : decode cX2_init 56 = .ok (.iconst 0, 1) := by decide +kernel
theorem dX2_init_57 : decode cX2_init 57 = .ok (.aload_n 0, 1) := by decide +kernel
theorem dX2_init_58 : decode cX2_init 58 = .ok (.getfield 9, 3) := by decide +kernel
theorem dX2_init_61 : decode cX2_init 61 = .ok (.iconst 0, 1) := by decide +kernel
theorem dX2_init_62 : decode cX2_init 62 = .ok (.aload_n 2, 1) := by decide +kernel
theorem dX2_init_63 : decode cX2_init 63 = .ok (.arraylength, 1) := by decide +kernel
theorem dX2_init_64 : decode cX2_init 64 = .ok (.invokestatic 31, 3) := by decide +kernel
theorem dX2_init_67 : decode cX2_init 67 = .ok (.return_, 1) := by decide +kernel
theorem dX2_take_0 : decode cX2_take 0 = .ok (.aload_n 0, 1) := by decide +kernel
theorem dX2_take_1 : decode cX2_take 1 = .ok (.iconst 0, 1) := by decide +kernel
theorem dX2_take_2 : decode cX2_take 2 = .ok (.iload_n 2, 1) := by decide +kernel
theorem dX2_take_3 : decode cX2_take 3 = .ok (.bipush 50, 2) := by decide +kernel
theorem dX2_take_5 : decode cX2_take 5 = .ok (.invokestatic 37, 3) := by decide +kernel
theorem dX2_take_8 : decode cX2_take 8 = .ok (.invokestatic 43, 3) := by decide +kernel
theorem dX2_take_11 : decode cX2_take 11 = .ok (.putfield 28, 3) := by decide +kernel
theorem dX2_take_14 : decode cX2_take 14 = .ok (.aload_n 1, 1) := by decide +kernel
theorem dX2_take_15 : decode cX2_take 15 = .ok (.iconst 0, 1) := by decide +kernel
theorem dX2_take_16 : decode cX2_take 16 = .ok (.aload_n 0, 1) := by decide +kernel
theorem dX2_take_17 : decode cX2_take 17 = .ok (.getfield 9, 3) := by decide +kernel
theorem dX2_take_20 : decode cX2_take 20 = .ok (.iconst 0, 1) := by decide +kernel
theorem dX2_take_21 : decode cX2_take 21 = .ok (.aload_n 0, 1) := by decide +kernel
theorem dX2_take_22 : decode cX2_take 22 = .ok (.getfield 28, 3) := by decide +kernel
theorem dX2_take_25 : decode cX2_take 25 = .ok (.invokestatic 31, 3) := by decide +kernel
theorem dX2_take_28 : decode cX2_take 28 = .ok (.return_, 1) := by decide +kernel
theorem dX2_gives_0 : decode cX2_gives 0 = .ok (.iconst 0, 1) := by decide +kernel
theorem dX2_gives_1 : decode cX2_gives 1 = .ok (.istore 4, 2) := by decide +kernel
theorem dX2_gives_3 : decode cX2_gives 3 = .ok (.iconst 0, 1) := by decide +kernel
theorem dX2_gives_4 : decode cX2_gives 4 = .ok (.istore 5, 2) := by decide +kernel
theorem dX2_gives_6 : decode cX2_gives 6 = .ok (.iload 5, 2) := by decide +kernel
theorem dX2_gives_8 : decode cX2_gives 8 = .ok (.aload_n 0, 1) := by decide +kernel
theorem dX2_gives_9 : decode cX2_gives 9 = .ok (.getfield 28, 3) := by decide +kernel
theorem dX2_gives_12 : decode cX2_gives 12 = .ok (.if_icmp .ge 165, 3) := by decide +kernel
theorem dX2_gives_15 : decode cX2_gives 15 = .ok (.iload 5, 2) := by decide +kernel
theorem dX2_gives_17 : decode cX2_gives 17 = .ok (.bipush 50, 2) := by decide +kernel
theorem dX2_gives_19 : decode cX2_gives 19 = .ok (.if_icmp .ge 158, 3) := by decide +kernel
theorem dX2_gives_22 : decode cX2_gives 22 = .ok (.aload_n 0, 1) := by decide +kernel
theorem dX2_gives_23 : decode cX2_gives 23 = .ok (.getfield 9, 3) := by decide +kernel
theorem dX2_gives_26 : decode cX2_gives 26 = .ok (.iload 5, 2) := by decide +kernel
theorem dX2_gives_28 : decode cX2_gives 28 = .ok (.iaload, 1) := by decide +kernel
theorem dX2_gives_29 : decode cX2_gives 29 = .ok (.istore 6, 2) := by decide +kernel
theorem dX2_gives_31 : decode cX2_gives 31 = .ok (.iload 6, 2) := by decide +kernel
theorem dX2_gives_33 : decode cX2_gives 33 = .ok (.bipush (-3), 2) := by decide +kernel
theorem dX2_gives_35 : decode cX2_gives 35 = .ok (.if_icmp .lt 55, 3) := by decide +kernel
theorem dX2_gives_38 : decode cX2_gives 38 = .ok (.iload 4, 2) := by decide +kernel
theorem dX2_gives_40 : decode cX2_gives 40 = .ok (.bipush 50, 2) := by decide +kernel
theorem dX2_gives_42 : decode cX2_gives 42 = .ok (.if_icmp .ge 129, 3) := by decide +kernel
theorem dX2_gives_45 : decode cX2_gives 45 = .ok (.aload_n 0, 1) := by decide +kernel
theorem dX2_gives_46 : decode cX2_gives 46 = .ok (.getfield 15, 3) := by decide +kernel
theorem dX2_gives_49 : decode cX2_gives 49 = .ok (.iload 4, 2) := by decide +kernel
theorem dX2_gives_51 : decode cX2_gives 51 = .ok (.iload 6, 2) := by decide +kernel
theorem dX2_gives_53 : decode cX2_gives 53 = .ok (.ifCond .lt 8, 3) := by decide +kernel
theorem dX2_gives_56 : decode cX2_gives 56 = .ok (.iload 6, 2) := by decide +kernel
theorem dX2_gives_58 : decode cX2_gives 58 = .ok (.goto 25, 3) := by decide +kernel
theorem dX2_gives_61 : decode cX2_gives 61 = .ok (.iload 6, 2) := by decide +kernel
theorem dX2_gives_63 : decode cX2_gives 63 = .ok (.iconst (-1), 1) := by decide +kernel
theorem dX2_gives_64 : decode cX2_gives 64 = .ok (.if_icmp .ne 7, 3) := by decide +kernel
theorem dX2_gives_67 : decode cX2_gives 67 = .ok (.iload_n 1, 1) := by decide +kernel
theorem dX2_gives_68 : decode cX2_gives 68 = .ok (.goto 15, 3) := by decide +kernel
theorem dX2_gives_71 : decode cX2_gives 71 = .ok (.iload 6, 2) := by decide +kernel
theorem dX2_gives_73 : decode cX2_gives 73 = .ok (.bipush (-2), 2) := by decide +kernel
theorem dX2_gives_75 : decode cX2_gives 75 = .ok (.if_icmp .ne 7, 3) := by decide +kernel
theorem dX2_gives_78 : decode cX2_gives 78 = .ok (.iload_n 2, 1) := by decide +kernel
theorem dX2_gives_79 : decode cX2_gives 79 = .ok (.goto 4, 3) := by decide +kernel
theorem dX2_gives_82 : decode cX2_gives 82 = .ok (.iload_n 3, 1) := by decide +kernel
theorem dX2_gives_83 : decode cX2_gives 83 = .ok (.iastore, 1) := by decide +kernel
theorem dX2_gives_84 : decode cX2_gives 84 = .ok (.iinc 4 1, 3) := by decide +kernel
theorem dX2_gives_87 : decode cX2_gives 87 = .ok (.goto 84, 3) := by decide +kernel
theorem dX2_gives_90 : decode cX2_gives 90 = .ok (.iload 6, 2) := by decide +kernel
theorem dX2_gives_92 : decode cX2_gives 92 = .ok (.bipush (-33), 2) := by decide +kernel
theorem dX2_gives_94 : decode cX2_gives 94 = .ok (.if_icmp .ne 37, 3) := by decide +kernel
theorem dX2_gives_97 : decode cX2_gives 97 = .ok (.iload 4, 2) := by decide +kernel
theorem dX2_gives_99 : decode cX2_gives 99 = .ok (.ifCond .le 72, 3) := by decide +kernel
theorem dX2_gives_102 : decode cX2_gives 102 = .ok (.aload_n 0, 1) := by decide +kernel
theorem dX2_gives_103 : decode cX2_gives 103 = .ok (.getfield 15, 3) := by decide +kernel
theorem dX2_gives_106 : decode cX2_gives 106 = .ok (.iload 4, 2) := by decide +kernel
theorem dX2_gives_108 : decode cX2_gives 108 = .ok (.iconst 1, 1) := by decide +kernel
theorem dX2_gives_109 : decode cX2_gives 109 = .ok (.isub, 1) := by decide +kernel
theorem dX2_gives_110 : decode cX2_gives 110 = .ok (.aload_n 0, 1) := by decide +kernel
theorem dX2_gives_111 : decode cX2_gives 111 = .ok (.getfield 15, 3) := by decide +kernel
theorem dX2_gives_114 : decode cX2_gives 114 = .ok (.iload 4, 2) := by decide +kernel
theorem dX2_gives_116 : decode cX2_gives 116 = .ok (.iconst 1, 1) := by decide +kernel
theorem dX2_gives_117 : decode cX2_gives 117 = .ok (.isub, 1) := by decide +kernel
theorem dX2_gives_118 : decode cX2_gives 118 = .ok (.iaload, 1) := by decide +kernel
theorem dX2_gives_119 : decode cX2_gives 119 = .ok (.ifCond .ne 7, 3) := by decide +kernel
theorem dX2_gives_122 : decode cX2_gives 122 = .ok (.iconst 1, 1) := by decide +kernel
theorem dX2_gives_123 : decode cX2_gives 123 = .ok (.goto 4, 3) := by decide +kernel
theorem dX2_gives_126 : decode cX2_gives 126 = .ok (.iconst 0, 1) := by decide +kernel
theorem dX2_gives_127 : decode cX2_gives 127 = .ok (.iastore, 1) := by decide +kernel
theorem dX2_gives_128 : decode cX2_gives 128 = .ok (.goto 43, 3) := by decide +kernel
theorem dX2_gives_131 : decode cX2_gives 131 = .ok (.iload 4, 2) := by decide +kernel
theorem dX2_gives_133 : decode cX2_gives 133 = .ok (.iconst 1, 1) := by decide +kernel
theorem dX2_gives_134 : decode cX2_gives 134 = .ok (.if_icmp .le 37, 3) := by decide +kernel
theorem dX2_gives_137 : decode cX2_gives 137 = .ok (.iinc 4 (-1), 3) := by decide +kernel
theorem dX2_gives_140 : decode cX2_gives 140 = .ok (.aload_n 0, 1) := by decide +kernel
theorem dX2_gives_141 : decode cX2_gives 141 = .ok (.getfield 15, 3) := by decide +kernel
theorem dX2_gives_144 : decode cX2_gives 144 = .ok (.iload 4, 2) := by decide +kernel
theorem dX2_gives_146 : decode cX2_gives 146 = .ok (.iconst 1, 1) := by decide +kernel
theorem dX2_gives_147 : decode cX2_gives 147 = .ok (.isub, 1) := by decide +kernel
theorem dX2_gives_148 : decode cX2_gives 148 = .ok (.iload 6, 2) := by decide +kernel
theorem dX2_gives_150 : decode cX2_gives 150 = .ok (.ineg, 1) := by decide +kernel
theorem dX2_gives_151 : decode cX2_gives 151 = .ok (.aload_n 0, 1) := by decide +kernel
theorem dX2_gives_152 : decode cX2_gives 152 = .ok (.getfield 15, 3) := by decide +kernel
theorem dX2_gives_155 : decode cX2_gives 155 = .ok (.iload 4, 2) := by decide +kernel
theorem dX2_gives_157 : decode cX2_gives 157 = .ok (.iconst 1, 1) := by decide +kernel
theorem dX2_gives_158 : decode cX2_gives 158 = .ok (.isub, 1) := by decide +kernel
theorem dX2_gives_159 : decode cX2_gives 159 = .ok (.iaload, 1) := by decide +kernel
theorem dX2_gives_160 : decode cX2_gives 160 = .ok (.aload_n 0, 1) := by decide +kernel
theorem dX2_gives_161 : decode cX2_gives 161 = .ok (.getfield 15, 3) := by decide +kernel
theorem dX2_gives_164 : decode cX2_gives 164 = .ok (.iload 4, 2) := by decide +kernel
theorem dX2_gives_166 : decode cX2_gives 166 = .ok (.iaload, 1) := by decide +kernel
theorem dX2_gives_167 : decode cX2_gives 167 = .ok (.invokestatic 46, 3) := by decide +kernel
theorem dX2_gives_170 : decode cX2_gives 170 = .ok (.iastore, 1) := by decide +kernel
theorem dX2_gives_171 : decode cX2_gives 171 = .ok (.iinc 5 1, 3) := by decide +kernel
theorem dX2_gives_174 : decode cX2_gives 174 = .ok (.goto (-168), 3) := by decide +kernel
theorem dX2_gives_177 : decode cX2_gives 177 = .ok (.iload 4, 2) := by decide +kernel
theorem dX2_gives_179 : decode cX2_gives 179 = .ok (.ifCond .le 12, 3) := by decide +kernel
theorem dX2_gives_182 : decode cX2_gives 182 = .ok (.aload_n 0, 1) := by decide +kernel
theorem dX2_gives_183 : decode cX2_gives 183 = .ok (.getfield 15, 3) := by decide +kernel
theorem dX2_gives_186 : decode cX2_gives 186 = .ok (.iconst 0, 1) := by decide +kernel
theorem dX2_gives_187 : decode cX2_gives 187 = .ok (.iaload, 1) := by decide +kernel
theorem dX2_gives_188 : decode cX2_gives 188 = .ok (.goto 4, 3) := by decide +kernel
theorem dX2_gives_191 : decode cX2_gives 191 = .ok (.iconst 0, 1) := by decide +kernel
theorem dX2_gives_192 : decode cX2_gives 192 = .ok (.istore 5, 2) := by decide +kernel
theorem dX2_gives_194 : decode cX2_gives 194 = .ok (.aload_n 0, 1) := by decide +kernel
theorem dX2_gives_195 : decode cX2_gives 195 = .ok (.getfield 24, 3) := by decide +kernel
theorem dX2_gives_198 : decode cX2_gives 198 = .ok (.iload 5, 2) := by decide +kernel
theorem dX2_gives_200 : decode cX2_gives 200 = .ok (.sipush 999, 3) := by decide +kernel
theorem dX2_gives_203 : decode cX2_gives 203 = .ok (.invokestatic 37, 3) := by decide +kernel
theorem dX2_gives_206 : decode cX2_gives 206 = .ok (.invokestatic 43, 3) := by decide +kernel
theorem dX2_gives_209 : decode cX2_gives 209 = .ok (.ireturn, 1) := by decide +kernel
theorem dX2_joins_0 : decode cX2_joins 0 = .ok (.iload_n 0, 1) := by decide +kernel
theorem dX2_joins_1 : decode cX2_joins 1 = .ok (.lookupswitch 188 #[(37, 176), (38, 105), (42, 160), (43, 152), (45, 156), (47, 164), (60, 119), (61, 130), (62, 141), (124, 91)], 91) := by decide +kernel
theorem dX2_joins_92 : decode cX2_joins 92 = .ok (.iload_n 1, 1) := by decide +kernel
theorem dX2_joins_93 : decode cX2_joins 93 = .ok (.ifCond .ne 7, 3) := by decide +kernel
theorem dX2_joins_96 : decode cX2_joins 96 = .ok (.iload_n 2, 1) := by decide +kernel
theorem dX2_joins_97 : decode cX2_joins 97 = .ok (.ifCond .eq 7, 3) := by decide +kernel
theorem dX2_joins_100 : decode cX2_joins 100 = .ok (.iconst 1, 1) := by decide +kernel
theorem dX2_joins_101 : decode cX2_joins 101 = .ok (.goto 4, 3) := by decide +kernel
theorem dX2_joins_104 : decode cX2_joins 104 = .ok (.iconst 0, 1) := by decide +kernel
theorem dX2_joins_105 : decode cX2_joins 105 = .ok (.ireturn, 1) := by decide +kernel
theorem dX2_joins_106 : decode cX2_joins 106 = .ok (.iload_n 1, 1) := by decide +kernel
theorem dX2_joins_107 : decode cX2_joins 107 = .ok (.ifCond .eq 11, 3) := by decide +kernel
theorem dX2_joins_110 : decode cX2_joins 110 = .ok (.iload_n 2, 1) := by decide +kernel
theorem dX2_joins_111 : decode cX2_joins 111 = .ok (.ifCond .eq 7, 3) := by decide +kernel
theorem dX2_joins_114 : decode cX2_joins 114 = .ok (.iconst 1, 1) := by decide +kernel
theorem dX2_joins_115 : decode cX2_joins 115 = .ok (.goto 4, 3) := by decide +kernel
theorem dX2_joins_118 : decode cX2_joins 118 = .ok (.iconst 0, 1) := by decide +kernel
theorem dX2_joins_119 : decode cX2_joins 119 = .ok (.ireturn, 1) := by decide +kernel
theorem dX2_joins_120 : decode cX2_joins 120 = .ok (.iload_n 1, 1) := by decide +kernel
theorem dX2_joins_121 : decode cX2_joins 121 = .ok (.iload_n 2, 1) := by decide +kernel
theorem dX2_joins_122 : decode cX2_joins 122 = .ok (.if_icmp .ge 7, 3) := by decide +kernel
theorem dX2_joins_125 : decode cX2_joins 125 = .ok (.iconst 1, 1) := by decide +kernel
theorem dX2_joins_126 : decode cX2_joins 126 = .ok (.goto 4, 3) := by decide +kernel
theorem dX2_joins_129 : decode cX2_joins 129 = .ok (.iconst 0, 1) := by decide +kernel
theorem dX2_joins_130 : decode cX2_joins 130 = .ok (.ireturn, 1) := by decide +kernel
theorem dX2_joins_131 : decode cX2_joins 131 = .ok (.iload_n 1, 1) := by decide +kernel
theorem dX2_joins_132 : decode cX2_joins 132 = .ok (.iload_n 2, 1) := by decide +kernel
theorem dX2_joins_133 : decode cX2_joins 133 = .ok (.if_icmp .ne 7, 3) := by decide +kernel
theorem dX2_joins_136 : decode cX2_joins 136 = .ok (.iconst 1, 1) := by decide +kernel
theorem dX2_joins_137 : decode cX2_joins 137 = .ok (.goto 4, 3) := by decide +kernel
theorem dX2_joins_140 : decode cX2_joins 140 = .ok (.iconst 0, 1) := by decide +kernel
theorem dX2_joins_141 : decode cX2_joins 141 = .ok (.ireturn, 1) := by decide +kernel
theorem dX2_joins_142 : decode cX2_joins 142 = .ok (.iload_n 1, 1) := by decide +kernel
theorem dX2_joins_143 : decode cX2_joins 143 = .ok (.iload_n 2, 1) := by decide +kernel
theorem dX2_joins_144 : decode cX2_joins 144 = .ok (.if_icmp .le 7, 3) := by decide +kernel
theorem dX2_joins_147 : decode cX2_joins 147 = .ok (.iconst 1, 1) := by decide +kernel
theorem dX2_joins_148 : decode cX2_joins 148 = .ok (.goto 4, 3) := by decide +kernel
theorem dX2_joins_151 : decode cX2_joins 151 = .ok (.iconst 0, 1) := by decide +kernel
theorem dX2_joins_152 : decode cX2_joins 152 = .ok (.ireturn, 1) := by decide +kernel
theorem dX2_joins_153 : decode cX2_joins 153 = .ok (.iload_n 1, 1) := by decide +kernel
theorem dX2_joins_154 : decode cX2_joins 154 = .ok (.iload_n 2, 1) := by decide +kernel
theorem dX2_joins_155 : decode cX2_joins 155 = .ok (.iadd, 1) := by decide +kernel
theorem dX2_joins_156 : decode cX2_joins 156 = .ok (.ireturn, 1) := by decide +kernel
theorem dX2_joins_157 : decode cX2_joins 157 = .ok (.iload_n 1, 1) := by decide +kernel
theorem dX2_joins_158 : decode cX2_joins 158 = .ok (.iload_n 2, 1) := by decide +kernel
theorem dX2_joins_159 : decode cX2_joins 159 = .ok (.isub, 1) := by decide +kernel
theorem dX2_joins_160 : decode cX2_joins 160 = .ok (.ireturn, 1) := by decide +kernel
theorem dX2_joins_161 : decode cX2_joins 161 = .ok (.iload_n 1, 1) := by decide +kernel
theorem dX2_joins_162 : decode cX2_joins 162 = .ok (.iload_n 2, 1) := by decide +kernel
theorem dX2_joins_163 : decode cX2_joins 163 = .ok (.imul, 1) := by decide +kernel
theorem dX2_joins_164 : decode cX2_joins 164 = .ok (.ireturn, 1) := by decide +kernel
theorem dX2_joins_165 : decode cX2_joins 165 = .ok (.iload_n 2, 1) := by decide +kernel
theorem dX2_joins_166 : decode cX2_joins 166 = .ok (.ifCond .ne 7, 3) := by decide +kernel
theorem dX2_joins_169 : decode cX2_joins 169 = .ok (.iconst 0, 1) := by decide +kernel
theorem dX2_joins_170 : decode cX2_joins 170 = .ok (.goto 6, 3) := by decide +kernel
theorem dX2_joins_173 : decode cX2_joins 173 = .ok (.iload_n 1, 1) := by decide +kernel
theorem dX2_joins_174 : decode cX2_joins 174 = .ok (.iload_n 2, 1) := by decide +kernel
theorem dX2_joins_175 : decode cX2_joins 175 = .ok (.idiv, 1) := by decide +kernel
theorem dX2_joins_176 : decode cX2_joins 176 = .ok (.ireturn, 1) := by decide +kernel
theorem dX2_joins_177 : decode cX2_joins 177 = .ok (.iload_n 2, 1) := by decide +kernel
theorem dX2_joins_178 : decode cX2_joins 178 = .ok (.ifCond .ne 7, 3) := by decide +kernel
theorem dX2_joins_181 : decode cX2_joins 181 = .ok (.iconst 0, 1) := by decide +kernel
theorem dX2_joins_182 : decode cX2_joins 182 = .ok (.goto 6, 3) := by decide +kernel
theorem dX2_joins_185 : decode cX2_joins 185 = .ok (.iload_n 1, 1) := by decide +kernel
theorem dX2_joins_186 : decode cX2_joins 186 = .ok (.iload_n 2, 1) := by decide +kernel
theorem dX2_joins_187 : decode cX2_joins 187 = .ok (.irem, 1) := by decide +kernel
theorem dX2_joins_188 : decode cX2_joins 188 = .ok (.ireturn, 1) := by decide +kernel
theorem dX2_joins_189 : decode cX2_joins 189 = .ok (.iconst 0, 1) := by decide +kernel
theorem dX2_joins_190 : decode cX2_joins 190 = .ok (.ireturn, 1) := by decide +kernel
theorem dX3_init_0 : decode cX3_init 0 = .ok (.aload_n 0, 1) := by decide +kernel
theorem dX3_init_1 : decode cX3_init 1 = .ok (.invokespecial 3, 3) := by decide +kernel
theorem dX3_init_4 : decode cX3_init 4 = .ok (.aload_n 0, 1) := by decide +kernel
theorem dX3_init_5 : decode cX3_init 5 = .ok (.bipush 12, 2) := by decide +kernel
theorem dX3_init_7 : decode cX3_init 7 = .ok (.newarray .int, 2) := by decide +kernel
theorem dX3_init_9 : decode cX3_init 9 = .ok (.putfield 9, 3) := by decide +kernel
theorem dX3_init_12 : decode cX3_init 12 = .ok (.aload_n 0, 1) := by decide +kernel
theorem dX3_init_13 : decode cX3_init 13 = .ok (.bipush 12, 2) := by decide +kernel
theorem dX3_init_15 : decode cX3_init 15 = .ok (.newarray .int, 2) := by decide +kernel
theorem dX3_init_17 : decode cX3_init 17 = .ok (.putfield 15, 3) := by decide +kernel
theorem dX3_init_20 : decode cX3_init 20 = .ok (.aload_n 0, 1) := by decide +kernel
theorem dX3_init_21 : decode cX3_init 21 = .ok (.bipush 12, 2) := by decide +kernel
theorem dX3_init_23 : decode cX3_init 23 = .ok (.newarray .int, 2) := by decide +kernel
theorem dX3_init_25 : decode cX3_init 25 = .ok (.putfield 18, 3) := by decide +kernel
theorem dX3_init_28 : decode cX3_init 28 = .ok (.return_, 1) := by decide +kernel
theorem dX3_add_0 : decode cX3_add 0 = .ok (.aload_n 0, 1) := by decide +kernel
theorem dX3_add_1 : decode cX3_add 1 = .ok (.getfield 21, 3) := by decide +kernel
theorem dX3_add_4 : decode cX3_add 4 = .ok (.istore 4, 2) := by decide +kernel
theorem dX3_add_6 : decode cX3_add 6 = .ok (.iload 4, 2) := by decide +kernel
theorem dX3_add_8 : decode cX3_add 8 = .ok (.bipush 12, 2) := by decide +kernel
theorem dX3_add_10 : decode cX3_add 10 = .ok (.if_icmp .ge 113, 3) := by decide +kernel
theorem dX3_add_13 : decode cX3_add 13 = .ok (.iload 4, 2) := by decide +kernel
theorem dX3_add_15 : decode cX3_add 15 = .ok (.istore 5, 2) := by decide +kernel
theorem dX3_add_17 : decode cX3_add 17 = .ok (.iload 5, 2) := by decide +kernel
theorem dX3_add_19 : decode cX3_add 19 = .ok (.ifCond .le 70, 3) := by decide +kernel
theorem dX3_add_22 : decode cX3_add 22 = .ok (.aload_n 0, 1) := by decide +kernel
theorem dX3_add_23 : decode cX3_add 23 = .ok (.getfield 9, 3) := by decide +kernel
theorem dX3_add_26 : decode cX3_add 26 = .ok (.iload 5, 2) := by decide +kernel
theorem dX3_add_28 : decode cX3_add 28 = .ok (.iconst 1, 1) := by decide +kernel
theorem dX3_add_29 : decode cX3_add 29 = .ok (.isub, 1) := by decide +kernel
theorem dX3_add_30 : decode cX3_add 30 = .ok (.iaload, 1) := by decide +kernel
theorem dX3_add_31 : decode cX3_add 31 = .ok (.iload_n 1, 1) := by decide +kernel
theorem dX3_add_32 : decode cX3_add 32 = .ok (.if_icmp .le 57, 3) := by decide +kernel
theorem dX3_add_35 : decode cX3_add 35 = .ok (.aload_n 0, 1) := by decide +kernel
theorem dX3_add_36 : decode cX3_add 36 = .ok (.getfield 9, 3) := by decide +kernel
theorem dX3_add_39 : decode cX3_add 39 = .ok (.iload 5, 2) := by decide +kernel
theorem dX3_add_41 : decode cX3_add 41 = .ok (.aload_n 0, 1) := by decide +kernel
theorem dX3_add_42 : decode cX3_add 42 = .ok (.getfield 9, 3) := by decide +kernel
theorem dX3_add_45 : decode cX3_add 45 = .ok (.iload 5, 2) := by decide +kernel
theorem dX3_add_47 : decode cX3_add 47 = .ok (.iconst 1, 1) := by decide +kernel
theorem dX3_add_48 : decode cX3_add 48 = .ok (.isub, 1) := by decide +kernel
theorem dX3_add_49 : decode cX3_add 49 = .ok (.iaload, 1) := by decide +kernel
theorem dX3_add_50 : decode cX3_add 50 = .ok (.iastore, 1) := by decide +kernel
theorem dX3_add_51 : decode cX3_add 51 = .ok (.aload_n 0, 1) := by decide +kernel
theorem dX3_add_52 : decode cX3_add 52 = .ok (.getfield 15, 3) := by decide +kernel
theorem dX3_add_55 : decode cX3_add 55 = .ok (.iload 5, 2) := by decide +kernel
theorem dX3_add_57 : decode cX3_add 57 = .ok (.aload_n 0, 1) := by decide +kernel
theorem dX3_add_58 : decode cX3_add 58 = .ok (.getfield 15, 3) := by decide +kernel
theorem dX3_add_61 : decode cX3_add 61 = .ok (.iload 5, 2) := by decide +kernel
theorem dX3_add_63 : decode cX3_add 63 = .ok (.iconst 1, 1) := by decide +kernel
theorem dX3_add_64 : decode cX3_add 64 = .ok (.isub, 1) := by decide +kernel
theorem dX3_add_65 : decode cX3_add 65 = .ok (.iaload, 1) := by decide +kernel
theorem dX3_add_66 : decode cX3_add 66 = .ok (.iastore, 1) := by decide +kernel
theorem dX3_add_67 : decode cX3_add 67 = .ok (.aload_n 0, 1) := by decide +kernel
theorem dX3_add_68 : decode cX3_add 68 = .ok (.getfield 18, 3) := by decide +kernel
theorem dX3_add_71 : decode cX3_add 71 = .ok (.iload 5, 2) := by decide +kernel
theorem dX3_add_73 : decode cX3_add 73 = .ok (.aload_n 0, 1) := by decide +kernel
theorem dX3_add_74 : decode cX3_add 74 = .ok (.getfield 18, 3) := by decide +kernel
theorem dX3_add_77 : decode cX3_add 77 = .ok (.iload 5, 2) := by decide +kernel
theorem dX3_add_79 : decode cX3_add 79 = .ok (.iconst 1, 1) := by decide +kernel
theorem dX3_add_80 : decode cX3_add 80 = .ok (.isub, 1) := by decide +kernel
theorem dX3_add_81 : decode cX3_add 81 = .ok (.iaload, 1) := by decide +kernel
theorem dX3_add_82 : decode cX3_add 82 = .ok (.iastore, 1) := by decide +kernel
theorem dX3_add_83 : decode cX3_add 83 = .ok (.iinc 5 (-1), 3) := by decide +kernel
theorem dX3_add_86 : decode cX3_add 86 = .ok (.goto (-69), 3) := by decide +kernel
theorem dX3_add_89 : decode cX3_add 89 = .ok (.aload_n 0, 1) := by decide +kernel
theorem dX3_add_90 : decode cX3_add 90 = .ok (.getfield 9, 3) := by decide +kernel
theorem dX3_add_93 : decode cX3_add 93 = .ok (.iload 5, 2) := by decide +kernel
theorem dX3_add_95 : decode cX3_add 95 = .ok (.iload_n 1, 1) := by decide +kernel
theorem dX3_add_96 : decode cX3_add 96 = .ok (.iastore, 1) := by decide +kernel
theorem dX3_add_97 : decode cX3_add 97 = .ok (.aload_n 0, 1) := by decide +kernel
theorem dX3_add_98 : decode cX3_add 98 = .ok (.getfield 15, 3) := by decide +kernel
theorem dX3_add_101 : decode cX3_add 101 = .ok (.iload 5, 2) := by decide +kernel
theorem dX3_add_103 : decode cX3_add 103 = .ok (.iload_n 2, 1) := by decide +kernel
theorem dX3_add_104 : decode cX3_add 104 = .ok (.iastore, 1) := by decide +kernel
theorem dX3_add_105 : decode cX3_add 105 = .ok (.aload_n 0, 1) := by decide +kernel
theorem dX3_add_106 : decode cX3_add 106 = .ok (.getfield 18, 3) := by decide +kernel
theorem dX3_add_109 : decode cX3_add 109 = .ok (.iload 5, 2) := by decide +kernel
theorem dX3_add_111 : decode cX3_add 111 = .ok (.iload_n 3, 1) := by decide +kernel
theorem dX3_add_112 : decode cX3_add 112 = .ok (.iastore, 1) := by decide +kernel
theorem dX3_add_113 : decode cX3_add 113 = .ok (.aload_n 0, 1) := by decide +kernel
theorem dX3_add_114 : decode cX3_add 114 = .ok (.dup, 1) := by decide +kernel
theorem dX3_add_115 : decode cX3_add 115 = .ok (.getfield 21, 3) := by decide +kernel
theorem dX3_add_118 : decode cX3_add 118 = .ok (.iconst 1, 1) := by decide +kernel
theorem dX3_add_119 : decode cX3_add 119 = .ok (.iadd, 1) := by decide +kernel
theorem dX3_add_120 : decode cX3_add 120 = .ok (.putfield 21, 3) := by decide +kernel
theorem dX3_add_123 : decode cX3_add 123 = .ok (.iload 4, 2) := by decide +kernel
theorem dX3_add_125 : decode cX3_add 125 = .ok (.ireturn, 1) := by decide +kernel
theorem dX3_copyFrom_0 : decode cX3_copyFrom 0 = .ok (.aload_n 1, 1) := by decide +kernel
theorem dX3_copyFrom_1 : decode cX3_copyFrom 1 = .ok (.getfield 9, 3) := by decide +kernel
theorem dX3_copyFrom_4 : decode cX3_copyFrom 4 = .ok (.iconst 0, 1) := by decide +kernel
theorem dX3_copyFrom_5 : decode cX3_copyFrom 5 = .ok (.aload_n 0, 1) := by decide +kernel
theorem dX3_copyFrom_6 : decode cX3_copyFrom 6 = .ok (.getfield 9, 3) := by decide +kernel
theorem dX3_copyFrom_9 : decode cX3_copyFrom 9 = .ok (.iconst 0, 1) := by decide +kernel
theorem dX3_copyFrom_10 : decode cX3_copyFrom 10 = .ok (.bipush 12, 2) := by decide +kernel
theorem dX3_copyFrom_12 : decode cX3_copyFrom 12 = .ok (.invokestatic 25, 3) := by decide +kernel
theorem dX3_copyFrom_15 : decode cX3_copyFrom 15 = .ok (.aload_n 1, 1) := by decide +kernel
theorem dX3_copyFrom_16 : decode cX3_copyFrom 16 = .ok (.getfield 15, 3) := by decide +kernel
theorem dX3_copyFrom_19 : decode cX3_copyFrom 19 = .ok (.iconst 0, 1) := by decide +kernel
theorem dX3_copyFrom_20 : decode cX3_copyFrom 20 = .ok (.aload_n 0, 1) := by decide +kernel
theorem dX3_copyFrom_21 : decode cX3_copyFrom 21 = .ok (.getfield 15, 3) := by decide +kernel
theorem dX3_copyFrom_24 : decode cX3_copyFrom 24 = .ok (.iconst 0, 1) := by decide +kernel
theorem dX3_copyFrom_25 : decode cX3_copyFrom 25 = .ok (.bipush 12, 2) := by decide +kernel
theorem dX3_copyFrom_27 : decode cX3_copyFrom 27 = .ok (.invokestatic 25, 3) := by decide +kernel
theorem dX3_copyFrom_30 : decode cX3_copyFrom 30 = .ok (.aload_n 1, 1) := by decide +kernel
theorem dX3_copyFrom_31 : decode cX3_copyFrom 31 = .ok (.getfield 18, 3) := by decide +kernel
theorem dX3_copyFrom_34 : decode cX3_copyFrom 34 = .ok (.iconst 0, 1) := by decide +kernel
theorem dX3_copyFrom_35 : decode cX3_copyFrom 35 = .ok (.aload_n 0, 1) := by decide +kernel
theorem dX3_copyFrom_36 : decode cX3_copyFrom 36 = .ok (.getfield 18, 3) := by decide +kernel
theorem dX3_copyFrom_39 : decode cX3_copyFrom 39 = .ok (.iconst 0, 1) := by decide +kernel
theorem dX3_copyFrom_40 : decode cX3_copyFrom 40 = .ok (.bipush 12, 2) := by decide +kernel
theorem dX3_copyFrom_42 : decode cX3_copyFrom 42 = .ok (.invokestatic 25, 3) := by decide +kernel
theorem dX3_copyFrom_45 : decode cX3_copyFrom 45 = .ok (.aload_n 0, 1) := by decide +kernel
theorem dX3_copyFrom_46 : decode cX3_copyFrom 46 = .ok (.aload_n 1, 1) := by decide +kernel
theorem dX3_copyFrom_47 : decode cX3_copyFrom 47 = .ok (.getfield 21, 3) := by decide +kernel
theorem dX3_copyFrom_50 : decode cX3_copyFrom 50 = .ok (.putfield 21, 3) := by decide +kernel
theorem dX3_copyFrom_53 : decode cX3_copyFrom 53 = .ok (.return_, 1) := by decide +kernel
theorem dX4_init_0 : decode cX4_init 0 = .ok (.aload_n 0, 1) := by decide +kernel
theorem dX4_init_1 : decode cX4_init 1 = .ok (.invokespecial 3, 3) := by decide +kernel
theorem dX4_init_4 : decode cX4_init 4 = .ok (.aload_n 0, 1) := by decide +kernel
theorem dX4_init_5 : decode cX4_init 5 = .ok (.bipush 50, 2) := by decide +kernel
theorem dX4_init_7 : decode cX4_init 7 = .ok (.newarray .int, 2) := by decide +kernel
theorem dX4_init_9 : decode cX4_init 9 = .ok (.putfield 9, 3) := by decide +kernel
theorem dX4_init_12 : decode cX4_init 12 = .ok (.aload_n 0, 1) := by decide +kernel
theorem dX4_init_13 : decode cX4_init 13 = .ok (.new 15, 3) := by decide +kernel
theorem dX4_init_16 : decode cX4_init 16 = .ok (.dup, 1) := by decide +kernel
theorem dX4_init_17 : decode cX4_init 17 = .ok (.invokespecial 17, 3) := by decide +kernel
theorem dX4_init_20 : decode cX4_init 20 = .ok (.putfield 18, 3) := by decide +kernel
theorem dX4_init_23 : decode cX4_init 23 = .ok (.return_, 1) := by decide +kernel
theorem dX4_readAll_0 : decode cX4_readAll 0 = .ok (.aload_n 0, 1) := by decide +kernel
theorem dX4_readAll_1 : decode cX4_readAll 1 = .ok (.aload_n 1, 1) := by decide +kernel
theorem dX4_readAll_2 : decode cX4_readAll 2 = .ok (.putfield 18, 3) := by decide +kernel
theorem dX4_readAll_5 : decode cX4_readAll 5 = .ok (.aload_n 0, 1) := by decide +kernel
theorem dX4_readAll_6 : decode cX4_readAll 6 = .ok (.iload_n 2, 1) := by decide +kernel
theorem dX4_readAll_7 : decode cX4_readAll 7 = .ok (.putfield 22, 3) := by decide +kernel
theorem dX4_readAll_10 : decode cX4_readAll 10 = .ok (.aload_n 0, 1) := by decide +kernel
theorem dX4_readAll_11 : decode cX4_readAll 11 = .ok (.iconst 0, 1) := by decide +kernel
theorem dX4_readAll_12 : decode cX4_readAll 12 = .ok (.putfield 26, 3) := by decide +kernel
theorem dX4_readAll_15 : decode cX4_readAll 15 = .ok (.aload_n 0, 1) := by decide +kernel
theorem dX4_readAll_16 : decode cX4_readAll 16 = .ok (.iconst 0, 1) := by decide +kernel
theorem dX4_readAll_17 : decode cX4_readAll 17 = .ok (.putfield 29, 3) := by decide +kernel
theorem dX4_readAll_20 : decode cX4_readAll 20 = .ok (.aload_n 0, 1) := by decide +kernel
theorem dX4_readAll_21 : decode cX4_readAll 21 = .ok (.iconst 0, 1) := by decide +kernel
theorem dX4_readAll_22 : decode cX4_readAll 22 = .ok (.putfield 32, 3) := by decide +kernel
theorem dX4_readAll_25 : decode cX4_readAll 25 = .ok (.aload_n 0, 1) := by decide +kernel
theorem dX4_readAll_26 : decode cX4_readAll 26 = .ok (.iconst 0, 1) := by decide +kernel
theorem dX4_readAll_27 : decode cX4_readAll 27 = .ok (.iconst 0, 1) := by decide +kernel
theorem dX4_readAll_28 : decode cX4_readAll 28 = .ok (.invokevirtual 36, 3) := by decide +kernel
theorem dX4_readAll_31 : decode cX4_readAll 31 = .ok (.aload_n 0, 1) := by decide +kernel
theorem dX4_readAll_32 : decode cX4_readAll 32 = .ok (.getfield 32, 3) := by decide +kernel
theorem dX4_readAll_35 : decode cX4_readAll 35 = .ok (.ifCond .ne 17, 3) := by decide +kernel
theorem dX4_readAll_38 : decode cX4_readAll 38 = .ok (.aload_n 0, 1) := by decide +kernel
theorem dX4_readAll_39 : decode cX4_readAll 39 = .ok (.getfield 29, 3) := by decide +kernel
theorem dX4_readAll_42 : decode cX4_readAll 42 = .ok (.aload_n 0, 1) := by decide +kernel
theorem dX4_readAll_43 : decode cX4_readAll 43 = .ok (.getfield 18, 3) := by decide +kernel
theorem dX4_readAll_46 : decode cX4_readAll 46 = .ok (.getfield 40, 3) := by decide +kernel
theorem dX4_readAll_49 : decode cX4_readAll 49 = .ok (.if_icmp .ge 10, 3) := by decide +kernel
theorem dX4_readAll_52 : decode cX4_readAll 52 = .ok (.aload_n 0, 1) := by decide +kernel
theorem dX4_readAll_53 : decode cX4_readAll 53 = .ok (.getfield 29, 3) := by decide +kernel
theorem dX4_readAll_56 : decode cX4_readAll 56 = .ok (.goto 4, 3) := by decide +kernel
theorem dX4_readAll_59 : decode cX4_readAll 59 = .ok (.iconst (-1), 1) := by decide +kernel
theorem dX4_readAll_60 : decode cX4_readAll 60 = .ok (.ireturn, 1) := by decide +kernel
theorem dX4_readLevel_0 : decode cX4_readLevel 0 = .ok (.iload_n 1, 1) := by decide +kernel
theorem dX4_readLevel_1 : decode cX4_readLevel 1 = .ok (.iconst 4, 1) := by decide +kernel
theorem dX4_readLevel_2 : decode cX4_readLevel 2 = .ok (.if_icmp .le 9, 3) := by decide +kernel
theorem dX4_readLevel_5 : decode cX4_readLevel 5 = .ok (.aload_n 0, 1) := by decide +kernel
theorem dX4_readLevel_6 : decode cX4_readLevel 6 = .ok (.iload_n 2, 1) := by decide +kernel
theorem dX4_readLevel_7 : decode cX4_readLevel 7 = .ok (.invokevirtual 41, 3) := by decide +kernel
theorem dX4_readLevel_10 : decode cX4_readLevel 10 = .ok (.return_, 1) := by decide +kernel
theorem dX4_readLevel_11 : decode cX4_readLevel 11 = .ok (.aload_n 0, 1) := by decide +kernel
theorem dX4_readLevel_12 : decode cX4_readLevel 12 = .ok (.iload_n 1, 1) := by decide +kernel
theorem dX4_readLevel_13 : decode cX4_readLevel 13 = .ok (.iconst 1, 1) := by decide +kernel
theorem dX4_readLevel_14 : decode cX4_readLevel 14 = .ok (.iadd, 1) := by decide +kernel
theorem dX4_readLevel_15 : decode cX4_readLevel 15 = .ok (.iload_n 2, 1) := by decide +kernel
theorem dX4_readLevel_16 : decode cX4_readLevel 16 = .ok (.invokevirtual 36, 3) := by decide +kernel
theorem dX4_readLevel_19 : decode cX4_readLevel 19 = .ok (.iconst 0, 1) := by decide +kernel
theorem dX4_readLevel_20 : decode cX4_readLevel 20 = .ok (.istore_n 3, 1) := by decide +kernel
theorem dX4_readLevel_21 : decode cX4_readLevel 21 = .ok (.iload_n 3, 1) := by decide +kernel
theorem dX4_readLevel_22 : decode cX4_readLevel 22 = .ok (.bipush 50, 2) := by decide +kernel
theorem dX4_readLevel_24 : decode cX4_readLevel 24 = .ok (.if_icmp .ge 78, 3) := by decide +kernel
theorem dX4_readLevel_27 : decode cX4_readLevel 27 = .ok (.aload_n 0, 1) := by decide +kernel
theorem dX4_readLevel_28 : decode cX4_readLevel 28 = .ok (.getfield 32, 3) := by decide +kernel
theorem dX4_readLevel_31 : decode cX4_readLevel 31 = .ok (.ifCond .ne 71, 3) := by decide +kernel
theorem dX4_readLevel_34 : decode cX4_readLevel 34 = .ok (.aload_n 0, 1) := by decide +kernel
theorem dX4_readLevel_35 : decode cX4_readLevel 35 = .ok (.getfield 18, 3) := by decide +kernel
theorem dX4_readLevel_38 : decode cX4_readLevel 38 = .ok (.aload_n 0, 1) := by decide +kernel
theorem dX4_readLevel_39 : decode cX4_readLevel 39 = .ok (.getfield 29, 3) := by decide +kernel
theorem dX4_readLevel_42 : decode cX4_readLevel 42 = .ok (.invokevirtual 45, 3) := by decide +kernel
theorem dX4_readLevel_45 : decode cX4_readLevel 45 = .ok (.invokestatic 49, 3) := by decide +kernel
theorem dX4_readLevel_48 : decode cX4_readLevel 48 = .ok (.iload_n 1, 1) := by decide +kernel
theorem dX4_readLevel_49 : decode cX4_readLevel 49 = .ok (.if_icmp .ne 53, 3) := by decide +kernel
theorem dX4_readLevel_52 : decode cX4_readLevel 52 = .ok (.aload_n 0, 1) := by decide +kernel
theorem dX4_readLevel_53 : decode cX4_readLevel 53 = .ok (.getfield 18, 3) := by decide +kernel
theorem dX4_readLevel_56 : decode cX4_readLevel 56 = .ok (.aload_n 0, 1) := by decide +kernel
theorem dX4_readLevel_57 : decode cX4_readLevel 57 = .ok (.getfield 29, 3) := by decide +kernel
theorem dX4_readLevel_60 : decode cX4_readLevel 60 = .ok (.invokevirtual 45, 3) := by decide +kernel
theorem dX4_readLevel_63 : decode cX4_readLevel 63 = .ok (.istore 4, 2) := by decide +kernel
theorem dX4_readLevel_65 : decode cX4_readLevel 65 = .ok (.aload_n 0, 1) := by decide +kernel
theorem dX4_readLevel_66 : decode cX4_readLevel 66 = .ok (.dup, 1) := by decide +kernel
theorem dX4_readLevel_67 : decode cX4_readLevel 67 = .ok (.getfield 29, 3) := by decide +kernel
theorem dX4_readLevel_70 : decode cX4_readLevel 70 = .ok (.iconst 1, 1) := by decide +kernel
theorem dX4_readLevel_71 : decode cX4_readLevel 71 = .ok (.iadd, 1) := by decide +kernel
theorem dX4_readLevel_72 : decode cX4_readLevel 72 = .ok (.putfield 29, 3) := by decide +kernel
theorem dX4_readLevel_75 : decode cX4_readLevel 75 = .ok (.aload_n 0, 1) := by decide +kernel
theorem dX4_readLevel_76 : decode cX4_readLevel 76 = .ok (.iload_n 1, 1) := by decide +kernel
theorem dX4_readLevel_77 : decode cX4_readLevel 77 = .ok (.iconst 1, 1) := by decide +kernel
theorem dX4_readLevel_78 : decode cX4_readLevel 78 = .ok (.iadd, 1) := by decide +kernel
theorem dX4_readLevel_79 : decode cX4_readLevel 79 = .ok (.iload_n 2, 1) := by decide +kernel
theorem dX4_readLevel_80 : decode cX4_readLevel 80 = .ok (.invokevirtual 36, 3) := by decide +kernel
theorem dX4_readLevel_83 : decode cX4_readLevel 83 = .ok (.aload_n 0, 1) := by decide +kernel
theorem dX4_readLevel_84 : decode cX4_readLevel 84 = .ok (.iload 4, 2) := by decide +kernel
theorem dX4_readLevel_86 : decode cX4_readLevel 86 = .ok (.ineg, 1) := by decide +kernel
theorem dX4_readLevel_87 : decode cX4_readLevel 87 = .ok (.invokevirtual 52, 3) := by decide +kernel
theorem dX4_readLevel_90 : decode cX4_readLevel 90 = .ok (.iload_n 1, 1) := by decide +kernel
theorem dX4_readLevel_91 : decode cX4_readLevel 91 = .ok (.iconst 2, 1) := by decide +kernel
theorem dX4_readLevel_92 : decode cX4_readLevel 92 = .ok (.if_icmp .ne 4, 3) := by decide +kernel
theorem dX4_readLevel_95 : decode cX4_readLevel 95 = .ok (.return_, 1) := by decide +kernel
theorem dX4_readLevel_96 : decode cX4_readLevel 96 = .ok (.iinc 3 1, 3) := by decide +kernel
theorem dX4_readLevel_99 : decode cX4_readLevel 99 = .ok (.goto (-78), 3) := by decide +kernel
theorem dX4_readLevel_102 : decode cX4_readLevel 102 = .ok (.return_, 1) := by decide +kernel
theorem dX4_levelOf_0 : decode cX4_levelOf 0 = .ok (.iload_n 0, 1) := by decide +kernel
theorem dX4_levelOf_1 : decode cX4_levelOf 1 = .ok (.lookupswitch 101 #[(37, 99), (38, 93), (42, 99), (43, 97), (45, 97), (47, 99), (60, 95), (61, 95), (62, 95), (124, 91)], 91) := by decide +kernel
theorem dX4_levelOf_92 : decode cX4_levelOf 92 = .ok (.iconst 0, 1) := by decide +kernel
theorem dX4_levelOf_93 : decode cX4_levelOf 93 = .ok (.ireturn, 1) := by decide +kernel
theorem dX4_levelOf_94 : decode cX4_levelOf 94 = .ok (.iconst 1, 1) := by decide +kernel
theorem dX4_levelOf_95 : decode cX4_levelOf 95 = .ok (.ireturn, 1) := by decide +kernel
theorem dX4_levelOf_96 : decode cX4_levelOf 96 = .ok (.iconst 2, 1) := by decide +kernel
theorem dX4_levelOf_97 : decode cX4_levelOf 97 = .ok (.ireturn, 1) := by decide +kernel
theorem dX4_levelOf_98 : decode cX4_levelOf 98 = .ok (.iconst 3, 1) := by decide +kernel
theorem dX4_levelOf_99 : decode cX4_levelOf 99 = .ok (.ireturn, 1) := by decide +kernel
theorem dX4_levelOf_100 : decode cX4_levelOf 100 = .ok (.iconst 4, 1) := by decide +kernel
theorem dX4_levelOf_101 : decode cX4_levelOf 101 = .ok (.ireturn, 1) := by decide +kernel
theorem dX4_levelOf_102 : decode cX4_levelOf 102 = .ok (.iconst (-1), 1) := by decide +kernel
theorem dX4_levelOf_103 : decode cX4_levelOf 103 = .ok (.ireturn, 1) := by decide +kernel
theorem dX4_readUnit_0 : decode cX4_readUnit 0 = .ok (.aload_n 0, 1) := by decide +kernel
theorem dX4_readUnit_1 : decode cX4_readUnit 1 = .ok (.getfield 18, 3) := by decide +kernel
theorem dX4_readUnit_4 : decode cX4_readUnit 4 = .ok (.aload_n 0, 1) := by decide +kernel
theorem dX4_readUnit_5 : decode cX4_readUnit 5 = .ok (.getfield 29, 3) := by decide +kernel
theorem dX4_readUnit_8 : decode cX4_readUnit 8 = .ok (.invokevirtual 45, 3) := by decide +kernel
theorem dX4_readUnit_11 : decode cX4_readUnit 11 = .ok (.istore_n 2, 1) := by decide +kernel
theorem dX4_readUnit_12 : decode cX4_readUnit 12 = .ok (.iload_n 2, 1) := by decide +kernel
theorem dX4_readUnit_13 : decode cX4_readUnit 13 = .ok (.invokestatic 55, 3) := by decide +kernel
theorem dX4_readUnit_16 : decode cX4_readUnit 16 = .ok (.ifCond .eq 10, 3) := by decide +kernel
theorem dX4_readUnit_19 : decode cX4_readUnit 19 = .ok (.aload_n 0, 1) := by decide +kernel
theorem dX4_readUnit_20 : decode cX4_readUnit 20 = .ok (.invokevirtual 59, 3) := by decide +kernel
theorem dX4_readUnit_23 : decode cX4_readUnit 23 = .ok (.goto 111, 3) := by decide +kernel
theorem dX4_readUnit_26 : decode cX4_readUnit 26 = .ok (.aload_n 0, 1) := by decide +kernel
theorem dX4_readUnit_27 : decode cX4_readUnit 27 = .ok (.iload_n 2, 1) := by decide +kernel
theorem dX4_readUnit_28 : decode cX4_readUnit 28 = .ok (.invokevirtual 62, 3) := by decide +kernel
theorem dX4_readUnit_31 : decode cX4_readUnit 31 = .ok (.ifCond .ge 25, 3) := by decide +kernel
theorem dX4_readUnit_34 : decode cX4_readUnit 34 = .ok (.aload_n 0, 1) := by decide +kernel
theorem dX4_readUnit_35 : decode cX4_readUnit 35 = .ok (.dup, 1) := by decide +kernel
theorem dX4_readUnit_36 : decode cX4_readUnit 36 = .ok (.getfield 29, 3) := by decide +kernel
theorem dX4_readUnit_39 : decode cX4_readUnit 39 = .ok (.iconst 1, 1) := by decide +kernel
theorem dX4_readUnit_40 : decode cX4_readUnit 40 = .ok (.iadd, 1) := by decide +kernel
theorem dX4_readUnit_41 : decode cX4_readUnit 41 = .ok (.putfield 29, 3) := by decide +kernel
theorem dX4_readUnit_44 : decode cX4_readUnit 44 = .ok (.aload_n 0, 1) := by decide +kernel
theorem dX4_readUnit_45 : decode cX4_readUnit 45 = .ok (.aload_n 0, 1) := by decide +kernel
theorem dX4_readUnit_46 : decode cX4_readUnit 46 = .ok (.iload_n 2, 1) := by decide +kernel
theorem dX4_readUnit_47 : decode cX4_readUnit 47 = .ok (.invokevirtual 62, 3) := by decide +kernel
theorem dX4_readUnit_50 : decode cX4_readUnit 50 = .ok (.invokevirtual 52, 3) := by decide +kernel
theorem dX4_readUnit_53 : decode cX4_readUnit 53 = .ok (.goto 81, 3) := by decide +kernel
theorem dX4_readUnit_56 : decode cX4_readUnit 56 = .ok (.iload_n 2, 1) := by decide +kernel
theorem dX4_readUnit_57 : decode cX4_readUnit 57 = .ok (.bipush 33, 2) := by decide +kernel
theorem dX4_readUnit_59 : decode cX4_readUnit 59 = .ok (.if_icmp .ne 34, 3) := by decide +kernel
theorem dX4_readUnit_62 : decode cX4_readUnit 62 = .ok (.iload_n 1, 1) := by decide +kernel
theorem dX4_readUnit_63 : decode cX4_readUnit 63 = .ok (.iconst 5, 1) := by decide +kernel
theorem dX4_readUnit_64 : decode cX4_readUnit 64 = .ok (.if_icmp .ge 29, 3) := by decide +kernel
theorem dX4_readUnit_67 : decode cX4_readUnit 67 = .ok (.aload_n 0, 1) := by decide +kernel
theorem dX4_readUnit_68 : decode cX4_readUnit 68 = .ok (.dup, 1) := by decide +kernel
theorem dX4_readUnit_69 : decode cX4_readUnit 69 = .ok (.getfield 29, 3) := by decide +kernel
theorem dX4_readUnit_72 : decode cX4_readUnit 72 = .ok (.iconst 1, 1) := by decide +kernel
theorem dX4_readUnit_73 : decode cX4_readUnit 73 = .ok (.iadd, 1) := by decide +kernel
theorem dX4_readUnit_74 : decode cX4_readUnit 74 = .ok (.putfield 29, 3) := by decide +kernel
theorem dX4_readUnit_77 : decode cX4_readUnit 77 = .ok (.aload_n 0, 1) := by decide +kernel
theorem dX4_readUnit_78 : decode cX4_readUnit 78 = .ok (.iload_n 1, 1) := by decide +kernel
theorem dX4_readUnit_79 : decode cX4_readUnit 79 = .ok (.iconst 1, 1) := by decide +kernel
theorem dX4_readUnit_80 : decode cX4_readUnit 80 = .ok (.iadd, 1) := by decide +kernel
theorem dX4_readUnit_81 : decode cX4_readUnit 81 = .ok (.invokevirtual 41, 3) := by decide +kernel
theorem dX4_readUnit_84 : decode cX4_readUnit 84 = .ok (.aload_n 0, 1) := by decide +kernel
theorem dX4_readUnit_85 : decode cX4_readUnit 85 = .ok (.iload_n 2, 1) := by decide +kernel
theorem dX4_readUnit_86 : decode cX4_readUnit 86 = .ok (.ineg, 1) := by decide +kernel
theorem dX4_readUnit_87 : decode cX4_readUnit 87 = .ok (.invokevirtual 52, 3) := by decide +kernel
theorem dX4_readUnit_90 : decode cX4_readUnit 90 = .ok (.goto 44, 3) := by decide +kernel
theorem dX4_readUnit_93 : decode cX4_readUnit 93 = .ok (.iload_n 2, 1) := by decide +kernel
theorem dX4_readUnit_94 : decode cX4_readUnit 94 = .ok (.bipush 40, 2) := by decide +kernel
theorem dX4_readUnit_96 : decode cX4_readUnit 96 = .ok (.if_icmp .ne 33, 3) := by decide +kernel
theorem dX4_readUnit_99 : decode cX4_readUnit 99 = .ok (.iload_n 1, 1) := by decide +kernel
theorem dX4_readUnit_100 : decode cX4_readUnit 100 = .ok (.iconst 5, 1) := by decide +kernel
theorem dX4_readUnit_101 : decode cX4_readUnit 101 = .ok (.if_icmp .ge 28, 3) := by decide +kernel
theorem dX4_readUnit_104 : decode cX4_readUnit 104 = .ok (.aload_n 0, 1) := by decide +kernel
theorem dX4_readUnit_105 : decode cX4_readUnit 105 = .ok (.dup, 1) := by decide +kernel
theorem dX4_readUnit_106 : decode cX4_readUnit 106 = .ok (.getfield 29, 3) := by decide +kernel
theorem dX4_readUnit_109 : decode cX4_readUnit 109 = .ok (.iconst 1, 1) := by decide +kernel
theorem dX4_readUnit_110 : decode cX4_readUnit 110 = .ok (.iadd, 1) := by decide +kernel
theorem dX4_readUnit_111 : decode cX4_readUnit 111 = .ok (.putfield 29, 3) := by decide +kernel
theorem dX4_readUnit_114 : decode cX4_readUnit 114 = .ok (.aload_n 0, 1) := by decide +kernel
theorem dX4_readUnit_115 : decode cX4_readUnit 115 = .ok (.iconst 0, 1) := by decide +kernel
theorem dX4_readUnit_116 : decode cX4_readUnit 116 = .ok (.iload_n 1, 1) := by decide +kernel
theorem dX4_readUnit_117 : decode cX4_readUnit 117 = .ok (.iconst 1, 1) := by decide +kernel
theorem dX4_readUnit_118 : decode cX4_readUnit 118 = .ok (.iadd, 1) := by decide +kernel
theorem dX4_readUnit_119 : decode cX4_readUnit 119 = .ok (.invokevirtual 36, 3) := by decide +kernel
theorem dX4_readUnit_122 : decode cX4_readUnit 122 = .ok (.aload_n 0, 1) := by decide +kernel
theorem dX4_readUnit_123 : decode cX4_readUnit 123 = .ok (.invokevirtual 65, 3) := by decide +kernel
theorem dX4_readUnit_126 : decode cX4_readUnit 126 = .ok (.goto 8, 3) := by decide +kernel
theorem dX4_readUnit_129 : decode cX4_readUnit 129 = .ok (.aload_n 0, 1) := by decide +kernel
theorem dX4_readUnit_130 : decode cX4_readUnit 130 = .ok (.iconst 1, 1) := by decide +kernel
theorem dX4_readUnit_131 : decode cX4_readUnit 131 = .ok (.putfield 32, 3) := by decide +kernel
theorem dX4_readUnit_134 : decode cX4_readUnit 134 = .ok (.return_, 1) := by decide +kernel
theorem dX4_readEnd_0 : decode cX4_readEnd 0 = .ok (.aload_n 0, 1) := by decide +kernel
theorem dX4_readEnd_1 : decode cX4_readEnd 1 = .ok (.getfield 32, 3) := by decide +kernel
theorem dX4_readEnd_4 : decode cX4_readEnd 4 = .ok (.ifCond .ne 19, 3) := by decide +kernel
theorem dX4_readEnd_7 : decode cX4_readEnd 7 = .ok (.aload_n 0, 1) := by decide +kernel
theorem dX4_readEnd_8 : decode cX4_readEnd 8 = .ok (.getfield 18, 3) := by decide +kernel
theorem dX4_readEnd_11 : decode cX4_readEnd 11 = .ok (.aload_n 0, 1) := by decide +kernel
theorem dX4_readEnd_12 : decode cX4_readEnd 12 = .ok (.getfield 29, 3) := by decide +kernel
theorem dX4_readEnd_15 : decode cX4_readEnd 15 = .ok (.invokevirtual 45, 3) := by decide +kernel
theorem dX4_readEnd_18 : decode cX4_readEnd 18 = .ok (.bipush 41, 2) := by decide +kernel
theorem dX4_readEnd_20 : decode cX4_readEnd 20 = .ok (.if_icmp .eq 11, 3) := by decide +kernel
theorem dX4_readEnd_23 : decode cX4_readEnd 23 = .ok (.aload_n 0, 1) := by decide +kernel
theorem dX4_readEnd_24 : decode cX4_readEnd 24 = .ok (.iconst 1, 1) := by decide +kernel
theorem dX4_readEnd_25 : decode cX4_readEnd 25 = .ok (.putfield 32, 3) := by decide +kernel
theorem dX4_readEnd_28 : decode cX4_readEnd 28 = .ok (.goto 13, 3) := by decide +kernel
theorem dX4_readEnd_31 : decode cX4_readEnd 31 = .ok (.aload_n 0, 1) := by decide +kernel
theorem dX4_readEnd_32 : decode cX4_readEnd 32 = .ok (.dup, 1) := by decide +kernel
theorem dX4_readEnd_33 : decode cX4_readEnd 33 = .ok (.getfield 29, 3) := by decide +kernel
theorem dX4_readEnd_36 : decode cX4_readEnd 36 = .ok (.iconst 1, 1) := by decide +kernel
theorem dX4_readEnd_37 : decode cX4_readEnd 37 = .ok (.iadd, 1) := by decide +kernel
theorem dX4_readEnd_38 : decode cX4_readEnd 38 = .ok (.putfield 29, 3) := by decide +kernel
theorem dX4_readEnd_41 : decode cX4_readEnd 41 = .ok (.return_, 1) := by decide +kernel
theorem dX4_readNumber_0 : decode cX4_readNumber 0 = .ok (.iconst 0, 1) := by decide +kernel
theorem dX4_readNumber_1 : decode cX4_readNumber 1 = .ok (.istore_n 1, 1) := by decide +kernel
theorem dX4_readNumber_2 : decode cX4_readNumber 2 = .ok (.iconst 0, 1) := by decide +kernel
theorem dX4_readNumber_3 : decode cX4_readNumber 3 = .ok (.istore_n 2, 1) := by decide +kernel
theorem dX4_readNumber_4 : decode cX4_readNumber 4 = .ok (.iload_n 2, 1) := by decide +kernel
theorem dX4_readNumber_5 : decode cX4_readNumber 5 = .ok (.iconst 4, 1) := by decide +kernel
theorem dX4_readNumber_6 : decode cX4_readNumber 6 = .ok (.if_icmp .ge 56, 3) := by decide +kernel
theorem dX4_readNumber_9 : decode cX4_readNumber 9 = .ok (.aload_n 0, 1) := by decide +kernel
theorem dX4_readNumber_10 : decode cX4_readNumber 10 = .ok (.getfield 18, 3) := by decide +kernel
theorem dX4_readNumber_13 : decode cX4_readNumber 13 = .ok (.aload_n 0, 1) := by decide +kernel
theorem dX4_readNumber_14 : decode cX4_readNumber 14 = .ok (.getfield 29, 3) := by decide +kernel
theorem dX4_readNumber_17 : decode cX4_readNumber 17 = .ok (.invokevirtual 45, 3) := by decide +kernel
theorem dX4_readNumber_20 : decode cX4_readNumber 20 = .ok (.invokestatic 55, 3) := by decide +kernel
theorem dX4_readNumber_23 : decode cX4_readNumber 23 = .ok (.ifCond .eq 39, 3) := by decide +kernel
theorem dX4_readNumber_26 : decode cX4_readNumber 26 = .ok (.bipush 10, 2) := by decide +kernel
theorem dX4_readNumber_28 : decode cX4_readNumber 28 = .ok (.iload_n 1, 1) := by decide +kernel
theorem dX4_readNumber_29 : decode cX4_readNumber 29 = .ok (.imul, 1) := by decide +kernel
theorem dX4_readNumber_30 : decode cX4_readNumber 30 = .ok (.aload_n 0, 1) := by decide +kernel
theorem dX4_readNumber_31 : decode cX4_readNumber 31 = .ok (.getfield 18, 3) := by decide +kernel
theorem dX4_readNumber_34 : decode cX4_readNumber 34 = .ok (.aload_n 0, 1) := by decide +kernel
theorem dX4_readNumber_35 : decode cX4_readNumber 35 = .ok (.getfield 29, 3) := by decide +kernel
theorem dX4_readNumber_38 : decode cX4_readNumber 38 = .ok (.invokevirtual 45, 3) := by decide +kernel
theorem dX4_readNumber_41 : decode cX4_readNumber 41 = .ok (.iadd, 1) := by decide +kernel
theorem dX4_readNumber_42 : decode cX4_readNumber 42 = .ok (.bipush 48, 2) := by decide +kernel
theorem dX4_readNumber_44 : decode cX4_readNumber 44 = .ok (.isub, 1) := by decide +kernel
theorem dX4_readNumber_45 : decode cX4_readNumber 45 = .ok (.istore_n 1, 1) := by decide +kernel
theorem dX4_readNumber_46 : decode cX4_readNumber 46 = .ok (.aload_n 0, 1) := by decide +kernel
theorem dX4_readNumber_47 : decode cX4_readNumber 47 = .ok (.dup, 1) := by decide +kernel
theorem dX4_readNumber_48 : decode cX4_readNumber 48 = .ok (.getfield 29, 3) := by decide +kernel
theorem dX4_readNumber_51 : decode cX4_readNumber 51 = .ok (.iconst 1, 1) := by decide +kernel
theorem dX4_readNumber_52 : decode cX4_readNumber 52 = .ok (.iadd, 1) := by decide +kernel
theorem dX4_readNumber_53 : decode cX4_readNumber 53 = .ok (.putfield 29, 3) := by decide +kernel
theorem dX4_readNumber_56 : decode cX4_readNumber 56 = .ok (.iinc 2 1, 3) := by decide +kernel
theorem dX4_readNumber_59 : decode cX4_readNumber 59 = .ok (.goto (-55), 3) := by decide +kernel
theorem dX4_readNumber_62 : decode cX4_readNumber 62 = .ok (.aload_n 0, 1) := by decide +kernel
theorem dX4_readNumber_63 : decode cX4_readNumber 63 = .ok (.iload_n 1, 1) := by decide +kernel
theorem dX4_readNumber_64 : decode cX4_readNumber 64 = .ok (.invokevirtual 52, 3) := by decide +kernel
theorem dX4_readNumber_67 : decode cX4_readNumber 67 = .ok (.return_, 1) := by decide +kernel
theorem dX4_isDigit_0 : decode cX4_isDigit 0 = .ok (.iload_n 0, 1) := by decide +kernel
theorem dX4_isDigit_1 : decode cX4_isDigit 1 = .ok (.bipush 48, 2) := by decide +kernel
theorem dX4_isDigit_3 : decode cX4_isDigit 3 = .ok (.if_icmp .lt 13, 3) := by decide +kernel
theorem dX4_isDigit_6 : decode cX4_isDigit 6 = .ok (.iload_n 0, 1) := by decide +kernel
theorem dX4_isDigit_7 : decode cX4_isDigit 7 = .ok (.bipush 57, 2) := by decide +kernel
theorem dX4_isDigit_9 : decode cX4_isDigit 9 = .ok (.if_icmp .gt 7, 3) := by decide +kernel
theorem dX4_isDigit_12 : decode cX4_isDigit 12 = .ok (.iconst 1, 1) := by decide +kernel
theorem dX4_isDigit_13 : decode cX4_isDigit 13 = .ok (.goto 4, 3) := by decide +kernel
theorem dX4_isDigit_16 : decode cX4_isDigit 16 = .ok (.iconst 0, 1) := by decide +kernel
theorem dX4_isDigit_17 : decode cX4_isDigit 17 = .ok (.ireturn, 1) := by decide +kernel
theorem dX4_nameOf_0 : decode cX4_nameOf 0 = .ok (.iload_n 1, 1) := by decide +kernel
theorem dX4_nameOf_1 : decode cX4_nameOf 1 = .ok (.lookupswitch 122 #[(100, 78), (102, 51), (110, 107), (111, 92), (119, 64)], 51) := by decide +kernel
theorem dX4_nameOf_52 : decode cX4_nameOf 52 = .ok (.aload_n 0, 1) := by decide +kernel
theorem dX4_nameOf_53 : decode cX4_nameOf 53 = .ok (.getfield 22, 3) := by decide +kernel
theorem dX4_nameOf_56 : decode cX4_nameOf 56 = .ok (.ifCond .ne 7, 3) := by decide +kernel
theorem dX4_nameOf_59 : decode cX4_nameOf 59 = .ok (.iconst (-1), 1) := by decide +kernel
theorem dX4_nameOf_60 : decode cX4_nameOf 60 = .ok (.goto 4, 3) := by decide +kernel
theorem dX4_nameOf_63 : decode cX4_nameOf 63 = .ok (.iconst 0, 1) := by decide +kernel
theorem dX4_nameOf_64 : decode cX4_nameOf 64 = .ok (.ireturn, 1) := by decide +kernel
theorem dX4_nameOf_65 : decode cX4_nameOf 65 = .ok (.aload_n 0, 1) := by decide +kernel
theorem dX4_nameOf_66 : decode cX4_nameOf 66 = .ok (.getfield 22, 3) := by decide +kernel
theorem dX4_nameOf_69 : decode cX4_nameOf 69 = .ok (.ifCond .ne 8, 3) := by decide +kernel
theorem dX4_nameOf_72 : decode cX4_nameOf 72 = .ok (.bipush (-2), 2) := by decide +kernel
theorem dX4_nameOf_74 : decode cX4_nameOf 74 = .ok (.goto 4, 3) := by decide +kernel
theorem dX4_nameOf_77 : decode cX4_nameOf 77 = .ok (.iconst 0, 1) := by decide +kernel
theorem dX4_nameOf_78 : decode cX4_nameOf 78 = .ok (.ireturn, 1) := by decide +kernel
theorem dX4_nameOf_79 : decode cX4_nameOf 79 = .ok (.aload_n 0, 1) := by decide +kernel
theorem dX4_nameOf_80 : decode cX4_nameOf 80 = .ok (.getfield 22, 3) := by decide +kernel
theorem dX4_nameOf_83 : decode cX4_nameOf 83 = .ok (.ifCond .ne 8, 3) := by decide +kernel
theorem dX4_nameOf_86 : decode cX4_nameOf 86 = .ok (.bipush (-3), 2) := by decide +kernel
theorem dX4_nameOf_88 : decode cX4_nameOf 88 = .ok (.goto 4, 3) := by decide +kernel
theorem dX4_nameOf_91 : decode cX4_nameOf 91 = .ok (.iconst (-1), 1) := by decide +kernel
theorem dX4_nameOf_92 : decode cX4_nameOf 92 = .ok (.ireturn, 1) := by decide +kernel
theorem dX4_nameOf_93 : decode cX4_nameOf 93 = .ok (.aload_n 0, 1) := by decide +kernel
theorem dX4_nameOf_94 : decode cX4_nameOf 94 = .ok (.getfield 22, 3) := by decide +kernel
theorem dX4_nameOf_97 : decode cX4_nameOf 97 = .ok (.iconst 1, 1) := by decide +kernel
theorem dX4_nameOf_98 : decode cX4_nameOf 98 = .ok (.if_icmp .ne 8, 3) := by decide +kernel
theorem dX4_nameOf_101 : decode cX4_nameOf 101 = .ok (.bipush (-2), 2) := by decide +kernel
theorem dX4_nameOf_103 : decode cX4_nameOf 103 = .ok (.goto 4, 3) := by decide +kernel
theorem dX4_nameOf_106 : decode cX4_nameOf 106 = .ok (.iconst 0, 1) := by decide +kernel
theorem dX4_nameOf_107 : decode cX4_nameOf 107 = .ok (.ireturn, 1) := by decide +kernel
theorem dX4_nameOf_108 : decode cX4_nameOf 108 = .ok (.aload_n 0, 1) := by decide +kernel
theorem dX4_nameOf_109 : decode cX4_nameOf 109 = .ok (.getfield 22, 3) := by decide +kernel
theorem dX4_nameOf_112 : decode cX4_nameOf 112 = .ok (.iconst 1, 1) := by decide +kernel
theorem dX4_nameOf_113 : decode cX4_nameOf 113 = .ok (.if_icmp .ne 8, 3) := by decide +kernel
theorem dX4_nameOf_116 : decode cX4_nameOf 116 = .ok (.bipush (-3), 2) := by decide +kernel
theorem dX4_nameOf_118 : decode cX4_nameOf 118 = .ok (.goto 4, 3) := by decide +kernel
theorem dX4_nameOf_121 : decode cX4_nameOf 121 = .ok (.iconst 0, 1) := by decide +kernel
theorem dX4_nameOf_122 : decode cX4_nameOf 122 = .ok (.ireturn, 1) := by decide +kernel
theorem dX4_nameOf_123 : decode cX4_nameOf 123 = .ok (.iconst 0, 1) := by decide +kernel
theorem dX4_nameOf_124 : decode cX4_nameOf 124 = .ok (.ireturn, 1) := by decide +kernel
theorem dX4_add_0 : decode cX4_add 0 = .ok (.aload_n 0, 1) := by decide +kernel
theorem dX4_add_1 : decode cX4_add 1 = .ok (.getfield 26, 3) := by decide +kernel
theorem dX4_add_4 : decode cX4_add 4 = .ok (.bipush 50, 2) := by decide +kernel
theorem dX4_add_6 : decode cX4_add 6 = .ok (.if_icmp .ge 23, 3) := by decide +kernel
theorem dX4_add_9 : decode cX4_add 9 = .ok (.aload_n 0, 1) := by decide +kernel
theorem dX4_add_10 : decode cX4_add 10 = .ok (.getfield 9, 3) := by decide +kernel
theorem dX4_add_13 : decode cX4_add 13 = .ok (.aload_n 0, 1) := by decide +kernel
theorem dX4_add_14 : decode cX4_add 14 = .ok (.getfield 26, 3) := by decide +kernel
theorem dX4_add_17 : decode cX4_add 17 = .ok (.iload_n 1, 1) := by decide +kernel
theorem dX4_add_18 : decode cX4_add 18 = .ok (.iastore, 1) := by decide +kernel
theorem dX4_add_19 : decode cX4_add 19 = .ok (.aload_n 0, 1) := by decide +kernel
theorem dX4_add_20 : decode cX4_add 20 = .ok (.dup, 1) := by decide +kernel
theorem dX4_add_21 : decode cX4_add 21 = .ok (.getfield 26, 3) := by decide +kernel
theorem dX4_add_24 : decode cX4_add 24 = .ok (.iconst 1, 1) := by decide +kernel
theorem dX4_add_25 : decode cX4_add 25 = .ok (.iadd, 1) := by decide +kernel
theorem dX4_add_26 : decode cX4_add 26 = .ok (.putfield 26, 3) := by decide +kernel
theorem dX4_add_29 : decode cX4_add 29 = .ok (.return_, 1) := by decide +kernel
theorem dX5_init_0 : decode cX5_init 0 = .ok (.aload_n 0, 1) := by decide +kernel
theorem dX5_init_1 : decode cX5_init 1 = .ok (.invokespecial 3, 3) := by decide +kernel
theorem dX5_init_4 : decode cX5_init 4 = .ok (.aload_n 0, 1) := by decide +kernel
theorem dX5_init_5 : decode cX5_init 5 = .ok (.bipush 8, 2) := by decide +kernel
theorem dX5_init_7 : decode cX5_init 7 = .ok (.newarray .int, 2) := by decide +kernel
theorem dX5_init_9 : decode cX5_init 9 = .ok (.putfield 9, 3) := by decide +kernel
theorem dX5_init_12 : decode cX5_init 12 = .ok (.aload_n 0, 1) := by decide +kernel
theorem dX5_init_13 : decode cX5_init 13 = .ok (.bipush 8, 2) := by decide +kernel
theorem dX5_init_15 : decode cX5_init 15 = .ok (.newarray .int, 2) := by decide +kernel
theorem dX5_init_17 : decode cX5_init 17 = .ok (.putfield 15, 3) := by decide +kernel
theorem dX5_init_20 : decode cX5_init 20 = .ok (.aload_n 0, 1) := by decide +kernel
theorem dX5_init_21 : decode cX5_init 21 = .ok (.bipush 8, 2) := by decide +kernel
theorem dX5_init_23 : decode cX5_init 23 = .ok (.newarray .int, 2) := by decide +kernel
theorem dX5_init_25 : decode cX5_init 25 = .ok (.putfield 18, 3) := by decide +kernel
theorem dX5_init_28 : decode cX5_init 28 = .ok (.aload_n 0, 1) := by decide +kernel
theorem dX5_init_29 : decode cX5_init 29 = .ok (.sipush 256, 3) := by decide +kernel
theorem dX5_init_32 : decode cX5_init 32 = .ok (.newarray .long, 2) := by decide +kernel
theorem dX5_init_34 : decode cX5_init 34 = .ok (.putfield 21, 3) := by decide +kernel
theorem dX5_init_37 : decode cX5_init 37 = .ok (.aload_n 0, 1) := by decide +kernel
theorem dX5_init_38 : decode cX5_init 38 = .ok (.aload_n 1, 1) := by decide +kernel
theorem dX5_init_39 : decode cX5_init 39 = .ok (.putfield 25, 3) := by decide +kernel
theorem dX5_init_42 : decode cX5_init 42 = .ok (.return_, 1) := by decide +kernel
theorem dX5_begin_0 : decode cX5_begin 0 = .ok (.aload_n 0, 1) := by decide +kernel
theorem dX5_begin_1 : decode cX5_begin 1 = .ok (.aload_n 1, 1) := by decide +kernel
theorem dX5_begin_2 : decode cX5_begin 2 = .ok (.getfield 29, 3) := by decide +kernel
theorem dX5_begin_5 : decode cX5_begin 5 = .ok (.putfield 35, 3) := by decide +kernel
theorem dX5_begin_8 : decode cX5_begin 8 = .ok (.aload_n 0, 1) := by decide +kernel
theorem dX5_begin_9 : decode cX5_begin 9 = .ok (.aload_n 1, 1) := by decide +kernel
theorem dX5_begin_10 : decode cX5_begin 10 = .ok (.getfield 36, 3) := by decide +kernel
theorem dX5_begin_13 : decode cX5_begin 13 = .ok (.putfield 39, 3) := by decide +kernel
theorem dX5_begin_16 : decode cX5_begin 16 = .ok (.aload_n 0, 1) := by decide +kernel
theorem dX5_begin_17 : decode cX5_begin 17 = .ok (.iload_n 2, 1) := by decide +kernel
theorem dX5_begin_18 : decode cX5_begin 18 = .ok (.putfield 40, 3) := by decide +kernel
theorem dX5_begin_21 : decode cX5_begin 21 = .ok (.aload_n 0, 1) := by decide +kernel
theorem dX5_begin_22 : decode cX5_begin 22 = .ok (.iload_n 3, 1) := by decide +kernel
theorem dX5_begin_23 : decode cX5_begin 23 = .ok (.putfield 43, 3) := by decide +kernel
theorem dX5_begin_26 : decode cX5_begin 26 = .ok (.aload_n 0, 1) := by decide +kernel
theorem dX5_begin_27 : decode cX5_begin 27 = .ok (.iload 4, 2) := by decide +kernel
theorem dX5_begin_29 : decode cX5_begin 29 = .ok (.putfield 46, 3) := by decide +kernel
theorem dX5_begin_32 : decode cX5_begin 32 = .ok (.aload_n 0, 1) := by decide +kernel
theorem dX5_begin_33 : decode cX5_begin 33 = .ok (.aload_n 0, 1) := by decide +kernel
theorem dX5_begin_34 : decode cX5_begin 34 = .ok (.getfield 25, 3) := by decide +kernel
theorem dX5_begin_37 : decode cX5_begin 37 = .ok (.getfield 50, 3) := by decide +kernel
theorem dX5_begin_40 : decode cX5_begin 40 = .ok (.aload_n 1, 1) := by decide +kernel
theorem dX5_begin_41 : decode cX5_begin 41 = .ok (.getfield 55, 3) := by decide +kernel
theorem dX5_begin_44 : decode cX5_begin 44 = .ok (.isub, 1) := by decide +kernel
theorem dX5_begin_45 : decode cX5_begin 45 = .ok (.putfield 56, 3) := by decide +kernel
theorem dX5_begin_48 : decode cX5_begin 48 = .ok (.aload_n 0, 1) := by decide +kernel
theorem dX5_begin_49 : decode cX5_begin 49 = .ok (.iconst (-1), 1) := by decide +kernel
theorem dX5_begin_50 : decode cX5_begin 50 = .ok (.putfield 59, 3) := by decide +kernel
theorem dX5_begin_53 : decode cX5_begin 53 = .ok (.aload_n 1, 1) := by decide +kernel
theorem dX5_begin_54 : decode cX5_begin 54 = .ok (.getfield 62, 3) := by decide +kernel
theorem dX5_begin_57 : decode cX5_begin 57 = .ok (.iconst 0, 1) := by decide +kernel
theorem dX5_begin_58 : decode cX5_begin 58 = .ok (.aload_n 0, 1) := by decide +kernel
theorem dX5_begin_59 : decode cX5_begin 59 = .ok (.getfield 18, 3) := by decide +kernel
theorem dX5_begin_62 : decode cX5_begin 62 = .ok (.iconst 0, 1) := by decide +kernel
theorem dX5_begin_63 : decode cX5_begin 63 = .ok (.bipush 8, 2) := by decide +kernel
theorem dX5_begin_65 : decode cX5_begin 65 = .ok (.invokestatic 63, 3) := by decide +kernel
theorem dX5_begin_68 : decode cX5_begin 68 = .ok (.aload_n 0, 1) := by decide +kernel
theorem dX5_begin_69 : decode cX5_begin 69 = .ok (.getfield 21, 3) := by decide +kernel
theorem dX5_begin_72 : decode cX5_begin 72 = .ok (.ldc2_w 69, 3) := by decide +kernel
theorem dX5_begin_75 : decode cX5_begin 75 = .ok (.invokestatic 71, 3) := by decide +kernel
theorem dX5_begin_78 : decode cX5_begin 78 = .ok (.aload_n 0, 1) := by decide +kernel
theorem dX5_begin_79 : decode cX5_begin 79 = .ok (.iconst 0, 1) := by decide +kernel
theorem dX5_begin_80 : decode cX5_begin 80 = .ok (.aload_n 1, 1) := by decide +kernel
theorem dX5_begin_81 : decode cX5_begin 81 = .ok (.getfield 77, 3) := by decide +kernel
theorem dX5_begin_84 : decode cX5_begin 84 = .ok (.invokevirtual 80, 3) := by decide +kernel
theorem dX5_begin_87 : decode cX5_begin 87 = .ok (.return_, 1) := by decide +kernel
theorem dX5_goOn_0 : decode cX5_goOn 0 = .ok (.aload_n 0, 1) := by decide +kernel
theorem dX5_goOn_1 : decode cX5_goOn 1 = .ok (.iload_n 1, 1) := by decide +kernel
theorem dX5_goOn_2 : decode cX5_goOn 2 = .ok (.iload_n 2, 1) := by decide +kernel
theorem dX5_goOn_3 : decode cX5_goOn 3 = .ok (.invokevirtual 84, 3) := by decide +kernel
theorem dX5_goOn_6 : decode cX5_goOn 6 = .ok (.ifCond .eq 23, 3) := by decide +kernel
theorem dX5_goOn_9 : decode cX5_goOn 9 = .ok (.aload_n 0, 1) := by decide +kernel
theorem dX5_goOn_10 : decode cX5_goOn 10 = .ok (.getfield 15, 3) := by decide +kernel
theorem dX5_goOn_13 : decode cX5_goOn 13 = .ok (.iconst 0, 1) := by decide +kernel
theorem dX5_goOn_14 : decode cX5_goOn 14 = .ok (.aload_n 0, 1) := by decide +kernel
theorem dX5_goOn_15 : decode cX5_goOn 15 = .ok (.getfield 9, 3) := by decide +kernel
theorem dX5_goOn_18 : decode cX5_goOn 18 = .ok (.iconst 0, 1) := by decide +kernel
theorem dX5_goOn_19 : decode cX5_goOn 19 = .ok (.bipush 8, 2) := by decide +kernel
theorem dX5_goOn_21 : decode cX5_goOn 21 = .ok (.invokestatic 63, 3) := by decide +kernel
theorem dX5_goOn_24 : decode cX5_goOn 24 = .ok (.aload_n 0, 1) := by decide +kernel
theorem dX5_goOn_25 : decode cX5_goOn 25 = .ok (.iload_n 1, 1) := by decide +kernel
theorem dX5_goOn_26 : decode cX5_goOn 26 = .ok (.putfield 59, 3) := by decide +kernel
theorem dX5_goOn_29 : decode cX5_goOn 29 = .ok (.iload_n 1, 1) := by decide +kernel
theorem dX5_goOn_30 : decode cX5_goOn 30 = .ok (.bipush 8, 2) := by decide +kernel
theorem dX5_goOn_32 : decode cX5_goOn 32 = .ok (.if_icmp .ge 19, 3) := by decide +kernel
theorem dX5_goOn_35 : decode cX5_goOn 35 = .ok (.aload_n 0, 1) := by decide +kernel
theorem dX5_goOn_36 : decode cX5_goOn 36 = .ok (.iload_n 1, 1) := by decide +kernel
theorem dX5_goOn_37 : decode cX5_goOn 37 = .ok (.invokevirtual 88, 3) := by decide +kernel
theorem dX5_goOn_40 : decode cX5_goOn 40 = .ok (.ifCond .ne 11, 3) := by decide +kernel
theorem dX5_goOn_43 : decode cX5_goOn 43 = .ok (.aload_n 0, 1) := by decide +kernel
theorem dX5_goOn_44 : decode cX5_goOn 44 = .ok (.iload_n 2, 1) := by decide +kernel
theorem dX5_goOn_45 : decode cX5_goOn 45 = .ok (.invokevirtual 92, 3) := by decide +kernel
theorem dX5_goOn_48 : decode cX5_goOn 48 = .ok (.ifCond .eq 4, 3) := by decide +kernel
theorem dX5_goOn_51 : decode cX5_goOn 51 = .ok (.return_, 1) := by decide +kernel
theorem dX5_goOn_52 : decode cX5_goOn 52 = .ok (.aload_n 0, 1) := by decide +kernel
theorem dX5_goOn_53 : decode cX5_goOn 53 = .ok (.getfield 25, 3) := by decide +kernel
theorem dX5_goOn_56 : decode cX5_goOn 56 = .ok (.aload_n 0, 1) := by decide +kernel
theorem dX5_goOn_57 : decode cX5_goOn 57 = .ok (.getfield 35, 3) := by decide +kernel
theorem dX5_goOn_60 : decode cX5_goOn 60 = .ok (.aload_n 0, 1) := by decide +kernel
theorem dX5_goOn_61 : decode cX5_goOn 61 = .ok (.getfield 39, 3) := by decide +kernel
theorem dX5_goOn_64 : decode cX5_goOn 64 = .ok (.iload_n 2, 1) := by decide +kernel
theorem dX5_goOn_65 : decode cX5_goOn 65 = .ok (.aload_n 0, 1) := by decide +kernel
theorem dX5_goOn_66 : decode cX5_goOn 66 = .ok (.getfield 40, 3) := by decide +kernel
theorem dX5_goOn_69 : decode cX5_goOn 69 = .ok (.invokevirtual 95, 3) := by decide +kernel
theorem dX5_goOn_72 : decode cX5_goOn 72 = .ok (.istore_n 3, 1) := by decide +kernel
theorem dX5_goOn_73 : decode cX5_goOn 73 = .ok (.iconst 0, 1) := by decide +kernel
theorem dX5_goOn_74 : decode cX5_goOn 74 = .ok (.istore 4, 2) := by decide +kernel
theorem dX5_goOn_76 : decode cX5_goOn 76 = .ok (.iload 4, 2) := by decide +kernel
theorem dX5_goOn_78 : decode cX5_goOn 78 = .ok (.bipush 8, 2) := by decide +kernel
theorem dX5_goOn_80 : decode cX5_goOn 80 = .ok (.if_icmp .ge 79, 3) := by decide +kernel
theorem dX5_goOn_83 : decode cX5_goOn 83 = .ok (.iload_n 3, 1) := by decide +kernel
theorem dX5_goOn_84 : decode cX5_goOn 84 = .ok (.iload 4, 2) := by decide +kernel
theorem dX5_goOn_86 : decode cX5_goOn 86 = .ok (.ishr, 1) := by decide +kernel
theorem dX5_goOn_87 : decode cX5_goOn 87 = .ok (.iconst 1, 1) := by decide +kernel
theorem dX5_goOn_88 : decode cX5_goOn 88 = .ok (.iand, 1) := by decide +kernel
theorem dX5_goOn_89 : decode cX5_goOn 89 = .ok (.iconst 1, 1) := by decide +kernel
theorem dX5_goOn_90 : decode cX5_goOn 90 = .ok (.if_icmp .ne 63, 3) := by decide +kernel
theorem dX5_goOn_93 : decode cX5_goOn 93 = .ok (.aload_n 0, 1) := by decide +kernel
theorem dX5_goOn_94 : decode cX5_goOn 94 = .ok (.getfield 15, 3) := by decide +kernel
theorem dX5_goOn_97 : decode cX5_goOn 97 = .ok (.iload_n 1, 1) := by decide +kernel
theorem dX5_goOn_98 : decode cX5_goOn 98 = .ok (.iload 4, 2) := by decide +kernel
theorem dX5_goOn_100 : decode cX5_goOn 100 = .ok (.iastore, 1) := by decide +kernel
theorem dX5_goOn_101 : decode cX5_goOn 101 = .ok (.aload_n 0, 1) := by decide +kernel
theorem dX5_goOn_102 : decode cX5_goOn 102 = .ok (.getfield 18, 3) := by decide +kernel
theorem dX5_goOn_105 : decode cX5_goOn 105 = .ok (.iload 4, 2) := by decide +kernel
theorem dX5_goOn_107 : decode cX5_goOn 107 = .ok (.aload_n 0, 1) := by decide +kernel
theorem dX5_goOn_108 : decode cX5_goOn 108 = .ok (.getfield 43, 3) := by decide +kernel
theorem dX5_goOn_111 : decode cX5_goOn 111 = .ok (.iload_n 1, 1) := by decide +kernel
theorem dX5_goOn_112 : decode cX5_goOn 112 = .ok (.iadd, 1) := by decide +kernel
theorem dX5_goOn_113 : decode cX5_goOn 113 = .ok (.iastore, 1) := by decide +kernel
theorem dX5_goOn_114 : decode cX5_goOn 114 = .ok (.iload_n 2, 1) := by decide +kernel
theorem dX5_goOn_115 : decode cX5_goOn 115 = .ok (.iconst 1, 1) := by decide +kernel
theorem dX5_goOn_116 : decode cX5_goOn 116 = .ok (.iload 4, 2) := by decide +kernel
theorem dX5_goOn_118 : decode cX5_goOn 118 = .ok (.ishl, 1) := by decide +kernel
theorem dX5_goOn_119 : decode cX5_goOn 119 = .ok (.ior, 1) := by decide +kernel
theorem dX5_goOn_120 : decode cX5_goOn 120 = .ok (.istore 5, 2) := by decide +kernel
theorem dX5_goOn_122 : decode cX5_goOn 122 = .ok (.aload_n 0, 1) := by decide +kernel
theorem dX5_goOn_123 : decode cX5_goOn 123 = .ok (.getfield 25, 3) := by decide +kernel
theorem dX5_goOn_126 : decode cX5_goOn 126 = .ok (.iload 5, 2) := by decide +kernel
theorem dX5_goOn_128 : decode cX5_goOn 128 = .ok (.aload_n 0, 1) := by decide +kernel
theorem dX5_goOn_129 : decode cX5_goOn 129 = .ok (.getfield 18, 3) := by decide +kernel
theorem dX5_goOn_132 : decode cX5_goOn 132 = .ok (.aload_n 0, 1) := by decide +kernel
theorem dX5_goOn_133 : decode cX5_goOn 133 = .ok (.getfield 43, 3) := by decide +kernel
theorem dX5_goOn_136 : decode cX5_goOn 136 = .ok (.iload_n 1, 1) := by decide +kernel
theorem dX5_goOn_137 : decode cX5_goOn 137 = .ok (.iadd, 1) := by decide +kernel
theorem dX5_goOn_138 : decode cX5_goOn 138 = .ok (.invokevirtual 99, 3) := by decide +kernel
theorem dX5_goOn_141 : decode cX5_goOn 141 = .ok (.ifCond .ne 12, 3) := by decide +kernel
theorem dX5_goOn_144 : decode cX5_goOn 144 = .ok (.aload_n 0, 1) := by decide +kernel
theorem dX5_goOn_145 : decode cX5_goOn 145 = .ok (.iload_n 1, 1) := by decide +kernel
theorem dX5_goOn_146 : decode cX5_goOn 146 = .ok (.iconst 1, 1) := by decide +kernel
theorem dX5_goOn_147 : decode cX5_goOn 147 = .ok (.iadd, 1) := by decide +kernel
theorem dX5_goOn_148 : decode cX5_goOn 148 = .ok (.iload 5, 2) := by decide +kernel
theorem dX5_goOn_150 : decode cX5_goOn 150 = .ok (.invokevirtual 80, 3) := by decide +kernel
theorem dX5_goOn_153 : decode cX5_goOn 153 = .ok (.iinc 4 1, 3) := by decide +kernel
theorem dX5_goOn_156 : decode cX5_goOn 156 = .ok (.goto (-80), 3) := by decide +kernel
theorem dX5_goOn_159 : decode cX5_goOn 159 = .ok (.return_, 1) := by decide +kernel
theorem dX5_isAsGoodAsCanBe_0 : decode cX5_isAsGoodAsCanBe 0 = .ok (.aload_n 0, 1) := by decide +kernel
theorem dX5_isAsGoodAsCanBe_1 : decode cX5_isAsGoodAsCanBe 1 = .ok (.getfield 46, 3) := by decide +kernel
theorem dX5_isAsGoodAsCanBe_4 : decode cX5_isAsGoodAsCanBe 4 = .ok (.ifCond .eq 28, 3) := by decide +kernel
theorem dX5_isAsGoodAsCanBe_7 : decode cX5_isAsGoodAsCanBe 7 = .ok (.aload_n 0, 1) := by decide +kernel
theorem dX5_isAsGoodAsCanBe_8 : decode cX5_isAsGoodAsCanBe 8 = .ok (.getfield 59, 3) := by decide +kernel
theorem dX5_isAsGoodAsCanBe_11 : decode cX5_isAsGoodAsCanBe 11 = .ok (.ifCond .lt 17, 3) := by decide +kernel
theorem dX5_isAsGoodAsCanBe_14 : decode cX5_isAsGoodAsCanBe 14 = .ok (.iload_n 1, 1) := by decide +kernel
theorem dX5_isAsGoodAsCanBe_15 : decode cX5_isAsGoodAsCanBe 15 = .ok (.iconst 1, 1) := by decide +kernel
theorem dX5_isAsGoodAsCanBe_16 : decode cX5_isAsGoodAsCanBe 16 = .ok (.iadd, 1) := by decide +kernel
theorem dX5_isAsGoodAsCanBe_17 : decode cX5_isAsGoodAsCanBe 17 = .ok (.aload_n 0, 1) := by decide +kernel
theorem dX5_isAsGoodAsCanBe_18 : decode cX5_isAsGoodAsCanBe 18 = .ok (.getfield 59, 3) := by decide +kernel
theorem dX5_isAsGoodAsCanBe_21 : decode cX5_isAsGoodAsCanBe 21 = .ok (.if_icmp .lt 7, 3) := by decide +kernel
theorem dX5_isAsGoodAsCanBe_24 : decode cX5_isAsGoodAsCanBe 24 = .ok (.iconst 1, 1) := by decide +kernel
theorem dX5_isAsGoodAsCanBe_25 : decode cX5_isAsGoodAsCanBe 25 = .ok (.goto 23, 3) := by decide +kernel
theorem dX5_isAsGoodAsCanBe_28 : decode cX5_isAsGoodAsCanBe 28 = .ok (.iconst 0, 1) := by decide +kernel
theorem dX5_isAsGoodAsCanBe_29 : decode cX5_isAsGoodAsCanBe 29 = .ok (.goto 19, 3) := by decide +kernel
theorem dX5_isAsGoodAsCanBe_32 : decode cX5_isAsGoodAsCanBe 32 = .ok (.aload_n 0, 1) := by decide +kernel
theorem dX5_isAsGoodAsCanBe_33 : decode cX5_isAsGoodAsCanBe 33 = .ok (.getfield 59, 3) := by decide +kernel
theorem dX5_isAsGoodAsCanBe_36 : decode cX5_isAsGoodAsCanBe 36 = .ok (.aload_n 0, 1) := by decide +kernel
theorem dX5_isAsGoodAsCanBe_37 : decode cX5_isAsGoodAsCanBe 37 = .ok (.getfield 56, 3) := by decide +kernel
theorem dX5_isAsGoodAsCanBe_40 : decode cX5_isAsGoodAsCanBe 40 = .ok (.if_icmp .lt 7, 3) := by decide +kernel
theorem dX5_isAsGoodAsCanBe_43 : decode cX5_isAsGoodAsCanBe 43 = .ok (.iconst 1, 1) := by decide +kernel
theorem dX5_isAsGoodAsCanBe_44 : decode cX5_isAsGoodAsCanBe 44 = .ok (.goto 4, 3) := by decide +kernel
theorem dX5_isAsGoodAsCanBe_47 : decode cX5_isAsGoodAsCanBe 47 = .ok (.iconst 0, 1) := by decide +kernel
theorem dX5_isAsGoodAsCanBe_48 : decode cX5_isAsGoodAsCanBe 48 = .ok (.ireturn, 1) := by decide +kernel
theorem dX5_isBetter_0 : decode cX5_isBetter 0 = .ok (.aload_n 0, 1) := by decide +kernel
theorem dX5_isBetter_1 : decode cX5_isBetter 1 = .ok (.getfield 46, 3) := by decide +kernel
theorem dX5_isBetter_4 : decode cX5_isBetter 4 = .ok (.ifCond .eq 35, 3) := by decide +kernel
theorem dX5_isBetter_7 : decode cX5_isBetter 7 = .ok (.aload_n 0, 1) := by decide +kernel
theorem dX5_isBetter_8 : decode cX5_isBetter 8 = .ok (.getfield 59, 3) := by decide +kernel
theorem dX5_isBetter_11 : decode cX5_isBetter 11 = .ok (.ifCond .lt 11, 3) := by decide +kernel
theorem dX5_isBetter_14 : decode cX5_isBetter 14 = .ok (.iload_n 1, 1) := by decide +kernel
theorem dX5_isBetter_15 : decode cX5_isBetter 15 = .ok (.aload_n 0, 1) := by decide +kernel
theorem dX5_isBetter_16 : decode cX5_isBetter 16 = .ok (.getfield 59, 3) := by decide +kernel
theorem dX5_isBetter_19 : decode cX5_isBetter 19 = .ok (.if_icmp .ge 18, 3) := by decide +kernel
theorem dX5_isBetter_22 : decode cX5_isBetter 22 = .ok (.aload_n 0, 1) := by decide +kernel
theorem dX5_isBetter_23 : decode cX5_isBetter 23 = .ok (.getfield 25, 3) := by decide +kernel
theorem dX5_isBetter_26 : decode cX5_isBetter 26 = .ok (.iload_n 2, 1) := by decide +kernel
theorem dX5_isBetter_27 : decode cX5_isBetter 27 = .ok (.invokevirtual 103, 3) := by decide +kernel
theorem dX5_isBetter_30 : decode cX5_isBetter 30 = .ok (.ifCond .ne 7, 3) := by decide +kernel
theorem dX5_isBetter_33 : decode cX5_isBetter 33 = .ok (.iconst 1, 1) := by decide +kernel
theorem dX5_isBetter_34 : decode cX5_isBetter 34 = .ok (.goto 4, 3) := by decide +kernel
theorem dX5_isBetter_37 : decode cX5_isBetter 37 = .ok (.iconst 0, 1) := by decide +kernel
theorem dX5_isBetter_38 : decode cX5_isBetter 38 = .ok (.ireturn, 1) := by decide +kernel
theorem dX5_isBetter_39 : decode cX5_isBetter 39 = .ok (.iload_n 1, 1) := by decide +kernel
theorem dX5_isBetter_40 : decode cX5_isBetter 40 = .ok (.aload_n 0, 1) := by decide +kernel
theorem dX5_isBetter_41 : decode cX5_isBetter 41 = .ok (.getfield 59, 3) := by decide +kernel
theorem dX5_isBetter_44 : decode cX5_isBetter 44 = .ok (.if_icmp .le 7, 3) := by decide +kernel
theorem dX5_isBetter_47 : decode cX5_isBetter 47 = .ok (.iconst 1, 1) := by decide +kernel
theorem dX5_isBetter_48 : decode cX5_isBetter 48 = .ok (.goto 4, 3) := by decide +kernel
theorem dX5_isBetter_51 : decode cX5_isBetter 51 = .ok (.iconst 0, 1) := by decide +kernel
theorem dX5_isBetter_52 : decode cX5_isBetter 52 = .ok (.ireturn, 1) := by decide +kernel
theorem dX5_wasSeen_0 : decode cX5_wasSeen 0 = .ok (.iload_n 1, 1) := by decide +kernel
theorem dX5_wasSeen_1 : decode cX5_wasSeen 1 = .ok (.ifCond .lt 10, 3) := by decide +kernel
theorem dX5_wasSeen_4 : decode cX5_wasSeen 4 = .ok (.iload_n 1, 1) := by decide +kernel
theorem dX5_wasSeen_5 : decode cX5_wasSeen 5 = .ok (.sipush 256, 3) := by decide +kernel
theorem dX5_wasSeen_8 : decode cX5_wasSeen 8 = .ok (.if_icmp .lt 5, 3) := by decide +kernel
theorem dX5_wasSeen_11 : decode cX5_wasSeen 11 = .ok (.iconst 1, 1) := by decide +kernel
theorem dX5_wasSeen_12 : decode cX5_wasSeen 12 = .ok (.ireturn, 1) := by decide +kernel
theorem dX5_wasSeen_13 : decode cX5_wasSeen 13 = .ok (.aload_n 0, 1) := by decide +kernel
theorem dX5_wasSeen_14 : decode cX5_wasSeen 14 = .ok (.iload_n 1, 1) := by decide +kernel
theorem dX5_wasSeen_15 : decode cX5_wasSeen 15 = .ok (.invokevirtual 107, 3) := by decide +kernel
theorem dX5_wasSeen_18 : decode cX5_wasSeen 18 = .ok (.lstore_n 2, 1) := by decide +kernel
theorem dX5_wasSeen_19 : decode cX5_wasSeen 19 = .ok (.aload_n 0, 1) := by decide +kernel
theorem dX5_wasSeen_20 : decode cX5_wasSeen 20 = .ok (.getfield 21, 3) := by decide +kernel
theorem dX5_wasSeen_23 : decode cX5_wasSeen 23 = .ok (.iload_n 1, 1) := by decide +kernel
theorem dX5_wasSeen_24 : decode cX5_wasSeen 24 = .ok (.laload, 1) := by decide +kernel
theorem dX5_wasSeen_25 : decode cX5_wasSeen 25 = .ok (.ldc2_w 69, 3) := by decide +kernel
theorem dX5_wasSeen_28 : decode cX5_wasSeen 28 = .ok (.lcmp, 1) := by decide +kernel
theorem dX5_wasSeen_29 : decode cX5_wasSeen 29 = .ok (.ifCond .eq 18, 3) := by decide +kernel
theorem dX5_wasSeen_32 : decode cX5_wasSeen 32 = .ok (.lload_n 2, 1) := by decide +kernel
theorem dX5_wasSeen_33 : decode cX5_wasSeen 33 = .ok (.aload_n 0, 1) := by decide +kernel
theorem dX5_wasSeen_34 : decode cX5_wasSeen 34 = .ok (.getfield 21, 3) := by decide +kernel
theorem dX5_wasSeen_37 : decode cX5_wasSeen 37 = .ok (.iload_n 1, 1) := by decide +kernel
theorem dX5_wasSeen_38 : decode cX5_wasSeen 38 = .ok (.laload, 1) := by decide +kernel
theorem dX5_wasSeen_39 : decode cX5_wasSeen 39 = .ok (.invokestatic 111, 3) := by decide +kernel
theorem dX5_wasSeen_42 : decode cX5_wasSeen 42 = .ok (.ifCond .eq 5, 3) := by decide +kernel
theorem dX5_wasSeen_45 : decode cX5_wasSeen 45 = .ok (.iconst 1, 1) := by decide +kernel
theorem dX5_wasSeen_46 : decode cX5_wasSeen 46 = .ok (.ireturn, 1) := by decide +kernel
theorem dX5_wasSeen_47 : decode cX5_wasSeen 47 = .ok (.aload_n 0, 1) := by decide +kernel
theorem dX5_wasSeen_48 : decode cX5_wasSeen 48 = .ok (.getfield 21, 3) := by decide +kernel
theorem dX5_wasSeen_51 : decode cX5_wasSeen 51 = .ok (.iload_n 1, 1) := by decide +kernel
theorem dX5_wasSeen_52 : decode cX5_wasSeen 52 = .ok (.lload_n 2, 1) := by decide +kernel
theorem dX5_wasSeen_53 : decode cX5_wasSeen 53 = .ok (.lastore, 1) := by decide +kernel
theorem dX5_wasSeen_54 : decode cX5_wasSeen 54 = .ok (.iconst 0, 1) := by decide +kernel
theorem dX5_wasSeen_55 : decode cX5_wasSeen 55 = .ok (.ireturn, 1) := by decide +kernel
theorem dX5_lateness_0 : decode cX5_lateness 0 = .ok (.aload_n 0, 1) := by decide +kernel
theorem dX5_lateness_1 : decode cX5_lateness 1 = .ok (.getfield 25, 3) := by decide +kernel
theorem dX5_lateness_4 : decode cX5_lateness 4 = .ok (.iload_n 1, 1) := by decide +kernel
theorem dX5_lateness_5 : decode cX5_lateness 5 = .ok (.invokevirtual 103, 3) := by decide +kernel
theorem dX5_lateness_8 : decode cX5_lateness 8 = .ok (.istore_n 2, 1) := by decide +kernel
theorem dX5_lateness_9 : decode cX5_lateness 9 = .ok (.lconst 0, 1) := by decide +kernel
theorem dX5_lateness_10 : decode cX5_lateness 10 = .ok (.lstore_n 3, 1) := by decide +kernel
theorem dX5_lateness_11 : decode cX5_lateness 11 = .ok (.iconst 0, 1) := by decide +kernel
theorem dX5_lateness_12 : decode cX5_lateness 12 = .ok (.istore 5, 2) := by decide +kernel
theorem dX5_lateness_14 : decode cX5_lateness 14 = .ok (.iload 5, 2) := by decide +kernel
theorem dX5_lateness_16 : decode cX5_lateness 16 = .ok (.bipush 8, 2) := by decide +kernel
theorem dX5_lateness_18 : decode cX5_lateness 18 = .ok (.if_icmp .ge 46, 3) := by decide +kernel
theorem dX5_lateness_21 : decode cX5_lateness 21 = .ok (.iload_n 2, 1) := by decide +kernel
theorem dX5_lateness_22 : decode cX5_lateness 22 = .ok (.iload 5, 2) := by decide +kernel
theorem dX5_lateness_24 : decode cX5_lateness 24 = .ok (.ishr, 1) := by decide +kernel
theorem dX5_lateness_25 : decode cX5_lateness 25 = .ok (.iconst 1, 1) := by decide +kernel
theorem dX5_lateness_26 : decode cX5_lateness 26 = .ok (.iand, 1) := by decide +kernel
theorem dX5_lateness_27 : decode cX5_lateness 27 = .ok (.iconst 1, 1) := by decide +kernel
theorem dX5_lateness_28 : decode cX5_lateness 28 = .ok (.if_icmp .ne 30, 3) := by decide +kernel
theorem dX5_lateness_31 : decode cX5_lateness 31 = .ok (.lload_n 3, 1) := by decide +kernel
theorem dX5_lateness_32 : decode cX5_lateness 32 = .ok (.iconst 0, 1) := by decide +kernel
theorem dX5_lateness_33 : decode cX5_lateness 33 = .ok (.aload_n 0, 1) := by decide +kernel
theorem dX5_lateness_34 : decode cX5_lateness 34 = .ok (.getfield 18, 3) := by decide +kernel
theorem dX5_lateness_37 : decode cX5_lateness 37 = .ok (.iload 5, 2) := by decide +kernel
theorem dX5_lateness_39 : decode cX5_lateness 39 = .ok (.iaload, 1) := by decide +kernel
theorem dX5_lateness_40 : decode cX5_lateness 40 = .ok (.aload_n 0, 1) := by decide +kernel
theorem dX5_lateness_41 : decode cX5_lateness 41 = .ok (.getfield 43, 3) := by decide +kernel
theorem dX5_lateness_44 : decode cX5_lateness 44 = .ok (.isub, 1) := by decide +kernel
theorem dX5_lateness_45 : decode cX5_lateness 45 = .ok (.iconst 1, 1) := by decide +kernel
theorem dX5_lateness_46 : decode cX5_lateness 46 = .ok (.iadd, 1) := by decide +kernel
theorem dX5_lateness_47 : decode cX5_lateness 47 = .ok (.invokestatic 115, 3) := by decide +kernel
theorem dX5_lateness_50 : decode cX5_lateness 50 = .ok (.i2l, 1) := by decide +kernel
theorem dX5_lateness_51 : decode cX5_lateness 51 = .ok (.iconst 4, 1) := by decide +kernel
theorem dX5_lateness_52 : decode cX5_lateness 52 = .ok (.iload 5, 2) := by decide +kernel
theorem dX5_lateness_54 : decode cX5_lateness 54 = .ok (.imul, 1) := by decide +kernel
theorem dX5_lateness_55 : decode cX5_lateness 55 = .ok (.lshl, 1) := by decide +kernel
theorem dX5_lateness_56 : decode cX5_lateness 56 = .ok (.lor, 1) := by decide +kernel
theorem dX5_lateness_57 : decode cX5_lateness 57 = .ok (.lstore_n 3, 1) := by decide +kernel
theorem dX5_lateness_58 : decode cX5_lateness 58 = .ok (.iinc 5 1, 3) := by decide +kernel
theorem dX5_lateness_61 : decode cX5_lateness 61 = .ok (.goto (-47), 3) := by decide +kernel
theorem dX5_lateness_64 : decode cX5_lateness 64 = .ok (.lload_n 3, 1) := by decide +kernel
theorem dX5_lateness_65 : decode cX5_lateness 65 = .ok (.lreturn, 1) := by decide +kernel
theorem dX5_isNoLater_0 : decode cX5_isNoLater 0 = .ok (.iconst 0, 1) := by decide +kernel
theorem dX5_isNoLater_1 : decode cX5_isNoLater 1 = .ok (.istore 4, 2) := by decide +kernel
theorem dX5_isNoLater_3 : decode cX5_isNoLater 3 = .ok (.iload 4, 2) := by decide +kernel
theorem dX5_isNoLater_5 : decode cX5_isNoLater 5 = .ok (.bipush 8, 2) := by decide +kernel
theorem dX5_isNoLater_7 : decode cX5_isNoLater 7 = .ok (.if_icmp .ge 35, 3) := by decide +kernel
theorem dX5_isNoLater_10 : decode cX5_isNoLater 10 = .ok (.lload_n 0, 1) := by decide +kernel
theorem dX5_isNoLater_11 : decode cX5_isNoLater 11 = .ok (.iconst 4, 1) := by decide +kernel
theorem dX5_isNoLater_12 : decode cX5_isNoLater 12 = .ok (.iload 4, 2) := by decide +kernel
theorem dX5_isNoLater_14 : decode cX5_isNoLater 14 = .ok (.imul, 1) := by decide +kernel
theorem dX5_isNoLater_15 : decode cX5_isNoLater 15 = .ok (.lshr, 1) := by decide +kernel
theorem dX5_isNoLater_16 : decode cX5_isNoLater 16 = .ok (.ldc2_w 121, 3) := by decide +kernel
theorem dX5_isNoLater_19 : decode cX5_isNoLater 19 = .ok (.land, 1) := by decide +kernel
theorem dX5_isNoLater_20 : decode cX5_isNoLater 20 = .ok (.lload_n 2, 1) := by decide +kernel
theorem dX5_isNoLater_21 : decode cX5_isNoLater 21 = .ok (.iconst 4, 1) := by decide +kernel
theorem dX5_isNoLater_22 : decode cX5_isNoLater 22 = .ok (.iload 4, 2) := by decide +kernel
theorem dX5_isNoLater_24 : decode cX5_isNoLater 24 = .ok (.imul, 1) := by decide +kernel
theorem dX5_isNoLater_25 : decode cX5_isNoLater 25 = .ok (.lshr, 1) := by decide +kernel
theorem dX5_isNoLater_26 : decode cX5_isNoLater 26 = .ok (.ldc2_w 121, 3) := by decide +kernel
theorem dX5_isNoLater_29 : decode cX5_isNoLater 29 = .ok (.land, 1) := by decide +kernel
theorem dX5_isNoLater_30 : decode cX5_isNoLater 30 = .ok (.lcmp, 1) := by decide +kernel
theorem dX5_isNoLater_31 : decode cX5_isNoLater 31 = .ok (.ifCond .le 5, 3) := by decide +kernel
theorem dX5_isNoLater_34 : decode cX5_isNoLater 34 = .ok (.iconst 0, 1) := by decide +kernel
theorem dX5_isNoLater_35 : decode cX5_isNoLater 35 = .ok (.ireturn, 1) := by decide +kernel
theorem dX5_isNoLater_36 : decode cX5_isNoLater 36 = .ok (.iinc 4 1, 3) := by decide +kernel
theorem dX5_isNoLater_39 : decode cX5_isNoLater 39 = .ok (.goto (-36), 3) := by decide +kernel
theorem dX5_isNoLater_42 : decode cX5_isNoLater 42 = .ok (.iconst 1, 1) := by decide +kernel
theorem dX5_isNoLater_43 : decode cX5_isNoLater 43 = .ok (.ireturn, 1) := by decide +kernel
theorem dX6_init_0 : decode cX6_init 0 = .ok (.aload_n 0, 1) := by decide +kernel
theorem dX6_init_1 : decode cX6_init 1 = .ok (.invokespecial 3, 3) := by decide +kernel
theorem dX6_init_4 : decode cX6_init 4 = .ok (.aload_n 0, 1) := by decide +kernel
theorem dX6_init_5 : decode cX6_init 5 = .ok (.bipush 40, 2) := by decide +kernel
theorem dX6_init_7 : decode cX6_init 7 = .ok (.newarray .int, 2) := by decide +kernel
theorem dX6_init_9 : decode cX6_init 9 = .ok (.putfield 9, 3) := by decide +kernel
theorem dX6_init_12 : decode cX6_init 12 = .ok (.return_, 1) := by decide +kernel
theorem dX6_isMissing_0 : decode cX6_isMissing 0 = .ok (.aload_n 0, 1) := by decide +kernel
theorem dX6_isMissing_1 : decode cX6_isMissing 1 = .ok (.getfield 15, 3) := by decide +kernel
theorem dX6_isMissing_4 : decode cX6_isMissing 4 = .ok (.ifCond .ne 7, 3) := by decide +kernel
theorem dX6_isMissing_7 : decode cX6_isMissing 7 = .ok (.iconst 1, 1) := by decide +kernel
theorem dX6_isMissing_8 : decode cX6_isMissing 8 = .ok (.goto 4, 3) := by decide +kernel
theorem dX6_isMissing_11 : decode cX6_isMissing 11 = .ok (.iconst 0, 1) := by decide +kernel
theorem dX6_isMissing_12 : decode cX6_isMissing 12 = .ok (.ireturn, 1) := by decide +kernel
theorem dX6_begin_0 : decode cX6_begin 0 = .ok (.aload_n 0, 1) := by decide +kernel
theorem dX6_begin_1 : decode cX6_begin 1 = .ok (.iload_n 1, 1) := by decide +kernel
theorem dX6_begin_2 : decode cX6_begin 2 = .ok (.putfield 15, 3) := by decide +kernel
theorem dX6_begin_5 : decode cX6_begin 5 = .ok (.aload_n 0, 1) := by decide +kernel
theorem dX6_begin_6 : decode cX6_begin 6 = .ok (.iconst 0, 1) := by decide +kernel
theorem dX6_begin_7 : decode cX6_begin 7 = .ok (.iload_n 2, 1) := by decide +kernel
theorem dX6_begin_8 : decode cX6_begin 8 = .ok (.bipush 40, 2) := by decide +kernel
theorem dX6_begin_10 : decode cX6_begin 10 = .ok (.invokestatic 19, 3) := by decide +kernel
theorem dX6_begin_13 : decode cX6_begin 13 = .ok (.invokestatic 25, 3) := by decide +kernel
theorem dX6_begin_16 : decode cX6_begin 16 = .ok (.putfield 28, 3) := by decide +kernel
theorem dX6_begin_19 : decode cX6_begin 19 = .ok (.aload_n 0, 1) := by decide +kernel
theorem dX6_begin_20 : decode cX6_begin 20 = .ok (.getfield 9, 3) := by decide +kernel
theorem dX6_begin_23 : decode cX6_begin 23 = .ok (.iconst 0, 1) := by decide +kernel
theorem dX6_begin_24 : decode cX6_begin 24 = .ok (.invokestatic 31, 3) := by decide +kernel
theorem dX6_begin_27 : decode cX6_begin 27 = .ok (.return_, 1) := by decide +kernel
theorem dX6_lowest_0 : decode cX6_lowest 0 = .ok (.aload_n 0, 1) := by decide +kernel
theorem dX6_lowest_1 : decode cX6_lowest 1 = .ok (.getfield 15, 3) := by decide +kernel
theorem dX6_lowest_4 : decode cX6_lowest 4 = .ok (.bipush 32, 2) := by decide +kernel
theorem dX6_lowest_6 : decode cX6_lowest 6 = .ok (.if_icmp .ne 7, 3) := by decide +kernel
theorem dX6_lowest_9 : decode cX6_lowest 9 = .ok (.iload_n 1, 1) := by decide +kernel
theorem dX6_lowest_10 : decode cX6_lowest 10 = .ok (.goto 13, 3) := by decide +kernel
theorem dX6_lowest_13 : decode cX6_lowest 13 = .ok (.iload_n 1, 1) := by decide +kernel
theorem dX6_lowest_14 : decode cX6_lowest 14 = .ok (.iconst 1, 1) := by decide +kernel
theorem dX6_lowest_15 : decode cX6_lowest 15 = .ok (.aload_n 0, 1) := by decide +kernel
theorem dX6_lowest_16 : decode cX6_lowest 16 = .ok (.getfield 15, 3) := by decide +kernel
theorem dX6_lowest_19 : decode cX6_lowest 19 = .ok (.ishl, 1) := by decide +kernel
theorem dX6_lowest_20 : decode cX6_lowest 20 = .ok (.iconst 1, 1) := by decide +kernel
theorem dX6_lowest_21 : decode cX6_lowest 21 = .ok (.isub, 1) := by decide +kernel
theorem dX6_lowest_22 : decode cX6_lowest 22 = .ok (.iand, 1) := by decide +kernel
theorem dX6_lowest_23 : decode cX6_lowest 23 = .ok (.ireturn, 1) := by decide +kernel
theorem dX6_holds_0 : decode cX6_holds 0 = .ok (.iload_n 2, 1) := by decide +kernel
theorem dX6_holds_1 : decode cX6_holds 1 = .ok (.ifCond .lt 29, 3) := by decide +kernel
theorem dX6_holds_4 : decode cX6_holds 4 = .ok (.iload_n 1, 1) := by decide +kernel
theorem dX6_holds_5 : decode cX6_holds 5 = .ok (.ifCond .lt 25, 3) := by decide +kernel
theorem dX6_holds_8 : decode cX6_holds 8 = .ok (.iload_n 2, 1) := by decide +kernel
theorem dX6_holds_9 : decode cX6_holds 9 = .ok (.aload_n 0, 1) := by decide +kernel
theorem dX6_holds_10 : decode cX6_holds 10 = .ok (.getfield 28, 3) := by decide +kernel
theorem dX6_holds_13 : decode cX6_holds 13 = .ok (.if_icmp .gt 17, 3) := by decide +kernel
theorem dX6_holds_16 : decode cX6_holds 16 = .ok (.iload_n 1, 1) := by decide +kernel
theorem dX6_holds_17 : decode cX6_holds 17 = .ok (.aload_n 0, 1) := by decide +kernel
theorem dX6_holds_18 : decode cX6_holds 18 = .ok (.getfield 28, 3) := by decide +kernel
theorem dX6_holds_21 : decode cX6_holds 21 = .ok (.iload_n 2, 1) := by decide +kernel
theorem dX6_holds_22 : decode cX6_holds 22 = .ok (.isub, 1) := by decide +kernel
theorem dX6_holds_23 : decode cX6_holds 23 = .ok (.if_icmp .gt 7, 3) := by decide +kernel
theorem dX6_holds_26 : decode cX6_holds 26 = .ok (.iconst 1, 1) := by decide +kernel
theorem dX6_holds_27 : decode cX6_holds 27 = .ok (.goto 4, 3) := by decide +kernel
theorem dX6_holds_30 : decode cX6_holds 30 = .ok (.iconst 0, 1) := by decide +kernel
theorem dX6_holds_31 : decode cX6_holds 31 = .ok (.ireturn, 1) := by decide +kernel
theorem dX7_init_0 : decode cX7_init 0 = .ok (.aload_n 0, 1) := by decide +kernel
theorem dX7_init_1 : decode cX7_init 1 = .ok (.invokespecial 3, 3) := by decide +kernel
theorem dX7_init_4 : decode cX7_init 4 = .ok (.aload_n 0, 1) := by decide +kernel
theorem dX7_init_5 : decode cX7_init 5 = .ok (.bipush 50, 2) := by decide +kernel
theorem dX7_init_7 : decode cX7_init 7 = .ok (.newarray .int, 2) := by decide +kernel
theorem dX7_init_9 : decode cX7_init 9 = .ok (.putfield 9, 3) := by decide +kernel
theorem dX7_init_12 : decode cX7_init 12 = .ok (.return_, 1) := by decide +kernel
theorem dX7_add_0 : decode cX7_add 0 = .ok (.aload_n 0, 1) := by decide +kernel
theorem dX7_add_1 : decode cX7_add 1 = .ok (.getfield 15, 3) := by decide +kernel
theorem dX7_add_4 : decode cX7_add 4 = .ok (.bipush 50, 2) := by decide +kernel
theorem dX7_add_6 : decode cX7_add 6 = .ok (.if_icmp .ge 23, 3) := by decide +kernel
theorem dX7_add_9 : decode cX7_add 9 = .ok (.aload_n 0, 1) := by decide +kernel
theorem dX7_add_10 : decode cX7_add 10 = .ok (.getfield 9, 3) := by decide +kernel
theorem dX7_add_13 : decode cX7_add 13 = .ok (.aload_n 0, 1) := by decide +kernel
theorem dX7_add_14 : decode cX7_add 14 = .ok (.getfield 15, 3) := by decide +kernel
theorem dX7_add_17 : decode cX7_add 17 = .ok (.iload_n 1, 1) := by decide +kernel
theorem dX7_add_18 : decode cX7_add 18 = .ok (.iastore, 1) := by decide +kernel
theorem dX7_add_19 : decode cX7_add 19 = .ok (.aload_n 0, 1) := by decide +kernel
theorem dX7_add_20 : decode cX7_add 20 = .ok (.dup, 1) := by decide +kernel
theorem dX7_add_21 : decode cX7_add 21 = .ok (.getfield 15, 3) := by decide +kernel
theorem dX7_add_24 : decode cX7_add 24 = .ok (.iconst 1, 1) := by decide +kernel
theorem dX7_add_25 : decode cX7_add 25 = .ok (.iadd, 1) := by decide +kernel
theorem dX7_add_26 : decode cX7_add 26 = .ok (.putfield 15, 3) := by decide +kernel
theorem dX7_add_29 : decode cX7_add 29 = .ok (.return_, 1) := by decide +kernel
theorem dX7_copyFrom_0 : decode cX7_copyFrom 0 = .ok (.aload_n 1, 1) := by decide +kernel
theorem dX7_copyFrom_1 : decode cX7_copyFrom 1 = .ok (.getfield 9, 3) := by decide +kernel
theorem dX7_copyFrom_4 : decode cX7_copyFrom 4 = .ok (.iconst 0, 1) := by decide +kernel
theorem dX7_copyFrom_5 : decode cX7_copyFrom 5 = .ok (.aload_n 0, 1) := by decide +kernel
theorem dX7_copyFrom_6 : decode cX7_copyFrom 6 = .ok (.getfield 9, 3) := by decide +kernel
theorem dX7_copyFrom_9 : decode cX7_copyFrom 9 = .ok (.iconst 0, 1) := by decide +kernel
theorem dX7_copyFrom_10 : decode cX7_copyFrom 10 = .ok (.bipush 50, 2) := by decide +kernel
theorem dX7_copyFrom_12 : decode cX7_copyFrom 12 = .ok (.invokestatic 19, 3) := by decide +kernel
theorem dX7_copyFrom_15 : decode cX7_copyFrom 15 = .ok (.aload_n 0, 1) := by decide +kernel
theorem dX7_copyFrom_16 : decode cX7_copyFrom 16 = .ok (.aload_n 1, 1) := by decide +kernel
theorem dX7_copyFrom_17 : decode cX7_copyFrom 17 = .ok (.getfield 15, 3) := by decide +kernel
theorem dX7_copyFrom_20 : decode cX7_copyFrom 20 = .ok (.putfield 15, 3) := by decide +kernel
theorem dX7_copyFrom_23 : decode cX7_copyFrom 23 = .ok (.return_, 1) := by decide +kernel
theorem dX7_at_0 : decode cX7_at 0 = .ok (.iload_n 1, 1) := by decide +kernel
theorem dX7_at_1 : decode cX7_at 1 = .ok (.ifCond .lt 20, 3) := by decide +kernel
theorem dX7_at_4 : decode cX7_at 4 = .ok (.iload_n 1, 1) := by decide +kernel
theorem dX7_at_5 : decode cX7_at 5 = .ok (.aload_n 0, 1) := by decide +kernel
theorem dX7_at_6 : decode cX7_at 6 = .ok (.getfield 15, 3) := by decide +kernel
theorem dX7_at_9 : decode cX7_at 9 = .ok (.if_icmp .ge 12, 3) := by decide +kernel
theorem dX7_at_12 : decode cX7_at 12 = .ok (.aload_n 0, 1) := by decide +kernel
theorem dX7_at_13 : decode cX7_at 13 = .ok (.getfield 9, 3) := by decide +kernel
theorem dX7_at_16 : decode cX7_at 16 = .ok (.iload_n 1, 1) := by decide +kernel
theorem dX7_at_17 : decode cX7_at 17 = .ok (.iaload, 1) := by decide +kernel
theorem dX7_at_18 : decode cX7_at 18 = .ok (.goto 4, 3) := by decide +kernel
theorem dX7_at_21 : decode cX7_at 21 = .ok (.iconst (-1), 1) := by decide +kernel
theorem dX7_at_22 : decode cX7_at 22 = .ok (.ireturn, 1) := by decide +kernel
theorem dX8_init_0 : decode cX8_init 0 = .ok (.aload_n 0, 1) := by decide +kernel
theorem dX8_init_1 : decode cX8_init 1 = .ok (.invokespecial 3, 3) := by decide +kernel
theorem dX8_init_4 : decode cX8_init 4 = .ok (.aload_n 0, 1) := by decide +kernel
theorem dX8_init_5 : decode cX8_init 5 = .ok (.iconst 4, 1) := by decide +kernel
theorem dX8_init_6 : decode cX8_init 6 = .ok (.anewarray 9, 3) := by decide +kernel
theorem dX8_init_9 : decode cX8_init 9 = .ok (.putfield 11, 3) := by decide +kernel
theorem dX8_init_12 : decode cX8_init 12 = .ok (.aload_n 0, 1) := by decide +kernel
theorem dX8_init_13 : decode cX8_init 13 = .ok (.aload_n 1, 1) := by decide +kernel
theorem dX8_init_14 : decode cX8_init 14 = .ok (.putfield 17, 3) := by decide +kernel
theorem dX8_init_17 : decode cX8_init 17 = .ok (.aload_n 0, 1) := by decide +kernel
theorem dX8_init_18 : decode cX8_init 18 = .ok (.aload_n 2, 1) := by decide +kernel
theorem dX8_init_19 : decode cX8_init 19 = .ok (.putfield 21, 3) := by decide +kernel
theorem dX8_init_22 : decode cX8_init 22 = .ok (.iconst 0, 1) := by decide +kernel
theorem dX8_init_23 : decode cX8_init 23 = .ok (.istore_n 3, 1) := by decide +kernel
theorem dX8_init_24 : decode cX8_init 24 = .ok (.iload_n 3, 1) := by decide +kernel
theorem dX8_init_25 : decode cX8_init 25 = .ok (.iconst 4, 1) := by decide +kernel
theorem dX8_init_26 : decode cX8_init 26 = .ok (.if_icmp .ge 22, 3) := by decide +kernel
theorem dX8_init_29 : decode cX8_init 29 = .ok (.aload_n 0, 1) := by decide +kernel
theorem dX8_init_30 : decode cX8_init 30 = .ok (.getfield 11, 3) := by decide +kernel
theorem dX8_init_33 : decode cX8_init 33 = .ok (.iload_n 3, 1) := by decide +kernel
theorem dX8_init_34 : decode cX8_init 34 = .ok (.new 9, 3) := by decide +kernel
theorem dX8_init_37 : decode cX8_init 37 = .ok (.dup, 1) := by decide +kernel
theorem dX8_init_38 : decode cX8_init 38 = .ok (.invokespecial 25, 3) := by decide +kernel
theorem dX8_init_41 : decode cX8_init 41 = .ok (.aastore, 1) := by decide +kernel
theorem dX8_init_42 : decode cX8_init 42 = .ok (.iinc 3 1, 3) := by decide +kernel
theorem dX8_init_45 : decode cX8_init 45 = .ok (.goto (-21), 3) := by decide +kernel
theorem dX8_init_48 : decode cX8_init 48 = .ok (.return_, 1) := by decide +kernel
theorem dX8_add_0 : decode cX8_add 0 = .ok (.aload_n 0, 1) := by decide +kernel
theorem dX8_add_1 : decode cX8_add 1 = .ok (.getfield 26, 3) := by decide +kernel
theorem dX8_add_4 : decode cX8_add 4 = .ok (.istore_n 3, 1) := by decide +kernel
theorem dX8_add_5 : decode cX8_add 5 = .ok (.iload_n 3, 1) := by decide +kernel
theorem dX8_add_6 : decode cX8_add 6 = .ok (.iconst 4, 1) := by decide +kernel
theorem dX8_add_7 : decode cX8_add 7 = .ok (.if_icmp .ge 58, 3) := by decide +kernel
theorem dX8_add_10 : decode cX8_add 10 = .ok (.aload_n 0, 1) := by decide +kernel
theorem dX8_add_11 : decode cX8_add 11 = .ok (.getfield 11, 3) := by decide +kernel
theorem dX8_add_14 : decode cX8_add 14 = .ok (.iload_n 3, 1) := by decide +kernel
theorem dX8_add_15 : decode cX8_add 15 = .ok (.aaload, 1) := by decide +kernel
theorem dX8_add_16 : decode cX8_add 16 = .ok (.invokevirtual 30, 3) := by decide +kernel
theorem dX8_add_19 : decode cX8_add 19 = .ok (.aload_n 0, 1) := by decide +kernel
theorem dX8_add_20 : decode cX8_add 20 = .ok (.getfield 11, 3) := by decide +kernel
theorem dX8_add_23 : decode cX8_add 23 = .ok (.iload_n 3, 1) := by decide +kernel
theorem dX8_add_24 : decode cX8_add 24 = .ok (.aaload, 1) := by decide +kernel
theorem dX8_add_25 : decode cX8_add 25 = .ok (.iload_n 1, 1) := by decide +kernel
theorem dX8_add_26 : decode cX8_add 26 = .ok (.bipush 10, 2) := by decide +kernel
theorem dX8_add_28 : decode cX8_add 28 = .ok (.idiv, 1) := by decide +kernel
theorem dX8_add_29 : decode cX8_add 29 = .ok (.putfield 33, 3) := by decide +kernel
theorem dX8_add_32 : decode cX8_add 32 = .ok (.aload_n 0, 1) := by decide +kernel
theorem dX8_add_33 : decode cX8_add 33 = .ok (.getfield 11, 3) := by decide +kernel
theorem dX8_add_36 : decode cX8_add 36 = .ok (.iload_n 3, 1) := by decide +kernel
theorem dX8_add_37 : decode cX8_add 37 = .ok (.aaload, 1) := by decide +kernel
theorem dX8_add_38 : decode cX8_add 38 = .ok (.iload_n 1, 1) := by decide +kernel
theorem dX8_add_39 : decode cX8_add 39 = .ok (.bipush 10, 2) := by decide +kernel
theorem dX8_add_41 : decode cX8_add 41 = .ok (.irem, 1) := by decide +kernel
theorem dX8_add_42 : decode cX8_add 42 = .ok (.putfield 36, 3) := by decide +kernel
theorem dX8_add_45 : decode cX8_add 45 = .ok (.aload_n 0, 1) := by decide +kernel
theorem dX8_add_46 : decode cX8_add 46 = .ok (.getfield 11, 3) := by decide +kernel
theorem dX8_add_49 : decode cX8_add 49 = .ok (.iload_n 3, 1) := by decide +kernel
theorem dX8_add_50 : decode cX8_add 50 = .ok (.aaload, 1) := by decide +kernel
theorem dX8_add_51 : decode cX8_add 51 = .ok (.iload_n 2, 1) := by decide +kernel
theorem dX8_add_52 : decode cX8_add 52 = .ok (.putfield 39, 3) := by decide +kernel
theorem dX8_add_55 : decode cX8_add 55 = .ok (.aload_n 0, 1) := by decide +kernel
theorem dX8_add_56 : decode cX8_add 56 = .ok (.dup, 1) := by decide +kernel
theorem dX8_add_57 : decode cX8_add 57 = .ok (.getfield 26, 3) := by decide +kernel
theorem dX8_add_60 : decode cX8_add 60 = .ok (.iconst 1, 1) := by decide +kernel
theorem dX8_add_61 : decode cX8_add 61 = .ok (.iadd, 1) := by decide +kernel
theorem dX8_add_62 : decode cX8_add 62 = .ok (.putfield 26, 3) := by decide +kernel
theorem dX8_add_65 : decode cX8_add 65 = .ok (.iload_n 3, 1) := by decide +kernel
theorem dX8_add_66 : decode cX8_add 66 = .ok (.ireturn, 1) := by decide +kernel
theorem dX8_copyFrom_0 : decode cX8_copyFrom 0 = .ok (.iconst 0, 1) := by decide +kernel
theorem dX8_copyFrom_1 : decode cX8_copyFrom 1 = .ok (.istore_n 2, 1) := by decide +kernel
theorem dX8_copyFrom_2 : decode cX8_copyFrom 2 = .ok (.iload_n 2, 1) := by decide +kernel
theorem dX8_copyFrom_3 : decode cX8_copyFrom 3 = .ok (.iconst 4, 1) := by decide +kernel
theorem dX8_copyFrom_4 : decode cX8_copyFrom 4 = .ok (.if_icmp .ge 24, 3) := by decide +kernel
theorem dX8_copyFrom_7 : decode cX8_copyFrom 7 = .ok (.aload_n 0, 1) := by decide +kernel
theorem dX8_copyFrom_8 : decode cX8_copyFrom 8 = .ok (.getfield 11, 3) := by decide +kernel
theorem dX8_copyFrom_11 : decode cX8_copyFrom 11 = .ok (.iload_n 2, 1) := by decide +kernel
theorem dX8_copyFrom_12 : decode cX8_copyFrom 12 = .ok (.aaload, 1) := by decide +kernel
theorem dX8_copyFrom_13 : decode cX8_copyFrom 13 = .ok (.aload_n 1, 1) := by decide +kernel
theorem dX8_copyFrom_14 : decode cX8_copyFrom 14 = .ok (.getfield 11, 3) := by decide +kernel
theorem dX8_copyFrom_17 : decode cX8_copyFrom 17 = .ok (.iload_n 2, 1) := by decide +kernel
theorem dX8_copyFrom_18 : decode cX8_copyFrom 18 = .ok (.aaload, 1) := by decide +kernel
theorem dX8_copyFrom_19 : decode cX8_copyFrom 19 = .ok (.invokevirtual 42, 3) := by decide +kernel
theorem dX8_copyFrom_22 : decode cX8_copyFrom 22 = .ok (.iinc 2 1, 3) := by decide +kernel
theorem dX8_copyFrom_25 : decode cX8_copyFrom 25 = .ok (.goto (-23), 3) := by decide +kernel
theorem dX8_copyFrom_28 : decode cX8_copyFrom 28 = .ok (.aload_n 0, 1) := by decide +kernel
theorem dX8_copyFrom_29 : decode cX8_copyFrom 29 = .ok (.aload_n 1, 1) := by decide +kernel
theorem dX8_copyFrom_30 : decode cX8_copyFrom 30 = .ok (.getfield 26, 3) := by decide +kernel
theorem dX8_copyFrom_33 : decode cX8_copyFrom 33 = .ok (.putfield 26, 3) := by decide +kernel
theorem dX8_copyFrom_36 : decode cX8_copyFrom 36 = .ok (.aload_n 0, 1) := by decide +kernel
theorem dX8_copyFrom_37 : decode cX8_copyFrom 37 = .ok (.aload_n 1, 1) := by decide +kernel
theorem dX8_copyFrom_38 : decode cX8_copyFrom 38 = .ok (.getfield 46, 3) := by decide +kernel
theorem dX8_copyFrom_41 : decode cX8_copyFrom 41 = .ok (.putfield 46, 3) := by decide +kernel
theorem dX8_copyFrom_44 : decode cX8_copyFrom 44 = .ok (.return_, 1) := by decide +kernel
theorem dX8_booksWith_0 : decode cX8_booksWith 0 = .ok (.iconst 0, 1) := by decide +kernel
theorem dX8_booksWith_1 : decode cX8_booksWith 1 = .ok (.istore_n 2, 1) := by decide +kernel
theorem dX8_booksWith_2 : decode cX8_booksWith 2 = .ok (.iconst 0, 1) := by decide +kernel
theorem dX8_booksWith_3 : decode cX8_booksWith 3 = .ok (.istore_n 3, 1) := by decide +kernel
theorem dX8_booksWith_4 : decode cX8_booksWith 4 = .ok (.iload_n 3, 1) := by decide +kernel
theorem dX8_booksWith_5 : decode cX8_booksWith 5 = .ok (.aload_n 0, 1) := by decide +kernel
theorem dX8_booksWith_6 : decode cX8_booksWith 6 = .ok (.getfield 26, 3) := by decide +kernel
theorem dX8_booksWith_9 : decode cX8_booksWith 9 = .ok (.if_icmp .ge 25, 3) := by decide +kernel
theorem dX8_booksWith_12 : decode cX8_booksWith 12 = .ok (.iload_n 2, 1) := by decide +kernel
theorem dX8_booksWith_13 : decode cX8_booksWith 13 = .ok (.aload_n 0, 1) := by decide +kernel
theorem dX8_booksWith_14 : decode cX8_booksWith 14 = .ok (.getfield 11, 3) := by decide +kernel
theorem dX8_booksWith_17 : decode cX8_booksWith 17 = .ok (.iload_n 3, 1) := by decide +kernel
theorem dX8_booksWith_18 : decode cX8_booksWith 18 = .ok (.aaload, 1) := by decide +kernel
theorem dX8_booksWith_19 : decode cX8_booksWith 19 = .ok (.getfield 49, 3) := by decide +kernel
theorem dX8_booksWith_22 : decode cX8_booksWith 22 = .ok (.iload_n 1, 1) := by decide +kernel
theorem dX8_booksWith_23 : decode cX8_booksWith 23 = .ok (.ishr, 1) := by decide +kernel
theorem dX8_booksWith_24 : decode cX8_booksWith 24 = .ok (.iconst 1, 1) := by decide +kernel
theorem dX8_booksWith_25 : decode cX8_booksWith 25 = .ok (.iand, 1) := by decide +kernel
theorem dX8_booksWith_26 : decode cX8_booksWith 26 = .ok (.iadd, 1) := by decide +kernel
theorem dX8_booksWith_27 : decode cX8_booksWith 27 = .ok (.istore_n 2, 1) := by decide +kernel
theorem dX8_booksWith_28 : decode cX8_booksWith 28 = .ok (.iinc 3 1, 3) := by decide +kernel
theorem dX8_booksWith_31 : decode cX8_booksWith 31 = .ok (.goto (-27), 3) := by decide +kernel
theorem dX8_booksWith_34 : decode cX8_booksWith 34 = .ok (.iload_n 2, 1) := by decide +kernel
theorem dX8_booksWith_35 : decode cX8_booksWith 35 = .ok (.ireturn, 1) := by decide +kernel
theorem dX8_firstWeekOf_0 : decode cX8_firstWeekOf 0 = .ok (.iconst (-1), 1) := by decide +kernel
theorem dX8_firstWeekOf_1 : decode cX8_firstWeekOf 1 = .ok (.istore_n 2, 1) := by decide +kernel
theorem dX8_firstWeekOf_2 : decode cX8_firstWeekOf 2 = .ok (.iconst 0, 1) := by decide +kernel
theorem dX8_firstWeekOf_3 : decode cX8_firstWeekOf 3 = .ok (.istore_n 3, 1) := by decide +kernel
theorem dX8_firstWeekOf_4 : decode cX8_firstWeekOf 4 = .ok (.iload_n 3, 1) := by decide +kernel
theorem dX8_firstWeekOf_5 : decode cX8_firstWeekOf 5 = .ok (.aload_n 0, 1) := by decide +kernel
theorem dX8_firstWeekOf_6 : decode cX8_firstWeekOf 6 = .ok (.getfield 26, 3) := by decide +kernel
theorem dX8_firstWeekOf_9 : decode cX8_firstWeekOf 9 = .ok (.if_icmp .ge 53, 3) := by decide +kernel
theorem dX8_firstWeekOf_12 : decode cX8_firstWeekOf 12 = .ok (.aload_n 0, 1) := by decide +kernel
theorem dX8_firstWeekOf_13 : decode cX8_firstWeekOf 13 = .ok (.getfield 11, 3) := by decide +kernel
theorem dX8_firstWeekOf_16 : decode cX8_firstWeekOf 16 = .ok (.iload_n 3, 1) := by decide +kernel
theorem dX8_firstWeekOf_17 : decode cX8_firstWeekOf 17 = .ok (.aaload, 1) := by decide +kernel
theorem dX8_firstWeekOf_18 : decode cX8_firstWeekOf 18 = .ok (.astore 4, 2) := by decide +kernel
theorem dX8_firstWeekOf_20 : decode cX8_firstWeekOf 20 = .ok (.aload 4, 2) := by decide +kernel
theorem dX8_firstWeekOf_22 : decode cX8_firstWeekOf 22 = .ok (.getfield 49, 3) := by decide +kernel
theorem dX8_firstWeekOf_25 : decode cX8_firstWeekOf 25 = .ok (.iload_n 1, 1) := by decide +kernel
theorem dX8_firstWeekOf_26 : decode cX8_firstWeekOf 26 = .ok (.ishr, 1) := by decide +kernel
theorem dX8_firstWeekOf_27 : decode cX8_firstWeekOf 27 = .ok (.iconst 1, 1) := by decide +kernel
theorem dX8_firstWeekOf_28 : decode cX8_firstWeekOf 28 = .ok (.iand, 1) := by decide +kernel
theorem dX8_firstWeekOf_29 : decode cX8_firstWeekOf 29 = .ok (.iconst 1, 1) := by decide +kernel
theorem dX8_firstWeekOf_30 : decode cX8_firstWeekOf 30 = .ok (.if_icmp .ne 26, 3) := by decide +kernel
theorem dX8_firstWeekOf_33 : decode cX8_firstWeekOf 33 = .ok (.iload_n 2, 1) := by decide +kernel
theorem dX8_firstWeekOf_34 : decode cX8_firstWeekOf 34 = .ok (.ifCond .lt 14, 3) := by decide +kernel
theorem dX8_firstWeekOf_37 : decode cX8_firstWeekOf 37 = .ok (.aload 4, 2) := by decide +kernel
theorem dX8_firstWeekOf_39 : decode cX8_firstWeekOf 39 = .ok (.getfield 52, 3) := by decide +kernel
theorem dX8_firstWeekOf_42 : decode cX8_firstWeekOf 42 = .ok (.iload_n 1, 1) := by decide +kernel
theorem dX8_firstWeekOf_43 : decode cX8_firstWeekOf 43 = .ok (.iaload, 1) := by decide +kernel
theorem dX8_firstWeekOf_44 : decode cX8_firstWeekOf 44 = .ok (.iload_n 2, 1) := by decide +kernel
theorem dX8_firstWeekOf_45 : decode cX8_firstWeekOf 45 = .ok (.if_icmp .ge 11, 3) := by decide +kernel
theorem dX8_firstWeekOf_48 : decode cX8_firstWeekOf 48 = .ok (.aload 4, 2) := by decide +kernel
theorem dX8_firstWeekOf_50 : decode cX8_firstWeekOf 50 = .ok (.getfield 52, 3) := by decide +kernel
theorem dX8_firstWeekOf_53 : decode cX8_firstWeekOf 53 = .ok (.iload_n 1, 1) := by decide +kernel
theorem dX8_firstWeekOf_54 : decode cX8_firstWeekOf 54 = .ok (.iaload, 1) := by decide +kernel
theorem dX8_firstWeekOf_55 : decode cX8_firstWeekOf 55 = .ok (.istore_n 2, 1) := by decide +kernel
theorem dX8_firstWeekOf_56 : decode cX8_firstWeekOf 56 = .ok (.iinc 3 1, 3) := by decide +kernel
theorem dX8_firstWeekOf_59 : decode cX8_firstWeekOf 59 = .ok (.goto (-55), 3) := by decide +kernel
theorem dX8_firstWeekOf_62 : decode cX8_firstWeekOf 62 = .ok (.iload_n 2, 1) := by decide +kernel
theorem dX8_firstWeekOf_63 : decode cX8_firstWeekOf 63 = .ok (.ireturn, 1) := by decide +kernel
theorem dX8_othersOf_0 : decode cX8_othersOf 0 = .ok (.iconst 0, 1) := by decide +kernel
theorem dX8_othersOf_1 : decode cX8_othersOf 1 = .ok (.istore_n 2, 1) := by decide +kernel
theorem dX8_othersOf_2 : decode cX8_othersOf 2 = .ok (.iconst 0, 1) := by decide +kernel
theorem dX8_othersOf_3 : decode cX8_othersOf 3 = .ok (.istore_n 3, 1) := by decide +kernel
theorem dX8_othersOf_4 : decode cX8_othersOf 4 = .ok (.iload_n 3, 1) := by decide +kernel
theorem dX8_othersOf_5 : decode cX8_othersOf 5 = .ok (.aload_n 0, 1) := by decide +kernel
theorem dX8_othersOf_6 : decode cX8_othersOf 6 = .ok (.getfield 26, 3) := by decide +kernel
theorem dX8_othersOf_9 : decode cX8_othersOf 9 = .ok (.if_icmp .ge 26, 3) := by decide +kernel
theorem dX8_othersOf_12 : decode cX8_othersOf 12 = .ok (.iload_n 3, 1) := by decide +kernel
theorem dX8_othersOf_13 : decode cX8_othersOf 13 = .ok (.iload_n 1, 1) := by decide +kernel
theorem dX8_othersOf_14 : decode cX8_othersOf 14 = .ok (.if_icmp .eq 15, 3) := by decide +kernel
theorem dX8_othersOf_17 : decode cX8_othersOf 17 = .ok (.iload_n 2, 1) := by decide +kernel
theorem dX8_othersOf_18 : decode cX8_othersOf 18 = .ok (.aload_n 0, 1) := by decide +kernel
theorem dX8_othersOf_19 : decode cX8_othersOf 19 = .ok (.getfield 11, 3) := by decide +kernel
theorem dX8_othersOf_22 : decode cX8_othersOf 22 = .ok (.iload_n 3, 1) := by decide +kernel
theorem dX8_othersOf_23 : decode cX8_othersOf 23 = .ok (.aaload, 1) := by decide +kernel
theorem dX8_othersOf_24 : decode cX8_othersOf 24 = .ok (.getfield 49, 3) := by decide +kernel
theorem dX8_othersOf_27 : decode cX8_othersOf 27 = .ok (.ior, 1) := by decide +kernel
theorem dX8_othersOf_28 : decode cX8_othersOf 28 = .ok (.istore_n 2, 1) := by decide +kernel
theorem dX8_othersOf_29 : decode cX8_othersOf 29 = .ok (.iinc 3 1, 3) := by decide +kernel
theorem dX8_othersOf_32 : decode cX8_othersOf 32 = .ok (.goto (-28), 3) := by decide +kernel
theorem dX8_othersOf_35 : decode cX8_othersOf 35 = .ok (.iload_n 2, 1) := by decide +kernel
theorem dX8_othersOf_36 : decode cX8_othersOf 36 = .ok (.ireturn, 1) := by decide +kernel
theorem dX8_debts_0 : decode cX8_debts 0 = .ok (.iconst 0, 1) := by decide +kernel
theorem dX8_debts_1 : decode cX8_debts 1 = .ok (.istore_n 1, 1) := by decide +kernel
theorem dX8_debts_2 : decode cX8_debts 2 = .ok (.iconst 0, 1) := by decide +kernel
theorem dX8_debts_3 : decode cX8_debts 3 = .ok (.istore_n 2, 1) := by decide +kernel
theorem dX8_debts_4 : decode cX8_debts 4 = .ok (.iload_n 2, 1) := by decide +kernel
theorem dX8_debts_5 : decode cX8_debts 5 = .ok (.aload_n 0, 1) := by decide +kernel
theorem dX8_debts_6 : decode cX8_debts 6 = .ok (.getfield 26, 3) := by decide +kernel
theorem dX8_debts_9 : decode cX8_debts 9 = .ok (.if_icmp .ge 21, 3) := by decide +kernel
theorem dX8_debts_12 : decode cX8_debts 12 = .ok (.iload_n 1, 1) := by decide +kernel
theorem dX8_debts_13 : decode cX8_debts 13 = .ok (.aload_n 0, 1) := by decide +kernel
theorem dX8_debts_14 : decode cX8_debts 14 = .ok (.getfield 11, 3) := by decide +kernel
theorem dX8_debts_17 : decode cX8_debts 17 = .ok (.iload_n 2, 1) := by decide +kernel
theorem dX8_debts_18 : decode cX8_debts 18 = .ok (.aaload, 1) := by decide +kernel
theorem dX8_debts_19 : decode cX8_debts 19 = .ok (.getfield 39, 3) := by decide +kernel
theorem dX8_debts_22 : decode cX8_debts 22 = .ok (.iadd, 1) := by decide +kernel
theorem dX8_debts_23 : decode cX8_debts 23 = .ok (.istore_n 1, 1) := by decide +kernel
theorem dX8_debts_24 : decode cX8_debts 24 = .ok (.iinc 2 1, 3) := by decide +kernel
theorem dX8_debts_27 : decode cX8_debts 27 = .ok (.goto (-23), 3) := by decide +kernel
theorem dX8_debts_30 : decode cX8_debts 30 = .ok (.iload_n 1, 1) := by decide +kernel
theorem dX8_debts_31 : decode cX8_debts 31 = .ok (.ireturn, 1) := by decide +kernel
theorem dX8_broken_0 : decode cX8_broken 0 = .ok (.iconst 0, 1) := by decide +kernel
theorem dX8_broken_1 : decode cX8_broken 1 = .ok (.istore_n 1, 1) := by decide +kernel
theorem dX8_broken_2 : decode cX8_broken 2 = .ok (.iconst 0, 1) := by decide +kernel
theorem dX8_broken_3 : decode cX8_broken 3 = .ok (.istore_n 2, 1) := by decide +kernel
theorem dX8_broken_4 : decode cX8_broken 4 = .ok (.iload_n 2, 1) := by decide +kernel
theorem dX8_broken_5 : decode cX8_broken 5 = .ok (.aload_n 0, 1) := by decide +kernel
theorem dX8_broken_6 : decode cX8_broken 6 = .ok (.getfield 26, 3) := by decide +kernel
theorem dX8_broken_9 : decode cX8_broken 9 = .ok (.if_icmp .ge 29, 3) := by decide +kernel
theorem dX8_broken_12 : decode cX8_broken 12 = .ok (.iload_n 1, 1) := by decide +kernel
theorem dX8_broken_13 : decode cX8_broken 13 = .ok (.aload_n 0, 1) := by decide +kernel
theorem dX8_broken_14 : decode cX8_broken 14 = .ok (.getfield 11, 3) := by decide +kernel
theorem dX8_broken_17 : decode cX8_broken 17 = .ok (.iload_n 2, 1) := by decide +kernel
theorem dX8_broken_18 : decode cX8_broken 18 = .ok (.aaload, 1) := by decide +kernel
theorem dX8_broken_19 : decode cX8_broken 19 = .ok (.getfield 56, 3) := by decide +kernel
theorem dX8_broken_22 : decode cX8_broken 22 = .ok (.ifCond .eq 7, 3) := by decide +kernel
theorem dX8_broken_25 : decode cX8_broken 25 = .ok (.iconst 1, 1) := by decide +kernel
theorem dX8_broken_26 : decode cX8_broken 26 = .ok (.goto 4, 3) := by decide +kernel
theorem dX8_broken_29 : decode cX8_broken 29 = .ok (.iconst 0, 1) := by decide +kernel
theorem dX8_broken_30 : decode cX8_broken 30 = .ok (.iadd, 1) := by decide +kernel
theorem dX8_broken_31 : decode cX8_broken 31 = .ok (.istore_n 1, 1) := by decide +kernel
theorem dX8_broken_32 : decode cX8_broken 32 = .ok (.iinc 2 1, 3) := by decide +kernel
theorem dX8_broken_35 : decode cX8_broken 35 = .ok (.goto (-31), 3) := by decide +kernel
theorem dX8_broken_38 : decode cX8_broken 38 = .ok (.iload_n 1, 1) := by decide +kernel
theorem dX8_broken_39 : decode cX8_broken 39 = .ok (.ireturn, 1) := by decide +kernel
theorem dX8_openOf_0 : decode cX8_openOf 0 = .ok (.aload_n 0, 1) := by decide +kernel
theorem dX8_openOf_1 : decode cX8_openOf 1 = .ok (.getfield 17, 3) := by decide +kernel
theorem dX8_openOf_4 : decode cX8_openOf 4 = .ok (.aload_n 0, 1) := by decide +kernel
theorem dX8_openOf_5 : decode cX8_openOf 5 = .ok (.getfield 11, 3) := by decide +kernel
theorem dX8_openOf_8 : decode cX8_openOf 8 = .ok (.iload_n 1, 1) := by decide +kernel
theorem dX8_openOf_9 : decode cX8_openOf 9 = .ok (.aaload, 1) := by decide +kernel
theorem dX8_openOf_10 : decode cX8_openOf 10 = .ok (.getfield 49, 3) := by decide +kernel
theorem dX8_openOf_13 : decode cX8_openOf 13 = .ok (.invokevirtual 60, 3) := by decide +kernel
theorem dX8_openOf_16 : decode cX8_openOf 16 = .ok (.invokestatic 66, 3) := by decide +kernel
theorem dX8_openOf_19 : decode cX8_openOf 19 = .ok (.ireturn, 1) := by decide +kernel
theorem dX8_mayTell_0 : decode cX8_mayTell 0 = .ok (.aload_n 0, 1) := by decide +kernel
theorem dX8_mayTell_1 : decode cX8_mayTell 1 = .ok (.getfield 11, 3) := by decide +kernel
theorem dX8_mayTell_4 : decode cX8_mayTell 4 = .ok (.iload_n 1, 1) := by decide +kernel
theorem dX8_mayTell_5 : decode cX8_mayTell 5 = .ok (.aaload, 1) := by decide +kernel
theorem dX8_mayTell_6 : decode cX8_mayTell 6 = .ok (.astore_n 2, 1) := by decide +kernel
theorem dX8_mayTell_7 : decode cX8_mayTell 7 = .ok (.aload_n 0, 1) := by decide +kernel
theorem dX8_mayTell_8 : decode cX8_mayTell 8 = .ok (.getfield 17, 3) := by decide +kernel
theorem dX8_mayTell_11 : decode cX8_mayTell 11 = .ok (.aload_n 2, 1) := by decide +kernel
theorem dX8_mayTell_12 : decode cX8_mayTell 12 = .ok (.getfield 33, 3) := by decide +kernel
theorem dX8_mayTell_15 : decode cX8_mayTell 15 = .ok (.aload_n 2, 1) := by decide +kernel
theorem dX8_mayTell_16 : decode cX8_mayTell 16 = .ok (.getfield 36, 3) := by decide +kernel
theorem dX8_mayTell_19 : decode cX8_mayTell 19 = .ok (.aload_n 2, 1) := by decide +kernel
theorem dX8_mayTell_20 : decode cX8_mayTell 20 = .ok (.getfield 49, 3) := by decide +kernel
theorem dX8_mayTell_23 : decode cX8_mayTell 23 = .ok (.aload_n 0, 1) := by decide +kernel
theorem dX8_mayTell_24 : decode cX8_mayTell 24 = .ok (.iload_n 1, 1) := by decide +kernel
theorem dX8_mayTell_25 : decode cX8_mayTell 25 = .ok (.invokevirtual 71, 3) := by decide +kernel
theorem dX8_mayTell_28 : decode cX8_mayTell 28 = .ok (.invokevirtual 74, 3) := by decide +kernel
theorem dX8_mayTell_31 : decode cX8_mayTell 31 = .ok (.ireturn, 1) := by decide +kernel
theorem dX8_write_0 : decode cX8_write 0 = .ok (.aload_n 0, 1) := by decide +kernel
theorem dX8_write_1 : decode cX8_write 1 = .ok (.getfield 11, 3) := by decide +kernel
theorem dX8_write_4 : decode cX8_write 4 = .ok (.iload_n 1, 1) := by decide +kernel
theorem dX8_write_5 : decode cX8_write 5 = .ok (.aaload, 1) := by decide +kernel
theorem dX8_write_6 : decode cX8_write 6 = .ok (.astore_n 3, 1) := by decide +kernel
theorem dX8_write_7 : decode cX8_write 7 = .ok (.aload_n 0, 1) := by decide +kernel
theorem dX8_write_8 : decode cX8_write 8 = .ok (.getfield 21, 3) := by decide +kernel
theorem dX8_write_11 : decode cX8_write 11 = .ok (.iload_n 2, 1) := by decide +kernel
theorem dX8_write_12 : decode cX8_write 12 = .ok (.aload_n 0, 1) := by decide +kernel
theorem dX8_write_13 : decode cX8_write 13 = .ok (.getfield 46, 3) := by decide +kernel
theorem dX8_write_16 : decode cX8_write 16 = .ok (.aload_n 3, 1) := by decide +kernel
theorem dX8_write_17 : decode cX8_write 17 = .ok (.getfield 39, 3) := by decide +kernel
theorem dX8_write_20 : decode cX8_write 20 = .ok (.invokevirtual 78, 3) := by decide +kernel
theorem dX8_write_23 : decode cX8_write 23 = .ok (.istore 4, 2) := by decide +kernel
theorem dX8_write_25 : decode cX8_write 25 = .ok (.aload_n 3, 1) := by decide +kernel
theorem dX8_write_26 : decode cX8_write 26 = .ok (.getfield 33, 3) := by decide +kernel
theorem dX8_write_29 : decode cX8_write 29 = .ok (.iconst 1, 1) := by decide +kernel
theorem dX8_write_30 : decode cX8_write 30 = .ok (.if_icmp .eq 11, 3) := by decide +kernel
theorem dX8_write_33 : decode cX8_write 33 = .ok (.aload_n 3, 1) := by decide +kernel
theorem dX8_write_34 : decode cX8_write 34 = .ok (.getfield 33, 3) := by decide +kernel
theorem dX8_write_37 : decode cX8_write 37 = .ok (.iconst 4, 1) := by decide +kernel
theorem dX8_write_38 : decode cX8_write 38 = .ok (.if_icmp .ne 12, 3) := by decide +kernel
theorem dX8_write_41 : decode cX8_write 41 = .ok (.iload 4, 2) := by decide +kernel
theorem dX8_write_43 : decode cX8_write 43 = .ok (.iconst 2, 1) := by decide +kernel
theorem dX8_write_44 : decode cX8_write 44 = .ok (.idiv, 1) := by decide +kernel
theorem dX8_write_45 : decode cX8_write 45 = .ok (.istore 4, 2) := by decide +kernel
theorem dX8_write_47 : decode cX8_write 47 = .ok (.goto 17, 3) := by decide +kernel
theorem dX8_write_50 : decode cX8_write 50 = .ok (.aload_n 3, 1) := by decide +kernel
theorem dX8_write_51 : decode cX8_write 51 = .ok (.getfield 33, 3) := by decide +kernel
theorem dX8_write_54 : decode cX8_write 54 = .ok (.iconst 5, 1) := by decide +kernel
theorem dX8_write_55 : decode cX8_write 55 = .ok (.if_icmp .ne 9, 3) := by decide +kernel
theorem dX8_write_58 : decode cX8_write 58 = .ok (.iload 4, 2) := by decide +kernel
theorem dX8_write_60 : decode cX8_write 60 = .ok (.iconst 2, 1) := by decide +kernel
theorem dX8_write_61 : decode cX8_write 61 = .ok (.imul, 1) := by decide +kernel
theorem dX8_write_62 : decode cX8_write 62 = .ok (.istore 4, 2) := by decide +kernel
theorem dX8_write_64 : decode cX8_write 64 = .ok (.aload_n 3, 1) := by decide +kernel
theorem dX8_write_65 : decode cX8_write 65 = .ok (.iconst 0, 1) := by decide +kernel
theorem dX8_write_66 : decode cX8_write 66 = .ok (.aload_n 3, 1) := by decide +kernel
theorem dX8_write_67 : decode cX8_write 67 = .ok (.getfield 39, 3) := by decide +kernel
theorem dX8_write_70 : decode cX8_write 70 = .ok (.iload 4, 2) := by decide +kernel
theorem dX8_write_72 : decode cX8_write 72 = .ok (.isub, 1) := by decide +kernel
theorem dX8_write_73 : decode cX8_write 73 = .ok (.invokestatic 84, 3) := by decide +kernel
theorem dX8_write_76 : decode cX8_write 76 = .ok (.putfield 39, 3) := by decide +kernel
theorem dX8_write_79 : decode cX8_write 79 = .ok (.aload_n 3, 1) := by decide +kernel
theorem dX8_write_80 : decode cX8_write 80 = .ok (.iload_n 2, 1) := by decide +kernel
theorem dX8_write_81 : decode cX8_write 81 = .ok (.aload_n 0, 1) := by decide +kernel
theorem dX8_write_82 : decode cX8_write 82 = .ok (.getfield 46, 3) := by decide +kernel
theorem dX8_write_85 : decode cX8_write 85 = .ok (.invokevirtual 90, 3) := by decide +kernel
theorem dX8_write_88 : decode cX8_write 88 = .ok (.return_, 1) := by decide +kernel
theorem dX8_passWeeks_0 : decode cX8_passWeeks 0 = .ok (.iconst 0, 1) := by decide +kernel
theorem dX8_passWeeks_1 : decode cX8_passWeeks 1 = .ok (.istore_n 2, 1) := by decide +kernel
theorem dX8_passWeeks_2 : decode cX8_passWeeks 2 = .ok (.iload_n 2, 1) := by decide +kernel
theorem dX8_passWeeks_3 : decode cX8_passWeeks 3 = .ok (.iload_n 1, 1) := by decide +kernel
theorem dX8_passWeeks_4 : decode cX8_passWeeks 4 = .ok (.if_icmp .ge 15, 3) := by decide +kernel
theorem dX8_passWeeks_7 : decode cX8_passWeeks 7 = .ok (.aload_n 0, 1) := by decide +kernel
theorem dX8_passWeeks_8 : decode cX8_passWeeks 8 = .ok (.iconst (-1), 1) := by decide +kernel
theorem dX8_passWeeks_9 : decode cX8_passWeeks 9 = .ok (.iconst 0, 1) := by decide +kernel
theorem dX8_passWeeks_10 : decode cX8_passWeeks 10 = .ok (.invokevirtual 94, 3) := by decide +kernel
theorem dX8_passWeeks_13 : decode cX8_passWeeks 13 = .ok (.iinc 2 1, 3) := by decide +kernel
theorem dX8_passWeeks_16 : decode cX8_passWeeks 16 = .ok (.goto (-14), 3) := by decide +kernel
theorem dX8_passWeeks_19 : decode cX8_passWeeks 19 = .ok (.return_, 1) := by decide +kernel
theorem dX8_passWeek_0 : decode cX8_passWeek 0 = .ok (.iconst 0, 1) := by decide +kernel
theorem dX8_passWeek_1 : decode cX8_passWeek 1 = .ok (.istore_n 3, 1) := by decide +kernel
theorem dX8_passWeek_2 : decode cX8_passWeek 2 = .ok (.iload_n 3, 1) := by decide +kernel
theorem dX8_passWeek_3 : decode cX8_passWeek 3 = .ok (.aload_n 0, 1) := by decide +kernel
theorem dX8_passWeek_4 : decode cX8_passWeek 4 = .ok (.getfield 26, 3) := by decide +kernel
theorem dX8_passWeek_7 : decode cX8_passWeek 7 = .ok (.if_icmp .ge 56, 3) := by decide +kernel
theorem dX8_passWeek_10 : decode cX8_passWeek 10 = .ok (.aload_n 0, 1) := by decide +kernel
theorem dX8_passWeek_11 : decode cX8_passWeek 11 = .ok (.getfield 11, 3) := by decide +kernel
theorem dX8_passWeek_14 : decode cX8_passWeek 14 = .ok (.iload_n 3, 1) := by decide +kernel
theorem dX8_passWeek_15 : decode cX8_passWeek 15 = .ok (.aaload, 1) := by decide +kernel
theorem dX8_passWeek_16 : decode cX8_passWeek 16 = .ok (.getfield 56, 3) := by decide +kernel
theorem dX8_passWeek_19 : decode cX8_passWeek 19 = .ok (.ifCond .ne 38, 3) := by decide +kernel
theorem dX8_passWeek_22 : decode cX8_passWeek 22 = .ok (.aload_n 0, 1) := by decide +kernel
theorem dX8_passWeek_23 : decode cX8_passWeek 23 = .ok (.getfield 11, 3) := by decide +kernel
theorem dX8_passWeek_26 : decode cX8_passWeek 26 = .ok (.iload_n 3, 1) := by decide +kernel
theorem dX8_passWeek_27 : decode cX8_passWeek 27 = .ok (.aaload, 1) := by decide +kernel
theorem dX8_passWeek_28 : decode cX8_passWeek 28 = .ok (.getfield 39, 3) := by decide +kernel
theorem dX8_passWeek_31 : decode cX8_passWeek 31 = .ok (.ifCond .le 26, 3) := by decide +kernel
theorem dX8_passWeek_34 : decode cX8_passWeek 34 = .ok (.aload_n 0, 1) := by decide +kernel
theorem dX8_passWeek_35 : decode cX8_passWeek 35 = .ok (.iload_n 3, 1) := by decide +kernel
theorem dX8_passWeek_36 : decode cX8_passWeek 36 = .ok (.iload_n 3, 1) := by decide +kernel
theorem dX8_passWeek_37 : decode cX8_passWeek 37 = .ok (.iload_n 1, 1) := by decide +kernel
theorem dX8_passWeek_38 : decode cX8_passWeek 38 = .ok (.if_icmp .ne 7, 3) := by decide +kernel
theorem dX8_passWeek_41 : decode cX8_passWeek 41 = .ok (.iload_n 2, 1) := by decide +kernel
theorem dX8_passWeek_42 : decode cX8_passWeek 42 = .ok (.goto 12, 3) := by decide +kernel
theorem dX8_passWeek_45 : decode cX8_passWeek 45 = .ok (.aload_n 0, 1) := by decide +kernel
theorem dX8_passWeek_46 : decode cX8_passWeek 46 = .ok (.getfield 11, 3) := by decide +kernel
theorem dX8_passWeek_49 : decode cX8_passWeek 49 = .ok (.iload_n 3, 1) := by decide +kernel
theorem dX8_passWeek_50 : decode cX8_passWeek 50 = .ok (.aaload, 1) := by decide +kernel
theorem dX8_passWeek_51 : decode cX8_passWeek 51 = .ok (.invokevirtual 97, 3) := by decide +kernel
theorem dX8_passWeek_54 : decode cX8_passWeek 54 = .ok (.invokevirtual 101, 3) := by decide +kernel
theorem dX8_passWeek_57 : decode cX8_passWeek 57 = .ok (.iinc 3 1, 3) := by decide +kernel
theorem dX8_passWeek_60 : decode cX8_passWeek 60 = .ok (.goto (-58), 3) := by decide +kernel
theorem dX8_passWeek_63 : decode cX8_passWeek 63 = .ok (.aload_n 0, 1) := by decide +kernel
theorem dX8_passWeek_64 : decode cX8_passWeek 64 = .ok (.dup, 1) := by decide +kernel
theorem dX8_passWeek_65 : decode cX8_passWeek 65 = .ok (.getfield 46, 3) := by decide +kernel
theorem dX8_passWeek_68 : decode cX8_passWeek 68 = .ok (.iconst 1, 1) := by decide +kernel
theorem dX8_passWeek_69 : decode cX8_passWeek 69 = .ok (.iadd, 1) := by decide +kernel
theorem dX8_passWeek_70 : decode cX8_passWeek 70 = .ok (.putfield 46, 3) := by decide +kernel
theorem dX8_passWeek_73 : decode cX8_passWeek 73 = .ok (.return_, 1) := by decide +kernel
theorem dX8_serve_0 : decode cX8_serve 0 = .ok (.aload_n 0, 1) := by decide +kernel
theorem dX8_serve_1 : decode cX8_serve 1 = .ok (.getfield 11, 3) := by decide +kernel
theorem dX8_serve_4 : decode cX8_serve 4 = .ok (.iload_n 1, 1) := by decide +kernel
theorem dX8_serve_5 : decode cX8_serve 5 = .ok (.aaload, 1) := by decide +kernel
theorem dX8_serve_6 : decode cX8_serve 6 = .ok (.astore_n 3, 1) := by decide +kernel
theorem dX8_serve_7 : decode cX8_serve 7 = .ok (.iconst 0, 1) := by decide +kernel
theorem dX8_serve_8 : decode cX8_serve 8 = .ok (.istore 4, 2) := by decide +kernel
theorem dX8_serve_10 : decode cX8_serve 10 = .ok (.iload 4, 2) := by decide +kernel
theorem dX8_serve_12 : decode cX8_serve 12 = .ok (.iload_n 2, 1) := by decide +kernel
theorem dX8_serve_13 : decode cX8_serve 13 = .ok (.if_icmp .ge 53, 3) := by decide +kernel
theorem dX8_serve_16 : decode cX8_serve 16 = .ok (.aload_n 3, 1) := by decide +kernel
theorem dX8_serve_17 : decode cX8_serve 17 = .ok (.getfield 39, 3) := by decide +kernel
theorem dX8_serve_20 : decode cX8_serve 20 = .ok (.ifCond .le 46, 3) := by decide +kernel
theorem dX8_serve_23 : decode cX8_serve 23 = .ok (.aload_n 3, 1) := by decide +kernel
theorem dX8_serve_24 : decode cX8_serve 24 = .ok (.getfield 56, 3) := by decide +kernel
theorem dX8_serve_27 : decode cX8_serve 27 = .ok (.ifCond .ne 39, 3) := by decide +kernel
theorem dX8_serve_30 : decode cX8_serve 30 = .ok (.aload_n 0, 1) := by decide +kernel
theorem dX8_serve_31 : decode cX8_serve 31 = .ok (.iload_n 1, 1) := by decide +kernel
theorem dX8_serve_32 : decode cX8_serve 32 = .ok (.invokevirtual 104, 3) := by decide +kernel
theorem dX8_serve_35 : decode cX8_serve 35 = .ok (.istore 5, 2) := by decide +kernel
theorem dX8_serve_37 : decode cX8_serve 37 = .ok (.iload 5, 2) := by decide +kernel
theorem dX8_serve_39 : decode cX8_serve 39 = .ok (.ifCond .ne 11, 3) := by decide +kernel
theorem dX8_serve_42 : decode cX8_serve 42 = .ok (.aload_n 3, 1) := by decide +kernel
theorem dX8_serve_43 : decode cX8_serve 43 = .ok (.iconst 1, 1) := by decide +kernel
theorem dX8_serve_44 : decode cX8_serve 44 = .ok (.putfield 56, 3) := by decide +kernel
theorem dX8_serve_47 : decode cX8_serve 47 = .ok (.goto 13, 3) := by decide +kernel
theorem dX8_serve_50 : decode cX8_serve 50 = .ok (.aload_n 0, 1) := by decide +kernel
theorem dX8_serve_51 : decode cX8_serve 51 = .ok (.iload_n 1, 1) := by decide +kernel
theorem dX8_serve_52 : decode cX8_serve 52 = .ok (.iload 5, 2) := by decide +kernel
theorem dX8_serve_54 : decode cX8_serve 54 = .ok (.invokestatic 106, 3) := by decide +kernel
theorem dX8_serve_57 : decode cX8_serve 57 = .ok (.invokevirtual 109, 3) := by decide +kernel
theorem dX8_serve_60 : decode cX8_serve 60 = .ok (.iinc 4 1, 3) := by decide +kernel
theorem dX8_serve_63 : decode cX8_serve 63 = .ok (.goto (-53), 3) := by decide +kernel
theorem dX8_serve_66 : decode cX8_serve 66 = .ok (.aload_n 0, 1) := by decide +kernel
theorem dX8_serve_67 : decode cX8_serve 67 = .ok (.getfield 17, 3) := by decide +kernel
theorem dX8_serve_70 : decode cX8_serve 70 = .ok (.aload_n 3, 1) := by decide +kernel
theorem dX8_serve_71 : decode cX8_serve 71 = .ok (.getfield 49, 3) := by decide +kernel
theorem dX8_serve_74 : decode cX8_serve 74 = .ok (.aload_n 3, 1) := by decide +kernel
theorem dX8_serve_75 : decode cX8_serve 75 = .ok (.getfield 52, 3) := by decide +kernel
theorem dX8_serve_78 : decode cX8_serve 78 = .ok (.aload_n 0, 1) := by decide +kernel
theorem dX8_serve_79 : decode cX8_serve 79 = .ok (.getfield 46, 3) := by decide +kernel
theorem dX8_serve_82 : decode cX8_serve 82 = .ok (.invokevirtual 112, 3) := by decide +kernel
theorem dX8_serve_85 : decode cX8_serve 85 = .ok (.ifCond .eq 8, 3) := by decide +kernel
theorem dX8_serve_88 : decode cX8_serve 88 = .ok (.aload_n 3, 1) := by decide +kernel
theorem dX8_serve_89 : decode cX8_serve 89 = .ok (.iconst 1, 1) := by decide +kernel
theorem dX8_serve_90 : decode cX8_serve 90 = .ok (.putfield 56, 3) := by decide +kernel
theorem dX8_serve_93 : decode cX8_serve 93 = .ok (.return_, 1) := by decide +kernel
theorem dX9_init_0 : decode cX9_init 0 = .ok (.aload_n 0, 1) := by decide +kernel
theorem dX9_init_1 : decode cX9_init 1 = .ok (.invokespecial 3, 3) := by decide +kernel
theorem dX9_init_4 : decode cX9_init 4 = .ok (.aload_n 0, 1) := by decide +kernel
theorem dX9_init_5 : decode cX9_init 5 = .ok (.bipush 40, 2) := by decide +kernel
theorem dX9_init_7 : decode cX9_init 7 = .ok (.newarray .int, 2) := by decide +kernel
theorem dX9_init_9 : decode cX9_init 9 = .ok (.putfield 9, 3) := by decide +kernel
theorem dX9_init_12 : decode cX9_init 12 = .ok (.return_, 1) := by decide +kernel
theorem dX9_begin_0 : decode cX9_begin 0 = .ok (.aload_n 0, 1) := by decide +kernel
theorem dX9_begin_1 : decode cX9_begin 1 = .ok (.iload_n 1, 1) := by decide +kernel
theorem dX9_begin_2 : decode cX9_begin 2 = .ok (.putfield 15, 3) := by decide +kernel
theorem dX9_begin_5 : decode cX9_begin 5 = .ok (.aload_n 0, 1) := by decide +kernel
theorem dX9_begin_6 : decode cX9_begin 6 = .ok (.iload_n 2, 1) := by decide +kernel
theorem dX9_begin_7 : decode cX9_begin 7 = .ok (.putfield 19, 3) := by decide +kernel
theorem dX9_begin_10 : decode cX9_begin 10 = .ok (.aload_n 0, 1) := by decide +kernel
theorem dX9_begin_11 : decode cX9_begin 11 = .ok (.iload_n 3, 1) := by decide +kernel
theorem dX9_begin_12 : decode cX9_begin 12 = .ok (.putfield 22, 3) := by decide +kernel
theorem dX9_begin_15 : decode cX9_begin 15 = .ok (.aload_n 0, 1) := by decide +kernel
theorem dX9_begin_16 : decode cX9_begin 16 = .ok (.iconst 0, 1) := by decide +kernel
theorem dX9_begin_17 : decode cX9_begin 17 = .ok (.putfield 25, 3) := by decide +kernel
theorem dX9_begin_20 : decode cX9_begin 20 = .ok (.aload_n 0, 1) := by decide +kernel
theorem dX9_begin_21 : decode cX9_begin 21 = .ok (.iload_n 1, 1) := by decide +kernel
theorem dX9_begin_22 : decode cX9_begin 22 = .ok (.iload 4, 2) := by decide +kernel
theorem dX9_begin_24 : decode cX9_begin 24 = .ok (.iload 5, 2) := by decide +kernel
theorem dX9_begin_26 : decode cX9_begin 26 = .ok (.iconst 0, 1) := by decide +kernel
theorem dX9_begin_27 : decode cX9_begin 27 = .ok (.invokevirtual 28, 3) := by decide +kernel
theorem dX9_begin_30 : decode cX9_begin 30 = .ok (.ireturn, 1) := by decide +kernel
theorem dX9_says_0 : decode cX9_says 0 = .ok (.iload_n 1, 1) := by decide +kernel
theorem dX9_says_1 : decode cX9_says 1 = .ok (.iload_n 2, 1) := by decide +kernel
theorem dX9_says_2 : decode cX9_says 2 = .ok (.invokestatic 32, 3) := by decide +kernel
theorem dX9_says_5 : decode cX9_says 5 = .ok (.istore 5, 2) := by decide +kernel
theorem dX9_says_7 : decode cX9_says 7 = .ok (.iload 5, 2) := by decide +kernel
theorem dX9_says_9 : decode cX9_says 9 = .ok (.ifCond .lt 10, 3) := by decide +kernel
theorem dX9_says_12 : decode cX9_says 12 = .ok (.iload 4, 2) := by decide +kernel
theorem dX9_says_14 : decode cX9_says 14 = .ok (.bipush 20, 2) := by decide +kernel
theorem dX9_says_16 : decode cX9_says 16 = .ok (.if_icmp .le 5, 3) := by decide +kernel
theorem dX9_says_19 : decode cX9_says 19 = .ok (.iconst 0, 1) := by decide +kernel
theorem dX9_says_20 : decode cX9_says 20 = .ok (.ireturn, 1) := by decide +kernel
theorem dX9_says_21 : decode cX9_says 21 = .ok (.getstatic 36, 3) := by decide +kernel
theorem dX9_says_24 : decode cX9_says 24 = .ok (.iload 5, 2) := by decide +kernel
theorem dX9_says_26 : decode cX9_says 26 = .ok (.iconst 4, 1) := by decide +kernel
theorem dX9_says_27 : decode cX9_says 27 = .ok (.imul, 1) := by decide +kernel
theorem dX9_says_28 : decode cX9_says 28 = .ok (.iload_n 2, 1) := by decide +kernel
theorem dX9_says_29 : decode cX9_says 29 = .ok (.iadd, 1) := by decide +kernel
theorem dX9_says_30 : decode cX9_says 30 = .ok (.iaload, 1) := by decide +kernel
theorem dX9_says_31 : decode cX9_says 31 = .ok (.istore 6, 2) := by decide +kernel
theorem dX9_says_33 : decode cX9_says 33 = .ok (.getstatic 39, 3) := by decide +kernel
theorem dX9_says_36 : decode cX9_says 36 = .ok (.iload 5, 2) := by decide +kernel
theorem dX9_says_38 : decode cX9_says 38 = .ok (.iaload, 1) := by decide +kernel
theorem dX9_says_39 : decode cX9_says 39 = .ok (.istore 7, 2) := by decide +kernel
theorem dX9_says_41 : decode cX9_says 41 = .ok (.iload 4, 2) := by decide +kernel
theorem dX9_says_43 : decode cX9_says 43 = .ok (.iconst 1, 1) := by decide +kernel
theorem dX9_says_44 : decode cX9_says 44 = .ok (.iadd, 1) := by decide +kernel
theorem dX9_says_45 : decode cX9_says 45 = .ok (.istore 8, 2) := by decide +kernel
theorem dX9_says_47 : decode cX9_says 47 = .ok (.aload_n 0, 1) := by decide +kernel
theorem dX9_says_48 : decode cX9_says 48 = .ok (.iload 6, 2) := by decide +kernel
theorem dX9_says_50 : decode cX9_says 50 = .ok (.invokevirtual 42, 3) := by decide +kernel
theorem dX9_says_53 : decode cX9_says 53 = .ok (.iload 6, 2) := by decide +kernel
theorem dX9_says_55 : decode cX9_says 55 = .ok (.lookupswitch 278 #[(10, 97), (11, 104), (12, 119), (13, 126), (20, 152), (30, 176), (40, 189), (50, 201), (60, 214), (70, 238), (71, 254)], 97) := by decide +kernel
theorem dX9_says_152 : decode cX9_says 152 = .ok (.iload_n 3, 1) := by decide +kernel
theorem dX9_says_153 : decode cX9_says 153 = .ok (.aload_n 0, 1) := by decide +kernel
theorem dX9_says_154 : decode cX9_says 154 = .ok (.getfield 19, 3) := by decide +kernel
theorem dX9_says_157 : decode cX9_says 157 = .ok (.iadd, 1) := by decide +kernel
theorem dX9_says_158 : decode cX9_says 158 = .ok (.ireturn, 1) := by decide +kernel
theorem dX9_says_159 : decode cX9_says 159 = .ok (.aload_n 0, 1) := by decide +kernel
theorem dX9_says_160 : decode cX9_says 160 = .ok (.aload_n 0, 1) := by decide +kernel
theorem dX9_says_161 : decode cX9_says 161 = .ok (.getfield 15, 3) := by decide +kernel
theorem dX9_says_164 : decode cX9_says 164 = .ok (.iconst 0, 1) := by decide +kernel
theorem dX9_says_165 : decode cX9_says 165 = .ok (.iload_n 3, 1) := by decide +kernel
theorem dX9_says_166 : decode cX9_says 166 = .ok (.iload 8, 2) := by decide +kernel
theorem dX9_says_168 : decode cX9_says 168 = .ok (.invokevirtual 28, 3) := by decide +kernel
theorem dX9_says_171 : decode cX9_says 171 = .ok (.iconst 2, 1) := by decide +kernel
theorem dX9_says_172 : decode cX9_says 172 = .ok (.imul, 1) := by decide +kernel
theorem dX9_says_173 : decode cX9_says 173 = .ok (.ireturn, 1) := by decide +kernel
theorem dX9_says_174 : decode cX9_says 174 = .ok (.iload_n 3, 1) := by decide +kernel
theorem dX9_says_175 : decode cX9_says 175 = .ok (.aload_n 0, 1) := by decide +kernel
theorem dX9_says_176 : decode cX9_says 176 = .ok (.getfield 22, 3) := by decide +kernel
theorem dX9_says_179 : decode cX9_says 179 = .ok (.isub, 1) := by decide +kernel
theorem dX9_says_180 : decode cX9_says 180 = .ok (.ireturn, 1) := by decide +kernel
theorem dX9_says_181 : decode cX9_says 181 = .ok (.aload_n 0, 1) := by decide +kernel
theorem dX9_says_182 : decode cX9_says 182 = .ok (.aload_n 0, 1) := by decide +kernel
theorem dX9_says_183 : decode cX9_says 183 = .ok (.getfield 15, 3) := by decide +kernel
theorem dX9_says_186 : decode cX9_says 186 = .ok (.iconst 1, 1) := by decide +kernel
theorem dX9_says_187 : decode cX9_says 187 = .ok (.iload_n 3, 1) := by decide +kernel
theorem dX9_says_188 : decode cX9_says 188 = .ok (.iload 8, 2) := by decide +kernel
theorem dX9_says_190 : decode cX9_says 190 = .ok (.invokevirtual 28, 3) := by decide +kernel
theorem dX9_says_193 : decode cX9_says 193 = .ok (.aload_n 0, 1) := by decide +kernel
theorem dX9_says_194 : decode cX9_says 194 = .ok (.aload_n 0, 1) := by decide +kernel
theorem dX9_says_195 : decode cX9_says 195 = .ok (.getfield 15, 3) := by decide +kernel
theorem dX9_says_198 : decode cX9_says 198 = .ok (.iconst 2, 1) := by decide +kernel
theorem dX9_says_199 : decode cX9_says 199 = .ok (.iload_n 3, 1) := by decide +kernel
theorem dX9_says_200 : decode cX9_says 200 = .ok (.iload 8, 2) := by decide +kernel
theorem dX9_says_202 : decode cX9_says 202 = .ok (.invokevirtual 28, 3) := by decide +kernel
theorem dX9_says_205 : decode cX9_says 205 = .ok (.ixor, 1) := by decide +kernel
theorem dX9_says_206 : decode cX9_says 206 = .ok (.ireturn, 1) := by decide +kernel
theorem dX9_says_207 : decode cX9_says 207 = .ok (.aload_n 0, 1) := by decide +kernel
theorem dX9_says_208 : decode cX9_says 208 = .ok (.iload 7, 2) := by decide +kernel
theorem dX9_says_210 : decode cX9_says 210 = .ok (.iconst 1, 1) := by decide +kernel
theorem dX9_says_211 : decode cX9_says 211 = .ok (.iload_n 3, 1) := by decide +kernel
theorem dX9_says_212 : decode cX9_says 212 = .ok (.iload 8, 2) := by decide +kernel
theorem dX9_says_214 : decode cX9_says 214 = .ok (.invokevirtual 28, 3) := by decide +kernel
theorem dX9_says_217 : decode cX9_says 217 = .ok (.aload_n 0, 1) := by decide +kernel
theorem dX9_says_218 : decode cX9_says 218 = .ok (.aload_n 0, 1) := by decide +kernel
theorem dX9_says_219 : decode cX9_says 219 = .ok (.getfield 15, 3) := by decide +kernel
theorem dX9_says_222 : decode cX9_says 222 = .ok (.iconst 2, 1) := by decide +kernel
theorem dX9_says_223 : decode cX9_says 223 = .ok (.iconst 1, 1) := by decide +kernel
theorem dX9_says_224 : decode cX9_says 224 = .ok (.iload 8, 2) := by decide +kernel
theorem dX9_says_226 : decode cX9_says 226 = .ok (.invokevirtual 28, 3) := by decide +kernel
theorem dX9_says_229 : decode cX9_says 229 = .ok (.isub, 1) := by decide +kernel
theorem dX9_says_230 : decode cX9_says 230 = .ok (.ireturn, 1) := by decide +kernel
theorem dX9_says_231 : decode cX9_says 231 = .ok (.aload_n 0, 1) := by decide +kernel
theorem dX9_says_232 : decode cX9_says 232 = .ok (.iload 7, 2) := by decide +kernel
theorem dX9_says_234 : decode cX9_says 234 = .ok (.iconst 0, 1) := by decide +kernel
theorem dX9_says_235 : decode cX9_says 235 = .ok (.iload_n 3, 1) := by decide +kernel
theorem dX9_says_236 : decode cX9_says 236 = .ok (.iload 8, 2) := by decide +kernel
theorem dX9_says_238 : decode cX9_says 238 = .ok (.invokevirtual 28, 3) := by decide +kernel
theorem dX9_says_241 : decode cX9_says 241 = .ok (.iconst 3, 1) := by decide +kernel
theorem dX9_says_242 : decode cX9_says 242 = .ok (.imul, 1) := by decide +kernel
theorem dX9_says_243 : decode cX9_says 243 = .ok (.ireturn, 1) := by decide +kernel
theorem dX9_says_244 : decode cX9_says 244 = .ok (.aload_n 0, 1) := by decide +kernel
theorem dX9_says_245 : decode cX9_says 245 = .ok (.iload 7, 2) := by decide +kernel
theorem dX9_says_247 : decode cX9_says 247 = .ok (.iconst 2, 1) := by decide +kernel
theorem dX9_says_248 : decode cX9_says 248 = .ok (.iload_n 3, 1) := by decide +kernel
theorem dX9_says_249 : decode cX9_says 249 = .ok (.iload 8, 2) := by decide +kernel
theorem dX9_says_251 : decode cX9_says 251 = .ok (.invokevirtual 28, 3) := by decide +kernel
theorem dX9_says_254 : decode cX9_says 254 = .ok (.ineg, 1) := by decide +kernel
theorem dX9_says_255 : decode cX9_says 255 = .ok (.ireturn, 1) := by decide +kernel
theorem dX9_says_256 : decode cX9_says 256 = .ok (.aload_n 0, 1) := by decide +kernel
theorem dX9_says_257 : decode cX9_says 257 = .ok (.iload 7, 2) := by decide +kernel
theorem dX9_says_259 : decode cX9_says 259 = .ok (.iconst 1, 1) := by decide +kernel
theorem dX9_says_260 : decode cX9_says 260 = .ok (.iload_n 3, 1) := by decide +kernel
theorem dX9_says_261 : decode cX9_says 261 = .ok (.iconst 1, 1) := by decide +kernel
theorem dX9_says_262 : decode cX9_says 262 = .ok (.iadd, 1) := by decide +kernel
theorem dX9_says_263 : decode cX9_says 263 = .ok (.iload 8, 2) := by decide +kernel
theorem dX9_says_265 : decode cX9_says 265 = .ok (.invokevirtual 28, 3) := by decide +kernel
theorem dX9_says_268 : decode cX9_says 268 = .ok (.ireturn, 1) := by decide +kernel
theorem dX9_says_269 : decode cX9_says 269 = .ok (.aload_n 0, 1) := by decide +kernel
theorem dX9_says_270 : decode cX9_says 270 = .ok (.iload 7, 2) := by decide +kernel
theorem dX9_says_272 : decode cX9_says 272 = .ok (.iconst 3, 1) := by decide +kernel
theorem dX9_says_273 : decode cX9_says 273 = .ok (.iload_n 3, 1) := by decide +kernel
theorem dX9_says_274 : decode cX9_says 274 = .ok (.iload 8, 2) := by decide +kernel
theorem dX9_says_276 : decode cX9_says 276 = .ok (.invokevirtual 28, 3) := by decide +kernel
theorem dX9_says_279 : decode cX9_says 279 = .ok (.aload_n 0, 1) := by decide +kernel
theorem dX9_says_280 : decode cX9_says 280 = .ok (.aload_n 0, 1) := by decide +kernel
theorem dX9_says_281 : decode cX9_says 281 = .ok (.getfield 15, 3) := by decide +kernel
theorem dX9_says_284 : decode cX9_says 284 = .ok (.iconst 0, 1) := by decide +kernel
theorem dX9_says_285 : decode cX9_says 285 = .ok (.iconst 2, 1) := by decide +kernel
theorem dX9_says_286 : decode cX9_says 286 = .ok (.iload 8, 2) := by decide +kernel
theorem dX9_says_288 : decode cX9_says 288 = .ok (.invokevirtual 28, 3) := by decide +kernel
theorem dX9_says_291 : decode cX9_says 291 = .ok (.isub, 1) := by decide +kernel
theorem dX9_says_292 : decode cX9_says 292 = .ok (.ireturn, 1) := by decide +kernel
theorem dX9_says_293 : decode cX9_says 293 = .ok (.aload_n 0, 1) := by decide +kernel
theorem dX9_says_294 : decode cX9_says 294 = .ok (.iload 7, 2) := by decide +kernel
theorem dX9_says_296 : decode cX9_says 296 = .ok (.iconst 2, 1) := by decide +kernel
theorem dX9_says_297 : decode cX9_says 297 = .ok (.iload_n 3, 1) := by decide +kernel
theorem dX9_says_298 : decode cX9_says 298 = .ok (.iload 8, 2) := by decide +kernel
theorem dX9_says_300 : decode cX9_says 300 = .ok (.invokevirtual 28, 3) := by decide +kernel
theorem dX9_says_303 : decode cX9_says 303 = .ok (.aload_n 0, 1) := by decide +kernel
theorem dX9_says_304 : decode cX9_says 304 = .ok (.getfield 19, 3) := by decide +kernel
theorem dX9_says_307 : decode cX9_says 307 = .ok (.ixor, 1) := by decide +kernel
theorem dX9_says_308 : decode cX9_says 308 = .ok (.ireturn, 1) := by decide +kernel
theorem dX9_says_309 : decode cX9_says 309 = .ok (.aload_n 0, 1) := by decide +kernel
theorem dX9_says_310 : decode cX9_says 310 = .ok (.aload_n 0, 1) := by decide +kernel
theorem dX9_says_311 : decode cX9_says 311 = .ok (.getfield 15, 3) := by decide +kernel
theorem dX9_says_314 : decode cX9_says 314 = .ok (.iconst 1, 1) := by decide +kernel
theorem dX9_says_315 : decode cX9_says 315 = .ok (.iload_n 3, 1) := by decide +kernel
theorem dX9_says_316 : decode cX9_says 316 = .ok (.iload 8, 2) := by decide +kernel
theorem dX9_says_318 : decode cX9_says 318 = .ok (.invokevirtual 28, 3) := by decide +kernel
theorem dX9_says_321 : decode cX9_says 321 = .ok (.aload_n 0, 1) := by decide +kernel
theorem dX9_says_322 : decode cX9_says 322 = .ok (.iload 7, 2) := by decide +kernel
theorem dX9_says_324 : decode cX9_says 324 = .ok (.iconst 3, 1) := by decide +kernel
theorem dX9_says_325 : decode cX9_says 325 = .ok (.iload_n 3, 1) := by decide +kernel
theorem dX9_says_326 : decode cX9_says 326 = .ok (.iload 8, 2) := by decide +kernel
theorem dX9_says_328 : decode cX9_says 328 = .ok (.invokevirtual 28, 3) := by decide +kernel
theorem dX9_says_331 : decode cX9_says 331 = .ok (.isub, 1) := by decide +kernel
theorem dX9_says_332 : decode cX9_says 332 = .ok (.ireturn, 1) := by decide +kernel
theorem dX9_says_333 : decode cX9_says 333 = .ok (.iconst 0, 1) := by decide +kernel
theorem dX9_says_334 : decode cX9_says 334 = .ok (.ireturn, 1) := by decide +kernel
theorem dX9_kindWithBody_0 : decode cX9_kindWithBody 0 = .ok (.iload_n 0, 1) := by decide +kernel
theorem dX9_kindWithBody_1 : decode cX9_kindWithBody 1 = .ok (.istore_n 2, 1) := by decide +kernel
theorem dX9_kindWithBody_2 : decode cX9_kindWithBody 2 = .ok (.iconst 0, 1) := by decide +kernel
theorem dX9_kindWithBody_3 : decode cX9_kindWithBody 3 = .ok (.istore_n 3, 1) := by decide +kernel
theorem dX9_kindWithBody_4 : decode cX9_kindWithBody 4 = .ok (.iload_n 3, 1) := by decide +kernel
theorem dX9_kindWithBody_5 : decode cX9_kindWithBody 5 = .ok (.bipush 7, 2) := by decide +kernel
theorem dX9_kindWithBody_7 : decode cX9_kindWithBody 7 = .ok (.if_icmp .ge 39, 3) := by decide +kernel
theorem dX9_kindWithBody_10 : decode cX9_kindWithBody 10 = .ok (.iload_n 2, 1) := by decide +kernel
theorem dX9_kindWithBody_11 : decode cX9_kindWithBody 11 = .ok (.ifCond .lt 35, 3) := by decide +kernel
theorem dX9_kindWithBody_14 : decode cX9_kindWithBody 14 = .ok (.iload_n 2, 1) := by decide +kernel
theorem dX9_kindWithBody_15 : decode cX9_kindWithBody 15 = .ok (.bipush 7, 2) := by decide +kernel
theorem dX9_kindWithBody_17 : decode cX9_kindWithBody 17 = .ok (.if_icmp .ge 29, 3) := by decide +kernel
theorem dX9_kindWithBody_20 : decode cX9_kindWithBody 20 = .ok (.getstatic 36, 3) := by decide +kernel
theorem dX9_kindWithBody_23 : decode cX9_kindWithBody 23 = .ok (.iload_n 2, 1) := by decide +kernel
theorem dX9_kindWithBody_24 : decode cX9_kindWithBody 24 = .ok (.iconst 4, 1) := by decide +kernel
theorem dX9_kindWithBody_25 : decode cX9_kindWithBody 25 = .ok (.imul, 1) := by decide +kernel
theorem dX9_kindWithBody_26 : decode cX9_kindWithBody 26 = .ok (.iload_n 1, 1) := by decide +kernel
theorem dX9_kindWithBody_27 : decode cX9_kindWithBody 27 = .ok (.iadd, 1) := by decide +kernel
theorem dX9_kindWithBody_28 : decode cX9_kindWithBody 28 = .ok (.iaload, 1) := by decide +kernel
theorem dX9_kindWithBody_29 : decode cX9_kindWithBody 29 = .ok (.ifCond .eq 5, 3) := by decide +kernel
theorem dX9_kindWithBody_32 : decode cX9_kindWithBody 32 = .ok (.iload_n 2, 1) := by decide +kernel
theorem dX9_kindWithBody_33 : decode cX9_kindWithBody 33 = .ok (.ireturn, 1) := by decide +kernel
theorem dX9_kindWithBody_34 : decode cX9_kindWithBody 34 = .ok (.getstatic 39, 3) := by decide +kernel
theorem dX9_kindWithBody_37 : decode cX9_kindWithBody 37 = .ok (.iload_n 2, 1) := by decide +kernel
theorem dX9_kindWithBody_38 : decode cX9_kindWithBody 38 = .ok (.iaload, 1) := by decide +kernel
theorem dX9_kindWithBody_39 : decode cX9_kindWithBody 39 = .ok (.istore_n 2, 1) := by decide +kernel
theorem dX9_kindWithBody_40 : decode cX9_kindWithBody 40 = .ok (.iinc 3 1, 3) := by decide +kernel
theorem dX9_kindWithBody_43 : decode cX9_kindWithBody 43 = .ok (.goto (-39), 3) := by decide +kernel
theorem dX9_kindWithBody_46 : decode cX9_kindWithBody 46 = .ok (.iconst (-1), 1) := by decide +kernel
theorem dX9_kindWithBody_47 : decode cX9_kindWithBody 47 = .ok (.ireturn, 1) := by decide +kernel
theorem dX9_add_0 : decode cX9_add 0 = .ok (.aload_n 0, 1) := by decide +kernel
theorem dX9_add_1 : decode cX9_add 1 = .ok (.getfield 25, 3) := by decide +kernel
theorem dX9_add_4 : decode cX9_add 4 = .ok (.bipush 40, 2) := by decide +kernel
theorem dX9_add_6 : decode cX9_add 6 = .ok (.if_icmp .ge 23, 3) := by decide +kernel
theorem dX9_add_9 : decode cX9_add 9 = .ok (.aload_n 0, 1) := by decide +kernel
theorem dX9_add_10 : decode cX9_add 10 = .ok (.getfield 9, 3) := by decide +kernel
theorem dX9_add_13 : decode cX9_add 13 = .ok (.aload_n 0, 1) := by decide +kernel
theorem dX9_add_14 : decode cX9_add 14 = .ok (.getfield 25, 3) := by decide +kernel
theorem dX9_add_17 : decode cX9_add 17 = .ok (.iload_n 1, 1) := by decide +kernel
theorem dX9_add_18 : decode cX9_add 18 = .ok (.iastore, 1) := by decide +kernel
theorem dX9_add_19 : decode cX9_add 19 = .ok (.aload_n 0, 1) := by decide +kernel
theorem dX9_add_20 : decode cX9_add 20 = .ok (.dup, 1) := by decide +kernel
theorem dX9_add_21 : decode cX9_add 21 = .ok (.getfield 25, 3) := by decide +kernel
theorem dX9_add_24 : decode cX9_add 24 = .ok (.iconst 1, 1) := by decide +kernel
theorem dX9_add_25 : decode cX9_add 25 = .ok (.iadd, 1) := by decide +kernel
theorem dX9_add_26 : decode cX9_add 26 = .ok (.putfield 25, 3) := by decide +kernel
theorem dX9_add_29 : decode cX9_add 29 = .ok (.return_, 1) := by decide +kernel
theorem dX10_init_0 : decode cX10_init 0 = .ok (.aload_n 0, 1) := by decide +kernel
theorem dX10_init_1 : decode cX10_init 1 = .ok (.invokespecial 3, 3) := by decide +kernel
theorem dX10_init_4 : decode cX10_init 4 = .ok (.aload_n 0, 1) := by decide +kernel
theorem dX10_init_5 : decode cX10_init 5 = .ok (.new 9, 3) := by decide +kernel
theorem dX10_init_8 : decode cX10_init 8 = .ok (.dup, 1) := by decide +kernel
theorem dX10_init_9 : decode cX10_init 9 = .ok (.invokespecial 11, 3) := by decide +kernel
theorem dX10_init_12 : decode cX10_init 12 = .ok (.putfield 12, 3) := by decide +kernel
theorem dX10_init_15 : decode cX10_init 15 = .ok (.aload_n 0, 1) := by decide +kernel
theorem dX10_init_16 : decode cX10_init 16 = .ok (.new 18, 3) := by decide +kernel
theorem dX10_init_19 : decode cX10_init 19 = .ok (.dup, 1) := by decide +kernel
theorem dX10_init_20 : decode cX10_init 20 = .ok (.iconst 0, 1) := by decide +kernel
theorem dX10_init_21 : decode cX10_init 21 = .ok (.invokespecial 20, 3) := by decide +kernel
theorem dX10_init_24 : decode cX10_init 24 = .ok (.putfield 23, 3) := by decide +kernel
theorem dX10_init_27 : decode cX10_init 27 = .ok (.aload_n 0, 1) := by decide +kernel
theorem dX10_init_28 : decode cX10_init 28 = .ok (.new 18, 3) := by decide +kernel
theorem dX10_init_31 : decode cX10_init 31 = .ok (.dup, 1) := by decide +kernel
theorem dX10_init_32 : decode cX10_init 32 = .ok (.iconst 1, 1) := by decide +kernel
theorem dX10_init_33 : decode cX10_init 33 = .ok (.invokespecial 20, 3) := by decide +kernel
theorem dX10_init_36 : decode cX10_init 36 = .ok (.putfield 27, 3) := by decide +kernel
theorem dX10_init_39 : decode cX10_init 39 = .ok (.aload_n 0, 1) := by decide +kernel
theorem dX10_init_40 : decode cX10_init 40 = .ok (.new 30, 3) := by decide +kernel
theorem dX10_init_43 : decode cX10_init 43 = .ok (.dup, 1) := by decide +kernel
theorem dX10_init_44 : decode cX10_init 44 = .ok (.aload_n 0, 1) := by decide +kernel
theorem dX10_init_45 : decode cX10_init 45 = .ok (.getfield 12, 3) := by decide +kernel
theorem dX10_init_48 : decode cX10_init 48 = .ok (.aload_n 0, 1) := by decide +kernel
theorem dX10_init_49 : decode cX10_init 49 = .ok (.getfield 23, 3) := by decide +kernel
theorem dX10_init_52 : decode cX10_init 52 = .ok (.invokespecial 32, 3) := by decide +kernel
theorem dX10_init_55 : decode cX10_init 55 = .ok (.putfield 35, 3) := by decide +kernel
theorem dX10_init_58 : decode cX10_init 58 = .ok (.aload_n 0, 1) := by decide +kernel
theorem dX10_init_59 : decode cX10_init 59 = .ok (.new 39, 3) := by decide +kernel
theorem dX10_init_62 : decode cX10_init 62 = .ok (.dup, 1) := by decide +kernel
theorem dX10_init_63 : decode cX10_init 63 = .ok (.invokespecial 41, 3) := by decide +kernel
theorem dX10_init_66 : decode cX10_init 66 = .ok (.putfield 42, 3) := by decide +kernel
theorem dX10_init_69 : decode cX10_init 69 = .ok (.aload_n 0, 1) := by decide +kernel
theorem dX10_init_70 : decode cX10_init 70 = .ok (.new 46, 3) := by decide +kernel
theorem dX10_init_73 : decode cX10_init 73 = .ok (.dup, 1) := by decide +kernel
theorem dX10_init_74 : decode cX10_init 74 = .ok (.invokespecial 48, 3) := by decide +kernel
theorem dX10_init_77 : decode cX10_init 77 = .ok (.putfield 49, 3) := by decide +kernel
theorem dX10_init_80 : decode cX10_init 80 = .ok (.aload_n 0, 1) := by decide +kernel
theorem dX10_init_81 : decode cX10_init 81 = .ok (.bipush 20, 2) := by decide +kernel
theorem dX10_init_83 : decode cX10_init 83 = .ok (.newarray .int, 2) := by decide +kernel
theorem dX10_init_85 : decode cX10_init 85 = .ok (.putfield 53, 3) := by decide +kernel
theorem dX10_init_88 : decode cX10_init 88 = .ok (.aload_n 0, 1) := by decide +kernel
theorem dX10_init_89 : decode cX10_init 89 = .ok (.iconst 1, 1) := by decide +kernel
theorem dX10_init_90 : decode cX10_init 90 = .ok (.putfield 57, 3) := by decide +kernel
theorem dX10_init_93 : decode cX10_init 93 = .ok (.return_, 1) := by decide +kernel
theorem dX10_copyFrom_0 : decode cX10_copyFrom 0 = .ok (.aload_n 0, 1) := by decide +kernel
theorem dX10_copyFrom_1 : decode cX10_copyFrom 1 = .ok (.getfield 12, 3) := by decide +kernel
theorem dX10_copyFrom_4 : decode cX10_copyFrom 4 = .ok (.aload_n 1, 1) := by decide +kernel
theorem dX10_copyFrom_5 : decode cX10_copyFrom 5 = .ok (.getfield 12, 3) := by decide +kernel
theorem dX10_copyFrom_8 : decode cX10_copyFrom 8 = .ok (.invokevirtual 61, 3) := by decide +kernel
theorem dX10_copyFrom_11 : decode cX10_copyFrom 11 = .ok (.aload_n 0, 1) := by decide +kernel
theorem dX10_copyFrom_12 : decode cX10_copyFrom 12 = .ok (.getfield 23, 3) := by decide +kernel
theorem dX10_copyFrom_15 : decode cX10_copyFrom 15 = .ok (.aload_n 1, 1) := by decide +kernel
theorem dX10_copyFrom_16 : decode cX10_copyFrom 16 = .ok (.getfield 23, 3) := by decide +kernel
theorem dX10_copyFrom_19 : decode cX10_copyFrom 19 = .ok (.getfield 65, 3) := by decide +kernel
theorem dX10_copyFrom_22 : decode cX10_copyFrom 22 = .ok (.aload_n 1, 1) := by decide +kernel
theorem dX10_copyFrom_23 : decode cX10_copyFrom 23 = .ok (.getfield 23, 3) := by decide +kernel
theorem dX10_copyFrom_26 : decode cX10_copyFrom 26 = .ok (.getfield 68, 3) := by decide +kernel
theorem dX10_copyFrom_29 : decode cX10_copyFrom 29 = .ok (.invokevirtual 71, 3) := by decide +kernel
theorem dX10_copyFrom_32 : decode cX10_copyFrom 32 = .ok (.aload_n 0, 1) := by decide +kernel
theorem dX10_copyFrom_33 : decode cX10_copyFrom 33 = .ok (.getfield 27, 3) := by decide +kernel
theorem dX10_copyFrom_36 : decode cX10_copyFrom 36 = .ok (.aload_n 1, 1) := by decide +kernel
theorem dX10_copyFrom_37 : decode cX10_copyFrom 37 = .ok (.getfield 27, 3) := by decide +kernel
theorem dX10_copyFrom_40 : decode cX10_copyFrom 40 = .ok (.getfield 65, 3) := by decide +kernel
theorem dX10_copyFrom_43 : decode cX10_copyFrom 43 = .ok (.aload_n 1, 1) := by decide +kernel
theorem dX10_copyFrom_44 : decode cX10_copyFrom 44 = .ok (.getfield 27, 3) := by decide +kernel
theorem dX10_copyFrom_47 : decode cX10_copyFrom 47 = .ok (.getfield 68, 3) := by decide +kernel
theorem dX10_copyFrom_50 : decode cX10_copyFrom 50 = .ok (.invokevirtual 71, 3) := by decide +kernel
theorem dX10_copyFrom_53 : decode cX10_copyFrom 53 = .ok (.aload_n 0, 1) := by decide +kernel
theorem dX10_copyFrom_54 : decode cX10_copyFrom 54 = .ok (.getfield 35, 3) := by decide +kernel
theorem dX10_copyFrom_57 : decode cX10_copyFrom 57 = .ok (.aload_n 1, 1) := by decide +kernel
theorem dX10_copyFrom_58 : decode cX10_copyFrom 58 = .ok (.getfield 35, 3) := by decide +kernel
theorem dX10_copyFrom_61 : decode cX10_copyFrom 61 = .ok (.invokevirtual 75, 3) := by decide +kernel
theorem dX10_copyFrom_64 : decode cX10_copyFrom 64 = .ok (.aload_n 0, 1) := by decide +kernel
theorem dX10_copyFrom_65 : decode cX10_copyFrom 65 = .ok (.getfield 42, 3) := by decide +kernel
theorem dX10_copyFrom_68 : decode cX10_copyFrom 68 = .ok (.aload_n 1, 1) := by decide +kernel
theorem dX10_copyFrom_69 : decode cX10_copyFrom 69 = .ok (.getfield 42, 3) := by decide +kernel
theorem dX10_copyFrom_72 : decode cX10_copyFrom 72 = .ok (.invokevirtual 78, 3) := by decide +kernel
theorem dX10_copyFrom_75 : decode cX10_copyFrom 75 = .ok (.aload_n 0, 1) := by decide +kernel
theorem dX10_copyFrom_76 : decode cX10_copyFrom 76 = .ok (.getfield 49, 3) := by decide +kernel
theorem dX10_copyFrom_79 : decode cX10_copyFrom 79 = .ok (.aload_n 1, 1) := by decide +kernel
theorem dX10_copyFrom_80 : decode cX10_copyFrom 80 = .ok (.getfield 49, 3) := by decide +kernel
theorem dX10_copyFrom_83 : decode cX10_copyFrom 83 = .ok (.invokevirtual 81, 3) := by decide +kernel
theorem dX10_copyFrom_86 : decode cX10_copyFrom 86 = .ok (.aload_n 1, 1) := by decide +kernel
theorem dX10_copyFrom_87 : decode cX10_copyFrom 87 = .ok (.getfield 53, 3) := by decide +kernel
theorem dX10_copyFrom_90 : decode cX10_copyFrom 90 = .ok (.iconst 0, 1) := by decide +kernel
theorem dX10_copyFrom_91 : decode cX10_copyFrom 91 = .ok (.aload_n 0, 1) := by decide +kernel
theorem dX10_copyFrom_92 : decode cX10_copyFrom 92 = .ok (.getfield 53, 3) := by decide +kernel
theorem dX10_copyFrom_95 : decode cX10_copyFrom 95 = .ok (.iconst 0, 1) := by decide +kernel
theorem dX10_copyFrom_96 : decode cX10_copyFrom 96 = .ok (.bipush 20, 2) := by decide +kernel
theorem dX10_copyFrom_98 : decode cX10_copyFrom 98 = .ok (.invokestatic 84, 3) := by decide +kernel
theorem dX10_copyFrom_101 : decode cX10_copyFrom 101 = .ok (.aload_n 0, 1) := by decide +kernel
theorem dX10_copyFrom_102 : decode cX10_copyFrom 102 = .ok (.aload_n 1, 1) := by decide +kernel
theorem dX10_copyFrom_103 : decode cX10_copyFrom 103 = .ok (.getfield 90, 3) := by decide +kernel
theorem dX10_copyFrom_106 : decode cX10_copyFrom 106 = .ok (.putfield 90, 3) := by decide +kernel
theorem dX10_copyFrom_109 : decode cX10_copyFrom 109 = .ok (.aload_n 0, 1) := by decide +kernel
theorem dX10_copyFrom_110 : decode cX10_copyFrom 110 = .ok (.aload_n 1, 1) := by decide +kernel
theorem dX10_copyFrom_111 : decode cX10_copyFrom 111 = .ok (.getfield 57, 3) := by decide +kernel
theorem dX10_copyFrom_114 : decode cX10_copyFrom 114 = .ok (.putfield 57, 3) := by decide +kernel
theorem dX10_copyFrom_117 : decode cX10_copyFrom 117 = .ok (.return_, 1) := by decide +kernel
theorem dX10_draw_0 : decode cX10_draw 0 = .ok (.aload_n 0, 1) := by decide +kernel
theorem dX10_draw_1 : decode cX10_draw 1 = .ok (.aload_n 0, 1) := by decide +kernel
theorem dX10_draw_2 : decode cX10_draw 2 = .ok (.getfield 57, 3) := by decide +kernel
theorem dX10_draw_5 : decode cX10_draw 5 = .ok (.ldc 93, 2) := by decide +kernel
theorem dX10_draw_7 : decode cX10_draw 7 = .ok (.imul, 1) := by decide +kernel
theorem dX10_draw_8 : decode cX10_draw 8 = .ok (.sipush 12345, 3) := by decide +kernel
theorem dX10_draw_11 : decode cX10_draw 11 = .ok (.iadd, 1) := by decide +kernel
theorem dX10_draw_12 : decode cX10_draw 12 = .ok (.putfield 57, 3) := by decide +kernel
theorem dX10_draw_15 : decode cX10_draw 15 = .ok (.aload_n 0, 1) := by decide +kernel
theorem dX10_draw_16 : decode cX10_draw 16 = .ok (.getfield 57, 3) := by decide +kernel
theorem dX10_draw_19 : decode cX10_draw 19 = .ok (.bipush 8, 2) := by decide +kernel
theorem dX10_draw_21 : decode cX10_draw 21 = .ok (.iushr, 1) := by decide +kernel
theorem dX10_draw_22 : decode cX10_draw 22 = .ok (.ireturn, 1) := by decide +kernel
theorem dX10_lendByDraws_0 : decode cX10_lendByDraws 0 = .ok (.aload_n 0, 1) := by decide +kernel
theorem dX10_lendByDraws_1 : decode cX10_lendByDraws 1 = .ok (.invokevirtual 94, 3) := by decide +kernel
theorem dX10_lendByDraws_4 : decode cX10_lendByDraws 4 = .ok (.iconst 4, 1) := by decide +kernel
theorem dX10_lendByDraws_5 : decode cX10_lendByDraws 5 = .ok (.irem, 1) := by decide +kernel
theorem dX10_lendByDraws_6 : decode cX10_lendByDraws 6 = .ok (.istore_n 1, 1) := by decide +kernel
theorem dX10_lendByDraws_7 : decode cX10_lendByDraws 7 = .ok (.aload_n 0, 1) := by decide +kernel
theorem dX10_lendByDraws_8 : decode cX10_lendByDraws 8 = .ok (.invokevirtual 94, 3) := by decide +kernel
theorem dX10_lendByDraws_11 : decode cX10_lendByDraws 11 = .ok (.bipush 50, 2) := by decide +kernel
theorem dX10_lendByDraws_13 : decode cX10_lendByDraws 13 = .ok (.irem, 1) := by decide +kernel
theorem dX10_lendByDraws_14 : decode cX10_lendByDraws 14 = .ok (.istore_n 2, 1) := by decide +kernel
theorem dX10_lendByDraws_15 : decode cX10_lendByDraws 15 = .ok (.iload_n 1, 1) := by decide +kernel
theorem dX10_lendByDraws_16 : decode cX10_lendByDraws 16 = .ok (.aload_n 0, 1) := by decide +kernel
theorem dX10_lendByDraws_17 : decode cX10_lendByDraws 17 = .ok (.getfield 35, 3) := by decide +kernel
theorem dX10_lendByDraws_20 : decode cX10_lendByDraws 20 = .ok (.getfield 98, 3) := by decide +kernel
theorem dX10_lendByDraws_23 : decode cX10_lendByDraws 23 = .ok (.if_icmp .ge 31, 3) := by decide +kernel
theorem dX10_lendByDraws_26 : decode cX10_lendByDraws 26 = .ok (.aload_n 0, 1) := by decide +kernel
theorem dX10_lendByDraws_27 : decode cX10_lendByDraws 27 = .ok (.getfield 35, 3) := by decide +kernel
theorem dX10_lendByDraws_30 : decode cX10_lendByDraws 30 = .ok (.getfield 99, 3) := by decide +kernel
theorem dX10_lendByDraws_33 : decode cX10_lendByDraws 33 = .ok (.iload_n 1, 1) := by decide +kernel
theorem dX10_lendByDraws_34 : decode cX10_lendByDraws 34 = .ok (.aaload, 1) := by decide +kernel
theorem dX10_lendByDraws_35 : decode cX10_lendByDraws 35 = .ok (.getfield 103, 3) := by decide +kernel
theorem dX10_lendByDraws_38 : decode cX10_lendByDraws 38 = .ok (.ifCond .ne 16, 3) := by decide +kernel
theorem dX10_lendByDraws_41 : decode cX10_lendByDraws 41 = .ok (.aload_n 0, 1) := by decide +kernel
theorem dX10_lendByDraws_42 : decode cX10_lendByDraws 42 = .ok (.getfield 35, 3) := by decide +kernel
theorem dX10_lendByDraws_45 : decode cX10_lendByDraws 45 = .ok (.getfield 99, 3) := by decide +kernel
theorem dX10_lendByDraws_48 : decode cX10_lendByDraws 48 = .ok (.iload_n 1, 1) := by decide +kernel
theorem dX10_lendByDraws_49 : decode cX10_lendByDraws 49 = .ok (.aaload, 1) := by decide +kernel
theorem dX10_lendByDraws_50 : decode cX10_lendByDraws 50 = .ok (.iload_n 2, 1) := by decide +kernel
theorem dX10_lendByDraws_51 : decode cX10_lendByDraws 51 = .ok (.invokevirtual 109, 3) := by decide +kernel
theorem dX10_lendByDraws_54 : decode cX10_lendByDraws 54 = .ok (.return_, 1) := by decide +kernel
theorem dX10_witnessed_0 : decode cX10_witnessed 0 = .ok (.iconst 0, 1) := by decide +kernel
theorem dX10_witnessed_1 : decode cX10_witnessed 1 = .ok (.istore_n 3, 1) := by decide +kernel
theorem dX10_witnessed_2 : decode cX10_witnessed 2 = .ok (.iconst 0, 1) := by decide +kernel
theorem dX10_witnessed_3 : decode cX10_witnessed 3 = .ok (.istore 4, 2) := by decide +kernel
theorem dX10_witnessed_5 : decode cX10_witnessed 5 = .ok (.iload 4, 2) := by decide +kernel
theorem dX10_witnessed_7 : decode cX10_witnessed 7 = .ok (.aload_n 0, 1) := by decide +kernel
theorem dX10_witnessed_8 : decode cX10_witnessed 8 = .ok (.getfield 12, 3) := by decide +kernel
theorem dX10_witnessed_11 : decode cX10_witnessed 11 = .ok (.getfield 112, 3) := by decide +kernel
theorem dX10_witnessed_14 : decode cX10_witnessed 14 = .ok (.if_icmp .ge 56, 3) := by decide +kernel
theorem dX10_witnessed_17 : decode cX10_witnessed 17 = .ok (.aload_n 0, 1) := by decide +kernel
theorem dX10_witnessed_18 : decode cX10_witnessed 18 = .ok (.getfield 35, 3) := by decide +kernel
theorem dX10_witnessed_21 : decode cX10_witnessed 21 = .ok (.iload 4, 2) := by decide +kernel
theorem dX10_witnessed_23 : decode cX10_witnessed 23 = .ok (.invokevirtual 113, 3) := by decide +kernel
theorem dX10_witnessed_26 : decode cX10_witnessed 26 = .ok (.istore 5, 2) := by decide +kernel
theorem dX10_witnessed_28 : decode cX10_witnessed 28 = .ok (.aload_n 0, 1) := by decide +kernel
theorem dX10_witnessed_29 : decode cX10_witnessed 29 = .ok (.getfield 12, 3) := by decide +kernel
theorem dX10_witnessed_32 : decode cX10_witnessed 32 = .ok (.getfield 117, 3) := by decide +kernel
theorem dX10_witnessed_35 : decode cX10_witnessed 35 = .ok (.iload 4, 2) := by decide +kernel
theorem dX10_witnessed_37 : decode cX10_witnessed 37 = .ok (.iaload, 1) := by decide +kernel
theorem dX10_witnessed_38 : decode cX10_witnessed 38 = .ok (.iload_n 1, 1) := by decide +kernel
theorem dX10_witnessed_39 : decode cX10_witnessed 39 = .ok (.ishr, 1) := by decide +kernel
theorem dX10_witnessed_40 : decode cX10_witnessed 40 = .ok (.iconst 1, 1) := by decide +kernel
theorem dX10_witnessed_41 : decode cX10_witnessed 41 = .ok (.iand, 1) := by decide +kernel
theorem dX10_witnessed_42 : decode cX10_witnessed 42 = .ok (.iconst 1, 1) := by decide +kernel
theorem dX10_witnessed_43 : decode cX10_witnessed 43 = .ok (.if_icmp .ne 21, 3) := by decide +kernel
theorem dX10_witnessed_46 : decode cX10_witnessed 46 = .ok (.iload 5, 2) := by decide +kernel
theorem dX10_witnessed_48 : decode cX10_witnessed 48 = .ok (.ifCond .lt 16, 3) := by decide +kernel
theorem dX10_witnessed_51 : decode cX10_witnessed 51 = .ok (.iload 5, 2) := by decide +kernel
theorem dX10_witnessed_53 : decode cX10_witnessed 53 = .ok (.iload_n 2, 1) := by decide +kernel
theorem dX10_witnessed_54 : decode cX10_witnessed 54 = .ok (.if_icmp .gt 10, 3) := by decide +kernel
theorem dX10_witnessed_57 : decode cX10_witnessed 57 = .ok (.iload_n 3, 1) := by decide +kernel
theorem dX10_witnessed_58 : decode cX10_witnessed 58 = .ok (.iconst 1, 1) := by decide +kernel
theorem dX10_witnessed_59 : decode cX10_witnessed 59 = .ok (.iload 4, 2) := by decide +kernel
theorem dX10_witnessed_61 : decode cX10_witnessed 61 = .ok (.ishl, 1) := by decide +kernel
theorem dX10_witnessed_62 : decode cX10_witnessed 62 = .ok (.ior, 1) := by decide +kernel
theorem dX10_witnessed_63 : decode cX10_witnessed 63 = .ok (.istore_n 3, 1) := by decide +kernel
theorem dX10_witnessed_64 : decode cX10_witnessed 64 = .ok (.iinc 4 1, 3) := by decide +kernel
theorem dX10_witnessed_67 : decode cX10_witnessed 67 = .ok (.goto (-62), 3) := by decide +kernel
theorem dX10_witnessed_70 : decode cX10_witnessed 70 = .ok (.iload_n 3, 1) := by decide +kernel
theorem dX10_witnessed_71 : decode cX10_witnessed 71 = .ok (.ireturn, 1) := by decide +kernel
theorem dX10_gatherKnown_0 : decode cX10_gatherKnown 0 = .ok (.aload_n 2, 1) := by decide +kernel
theorem dX10_gatherKnown_1 : decode cX10_gatherKnown 1 = .ok (.iconst 0, 1) := by decide +kernel
theorem dX10_gatherKnown_2 : decode cX10_gatherKnown 2 = .ok (.invokestatic 120, 3) := by decide +kernel
theorem dX10_gatherKnown_5 : decode cX10_gatherKnown 5 = .ok (.iconst 0, 1) := by decide +kernel
theorem dX10_gatherKnown_6 : decode cX10_gatherKnown 6 = .ok (.istore_n 3, 1) := by decide +kernel
theorem dX10_gatherKnown_7 : decode cX10_gatherKnown 7 = .ok (.iload_n 3, 1) := by decide +kernel
theorem dX10_gatherKnown_8 : decode cX10_gatherKnown 8 = .ok (.aload_n 0, 1) := by decide +kernel
theorem dX10_gatherKnown_9 : decode cX10_gatherKnown 9 = .ok (.getfield 42, 3) := by decide +kernel
theorem dX10_gatherKnown_12 : decode cX10_gatherKnown 12 = .ok (.getfield 125, 3) := by decide +kernel
