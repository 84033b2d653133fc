theorem dX0_init_0 : decode cX0_init 0 = .ok (.aload_n 0, 1) := by decide +kernel
theorem dX0_init_1 : decode cX0_init 1 = .ok (.invokespecial 3, 3) := by decide +kernel
theorem dX0_init_4 : decode cX0_init 4 = .ok (.aload_n 0, 1) := by decide +kernel
theorem dX0_init_5 : decode cX0_init 5 = .ok (.iconst 0, 1) := by decide +kernel
theorem dX0_init_6 : decode cX0_init 6 = .ok (.putfield 9, 3) := by decide +kernel
theorem dX0_init_9 : decode cX0_init 9 = .ok (.aload_n 0, 1) := by decide +kernel
theorem dX0_init_10 : decode cX0_init 10 = .ok (.bipush 100, 2) := by decide +kernel
theorem dX0_init_12 : decode cX0_init 12 = .ok (.putfield 15, 3) := by decide +kernel
theorem dX0_init_15 : decode cX0_init 15 = .ok (.aload_n 0, 1) := by decide +kernel
theorem dX0_init_16 : decode cX0_init 16 = .ok (.iconst 2, 1) := by decide +kernel
theorem dX0_init_17 : decode cX0_init 17 = .ok (.putfield 18, 3) := by decide +kernel
theorem dX0_init_20 : decode cX0_init 20 = .ok (.aload_n 0, 1) := by decide +kernel
theorem dX0_init_21 : decode cX0_init 21 = .ok (.bipush 30, 2) := by decide +kernel
theorem dX0_init_23 : decode cX0_init 23 = .ok (.putfield 21, 3) := by decide +kernel
theorem dX0_init_26 : decode cX0_init 26 = .ok (.aload_n 0, 1) := by decide +kernel
theorem dX0_init_27 : decode cX0_init 27 = .ok (.iconst 0, 1) := by decide +kernel
theorem dX0_init_28 : decode cX0_init 28 = .ok (.putfield 24, 3) := by decide +kernel
theorem dX0_init_31 : decode cX0_init 31 = .ok (.aload_n 0, 1) := by decide +kernel
theorem dX0_init_32 : decode cX0_init 32 = .ok (.iconst 0, 1) := by decide +kernel
theorem dX0_init_33 : decode cX0_init 33 = .ok (.putfield 27, 3) := by decide +kernel
theorem dX0_init_36 : decode cX0_init 36 = .ok (.aload_n 0, 1) := by decide +kernel
theorem dX0_init_37 : decode cX0_init 37 = .ok (.iconst 0, 1) := by decide +kernel
theorem dX0_init_38 : decode cX0_init 38 = .ok (.putfield 30, 3) := by decide +kernel
theorem dX0_init_41 : decode cX0_init 41 = .ok (.aload_n 0, 1) := by decide +kernel
theorem dX0_init_42 : decode cX0_init 42 = .ok (.bipush 8, 2) := by decide +kernel
theorem dX0_init_44 : decode cX0_init 44 = .ok (.anewarray 33, 3) := by decide +kernel
theorem dX0_init_47 : decode cX0_init 47 = .ok (.putfield 35, 3) := by decide +kernel
theorem dX0_init_50 : decode cX0_init 50 = .ok (.iconst 0, 1) := by decide +kernel
theorem dX0_init_51 : decode cX0_init 51 = .ok (.istore_n 1, 1) := by decide +kernel
theorem dX0_init_52 : decode cX0_init 52 = .ok (.iload_n 1, 1) := by decide +kernel
theorem dX0_init_53 : decode cX0_init 53 = .ok (.bipush 8, 2) := by decide +kernel
theorem dX0_init_55 : decode cX0_init 55 = .ok (.if_icmp .ge 22, 3) := by decide +kernel
theorem dX0_init_58 : decode cX0_init 58 = .ok (.aload_n 0, 1) := by decide +kernel
theorem dX0_init_59 : decode cX0_init 59 = .ok (.getfield 35, 3) := by decide +kernel
theorem dX0_init_62 : decode cX0_init 62 = .ok (.iload_n 1, 1) := by decide +kernel
theorem dX0_init_63 : decode cX0_init 63 = .ok (.new 33, 3) := by decide +kernel
theorem dX0_init_66 : decode cX0_init 66 = .ok (.dup, 1) := by decide +kernel
theorem dX0_init_67 : decode cX0_init 67 = .ok (.invokespecial 39, 3) := by decide +kernel
theorem dX0_init_70 : decode cX0_init 70 = .ok (.aastore, 1) := by decide +kernel
theorem dX0_init_71 : decode cX0_init 71 = .ok (.iinc 1 1, 3) := by decide +kernel
theorem dX0_init_74 : decode cX0_init 74 = .ok (.goto (-22), 3) := by decide +kernel
theorem dX0_init_77 : decode cX0_init 77 = .ok (.return_, 1) := by decide +kernel
theorem dX0_find_0 : decode cX0_find 0 = .ok (.iload_n 1, 1) := by decide +kernel
theorem dX0_find_1 : decode cX0_find 1 = .ok (.ifCond .lt 29, 3) := by decide +kernel
theorem dX0_find_4 : decode cX0_find 4 = .ok (.iload_n 1, 1) := by decide +kernel
theorem dX0_find_5 : decode cX0_find 5 = .ok (.aload_n 0, 1) := by decide +kernel
theorem dX0_find_6 : decode cX0_find 6 = .ok (.getfield 30, 3) := by decide +kernel
theorem dX0_find_9 : decode cX0_find 9 = .ok (.if_icmp .ge 21, 3) := by decide +kernel
theorem dX0_find_12 : decode cX0_find 12 = .ok (.iload_n 1, 1) := by decide +kernel
theorem dX0_find_13 : decode cX0_find 13 = .ok (.aload_n 0, 1) := by decide +kernel
theorem dX0_find_14 : decode cX0_find 14 = .ok (.getfield 35, 3) := by decide +kernel
theorem dX0_find_17 : decode cX0_find 17 = .ok (.arraylength, 1) := by decide +kernel
theorem dX0_find_18 : decode cX0_find 18 = .ok (.if_icmp .ge 12, 3) := by decide +kernel
theorem dX0_find_21 : decode cX0_find 21 = .ok (.aload_n 0, 1) := by decide +kernel
theorem dX0_find_22 : decode cX0_find 22 = .ok (.getfield 35, 3) := by decide +kernel
theorem dX0_find_25 : decode cX0_find 25 = .ok (.iload_n 1, 1) := by decide +kernel
theorem dX0_find_26 : decode cX0_find 26 = .ok (.aaload, 1) := by decide +kernel
theorem dX0_find_27 : decode cX0_find 27 = .ok (.goto 4, 3) := by decide +kernel
theorem dX0_find_30 : decode cX0_find 30 = .ok (.aconst_null, 1) := by decide +kernel
theorem dX0_find_31 : decode cX0_find 31 = .ok (.areturn, 1) := by decide +kernel
theorem dX0_enter_0 : decode cX0_enter 0 = .ok (.aload_n 0, 1) := by decide +kernel
theorem dX0_enter_1 : decode cX0_enter 1 = .ok (.getfield 30, 3) := by decide +kernel
theorem dX0_enter_4 : decode cX0_enter 4 = .ok (.istore 4, 2) := by decide +kernel
theorem dX0_enter_6 : decode cX0_enter 6 = .ok (.iload 4, 2) := by decide +kernel
theorem dX0_enter_8 : decode cX0_enter 8 = .ok (.ifCond .lt 23, 3) := by decide +kernel
theorem dX0_enter_11 : decode cX0_enter 11 = .ok (.iload 4, 2) := by decide +kernel
theorem dX0_enter_13 : decode cX0_enter 13 = .ok (.aload_n 0, 1) := by decide +kernel
theorem dX0_enter_14 : decode cX0_enter 14 = .ok (.getfield 35, 3) := by decide +kernel
theorem dX0_enter_17 : decode cX0_enter 17 = .ok (.arraylength, 1) := by decide +kernel
theorem dX0_enter_18 : decode cX0_enter 18 = .ok (.if_icmp .ge 13, 3) := by decide +kernel
theorem dX0_enter_21 : decode cX0_enter 21 = .ok (.aload_n 0, 1) := by decide +kernel
theorem dX0_enter_22 : decode cX0_enter 22 = .ok (.getfield 35, 3) := by decide +kernel
theorem dX0_enter_25 : decode cX0_enter 25 = .ok (.iload 4, 2) := by decide +kernel
theorem dX0_enter_27 : decode cX0_enter 27 = .ok (.aaload, 1) := by decide +kernel
theorem dX0_enter_28 : decode cX0_enter 28 = .ok (.ifnonnull 5, 3) := by decide +kernel
theorem dX0_enter_31 : decode cX0_enter 31 = .ok (.iconst (-1), 1) := by decide +kernel
theorem dX0_enter_32 : decode cX0_enter 32 = .ok (.ireturn, 1) := by decide +kernel
theorem dX0_enter_33 : decode cX0_enter 33 = .ok (.aload_n 0, 1) := by decide +kernel
theorem dX0_enter_34 : decode cX0_enter 34 = .ok (.getfield 35, 3) := by decide +kernel
theorem dX0_enter_37 : decode cX0_enter 37 = .ok (.iload 4, 2) := by decide +kernel
theorem dX0_enter_39 : decode cX0_enter 39 = .ok (.aaload, 1) := by decide +kernel
theorem dX0_enter_40 : decode cX0_enter 40 = .ok (.iload_n 1, 1) := by decide +kernel
theorem dX0_enter_41 : decode cX0_enter 41 = .ok (.iload_n 2, 1) := by decide +kernel
theorem dX0_enter_42 : decode cX0_enter 42 = .ok (.iload_n 3, 1) := by decide +kernel
theorem dX0_enter_43 : decode cX0_enter 43 = .ok (.invokevirtual 40, 3) := by decide +kernel
theorem dX0_enter_46 : decode cX0_enter 46 = .ok (.aload_n 0, 1) := by decide +kernel
theorem dX0_enter_47 : decode cX0_enter 47 = .ok (.dup, 1) := by decide +kernel
theorem dX0_enter_48 : decode cX0_enter 48 = .ok (.getfield 30, 3) := by decide +kernel
theorem dX0_enter_51 : decode cX0_enter 51 = .ok (.iconst 1, 1) := by decide +kernel
theorem dX0_enter_52 : decode cX0_enter 52 = .ok (.iadd, 1) := by decide +kernel
theorem dX0_enter_53 : decode cX0_enter 53 = .ok (.putfield 30, 3) := by decide +kernel
theorem dX0_enter_56 : decode cX0_enter 56 = .ok (.iload 4, 2) := by decide +kernel
theorem dX0_enter_58 : decode cX0_enter 58 = .ok (.ireturn, 1) := by decide +kernel
theorem dX0_copyFrom_0 : decode cX0_copyFrom 0 = .ok (.aload_n 0, 1) := by decide +kernel
theorem dX0_copyFrom_1 : decode cX0_copyFrom 1 = .ok (.aload_n 1, 1) := by decide +kernel
theorem dX0_copyFrom_2 : decode cX0_copyFrom 2 = .ok (.getfield 9, 3) := by decide +kernel
theorem dX0_copyFrom_5 : decode cX0_copyFrom 5 = .ok (.putfield 9, 3) := by decide +kernel
theorem dX0_copyFrom_8 : decode cX0_copyFrom 8 = .ok (.aload_n 0, 1) := by decide +kernel
theorem dX0_copyFrom_9 : decode cX0_copyFrom 9 = .ok (.aload_n 1, 1) := by decide +kernel
theorem dX0_copyFrom_10 : decode cX0_copyFrom 10 = .ok (.getfield 15, 3) := by decide +kernel
theorem dX0_copyFrom_13 : decode cX0_copyFrom 13 = .ok (.putfield 15, 3) := by decide +kernel
theorem dX0_copyFrom_16 : decode cX0_copyFrom 16 = .ok (.aload_n 0, 1) := by decide +kernel
theorem dX0_copyFrom_17 : decode cX0_copyFrom 17 = .ok (.aload_n 1, 1) := by decide +kernel
theorem dX0_copyFrom_18 : decode cX0_copyFrom 18 = .ok (.getfield 18, 3) := by decide +kernel
theorem dX0_copyFrom_21 : decode cX0_copyFrom 21 = .ok (.putfield 18, 3) := by decide +kernel
theorem dX0_copyFrom_24 : decode cX0_copyFrom 24 = .ok (.aload_n 0, 1) := by decide +kernel
theorem dX0_copyFrom_25 : decode cX0_copyFrom 25 = .ok (.aload_n 1, 1) := by decide +kernel
theorem dX0_copyFrom_26 : decode cX0_copyFrom 26 = .ok (.getfield 21, 3) := by decide +kernel
theorem dX0_copyFrom_29 : decode cX0_copyFrom 29 = .ok (.putfield 21, 3) := by decide +kernel
theorem dX0_copyFrom_32 : decode cX0_copyFrom 32 = .ok (.aload_n 0, 1) := by decide +kernel
theorem dX0_copyFrom_33 : decode cX0_copyFrom 33 = .ok (.aload_n 1, 1) := by decide +kernel
theorem dX0_copyFrom_34 : decode cX0_copyFrom 34 = .ok (.getfield 24, 3) := by decide +kernel
theorem dX0_copyFrom_37 : decode cX0_copyFrom 37 = .ok (.putfield 24, 3) := by decide +kernel
theorem dX0_copyFrom_40 : decode cX0_copyFrom 40 = .ok (.aload_n 0, 1) := by decide +kernel
theorem dX0_copyFrom_41 : decode cX0_copyFrom 41 = .ok (.aload_n 1, 1) := by decide +kernel
theorem dX0_copyFrom_42 : decode cX0_copyFrom 42 = .ok (.getfield 27, 3) := by decide +kernel
theorem dX0_copyFrom_45 : decode cX0_copyFrom 45 = .ok (.putfield 27, 3) := by decide +kernel
theorem dX0_copyFrom_48 : decode cX0_copyFrom 48 = .ok (.aload_n 0, 1) := by decide +kernel
theorem dX0_copyFrom_49 : decode cX0_copyFrom 49 = .ok (.aload_n 1, 1) := by decide +kernel
theorem dX0_copyFrom_50 : decode cX0_copyFrom 50 = .ok (.getfield 30, 3) := by decide +kernel
theorem dX0_copyFrom_53 : decode cX0_copyFrom 53 = .ok (.putfield 30, 3) := by decide +kernel
theorem dX0_copyFrom_56 : decode cX0_copyFrom 56 = .ok (.iconst 0, 1) := by decide +kernel
theorem dX0_copyFrom_57 : decode cX0_copyFrom 57 = .ok (.istore_n 2, 1) := by decide +kernel
theorem dX0_copyFrom_58 : decode cX0_copyFrom 58 = .ok (.iload_n 2, 1) := by decide +kernel
theorem dX0_copyFrom_59 : decode cX0_copyFrom 59 = .ok (.aload_n 0, 1) := by decide +kernel
theorem dX0_copyFrom_60 : decode cX0_copyFrom 60 = .ok (.getfield 30, 3) := by decide +kernel
theorem dX0_copyFrom_63 : decode cX0_copyFrom 63 = .ok (.if_icmp .ge 37, 3) := by decide +kernel
theorem dX0_copyFrom_66 : decode cX0_copyFrom 66 = .ok (.aload_n 0, 1) := by decide +kernel
theorem dX0_copyFrom_67 : decode cX0_copyFrom 67 = .ok (.iload_n 2, 1) := by decide +kernel
theorem dX0_copyFrom_68 : decode cX0_copyFrom 68 = .ok (.invokevirtual 44, 3) := by decide +kernel
theorem dX0_copyFrom_71 : decode cX0_copyFrom 71 = .ok (.astore_n 3, 1) := by decide +kernel
theorem dX0_copyFrom_72 : decode cX0_copyFrom 72 = .ok (.aload_n 1, 1) := by decide +kernel
theorem dX0_copyFrom_73 : decode cX0_copyFrom 73 = .ok (.iload_n 2, 1) := by decide +kernel
theorem dX0_copyFrom_74 : decode cX0_copyFrom 74 = .ok (.invokevirtual 44, 3) := by decide +kernel
theorem dX0_copyFrom_77 : decode cX0_copyFrom 77 = .ok (.astore 4, 2) := by decide +kernel
theorem dX0_copyFrom_79 : decode cX0_copyFrom 79 = .ok (.aload_n 3, 1) := by decide +kernel
theorem dX0_copyFrom_80 : decode cX0_copyFrom 80 = .ok (.ifnull 14, 3) := by decide +kernel
theorem dX0_copyFrom_83 : decode cX0_copyFrom 83 = .ok (.aload 4, 2) := by decide +kernel
theorem dX0_copyFrom_85 : decode cX0_copyFrom 85 = .ok (.ifnull 9, 3) := by decide +kernel
theorem dX0_copyFrom_88 : decode cX0_copyFrom 88 = .ok (.aload_n 3, 1) := by decide +kernel
theorem dX0_copyFrom_89 : decode cX0_copyFrom 89 = .ok (.aload 4, 2) := by decide +kernel
theorem dX0_copyFrom_91 : decode cX0_copyFrom 91 = .ok (.invokevirtual 48, 3) := by decide +kernel
theorem dX0_copyFrom_94 : decode cX0_copyFrom 94 = .ok (.iinc 2 1, 3) := by decide +kernel
theorem dX0_copyFrom_97 : decode cX0_copyFrom 97 = .ok (.goto (-39), 3) := by decide +kernel
theorem dX0_copyFrom_100 : decode cX0_copyFrom 100 = .ok (.return_, 1) := by decide +kernel
theorem dX0_countMembers_0 : decode cX0_countMembers 0 = .ok (.iconst 0, 1) := by decide +kernel
theorem dX0_countMembers_1 : decode cX0_countMembers 1 = .ok (.istore_n 1, 1) := by decide +kernel
theorem dX0_countMembers_2 : decode cX0_countMembers 2 = .ok (.iconst 0, 1) := by decide +kernel
theorem dX0_countMembers_3 : decode cX0_countMembers 3 = .ok (.istore_n 2, 1) := by decide +kernel
theorem dX0_countMembers_4 : decode cX0_countMembers 4 = .ok (.iload_n 2, 1) := by decide +kernel
theorem dX0_countMembers_5 : decode cX0_countMembers 5 = .ok (.aload_n 0, 1) := by decide +kernel
theorem dX0_countMembers_6 : decode cX0_countMembers 6 = .ok (.getfield 30, 3) := by decide +kernel
theorem dX0_countMembers_9 : decode cX0_countMembers 9 = .ok (.if_icmp .ge 34, 3) := by decide +kernel
theorem dX0_countMembers_12 : decode cX0_countMembers 12 = .ok (.aload_n 0, 1) := by decide +kernel
theorem dX0_countMembers_13 : decode cX0_countMembers 13 = .ok (.iload_n 2, 1) := by decide +kernel
theorem dX0_countMembers_14 : decode cX0_countMembers 14 = .ok (.invokevirtual 44, 3) := by decide +kernel
theorem dX0_countMembers_17 : decode cX0_countMembers 17 = .ok (.astore_n 3, 1) := by decide +kernel
theorem dX0_countMembers_18 : decode cX0_countMembers 18 = .ok (.iload_n 1, 1) := by decide +kernel
theorem dX0_countMembers_19 : decode cX0_countMembers 19 = .ok (.aload_n 3, 1) := by decide +kernel
theorem dX0_countMembers_20 : decode cX0_countMembers 20 = .ok (.ifnull 14, 3) := by decide +kernel
theorem dX0_countMembers_23 : decode cX0_countMembers 23 = .ok (.aload_n 3, 1) := by decide +kernel
theorem dX0_countMembers_24 : decode cX0_countMembers 24 = .ok (.getfield 52, 3) := by decide +kernel
theorem dX0_countMembers_27 : decode cX0_countMembers 27 = .ok (.ifCond .eq 7, 3) := by decide +kernel
theorem dX0_countMembers_30 : decode cX0_countMembers 30 = .ok (.iconst 1, 1) := by decide +kernel
theorem dX0_countMembers_31 : decode cX0_countMembers 31 = .ok (.goto 4, 3) := by decide +kernel
theorem dX0_countMembers_34 : decode cX0_countMembers 34 = .ok (.iconst 0, 1) := by decide +kernel
theorem dX0_countMembers_35 : decode cX0_countMembers 35 = .ok (.iadd, 1) := by decide +kernel
theorem dX0_countMembers_36 : decode cX0_countMembers 36 = .ok (.istore_n 1, 1) := by decide +kernel
theorem dX0_countMembers_37 : decode cX0_countMembers 37 = .ok (.iinc 2 1, 3) := by decide +kernel
theorem dX0_countMembers_40 : decode cX0_countMembers 40 = .ok (.goto (-36), 3) := by decide +kernel
theorem dX0_countMembers_43 : decode cX0_countMembers 43 = .ok (.iload_n 1, 1) := by decide +kernel
theorem dX0_countMembers_44 : decode cX0_countMembers 44 = .ok (.ireturn, 1) := by decide +kernel
theorem dX0_reinsuredPart_0 : decode cX0_reinsuredPart 0 = .ok (.iconst 0, 1) := by decide +kernel
theorem dX0_reinsuredPart_1 : decode cX0_reinsuredPart 1 = .ok (.iload_n 1, 1) := by decide +kernel
theorem dX0_reinsuredPart_2 : decode cX0_reinsuredPart 2 = .ok (.aload_n 0, 1) := by decide +kernel
theorem dX0_reinsuredPart_3 : decode cX0_reinsuredPart 3 = .ok (.getfield 21, 3) := by decide +kernel
theorem dX0_reinsuredPart_6 : decode cX0_reinsuredPart 6 = .ok (.isub, 1) := by decide +kernel
theorem dX0_reinsuredPart_7 : decode cX0_reinsuredPart 7 = .ok (.invokestatic 56, 3) := by decide +kernel
theorem dX0_reinsuredPart_10 : decode cX0_reinsuredPart 10 = .ok (.aload_n 0, 1) := by decide +kernel
theorem dX0_reinsuredPart_11 : decode cX0_reinsuredPart 11 = .ok (.getfield 24, 3) := by decide +kernel
theorem dX0_reinsuredPart_14 : decode cX0_reinsuredPart 14 = .ok (.invokestatic 62, 3) := by decide +kernel
theorem dX0_reinsuredPart_17 : decode cX0_reinsuredPart 17 = .ok (.ireturn, 1) := by decide +kernel
theorem dX0_letGoBy_0 : decode cX0_letGoBy 0 = .ok (.iconst 0, 1) := by decide +kernel
theorem dX0_letGoBy_1 : decode cX0_letGoBy 1 = .ok (.istore_n 2, 1) := by decide +kernel
theorem dX0_letGoBy_2 : decode cX0_letGoBy 2 = .ok (.iconst 0, 1) := by decide +kernel
theorem dX0_letGoBy_3 : decode cX0_letGoBy 3 = .ok (.istore_n 3, 1) := by decide +kernel
theorem dX0_letGoBy_4 : decode cX0_letGoBy 4 = .ok (.iload_n 3, 1) := by decide +kernel
theorem dX0_letGoBy_5 : decode cX0_letGoBy 5 = .ok (.iload_n 1, 1) := by decide +kernel
theorem dX0_letGoBy_6 : decode cX0_letGoBy 6 = .ok (.if_icmp .ge 16, 3) := by decide +kernel
theorem dX0_letGoBy_9 : decode cX0_letGoBy 9 = .ok (.iload_n 2, 1) := by decide +kernel
theorem dX0_letGoBy_10 : decode cX0_letGoBy 10 = .ok (.aload_n 0, 1) := by decide +kernel
theorem dX0_letGoBy_11 : decode cX0_letGoBy 11 = .ok (.invokevirtual 65, 3) := by decide +kernel
theorem dX0_letGoBy_14 : decode cX0_letGoBy 14 = .ok (.iadd, 1) := by decide +kernel
theorem dX0_letGoBy_15 : decode cX0_letGoBy 15 = .ok (.istore_n 2, 1) := by decide +kernel
theorem dX0_letGoBy_16 : decode cX0_letGoBy 16 = .ok (.iinc 3 1, 3) := by decide +kernel
theorem dX0_letGoBy_19 : decode cX0_letGoBy 19 = .ok (.goto (-15), 3) := by decide +kernel
theorem dX0_letGoBy_22 : decode cX0_letGoBy 22 = .ok (.iload_n 2, 1) := by decide +kernel
theorem dX0_letGoBy_23 : decode cX0_letGoBy 23 = .ok (.ireturn, 1) := by decide +kernel
theorem dX0_letOneHourGoBy_0 : decode cX0_letOneHourGoBy 0 = .ok (.aload_n 0, 1) := by decide +kernel
theorem dX0_letOneHourGoBy_1 : decode cX0_letOneHourGoBy 1 = .ok (.getfield 9, 3) := by decide +kernel
theorem dX0_letOneHourGoBy_4 : decode cX0_letOneHourGoBy 4 = .ok (.invokestatic 69, 3) := by decide +kernel
theorem dX0_letOneHourGoBy_7 : decode cX0_letOneHourGoBy 7 = .ok (.istore_n 1, 1) := by decide +kernel
theorem dX0_letOneHourGoBy_8 : decode cX0_letOneHourGoBy 8 = .ok (.iload_n 1, 1) := by decide +kernel
theorem dX0_letOneHourGoBy_9 : decode cX0_letOneHourGoBy 9 = .ok (.ifCond .ne 7, 3) := by decide +kernel
theorem dX0_letOneHourGoBy_12 : decode cX0_letOneHourGoBy 12 = .ok (.aload_n 0, 1) := by decide +kernel
theorem dX0_letOneHourGoBy_13 : decode cX0_letOneHourGoBy 13 = .ok (.invokevirtual 73, 3) := by decide +kernel
theorem dX0_letOneHourGoBy_16 : decode cX0_letOneHourGoBy 16 = .ok (.iconst 0, 1) := by decide +kernel
theorem dX0_letOneHourGoBy_17 : decode cX0_letOneHourGoBy 17 = .ok (.istore_n 2, 1) := by decide +kernel
theorem dX0_letOneHourGoBy_18 : decode cX0_letOneHourGoBy 18 = .ok (.iconst 0, 1) := by decide +kernel
theorem dX0_letOneHourGoBy_19 : decode cX0_letOneHourGoBy 19 = .ok (.istore_n 3, 1) := by decide +kernel
theorem dX0_letOneHourGoBy_20 : decode cX0_letOneHourGoBy 20 = .ok (.iload_n 3, 1) := by decide +kernel
theorem dX0_letOneHourGoBy_21 : decode cX0_letOneHourGoBy 21 = .ok (.aload_n 0, 1) := by decide +kernel
theorem dX0_letOneHourGoBy_22 : decode cX0_letOneHourGoBy 22 = .ok (.getfield 30, 3) := by decide +kernel
theorem dX0_letOneHourGoBy_25 : decode cX0_letOneHourGoBy 25 = .ok (.if_icmp .ge 46, 3) := by decide +kernel
theorem dX0_letOneHourGoBy_28 : decode cX0_letOneHourGoBy 28 = .ok (.aload_n 0, 1) := by decide +kernel
theorem dX0_letOneHourGoBy_29 : decode cX0_letOneHourGoBy 29 = .ok (.iload_n 3, 1) := by decide +kernel
theorem dX0_letOneHourGoBy_30 : decode cX0_letOneHourGoBy 30 = .ok (.invokevirtual 44, 3) := by decide +kernel
theorem dX0_letOneHourGoBy_33 : decode cX0_letOneHourGoBy 33 = .ok (.astore 4, 2) := by decide +kernel
theorem dX0_letOneHourGoBy_35 : decode cX0_letOneHourGoBy 35 = .ok (.iload_n 2, 1) := by decide +kernel
theorem dX0_letOneHourGoBy_36 : decode cX0_letOneHourGoBy 36 = .ok (.aload 4, 2) := by decide +kernel
theorem dX0_letOneHourGoBy_38 : decode cX0_letOneHourGoBy 38 = .ok (.ifnull 24, 3) := by decide +kernel
theorem dX0_letOneHourGoBy_41 : decode cX0_letOneHourGoBy 41 = .ok (.aload_n 0, 1) := by decide +kernel
theorem dX0_letOneHourGoBy_42 : decode cX0_letOneHourGoBy 42 = .ok (.aload 4, 2) := by decide +kernel
theorem dX0_letOneHourGoBy_44 : decode cX0_letOneHourGoBy 44 = .ok (.iload_n 1, 1) := by decide +kernel
theorem dX0_letOneHourGoBy_45 : decode cX0_letOneHourGoBy 45 = .ok (.invokestatic 76, 3) := by decide +kernel
theorem dX0_letOneHourGoBy_48 : decode cX0_letOneHourGoBy 48 = .ok (.iload_n 1, 1) := by decide +kernel
theorem dX0_letOneHourGoBy_49 : decode cX0_letOneHourGoBy 49 = .ok (.invokestatic 79, 3) := by decide +kernel
theorem dX0_letOneHourGoBy_52 : decode cX0_letOneHourGoBy 52 = .ok (.invokevirtual 83, 3) := by decide +kernel
theorem dX0_letOneHourGoBy_55 : decode cX0_letOneHourGoBy 55 = .ok (.ifCond .eq 7, 3) := by decide +kernel
theorem dX0_letOneHourGoBy_58 : decode cX0_letOneHourGoBy 58 = .ok (.iconst 1, 1) := by decide +kernel
theorem dX0_letOneHourGoBy_59 : decode cX0_letOneHourGoBy 59 = .ok (.goto 4, 3) := by decide +kernel
theorem dX0_letOneHourGoBy_62 : decode cX0_letOneHourGoBy 62 = .ok (.iconst 0, 1) := by decide +kernel
theorem dX0_letOneHourGoBy_63 : decode cX0_letOneHourGoBy 63 = .ok (.iadd, 1) := by decide +kernel
theorem dX0_letOneHourGoBy_64 : decode cX0_letOneHourGoBy 64 = .ok (.istore_n 2, 1) := by decide +kernel
theorem dX0_letOneHourGoBy_65 : decode cX0_letOneHourGoBy 65 = .ok (.iinc 3 1, 3) := by decide +kernel
theorem dX0_letOneHourGoBy_68 : decode cX0_letOneHourGoBy 68 = .ok (.goto (-48), 3) := by decide +kernel
theorem dX0_letOneHourGoBy_71 : decode cX0_letOneHourGoBy 71 = .ok (.aload_n 0, 1) := by decide +kernel
theorem dX0_letOneHourGoBy_72 : decode cX0_letOneHourGoBy 72 = .ok (.dup, 1) := by decide +kernel
theorem dX0_letOneHourGoBy_73 : decode cX0_letOneHourGoBy 73 = .ok (.getfield 9, 3) := by decide +kernel
theorem dX0_letOneHourGoBy_76 : decode cX0_letOneHourGoBy 76 = .ok (.iconst 1, 1) := by decide +kernel
theorem dX0_letOneHourGoBy_77 : decode cX0_letOneHourGoBy 77 = .ok (.iadd, 1) := by decide +kernel
theorem dX0_letOneHourGoBy_78 : decode cX0_letOneHourGoBy 78 = .ok (.putfield 9, 3) := by decide +kernel
theorem dX0_letOneHourGoBy_81 : decode cX0_letOneHourGoBy 81 = .ok (.iload_n 2, 1) := by decide +kernel
theorem dX0_letOneHourGoBy_82 : decode cX0_letOneHourGoBy 82 = .ok (.ireturn, 1) := by decide +kernel
theorem dX0_payDues_0 : decode cX0_payDues 0 = .ok (.aload_n 0, 1) := by decide +kernel
theorem dX0_payDues_1 : decode cX0_payDues 1 = .ok (.dup, 1) := by decide +kernel
theorem dX0_payDues_2 : decode cX0_payDues 2 = .ok (.getfield 15, 3) := by decide +kernel
theorem dX0_payDues_5 : decode cX0_payDues 5 = .ok (.aload_n 0, 1) := by decide +kernel
theorem dX0_payDues_6 : decode cX0_payDues 6 = .ok (.getfield 18, 3) := by decide +kernel
theorem dX0_payDues_9 : decode cX0_payDues 9 = .ok (.aload_n 0, 1) := by decide +kernel
theorem dX0_payDues_10 : decode cX0_payDues 10 = .ok (.invokevirtual 87, 3) := by decide +kernel
theorem dX0_payDues_13 : decode cX0_payDues 13 = .ok (.imul, 1) := by decide +kernel
theorem dX0_payDues_14 : decode cX0_payDues 14 = .ok (.iadd, 1) := by decide +kernel
theorem dX0_payDues_15 : decode cX0_payDues 15 = .ok (.putfield 15, 3) := by decide +kernel
theorem dX0_payDues_18 : decode cX0_payDues 18 = .ok (.aload_n 0, 1) := by decide +kernel
theorem dX0_payDues_19 : decode cX0_payDues 19 = .ok (.getfield 24, 3) := by decide +kernel
theorem dX0_payDues_22 : decode cX0_payDues 22 = .ok (.ifCond .eq 33, 3) := by decide +kernel
theorem dX0_payDues_25 : decode cX0_payDues 25 = .ok (.aload_n 0, 1) := by decide +kernel
theorem dX0_payDues_26 : decode cX0_payDues 26 = .ok (.getfield 24, 3) := by decide +kernel
theorem dX0_payDues_29 : decode cX0_payDues 29 = .ok (.bipush 20, 2) := by decide +kernel
theorem dX0_payDues_31 : decode cX0_payDues 31 = .ok (.idiv, 1) := by decide +kernel
theorem dX0_payDues_32 : decode cX0_payDues 32 = .ok (.iconst 1, 1) := by decide +kernel
theorem dX0_payDues_33 : decode cX0_payDues 33 = .ok (.iadd, 1) := by decide +kernel
theorem dX0_payDues_34 : decode cX0_payDues 34 = .ok (.istore_n 1, 1) := by decide +kernel
theorem dX0_payDues_35 : decode cX0_payDues 35 = .ok (.aload_n 0, 1) := by decide +kernel
theorem dX0_payDues_36 : decode cX0_payDues 36 = .ok (.dup, 1) := by decide +kernel
theorem dX0_payDues_37 : decode cX0_payDues 37 = .ok (.getfield 15, 3) := by decide +kernel
theorem dX0_payDues_40 : decode cX0_payDues 40 = .ok (.iload_n 1, 1) := by decide +kernel
theorem dX0_payDues_41 : decode cX0_payDues 41 = .ok (.isub, 1) := by decide +kernel
theorem dX0_payDues_42 : decode cX0_payDues 42 = .ok (.putfield 15, 3) := by decide +kernel
theorem dX0_payDues_45 : decode cX0_payDues 45 = .ok (.aload_n 0, 1) := by decide +kernel
theorem dX0_payDues_46 : decode cX0_payDues 46 = .ok (.dup, 1) := by decide +kernel
theorem dX0_payDues_47 : decode cX0_payDues 47 = .ok (.getfield 27, 3) := by decide +kernel
theorem dX0_payDues_50 : decode cX0_payDues 50 = .ok (.iload_n 1, 1) := by decide +kernel
theorem dX0_payDues_51 : decode cX0_payDues 51 = .ok (.isub, 1) := by decide +kernel
theorem dX0_payDues_52 : decode cX0_payDues 52 = .ok (.putfield 27, 3) := by decide +kernel
theorem dX0_payDues_55 : decode cX0_payDues 55 = .ok (.return_, 1) := by decide +kernel
theorem dX0_walk_0 : decode cX0_walk 0 = .ok (.aload_n 1, 1) := by decide +kernel
theorem dX0_walk_1 : decode cX0_walk 1 = .ok (.aload_n 1, 1) := by decide +kernel
theorem dX0_walk_2 : decode cX0_walk 2 = .ok (.aload_n 1, 1) := by decide +kernel
theorem dX0_walk_3 : decode cX0_walk 3 = .ok (.getfield 90, 3) := by decide +kernel
theorem dX0_walk_6 : decode cX0_walk 6 = .ok (.iload_n 3, 1) := by decide +kernel
theorem dX0_walk_7 : decode cX0_walk 7 = .ok (.invokevirtual 93, 3) := by decide +kernel
theorem dX0_walk_10 : decode cX0_walk 10 = .ok (.putfield 90, 3) := by decide +kernel
theorem dX0_walk_13 : decode cX0_walk 13 = .ok (.aload_n 1, 1) := by decide +kernel
theorem dX0_walk_14 : decode cX0_walk 14 = .ok (.getfield 90, 3) := by decide +kernel
theorem dX0_walk_17 : decode cX0_walk 17 = .ok (.bipush 10, 2) := by decide +kernel
theorem dX0_walk_19 : decode cX0_walk 19 = .ok (.if_icmp .ge 5, 3) := by decide +kernel
theorem dX0_walk_22 : decode cX0_walk 22 = .ok (.iconst 0, 1) := by decide +kernel
theorem dX0_walk_23 : decode cX0_walk 23 = .ok (.ireturn, 1) := by decide +kernel
theorem dX0_walk_24 : decode cX0_walk 24 = .ok (.aload_n 1, 1) := by decide +kernel
theorem dX0_walk_25 : decode cX0_walk 25 = .ok (.iload_n 2, 1) := by decide +kernel
theorem dX0_walk_26 : decode cX0_walk 26 = .ok (.invokevirtual 97, 3) := by decide +kernel
theorem dX0_walk_29 : decode cX0_walk 29 = .ok (.istore 4, 2) := by decide +kernel
theorem dX0_walk_31 : decode cX0_walk 31 = .ok (.iload 4, 2) := by decide +kernel
theorem dX0_walk_33 : decode cX0_walk 33 = .ok (.aload_n 1, 1) := by decide +kernel
theorem dX0_walk_34 : decode cX0_walk 34 = .ok (.iload 4, 2) := by decide +kernel
theorem dX0_walk_36 : decode cX0_walk 36 = .ok (.iload_n 3, 1) := by decide +kernel
theorem dX0_walk_37 : decode cX0_walk 37 = .ok (.invokevirtual 100, 3) := by decide +kernel
theorem dX0_walk_40 : decode cX0_walk 40 = .ok (.isub, 1) := by decide +kernel
theorem dX0_walk_41 : decode cX0_walk 41 = .ok (.istore 5, 2) := by decide +kernel
theorem dX0_walk_43 : decode cX0_walk 43 = .ok (.aload_n 0, 1) := by decide +kernel
theorem dX0_walk_44 : decode cX0_walk 44 = .ok (.iload 5, 2) := by decide +kernel
theorem dX0_walk_46 : decode cX0_walk 46 = .ok (.invokevirtual 103, 3) := by decide +kernel
theorem dX0_walk_49 : decode cX0_walk 49 = .ok (.istore 6, 2) := by decide +kernel
theorem dX0_walk_51 : decode cX0_walk 51 = .ok (.aload_n 0, 1) := by decide +kernel
theorem dX0_walk_52 : decode cX0_walk 52 = .ok (.dup, 1) := by decide +kernel
theorem dX0_walk_53 : decode cX0_walk 53 = .ok (.getfield 15, 3) := by decide +kernel
theorem dX0_walk_56 : decode cX0_walk 56 = .ok (.iload 5, 2) := by decide +kernel
theorem dX0_walk_58 : decode cX0_walk 58 = .ok (.iload 6, 2) := by decide +kernel
theorem dX0_walk_60 : decode cX0_walk 60 = .ok (.isub, 1) := by decide +kernel
theorem dX0_walk_61 : decode cX0_walk 61 = .ok (.isub, 1) := by decide +kernel
theorem dX0_walk_62 : decode cX0_walk 62 = .ok (.putfield 15, 3) := by decide +kernel
theorem dX0_walk_65 : decode cX0_walk 65 = .ok (.aload_n 0, 1) := by decide +kernel
theorem dX0_walk_66 : decode cX0_walk 66 = .ok (.dup, 1) := by decide +kernel
theorem dX0_walk_67 : decode cX0_walk 67 = .ok (.getfield 27, 3) := by decide +kernel
theorem dX0_walk_70 : decode cX0_walk 70 = .ok (.iload 6, 2) := by decide +kernel
theorem dX0_walk_72 : decode cX0_walk 72 = .ok (.iadd, 1) := by decide +kernel
theorem dX0_walk_73 : decode cX0_walk 73 = .ok (.putfield 27, 3) := by decide +kernel
theorem dX0_walk_76 : decode cX0_walk 76 = .ok (.aload_n 1, 1) := by decide +kernel
theorem dX0_walk_77 : decode cX0_walk 77 = .ok (.invokevirtual 106, 3) := by decide +kernel
theorem dX0_walk_80 : decode cX0_walk 80 = .ok (.iconst 1, 1) := by decide +kernel
theorem dX0_walk_81 : decode cX0_walk 81 = .ok (.ireturn, 1) := by decide +kernel
theorem dX1_init_0 : decode cX1_init 0 = .ok (.aload_n 0, 1) := by decide +kernel
theorem dX1_init_1 : decode cX1_init 1 = .ok (.invokespecial 3, 3) := by decide +kernel
theorem dX1_init_4 : decode cX1_init 4 = .ok (.return_, 1) := by decide +kernel
theorem dX1_begin_0 : decode cX1_begin 0 = .ok (.aload_n 0, 1) := by decide +kernel
theorem dX1_begin_1 : decode cX1_begin 1 = .ok (.iload_n 1, 1) := by decide +kernel
theorem dX1_begin_2 : decode cX1_begin 2 = .ok (.putfield 9, 3) := by decide +kernel
theorem dX1_begin_5 : decode cX1_begin 5 = .ok (.aload_n 0, 1) := by decide +kernel
theorem dX1_begin_6 : decode cX1_begin 6 = .ok (.iload_n 2, 1) := by decide +kernel
theorem dX1_begin_7 : decode cX1_begin 7 = .ok (.putfield 15, 3) := by decide +kernel
theorem dX1_begin_10 : decode cX1_begin 10 = .ok (.aload_n 0, 1) := by decide +kernel
theorem dX1_begin_11 : decode cX1_begin 11 = .ok (.iload_n 3, 1) := by decide +kernel
theorem dX1_begin_12 : decode cX1_begin 12 = .ok (.putfield 18, 3) := by decide +kernel
theorem dX1_begin_15 : decode cX1_begin 15 = .ok (.aload_n 0, 1) := by decide +kernel
theorem dX1_begin_16 : decode cX1_begin 16 = .ok (.iconst 0, 1) := by decide +kernel
theorem dX1_begin_17 : decode cX1_begin 17 = .ok (.putfield 21, 3) := by decide +kernel
theorem dX1_begin_20 : decode cX1_begin 20 = .ok (.aload_n 0, 1) := by decide +kernel
theorem dX1_begin_21 : decode cX1_begin 21 = .ok (.iconst 0, 1) := by decide +kernel
theorem dX1_begin_22 : decode cX1_begin 22 = .ok (.putfield 24, 3) := by decide +kernel
theorem dX1_begin_25 : decode cX1_begin 25 = .ok (.aload_n 0, 1) := by decide +kernel
theorem dX1_begin_26 : decode cX1_begin 26 = .ok (.iconst 1, 1) := by decide +kernel
theorem dX1_begin_27 : decode cX1_begin 27 = .ok (.putfield 27, 3) := by decide +kernel
theorem dX1_begin_30 : decode cX1_begin 30 = .ok (.return_, 1) := by decide +kernel
theorem dX1_copyWalker_0 : decode cX1_copyWalker 0 = .ok (.aload_n 0, 1) := by decide +kernel
theorem dX1_copyWalker_1 : decode cX1_copyWalker 1 = .ok (.aload_n 1, 1) := by decide +kernel
theorem dX1_copyWalker_2 : decode cX1_copyWalker 2 = .ok (.getfield 9, 3) := by decide +kernel
theorem dX1_copyWalker_5 : decode cX1_copyWalker 5 = .ok (.putfield 9, 3) := by decide +kernel
theorem dX1_copyWalker_8 : decode cX1_copyWalker 8 = .ok (.aload_n 0, 1) := by decide +kernel
theorem dX1_copyWalker_9 : decode cX1_copyWalker 9 = .ok (.aload_n 1, 1) := by decide +kernel
theorem dX1_copyWalker_10 : decode cX1_copyWalker 10 = .ok (.getfield 15, 3) := by decide +kernel
theorem dX1_copyWalker_13 : decode cX1_copyWalker 13 = .ok (.putfield 15, 3) := by decide +kernel
theorem dX1_copyWalker_16 : decode cX1_copyWalker 16 = .ok (.aload_n 0, 1) := by decide +kernel
theorem dX1_copyWalker_17 : decode cX1_copyWalker 17 = .ok (.aload_n 1, 1) := by decide +kernel
theorem dX1_copyWalker_18 : decode cX1_copyWalker 18 = .ok (.getfield 18, 3) := by decide +kernel
theorem dX1_copyWalker_21 : decode cX1_copyWalker 21 = .ok (.putfield 18, 3) := by decide +kernel
theorem dX1_copyWalker_24 : decode cX1_copyWalker 24 = .ok (.aload_n 0, 1) := by decide +kernel
theorem dX1_copyWalker_25 : decode cX1_copyWalker 25 = .ok (.aload_n 1, 1) := by decide +kernel
theorem dX1_copyWalker_26 : decode cX1_copyWalker 26 = .ok (.getfield 21, 3) := by decide +kernel
theorem dX1_copyWalker_29 : decode cX1_copyWalker 29 = .ok (.putfield 21, 3) := by decide +kernel
theorem dX1_copyWalker_32 : decode cX1_copyWalker 32 = .ok (.aload_n 0, 1) := by decide +kernel
theorem dX1_copyWalker_33 : decode cX1_copyWalker 33 = .ok (.aload_n 1, 1) := by decide +kernel
theorem dX1_copyWalker_34 : decode cX1_copyWalker 34 = .ok (.getfield 24, 3) := by decide +kernel
theorem dX1_copyWalker_37 : decode cX1_copyWalker 37 = .ok (.putfield 24, 3) := by decide +kernel
theorem dX1_copyWalker_40 : decode cX1_copyWalker 40 = .ok (.aload_n 0, 1) := by decide +kernel
theorem dX1_copyWalker_41 : decode cX1_copyWalker 41 = .ok (.aload_n 1, 1) := by decide +kernel
theorem dX1_copyWalker_42 : decode cX1_copyWalker 42 = .ok (.getfield 27, 3) := by decide +kernel
theorem dX1_copyWalker_45 : decode cX1_copyWalker 45 = .ok (.putfield 27, 3) := by decide +kernel
theorem dX1_copyWalker_48 : decode cX1_copyWalker 48 = .ok (.return_, 1) := by decide +kernel
theorem dX1_shadowUnder_0 : decode cX1_shadowUnder 0 = .ok (.iload_n 1, 1) := by decide +kernel
theorem dX1_shadowUnder_1 : decode cX1_shadowUnder 1 = .ok (.iconst 1, 1) := by decide +kernel
theorem dX1_shadowUnder_2 : decode cX1_shadowUnder 2 = .ok (.if_icmp .ge 7, 3) := by decide +kernel
theorem dX1_shadowUnder_5 : decode cX1_shadowUnder 5 = .ok (.iconst 0, 1) := by decide +kernel
theorem dX1_shadowUnder_6 : decode cX1_shadowUnder 6 = .ok (.goto 12, 3) := by decide +kernel
theorem dX1_shadowUnder_9 : decode cX1_shadowUnder 9 = .ok (.bipush 6, 2) := by decide +kernel
theorem dX1_shadowUnder_11 : decode cX1_shadowUnder 11 = .ok (.aload_n 0, 1) := by decide +kernel
theorem dX1_shadowUnder_12 : decode cX1_shadowUnder 12 = .ok (.getfield 9, 3) := by decide +kernel
theorem dX1_shadowUnder_15 : decode cX1_shadowUnder 15 = .ok (.imul, 1) := by decide +kernel
theorem dX1_shadowUnder_16 : decode cX1_shadowUnder 16 = .ok (.iload_n 1, 1) := by decide +kernel
theorem dX1_shadowUnder_17 : decode cX1_shadowUnder 17 = .ok (.idiv, 1) := by decide +kernel
theorem dX1_shadowUnder_18 : decode cX1_shadowUnder 18 = .ok (.ireturn, 1) := by decide +kernel
theorem dX1_costUnder_0 : decode cX1_costUnder 0 = .ok (.iconst 0, 1) := by decide +kernel
theorem dX1_costUnder_1 : decode cX1_costUnder 1 = .ok (.aload_n 0, 1) := by decide +kernel
theorem dX1_costUnder_2 : decode cX1_costUnder 2 = .ok (.iload_n 1, 1) := by decide +kernel
theorem dX1_costUnder_3 : decode cX1_costUnder 3 = .ok (.invokevirtual 31, 3) := by decide +kernel
theorem dX1_costUnder_6 : decode cX1_costUnder 6 = .ok (.iconst 2, 1) := by decide +kernel
theorem dX1_costUnder_7 : decode cX1_costUnder 7 = .ok (.aload_n 0, 1) := by decide +kernel
theorem dX1_costUnder_8 : decode cX1_costUnder 8 = .ok (.getfield 18, 3) := by decide +kernel
theorem dX1_costUnder_11 : decode cX1_costUnder 11 = .ok (.imul, 1) := by decide +kernel
theorem dX1_costUnder_12 : decode cX1_costUnder 12 = .ok (.isub, 1) := by decide +kernel
theorem dX1_costUnder_13 : decode cX1_costUnder 13 = .ok (.invokestatic 35, 3) := by decide +kernel
theorem dX1_costUnder_16 : decode cX1_costUnder 16 = .ok (.ireturn, 1) := by decide +kernel
theorem dX1_ownPart_0 : decode cX1_ownPart 0 = .ok (.aload_n 0, 1) := by decide +kernel
theorem dX1_ownPart_1 : decode cX1_ownPart 1 = .ok (.getfield 27, 3) := by decide +kernel
theorem dX1_ownPart_4 : decode cX1_ownPart 4 = .ok (.ifCond .ne 5, 3) := by decide +kernel
theorem dX1_ownPart_7 : decode cX1_ownPart 7 = .ok (.iload_n 1, 1) := by decide +kernel
theorem dX1_ownPart_8 : decode cX1_ownPart 8 = .ok (.ireturn, 1) := by decide +kernel
theorem dX1_ownPart_9 : decode cX1_ownPart 9 = .ok (.iload_n 1, 1) := by decide +kernel
theorem dX1_ownPart_10 : decode cX1_ownPart 10 = .ok (.iload_n 2, 1) := by decide +kernel
theorem dX1_ownPart_11 : decode cX1_ownPart 11 = .ok (.ifCond .eq 8, 3) := by decide +kernel
theorem dX1_ownPart_14 : decode cX1_ownPart 14 = .ok (.bipush 6, 2) := by decide +kernel
theorem dX1_ownPart_16 : decode cX1_ownPart 16 = .ok (.goto 4, 3) := by decide +kernel
theorem dX1_ownPart_19 : decode cX1_ownPart 19 = .ok (.iconst 3, 1) := by decide +kernel
theorem dX1_ownPart_20 : decode cX1_ownPart 20 = .ok (.invokestatic 41, 3) := by decide +kernel
theorem dX1_ownPart_23 : decode cX1_ownPart 23 = .ok (.ireturn, 1) := by decide +kernel
theorem dX1_wobbleBehind_0 : decode cX1_wobbleBehind 0 = .ok (.aload_n 0, 1) := by decide +kernel
theorem dX1_wobbleBehind_1 : decode cX1_wobbleBehind 1 = .ok (.getfield 9, 3) := by decide +kernel
theorem dX1_wobbleBehind_4 : decode cX1_wobbleBehind 4 = .ok (.iconst 5, 1) := by decide +kernel
theorem dX1_wobbleBehind_5 : decode cX1_wobbleBehind 5 = .ok (.idiv, 1) := by decide +kernel
theorem dX1_wobbleBehind_6 : decode cX1_wobbleBehind 6 = .ok (.iload_n 2, 1) := by decide +kernel
theorem dX1_wobbleBehind_7 : decode cX1_wobbleBehind 7 = .ok (.ifCond .eq 7, 3) := by decide +kernel
theorem dX1_wobbleBehind_10 : decode cX1_wobbleBehind 10 = .ok (.iconst 2, 1) := by decide +kernel
theorem dX1_wobbleBehind_11 : decode cX1_wobbleBehind 11 = .ok (.goto 4, 3) := by decide +kernel
theorem dX1_wobbleBehind_14 : decode cX1_wobbleBehind 14 = .ok (.iconst 1, 1) := by decide +kernel
theorem dX1_wobbleBehind_15 : decode cX1_wobbleBehind 15 = .ok (.iadd, 1) := by decide +kernel
theorem dX1_wobbleBehind_16 : decode cX1_wobbleBehind 16 = .ok (.istore_n 3, 1) := by decide +kernel
theorem dX1_wobbleBehind_17 : decode cX1_wobbleBehind 17 = .ok (.iconst 0, 1) := by decide +kernel
theorem dX1_wobbleBehind_18 : decode cX1_wobbleBehind 18 = .ok (.iload_n 1, 1) := by decide +kernel
theorem dX1_wobbleBehind_19 : decode cX1_wobbleBehind 19 = .ok (.iload_n 3, 1) := by decide +kernel
theorem dX1_wobbleBehind_20 : decode cX1_wobbleBehind 20 = .ok (.iadd, 1) := by decide +kernel
theorem dX1_wobbleBehind_21 : decode cX1_wobbleBehind 21 = .ok (.aload_n 0, 1) := by decide +kernel
theorem dX1_wobbleBehind_22 : decode cX1_wobbleBehind 22 = .ok (.getfield 15, 3) := by decide +kernel
theorem dX1_wobbleBehind_25 : decode cX1_wobbleBehind 25 = .ok (.isub, 1) := by decide +kernel
theorem dX1_wobbleBehind_26 : decode cX1_wobbleBehind 26 = .ok (.invokestatic 35, 3) := by decide +kernel
theorem dX1_wobbleBehind_29 : decode cX1_wobbleBehind 29 = .ok (.ireturn, 1) := by decide +kernel
theorem dX1_fallsBehind_0 : decode cX1_fallsBehind 0 = .ok (.aload_n 0, 1) := by decide +kernel
theorem dX1_fallsBehind_1 : decode cX1_fallsBehind 1 = .ok (.getfield 21, 3) := by decide +kernel
theorem dX1_fallsBehind_4 : decode cX1_fallsBehind 4 = .ok (.istore_n 2, 1) := by decide +kernel
theorem dX1_fallsBehind_5 : decode cX1_fallsBehind 5 = .ok (.iconst 1, 1) := by decide +kernel
theorem dX1_fallsBehind_6 : decode cX1_fallsBehind 6 = .ok (.istore_n 3, 1) := by decide +kernel
theorem dX1_fallsBehind_7 : decode cX1_fallsBehind 7 = .ok (.iload_n 3, 1) := by decide +kernel
theorem dX1_fallsBehind_8 : decode cX1_fallsBehind 8 = .ok (.bipush 100, 2) := by decide +kernel
theorem dX1_fallsBehind_10 : decode cX1_fallsBehind 10 = .ok (.if_icmp .gt 34, 3) := by decide +kernel
theorem dX1_fallsBehind_13 : decode cX1_fallsBehind 13 = .ok (.aload_n 0, 1) := by decide +kernel
theorem dX1_fallsBehind_14 : decode cX1_fallsBehind 14 = .ok (.iload_n 2, 1) := by decide +kernel
theorem dX1_fallsBehind_15 : decode cX1_fallsBehind 15 = .ok (.iload_n 1, 1) := by decide +kernel
theorem dX1_fallsBehind_16 : decode cX1_fallsBehind 16 = .ok (.iload_n 3, 1) := by decide +kernel
theorem dX1_fallsBehind_17 : decode cX1_fallsBehind 17 = .ok (.iadd, 1) := by decide +kernel
theorem dX1_fallsBehind_18 : decode cX1_fallsBehind 18 = .ok (.iconst 1, 1) := by decide +kernel
theorem dX1_fallsBehind_19 : decode cX1_fallsBehind 19 = .ok (.isub, 1) := by decide +kernel
theorem dX1_fallsBehind_20 : decode cX1_fallsBehind 20 = .ok (.invokestatic 44, 3) := by decide +kernel
theorem dX1_fallsBehind_23 : decode cX1_fallsBehind 23 = .ok (.invokestatic 47, 3) := by decide +kernel
theorem dX1_fallsBehind_26 : decode cX1_fallsBehind 26 = .ok (.invokevirtual 51, 3) := by decide +kernel
theorem dX1_fallsBehind_29 : decode cX1_fallsBehind 29 = .ok (.istore_n 2, 1) := by decide +kernel
theorem dX1_fallsBehind_30 : decode cX1_fallsBehind 30 = .ok (.iload_n 2, 1) := by decide +kernel
theorem dX1_fallsBehind_31 : decode cX1_fallsBehind 31 = .ok (.bipush 10, 2) := by decide +kernel
theorem dX1_fallsBehind_33 : decode cX1_fallsBehind 33 = .ok (.if_icmp .lt 5, 3) := by decide +kernel
theorem dX1_fallsBehind_36 : decode cX1_fallsBehind 36 = .ok (.iload_n 3, 1) := by decide +kernel
theorem dX1_fallsBehind_37 : decode cX1_fallsBehind 37 = .ok (.ireturn, 1) := by decide +kernel
theorem dX1_fallsBehind_38 : decode cX1_fallsBehind 38 = .ok (.iinc 3 1, 3) := by decide +kernel
theorem dX1_fallsBehind_41 : decode cX1_fallsBehind 41 = .ok (.goto (-34), 3) := by decide +kernel
theorem dX1_fallsBehind_44 : decode cX1_fallsBehind 44 = .ok (.iconst (-1), 1) := by decide +kernel
theorem dX1_fallsBehind_45 : decode cX1_fallsBehind 45 = .ok (.ireturn, 1) := by decide +kernel
theorem dX1_fall_0 : decode cX1_fall 0 = .ok (.aload_n 0, 1) := by decide +kernel
theorem dX1_fall_1 : decode cX1_fall 1 = .ok (.dup, 1) := by decide +kernel
theorem dX1_fall_2 : decode cX1_fall 2 = .ok (.getfield 24, 3) := by decide +kernel
theorem dX1_fall_5 : decode cX1_fall 5 = .ok (.iconst 1, 1) := by decide +kernel
theorem dX1_fall_6 : decode cX1_fall 6 = .ok (.iadd, 1) := by decide +kernel
theorem dX1_fall_7 : decode cX1_fall 7 = .ok (.putfield 24, 3) := by decide +kernel
theorem dX1_fall_10 : decode cX1_fall 10 = .ok (.aload_n 0, 1) := by decide +kernel
theorem dX1_fall_11 : decode cX1_fall 11 = .ok (.iconst 0, 1) := by decide +kernel
theorem dX1_fall_12 : decode cX1_fall 12 = .ok (.aload_n 0, 1) := by decide +kernel
theorem dX1_fall_13 : decode cX1_fall 13 = .ok (.getfield 18, 3) := by decide +kernel
theorem dX1_fall_16 : decode cX1_fall 16 = .ok (.iconst 1, 1) := by decide +kernel
theorem dX1_fall_17 : decode cX1_fall 17 = .ok (.isub, 1) := by decide +kernel
theorem dX1_fall_18 : decode cX1_fall 18 = .ok (.invokestatic 35, 3) := by decide +kernel
theorem dX1_fall_21 : decode cX1_fall 21 = .ok (.putfield 18, 3) := by decide +kernel
theorem dX1_fall_24 : decode cX1_fall 24 = .ok (.aload_n 0, 1) := by decide +kernel
theorem dX1_fall_25 : decode cX1_fall 25 = .ok (.iconst 0, 1) := by decide +kernel
theorem dX1_fall_26 : decode cX1_fall 26 = .ok (.putfield 21, 3) := by decide +kernel
theorem dX1_fall_29 : decode cX1_fall 29 = .ok (.return_, 1) := by decide +kernel
theorem dX2_init_0 : decode cX2_init 0 = .ok (.aload_n 0, 1) := by decide +kernel
theorem dX2_init_1 : decode cX2_init 1 = .ok (.invokespecial 1, 3) := by decide +kernel
theorem dX2_init_4 : decode cX2_init 4 = .ok (.aload_n 0, 1) := by decide +kernel
theorem dX2_init_5 : decode cX2_init 5 = .ok (.new 7, 3) := by decide +kernel
theorem dX2_init_8 : decode cX2_init 8 = .ok (.dup, 1) := by decide +kernel
theorem dX2_init_9 : decode cX2_init 9 = .ok (.invokespecial 9, 3) := by decide +kernel
theorem dX2_init_12 : decode cX2_init 12 = .ok (.putfield 10, 3) := by decide +kernel
theorem dX2_init_15 : decode cX2_init 15 = .ok (.aload_n 0, 1) := by decide +kernel
theorem dX2_init_16 : decode cX2_init 16 = .ok (.new 7, 3) := by decide +kernel
theorem dX2_init_19 : decode cX2_init 19 = .ok (.dup, 1) := by decide +kernel
theorem dX2_init_20 : decode cX2_init 20 = .ok (.invokespecial 9, 3) := by decide +kernel
theorem dX2_init_23 : decode cX2_init 23 = .ok (.putfield 16, 3) := by decide +kernel
theorem dX2_init_26 : decode cX2_init 26 = .ok (.return_, 1) := by decide +kernel
theorem dX2_addWalker_0 : decode cX2_addWalker 0 = .ok (.iload_n 1, 1) := by decide +kernel
theorem dX2_addWalker_1 : decode cX2_addWalker 1 = .ok (.iconst 1, 1) := by decide +kernel
theorem dX2_addWalker_2 : decode cX2_addWalker 2 = .ok (.bipush 30, 2) := by decide +kernel
theorem dX2_addWalker_4 : decode cX2_addWalker 4 = .ok (.invokestatic 19, 3) := by decide +kernel
theorem dX2_addWalker_7 : decode cX2_addWalker 7 = .ok (.ifCond .ne 13, 3) := by decide +kernel
theorem dX2_addWalker_10 : decode cX2_addWalker 10 = .ok (.new 23, 3) := by decide +kernel
theorem dX2_addWalker_13 : decode cX2_addWalker 13 = .ok (.dup, 1) := by decide +kernel
theorem dX2_addWalker_14 : decode cX2_addWalker 14 = .ok (.ldc 25, 2) := by decide +kernel
theorem dX2_addWalker_16 : decode cX2_addWalker 16 = .ok (.invokespecial 27, 3) := by decide +kernel
theorem dX2_addWalker_19 : decode cX2_addWalker 19 = .ok (.athrow, 1) := by decide +kernel
theorem dX2_addWalker_20 : decode cX2_addWalker 20 = .ok (.iload_n 2, 1) := by decide +kernel
theorem dX2_addWalker_21 : decode cX2_addWalker 21 = .ok (.iconst 0, 1) := by decide +kernel
theorem dX2_addWalker_22 : decode cX2_addWalker 22 = .ok (.iconst 5, 1) := by decide +kernel
theorem dX2_addWalker_23 : decode cX2_addWalker 23 = .ok (.invokestatic 19, 3) := by decide +kernel
theorem dX2_addWalker_26 : decode cX2_addWalker 26 = .ok (.ifCond .ne 13, 3) := by decide +kernel
theorem dX2_addWalker_29 : decode cX2_addWalker 29 = .ok (.new 23, 3) := by decide +kernel
theorem dX2_addWalker_32 : decode cX2_addWalker 32 = .ok (.dup, 1) := by decide +kernel
theorem dX2_addWalker_33 : decode cX2_addWalker 33 = .ok (.ldc 30, 2) := by decide +kernel
theorem dX2_addWalker_35 : decode cX2_addWalker 35 = .ok (.invokespecial 27, 3) := by decide +kernel
theorem dX2_addWalker_38 : decode cX2_addWalker 38 = .ok (.athrow, 1) := by decide +kernel
theorem dX2_addWalker_39 : decode cX2_addWalker 39 = .ok (.iload_n 3, 1) := by decide +kernel
theorem dX2_addWalker_40 : decode cX2_addWalker 40 = .ok (.iconst 0, 1) := by decide +kernel
theorem dX2_addWalker_41 : decode cX2_addWalker 41 = .ok (.bipush 9, 2) := by decide +kernel
theorem dX2_addWalker_43 : decode cX2_addWalker 43 = .ok (.invokestatic 19, 3) := by decide +kernel
theorem dX2_addWalker_46 : decode cX2_addWalker 46 = .ok (.ifCond .ne 13, 3) := by decide +kernel
theorem dX2_addWalker_49 : decode cX2_addWalker 49 = .ok (.new 23, 3) := by decide +kernel
theorem dX2_addWalker_52 : decode cX2_addWalker 52 = .ok (.dup, 1) := by decide +kernel
theorem dX2_addWalker_53 : decode cX2_addWalker 53 = .ok (.ldc 32, 2) := by decide +kernel
theorem dX2_addWalker_55 : decode cX2_addWalker 55 = .ok (.invokespecial 27, 3) := by decide +kernel
theorem dX2_addWalker_58 : decode cX2_addWalker 58 = .ok (.athrow, 1) := by decide +kernel
theorem dX2_addWalker_59 : decode cX2_addWalker 59 = .ok (.aload_n 0, 1) := by decide +kernel
theorem dX2_addWalker_60 : decode cX2_addWalker 60 = .ok (.getfield 10, 3) := by decide +kernel
theorem dX2_addWalker_63 : decode cX2_addWalker 63 = .ok (.iload_n 1, 1) := by decide +kernel
theorem dX2_addWalker_64 : decode cX2_addWalker 64 = .ok (.iload_n 2, 1) := by decide +kernel
theorem dX2_addWalker_65 : decode cX2_addWalker 65 = .ok (.iload_n 3, 1) := by decide +kernel
theorem dX2_addWalker_66 : decode cX2_addWalker 66 = .ok (.invokevirtual 34, 3) := by decide +kernel
theorem dX2_addWalker_69 : decode cX2_addWalker 69 = .ok (.istore 4, 2) := by decide +kernel
theorem dX2_addWalker_71 : decode cX2_addWalker 71 = .ok (.iload 4, 2) := by decide +kernel
theorem dX2_addWalker_73 : decode cX2_addWalker 73 = .ok (.ifCond .ge 13, 3) := by decide +kernel
theorem dX2_addWalker_76 : decode cX2_addWalker 76 = .ok (.new 38, 3) := by decide +kernel
theorem dX2_addWalker_79 : decode cX2_addWalker 79 = .ok (.dup, 1) := by decide +kernel
theorem dX2_addWalker_80 : decode cX2_addWalker 80 = .ok (.ldc 40, 2) := by decide +kernel
theorem dX2_addWalker_82 : decode cX2_addWalker 82 = .ok (.invokespecial 42, 3) := by decide +kernel
theorem dX2_addWalker_85 : decode cX2_addWalker 85 = .ok (.athrow, 1) := by decide +kernel
theorem dX2_addWalker_86 : decode cX2_addWalker 86 = .ok (.iload 4, 2) := by decide +kernel
theorem dX2_addWalker_88 : decode cX2_addWalker 88 = .ok (.ireturn, 1) := by decide +kernel
theorem dX2_turnMember_0 : decode cX2_turnMember 0 = .ok (.aload_n 0, 1) := by decide +kernel
theorem dX2_turnMember_1 : decode cX2_turnMember 1 = .ok (.getfield 10, 3) := by decide +kernel
theorem dX2_turnMember_4 : decode cX2_turnMember 4 = .ok (.iload_n 1, 1) := by decide +kernel
theorem dX2_turnMember_5 : decode cX2_turnMember 5 = .ok (.invokevirtual 43, 3) := by decide +kernel
theorem dX2_turnMember_8 : decode cX2_turnMember 8 = .ok (.astore_n 2, 1) := by decide +kernel
theorem dX2_turnMember_9 : decode cX2_turnMember 9 = .ok (.aload_n 2, 1) := by decide +kernel
theorem dX2_turnMember_10 : decode cX2_turnMember 10 = .ok (.ifnonnull 13, 3) := by decide +kernel
theorem dX2_turnMember_13 : decode cX2_turnMember 13 = .ok (.new 47, 3) := by decide +kernel
theorem dX2_turnMember_16 : decode cX2_turnMember 16 = .ok (.dup, 1) := by decide +kernel
theorem dX2_turnMember_17 : decode cX2_turnMember 17 = .ok (.ldc 49, 2) := by decide +kernel
theorem dX2_turnMember_19 : decode cX2_turnMember 19 = .ok (.invokespecial 51, 3) := by decide +kernel
theorem dX2_turnMember_22 : decode cX2_turnMember 22 = .ok (.athrow, 1) := by decide +kernel
theorem dX2_turnMember_23 : decode cX2_turnMember 23 = .ok (.aload_n 2, 1) := by decide +kernel
theorem dX2_turnMember_24 : decode cX2_turnMember 24 = .ok (.aload_n 2, 1) := by decide +kernel
theorem dX2_turnMember_25 : decode cX2_turnMember 25 = .ok (.getfield 52, 3) := by decide +kernel
theorem dX2_turnMember_28 : decode cX2_turnMember 28 = .ok (.ifCond .ne 7, 3) := by decide +kernel
theorem dX2_turnMember_31 : decode cX2_turnMember 31 = .ok (.iconst 1, 1) := by decide +kernel
theorem dX2_turnMember_32 : decode cX2_turnMember 32 = .ok (.goto 4, 3) := by decide +kernel
theorem dX2_turnMember_35 : decode cX2_turnMember 35 = .ok (.iconst 0, 1) := by decide +kernel
theorem dX2_turnMember_36 : decode cX2_turnMember 36 = .ok (.putfield 52, 3) := by decide +kernel
theorem dX2_turnMember_39 : decode cX2_turnMember 39 = .ok (.aload_n 2, 1) := by decide +kernel
theorem dX2_turnMember_40 : decode cX2_turnMember 40 = .ok (.getfield 52, 3) := by decide +kernel
theorem dX2_turnMember_43 : decode cX2_turnMember 43 = .ok (.ireturn, 1) := by decide +kernel
theorem dX2_setNet_0 : decode cX2_setNet 0 = .ok (.aload_n 0, 1) := by decide +kernel
theorem dX2_setNet_1 : decode cX2_setNet 1 = .ok (.getfield 10, 3) := by decide +kernel
theorem dX2_setNet_4 : decode cX2_setNet 4 = .ok (.iload_n 1, 1) := by decide +kernel
theorem dX2_setNet_5 : decode cX2_setNet 5 = .ok (.invokevirtual 43, 3) := by decide +kernel
theorem dX2_setNet_8 : decode cX2_setNet 8 = .ok (.astore_n 3, 1) := by decide +kernel
theorem dX2_setNet_9 : decode cX2_setNet 9 = .ok (.aload_n 3, 1) := by decide +kernel
theorem dX2_setNet_10 : decode cX2_setNet 10 = .ok (.ifnonnull 13, 3) := by decide +kernel
theorem dX2_setNet_13 : decode cX2_setNet 13 = .ok (.new 47, 3) := by decide +kernel
theorem dX2_setNet_16 : decode cX2_setNet 16 = .ok (.dup, 1) := by decide +kernel
theorem dX2_setNet_17 : decode cX2_setNet 17 = .ok (.ldc 49, 2) := by decide +kernel
theorem dX2_setNet_19 : decode cX2_setNet 19 = .ok (.invokespecial 51, 3) := by decide +kernel
theorem dX2_setNet_22 : decode cX2_setNet 22 = .ok (.athrow, 1) := by decide +kernel
theorem dX2_setNet_23 : decode cX2_setNet 23 = .ok (.iload_n 2, 1) := by decide +kernel
theorem dX2_setNet_24 : decode cX2_setNet 24 = .ok (.iconst 0, 1) := by decide +kernel
theorem dX2_setNet_25 : decode cX2_setNet 25 = .ok (.bipush 9, 2) := by decide +kernel
theorem dX2_setNet_27 : decode cX2_setNet 27 = .ok (.invokestatic 19, 3) := by decide +kernel
theorem dX2_setNet_30 : decode cX2_setNet 30 = .ok (.ifCond .ne 13, 3) := by decide +kernel
theorem dX2_setNet_33 : decode cX2_setNet 33 = .ok (.new 23, 3) := by decide +kernel
theorem dX2_setNet_36 : decode cX2_setNet 36 = .ok (.dup, 1) := by decide +kernel
theorem dX2_setNet_37 : decode cX2_setNet 37 = .ok (.ldc 32, 2) := by decide +kernel
theorem dX2_setNet_39 : decode cX2_setNet 39 = .ok (.invokespecial 27, 3) := by decide +kernel
theorem dX2_setNet_42 : decode cX2_setNet 42 = .ok (.athrow, 1) := by decide +kernel
theorem dX2_setNet_43 : decode cX2_setNet 43 = .ok (.aload_n 3, 1) := by decide +kernel
theorem dX2_setNet_44 : decode cX2_setNet 44 = .ok (.getfield 58, 3) := by decide +kernel
theorem dX2_setNet_47 : decode cX2_setNet 47 = .ok (.istore 4, 2) := by decide +kernel
theorem dX2_setNet_49 : decode cX2_setNet 49 = .ok (.aload_n 3, 1) := by decide +kernel
theorem dX2_setNet_50 : decode cX2_setNet 50 = .ok (.iload_n 2, 1) := by decide +kernel
theorem dX2_setNet_51 : decode cX2_setNet 51 = .ok (.putfield 58, 3) := by decide +kernel
theorem dX2_setNet_54 : decode cX2_setNet 54 = .ok (.iload 4, 2) := by decide +kernel
theorem dX2_setNet_56 : decode cX2_setNet 56 = .ok (.ireturn, 1) := by decide +kernel
theorem dX2_rest_0 : decode cX2_rest 0 = .ok (.aload_n 0, 1) := by decide +kernel
theorem dX2_rest_1 : decode cX2_rest 1 = .ok (.getfield 10, 3) := by decide +kernel
theorem dX2_rest_4 : decode cX2_rest 4 = .ok (.iload_n 1, 1) := by decide +kernel
theorem dX2_rest_5 : decode cX2_rest 5 = .ok (.invokevirtual 43, 3) := by decide +kernel
theorem dX2_rest_8 : decode cX2_rest 8 = .ok (.astore_n 2, 1) := by decide +kernel
theorem dX2_rest_9 : decode cX2_rest 9 = .ok (.aload_n 2, 1) := by decide +kernel
theorem dX2_rest_10 : decode cX2_rest 10 = .ok (.ifnonnull 13, 3) := by decide +kernel
theorem dX2_rest_13 : decode cX2_rest 13 = .ok (.new 47, 3) := by decide +kernel
theorem dX2_rest_16 : decode cX2_rest 16 = .ok (.dup, 1) := by decide +kernel
theorem dX2_rest_17 : decode cX2_rest 17 = .ok (.ldc 49, 2) := by decide +kernel
theorem dX2_rest_19 : decode cX2_rest 19 = .ok (.invokespecial 51, 3) := by decide +kernel
theorem dX2_rest_22 : decode cX2_rest 22 = .ok (.athrow, 1) := by decide +kernel
theorem dX2_rest_23 : decode cX2_rest 23 = .ok (.aload_n 2, 1) := by decide +kernel
theorem dX2_rest_24 : decode cX2_rest 24 = .ok (.getfield 62, 3) := by decide +kernel
theorem dX2_rest_27 : decode cX2_rest 27 = .ok (.istore_n 3, 1) := by decide +kernel
theorem dX2_rest_28 : decode cX2_rest 28 = .ok (.aload_n 2, 1) := by decide +kernel
theorem dX2_rest_29 : decode cX2_rest 29 = .ok (.iconst 0, 1) := by decide +kernel
theorem dX2_rest_30 : decode cX2_rest 30 = .ok (.putfield 62, 3) := by decide +kernel
theorem dX2_rest_33 : decode cX2_rest 33 = .ok (.iload_n 3, 1) := by decide +kernel
theorem dX2_rest_34 : decode cX2_rest 34 = .ok (.ireturn, 1) := by decide +kernel
theorem dX2_setRate_0 : decode cX2_setRate 0 = .ok (.iload_n 1, 1) := by decide +kernel
theorem dX2_setRate_1 : decode cX2_setRate 1 = .ok (.iconst 0, 1) := by decide +kernel
theorem dX2_setRate_2 : decode cX2_setRate 2 = .ok (.bipush 9, 2) := by decide +kernel
theorem dX2_setRate_4 : decode cX2_setRate 4 = .ok (.invokestatic 19, 3) := by decide +kernel
theorem dX2_setRate_7 : decode cX2_setRate 7 = .ok (.ifCond .ne 13, 3) := by decide +kernel
theorem dX2_setRate_10 : decode cX2_setRate 10 = .ok (.new 23, 3) := by decide +kernel
theorem dX2_setRate_13 : decode cX2_setRate 13 = .ok (.dup, 1) := by decide +kernel
theorem dX2_setRate_14 : decode cX2_setRate 14 = .ok (.ldc 65, 2) := by decide +kernel
theorem dX2_setRate_16 : decode cX2_setRate 16 = .ok (.invokespecial 27, 3) := by decide +kernel
theorem dX2_setRate_19 : decode cX2_setRate 19 = .ok (.athrow, 1) := by decide +kernel
theorem dX2_setRate_20 : decode cX2_setRate 20 = .ok (.aload_n 0, 1) := by decide +kernel
theorem dX2_setRate_21 : decode cX2_setRate 21 = .ok (.getfield 10, 3) := by decide +kernel
theorem dX2_setRate_24 : decode cX2_setRate 24 = .ok (.getfield 67, 3) := by decide +kernel
theorem dX2_setRate_27 : decode cX2_setRate 27 = .ok (.istore_n 2, 1) := by decide +kernel
theorem dX2_setRate_28 : decode cX2_setRate 28 = .ok (.aload_n 0, 1) := by decide +kernel
theorem dX2_setRate_29 : decode cX2_setRate 29 = .ok (.getfield 10, 3) := by decide +kernel
theorem dX2_setRate_32 : decode cX2_setRate 32 = .ok (.iload_n 1, 1) := by decide +kernel
theorem dX2_setRate_33 : decode cX2_setRate 33 = .ok (.putfield 67, 3) := by decide +kernel
theorem dX2_setRate_36 : decode cX2_setRate 36 = .ok (.iload_n 2, 1) := by decide +kernel
theorem dX2_setRate_37 : decode cX2_setRate 37 = .ok (.ireturn, 1) := by decide +kernel
theorem dX2_reinsure_0 : decode cX2_reinsure 0 = .ok (.iload_n 1, 1) := by decide +kernel
theorem dX2_reinsure_1 : decode cX2_reinsure 1 = .ok (.iconst 0, 1) := by decide +kernel
theorem dX2_reinsure_2 : decode cX2_reinsure 2 = .ok (.sipush 200, 3) := by decide +kernel
theorem dX2_reinsure_5 : decode cX2_reinsure 5 = .ok (.invokestatic 19, 3) := by decide +kernel
theorem dX2_reinsure_8 : decode cX2_reinsure 8 = .ok (.ifCond .ne 13, 3) := by decide +kernel
theorem dX2_reinsure_11 : decode cX2_reinsure 11 = .ok (.new 23, 3) := by decide +kernel
theorem dX2_reinsure_14 : decode cX2_reinsure 14 = .ok (.dup, 1) := by decide +kernel
theorem dX2_reinsure_15 : decode cX2_reinsure 15 = .ok (.ldc 70, 2) := by decide +kernel
theorem dX2_reinsure_17 : decode cX2_reinsure 17 = .ok (.invokespecial 27, 3) := by decide +kernel
theorem dX2_reinsure_20 : decode cX2_reinsure 20 = .ok (.athrow, 1) := by decide +kernel
theorem dX2_reinsure_21 : decode cX2_reinsure 21 = .ok (.iload_n 2, 1) := by decide +kernel
theorem dX2_reinsure_22 : decode cX2_reinsure 22 = .ok (.iconst 0, 1) := by decide +kernel
theorem dX2_reinsure_23 : decode cX2_reinsure 23 = .ok (.sipush 400, 3) := by decide +kernel
theorem dX2_reinsure_26 : decode cX2_reinsure 26 = .ok (.invokestatic 19, 3) := by decide +kernel
theorem dX2_reinsure_29 : decode cX2_reinsure 29 = .ok (.ifCond .ne 13, 3) := by decide +kernel
theorem dX2_reinsure_32 : decode cX2_reinsure 32 = .ok (.new 23, 3) := by decide +kernel
theorem dX2_reinsure_35 : decode cX2_reinsure 35 = .ok (.dup, 1) := by decide +kernel
theorem dX2_reinsure_36 : decode cX2_reinsure 36 = .ok (.ldc 72, 2) := by decide +kernel
theorem dX2_reinsure_38 : decode cX2_reinsure 38 = .ok (.invokespecial 27, 3) := by decide +kernel
theorem dX2_reinsure_41 : decode cX2_reinsure 41 = .ok (.athrow, 1) := by decide +kernel
theorem dX2_reinsure_42 : decode cX2_reinsure 42 = .ok (.aload_n 0, 1) := by decide +kernel
theorem dX2_reinsure_43 : decode cX2_reinsure 43 = .ok (.getfield 10, 3) := by decide +kernel
theorem dX2_reinsure_46 : decode cX2_reinsure 46 = .ok (.getfield 74, 3) := by decide +kernel
theorem dX2_reinsure_49 : decode cX2_reinsure 49 = .ok (.istore_n 3, 1) := by decide +kernel
theorem dX2_reinsure_50 : decode cX2_reinsure 50 = .ok (.aload_n 0, 1) := by decide +kernel
theorem dX2_reinsure_51 : decode cX2_reinsure 51 = .ok (.getfield 10, 3) := by decide +kernel
theorem dX2_reinsure_54 : decode cX2_reinsure 54 = .ok (.iload_n 1, 1) := by decide +kernel
theorem dX2_reinsure_55 : decode cX2_reinsure 55 = .ok (.putfield 77, 3) := by decide +kernel
theorem dX2_reinsure_58 : decode cX2_reinsure 58 = .ok (.aload_n 0, 1) := by decide +kernel
theorem dX2_reinsure_59 : decode cX2_reinsure 59 = .ok (.getfield 10, 3) := by decide +kernel
theorem dX2_reinsure_62 : decode cX2_reinsure 62 = .ok (.iload_n 2, 1) := by decide +kernel
theorem dX2_reinsure_63 : decode cX2_reinsure 63 = .ok (.putfield 74, 3) := by decide +kernel
theorem dX2_reinsure_66 : decode cX2_reinsure 66 = .ok (.iload_n 3, 1) := by decide +kernel
theorem dX2_reinsure_67 : decode cX2_reinsure 67 = .ok (.ireturn, 1) := by decide +kernel
theorem dX2_pass_0 : decode cX2_pass 0 = .ok (.iload_n 1, 1) := by decide +kernel
theorem dX2_pass_1 : decode cX2_pass 1 = .ok (.iconst 1, 1) := by decide +kernel
theorem dX2_pass_2 : decode cX2_pass 2 = .ok (.bipush 60, 2) := by decide +kernel
theorem dX2_pass_4 : decode cX2_pass 4 = .ok (.invokestatic 19, 3) := by decide +kernel
theorem dX2_pass_7 : decode cX2_pass 7 = .ok (.ifCond .ne 13, 3) := by decide +kernel
theorem dX2_pass_10 : decode cX2_pass 10 = .ok (.new 23, 3) := by decide +kernel
theorem dX2_pass_13 : decode cX2_pass 13 = .ok (.dup, 1) := by decide +kernel
theorem dX2_pass_14 : decode cX2_pass 14 = .ok (.ldc 80, 2) := by decide +kernel
theorem dX2_pass_16 : decode cX2_pass 16 = .ok (.invokespecial 27, 3) := by decide +kernel
theorem dX2_pass_19 : decode cX2_pass 19 = .ok (.athrow, 1) := by decide +kernel
theorem dX2_pass_20 : decode cX2_pass 20 = .ok (.aload_n 0, 1) := by decide +kernel
theorem dX2_pass_21 : decode cX2_pass 21 = .ok (.getfield 10, 3) := by decide +kernel
theorem dX2_pass_24 : decode cX2_pass 24 = .ok (.iload_n 1, 1) := by decide +kernel
theorem dX2_pass_25 : decode cX2_pass 25 = .ok (.invokevirtual 82, 3) := by decide +kernel
theorem dX2_pass_28 : decode cX2_pass 28 = .ok (.ireturn, 1) := by decide +kernel
theorem dX2_hour_0 : decode cX2_hour 0 = .ok (.aload_n 0, 1) := by decide +kernel
theorem dX2_hour_1 : decode cX2_hour 1 = .ok (.getfield 10, 3) := by decide +kernel
theorem dX2_hour_4 : decode cX2_hour 4 = .ok (.getfield 86, 3) := by decide +kernel
theorem dX2_hour_7 : decode cX2_hour 7 = .ok (.ireturn, 1) := by decide +kernel
theorem dX2_sun_0 : decode cX2_sun 0 = .ok (.aload_n 0, 1) := by decide +kernel
theorem dX2_sun_1 : decode cX2_sun 1 = .ok (.getfield 10, 3) := by decide +kernel
theorem dX2_sun_4 : decode cX2_sun 4 = .ok (.getfield 86, 3) := by decide +kernel
theorem dX2_sun_7 : decode cX2_sun 7 = .ok (.invokestatic 89, 3) := by decide +kernel
theorem dX2_sun_10 : decode cX2_sun 10 = .ok (.invokestatic 92, 3) := by decide +kernel
theorem dX2_sun_13 : decode cX2_sun 13 = .ok (.ireturn, 1) := by decide +kernel
theorem dX2_isNoon_0 : decode cX2_isNoon 0 = .ok (.aload_n 0, 1) := by decide +kernel
theorem dX2_isNoon_1 : decode cX2_isNoon 1 = .ok (.getfield 10, 3) := by decide +kernel
theorem dX2_isNoon_4 : decode cX2_isNoon 4 = .ok (.getfield 86, 3) := by decide +kernel
theorem dX2_isNoon_7 : decode cX2_isNoon 7 = .ok (.invokestatic 89, 3) := by decide +kernel
theorem dX2_isNoon_10 : decode cX2_isNoon 10 = .ok (.invokestatic 95, 3) := by decide +kernel
theorem dX2_isNoon_13 : decode cX2_isNoon 13 = .ok (.ireturn, 1) := by decide +kernel
theorem dX2_hoursUntilNoon_0 : decode cX2_hoursUntilNoon 0 = .ok (.aload_n 0, 1) := by decide +kernel
theorem dX2_hoursUntilNoon_1 : decode cX2_hoursUntilNoon 1 = .ok (.getfield 10, 3) := by decide +kernel
theorem dX2_hoursUntilNoon_4 : decode cX2_hoursUntilNoon 4 = .ok (.getfield 86, 3) := by decide +kernel
theorem dX2_hoursUntilNoon_7 : decode cX2_hoursUntilNoon 7 = .ok (.invokestatic 89, 3) := by decide +kernel
theorem dX2_hoursUntilNoon_10 : decode cX2_hoursUntilNoon 10 = .ok (.istore_n 1, 1) := by decide +kernel
theorem dX2_hoursUntilNoon_11 : decode cX2_hoursUntilNoon 11 = .ok (.iload_n 1, 1) := by decide +kernel
theorem dX2_hoursUntilNoon_12 : decode cX2_hoursUntilNoon 12 = .ok (.invokestatic 95, 3) := by decide +kernel
theorem dX2_hoursUntilNoon_15 : decode cX2_hoursUntilNoon 15 = .ok (.ifCond .eq 7, 3) := by decide +kernel
theorem dX2_hoursUntilNoon_18 : decode cX2_hoursUntilNoon 18 = .ok (.iconst 0, 1) := by decide +kernel
theorem dX2_hoursUntilNoon_19 : decode cX2_hoursUntilNoon 19 = .ok (.goto 11, 3) := by decide +kernel
theorem dX2_hoursUntilNoon_22 : decode cX2_hoursUntilNoon 22 = .ok (.iconst 5, 1) := by decide +kernel
theorem dX2_hoursUntilNoon_23 : decode cX2_hoursUntilNoon 23 = .ok (.iload_n 1, 1) := by decide +kernel
theorem dX2_hoursUntilNoon_24 : decode cX2_hoursUntilNoon 24 = .ok (.isub, 1) := by decide +kernel
theorem dX2_hoursUntilNoon_25 : decode cX2_hoursUntilNoon 25 = .ok (.bipush 12, 2) := by decide +kernel
theorem dX2_hoursUntilNoon_27 : decode cX2_hoursUntilNoon 27 = .ok (.invokestatic 99, 3) := by decide +kernel
theorem dX2_hoursUntilNoon_30 : decode cX2_hoursUntilNoon 30 = .ok (.ireturn, 1) := by decide +kernel
theorem dX2_walkers_0 : decode cX2_walkers 0 = .ok (.aload_n 0, 1) := by decide +kernel
theorem dX2_walkers_1 : decode cX2_walkers 1 = .ok (.getfield 10, 3) := by decide +kernel
theorem dX2_walkers_4 : decode cX2_walkers 4 = .ok (.getfield 105, 3) := by decide +kernel
theorem dX2_walkers_7 : decode cX2_walkers 7 = .ok (.ireturn, 1) := by decide +kernel
theorem dX2_members_0 : decode cX2_members 0 = .ok (.aload_n 0, 1) := by decide +kernel
theorem dX2_members_1 : decode cX2_members 1 = .ok (.getfield 10, 3) := by decide +kernel
theorem dX2_members_4 : decode cX2_members 4 = .ok (.invokevirtual 108, 3) := by decide +kernel
theorem dX2_members_7 : decode cX2_members 7 = .ok (.ireturn, 1) := by decide +kernel
theorem dX2_isMember_0 : decode cX2_isMember 0 = .ok (.aload_n 0, 1) := by decide +kernel
theorem dX2_isMember_1 : decode cX2_isMember 1 = .ok (.getfield 10, 3) := by decide +kernel
theorem dX2_isMember_4 : decode cX2_isMember 4 = .ok (.iload_n 1, 1) := by decide +kernel
theorem dX2_isMember_5 : decode cX2_isMember 5 = .ok (.invokevirtual 43, 3) := by decide +kernel
theorem dX2_isMember_8 : decode cX2_isMember 8 = .ok (.astore_n 2, 1) := by decide +kernel
theorem dX2_isMember_9 : decode cX2_isMember 9 = .ok (.aload_n 2, 1) := by decide +kernel
theorem dX2_isMember_10 : decode cX2_isMember 10 = .ok (.ifnonnull 13, 3) := by decide +kernel
theorem dX2_isMember_13 : decode cX2_isMember 13 = .ok (.new 47, 3) := by decide +kernel
theorem dX2_isMember_16 : decode cX2_isMember 16 = .ok (.dup, 1) := by decide +kernel
theorem dX2_isMember_17 : decode cX2_isMember 17 = .ok (.ldc 49, 2) := by decide +kernel
theorem dX2_isMember_19 : decode cX2_isMember 19 = .ok (.invokespecial 51, 3) := by decide +kernel
theorem dX2_isMember_22 : decode cX2_isMember 22 = .ok (.athrow, 1) := by decide +kernel
theorem dX2_isMember_23 : decode cX2_isMember 23 = .ok (.aload_n 2, 1) := by decide +kernel
theorem dX2_isMember_24 : decode cX2_isMember 24 = .ok (.getfield 52, 3) := by decide +kernel
theorem dX2_isMember_27 : decode cX2_isMember 27 = .ok (.ireturn, 1) := by decide +kernel
theorem dX2_netOf_0 : decode cX2_netOf 0 = .ok (.aload_n 0, 1) := by decide +kernel
theorem dX2_netOf_1 : decode cX2_netOf 1 = .ok (.getfield 10, 3) := by decide +kernel
theorem dX2_netOf_4 : decode cX2_netOf 4 = .ok (.iload_n 1, 1) := by decide +kernel
theorem dX2_netOf_5 : decode cX2_netOf 5 = .ok (.invokevirtual 43, 3) := by decide +kernel
theorem dX2_netOf_8 : decode cX2_netOf 8 = .ok (.astore_n 2, 1) := by decide +kernel
theorem dX2_netOf_9 : decode cX2_netOf 9 = .ok (.aload_n 2, 1) := by decide +kernel
theorem dX2_netOf_10 : decode cX2_netOf 10 = .ok (.ifnonnull 13, 3) := by decide +kernel
theorem dX2_netOf_13 : decode cX2_netOf 13 = .ok (.new 47, 3) := by decide +kernel
theorem dX2_netOf_16 : decode cX2_netOf 16 = .ok (.dup, 1) := by decide +kernel
theorem dX2_netOf_17 : decode cX2_netOf 17 = .ok (.ldc 49, 2) := by decide +kernel
theorem dX2_netOf_19 : decode cX2_netOf 19 = .ok (.invokespecial 51, 3) := by decide +kernel
theorem dX2_netOf_22 : decode cX2_netOf 22 = .ok (.athrow, 1) := by decide +kernel
theorem dX2_netOf_23 : decode cX2_netOf 23 = .ok (.aload_n 2, 1) := by decide +kernel
theorem dX2_netOf_24 : decode cX2_netOf 24 = .ok (.getfield 58, 3) := by decide +kernel
theorem dX2_netOf_27 : decode cX2_netOf 27 = .ok (.ireturn, 1) := by decide +kernel
theorem dX2_wobbleOf_0 : decode cX2_wobbleOf 0 = .ok (.aload_n 0, 1) := by decide +kernel
theorem dX2_wobbleOf_1 : decode cX2_wobbleOf 1 = .ok (.getfield 10, 3) := by decide +kernel
theorem dX2_wobbleOf_4 : decode cX2_wobbleOf 4 = .ok (.iload_n 1, 1) := by decide +kernel
theorem dX2_wobbleOf_5 : decode cX2_wobbleOf 5 = .ok (.invokevirtual 43, 3) := by decide +kernel
theorem dX2_wobbleOf_8 : decode cX2_wobbleOf 8 = .ok (.astore_n 2, 1) := by decide +kernel
theorem dX2_wobbleOf_9 : decode cX2_wobbleOf 9 = .ok (.aload_n 2, 1) := by decide +kernel
theorem dX2_wobbleOf_10 : decode cX2_wobbleOf 10 = .ok (.ifnonnull 13, 3) := by decide +kernel
theorem dX2_wobbleOf_13 : decode cX2_wobbleOf 13 = .ok (.new 47, 3) := by decide +kernel
theorem dX2_wobbleOf_16 : decode cX2_wobbleOf 16 = .ok (.dup, 1) := by decide +kernel
theorem dX2_wobbleOf_17 : decode cX2_wobbleOf 17 = .ok (.ldc 49, 2) := by decide +kernel
theorem dX2_wobbleOf_19 : decode cX2_wobbleOf 19 = .ok (.invokespecial 51, 3) := by decide +kernel
theorem dX2_wobbleOf_22 : decode cX2_wobbleOf 22 = .ok (.athrow, 1) := by decide +kernel
theorem dX2_wobbleOf_23 : decode cX2_wobbleOf 23 = .ok (.aload_n 2, 1) := by decide +kernel
theorem dX2_wobbleOf_24 : decode cX2_wobbleOf 24 = .ok (.getfield 62, 3) := by decide +kernel
theorem dX2_wobbleOf_27 : decode cX2_wobbleOf 27 = .ok (.ireturn, 1) := by decide +kernel
theorem dX2_fallsOf_0 : decode cX2_fallsOf 0 = .ok (.aload_n 0, 1) := by decide +kernel
theorem dX2_fallsOf_1 : decode cX2_fallsOf 1 = .ok (.getfield 10, 3) := by decide +kernel
theorem dX2_fallsOf_4 : decode cX2_fallsOf 4 = .ok (.iload_n 1, 1) := by decide +kernel
theorem dX2_fallsOf_5 : decode cX2_fallsOf 5 = .ok (.invokevirtual 43, 3) := by decide +kernel
theorem dX2_fallsOf_8 : decode cX2_fallsOf 8 = .ok (.astore_n 2, 1) := by decide +kernel
theorem dX2_fallsOf_9 : decode cX2_fallsOf 9 = .ok (.aload_n 2, 1) := by decide +kernel
theorem dX2_fallsOf_10 : decode cX2_fallsOf 10 = .ok (.ifnonnull 13, 3) := by decide +kernel
theorem dX2_fallsOf_13 : decode cX2_fallsOf 13 = .ok (.new 47, 3) := by decide +kernel
theorem dX2_fallsOf_16 : decode cX2_fallsOf 16 = .ok (.dup, 1) := by decide +kernel
theorem dX2_fallsOf_17 : decode cX2_fallsOf 17 = .ok (.ldc 49, 2) := by decide +kernel
theorem dX2_fallsOf_19 : decode cX2_fallsOf 19 = .ok (.invokespecial 51, 3) := by decide +kernel
theorem dX2_fallsOf_22 : decode cX2_fallsOf 22 = .ok (.athrow, 1) := by decide +kernel
theorem dX2_fallsOf_23 : decode cX2_fallsOf 23 = .ok (.aload_n 2, 1) := by decide +kernel
theorem dX2_fallsOf_24 : decode cX2_fallsOf 24 = .ok (.getfield 112, 3) := by decide +kernel
theorem dX2_fallsOf_27 : decode cX2_fallsOf 27 = .ok (.ireturn, 1) := by decide +kernel
theorem dX2_shadowOf_0 : decode cX2_shadowOf 0 = .ok (.aload_n 0, 1) := by decide +kernel
theorem dX2_shadowOf_1 : decode cX2_shadowOf 1 = .ok (.getfield 10, 3) := by decide +kernel
theorem dX2_shadowOf_4 : decode cX2_shadowOf 4 = .ok (.iload_n 1, 1) := by decide +kernel
theorem dX2_shadowOf_5 : decode cX2_shadowOf 5 = .ok (.invokevirtual 43, 3) := by decide +kernel
theorem dX2_shadowOf_8 : decode cX2_shadowOf 8 = .ok (.astore_n 2, 1) := by decide +kernel
theorem dX2_shadowOf_9 : decode cX2_shadowOf 9 = .ok (.aload_n 2, 1) := by decide +kernel
theorem dX2_shadowOf_10 : decode cX2_shadowOf 10 = .ok (.ifnonnull 13, 3) := by decide +kernel
theorem dX2_shadowOf_13 : decode cX2_shadowOf 13 = .ok (.new 47, 3) := by decide +kernel
theorem dX2_shadowOf_16 : decode cX2_shadowOf 16 = .ok (.dup, 1) := by decide +kernel
theorem dX2_shadowOf_17 : decode cX2_shadowOf 17 = .ok (.ldc 49, 2) := by decide +kernel
theorem dX2_shadowOf_19 : decode cX2_shadowOf 19 = .ok (.invokespecial 51, 3) := by decide +kernel
theorem dX2_shadowOf_22 : decode cX2_shadowOf 22 = .ok (.athrow, 1) := by decide +kernel
theorem dX2_shadowOf_23 : decode cX2_shadowOf 23 = .ok (.aload_n 2, 1) := by decide +kernel
theorem dX2_shadowOf_24 : decode cX2_shadowOf 24 = .ok (.aload_n 0, 1) := by decide +kernel
theorem dX2_shadowOf_25 : decode cX2_shadowOf 25 = .ok (.invokevirtual 115, 3) := by decide +kernel
theorem dX2_shadowOf_28 : decode cX2_shadowOf 28 = .ok (.invokevirtual 118, 3) := by decide +kernel
theorem dX2_shadowOf_31 : decode cX2_shadowOf 31 = .ok (.ireturn, 1) := by decide +kernel
theorem dX2_longestShadow_0 : decode cX2_longestShadow 0 = .ok (.iconst (-1), 1) := by decide +kernel
theorem dX2_longestShadow_1 : decode cX2_longestShadow 1 = .ok (.istore_n 1, 1) := by decide +kernel
theorem dX2_longestShadow_2 : decode cX2_longestShadow 2 = .ok (.iconst (-1), 1) := by decide +kernel
theorem dX2_longestShadow_3 : decode cX2_longestShadow 3 = .ok (.istore_n 2, 1) := by decide +kernel
theorem dX2_longestShadow_4 : decode cX2_longestShadow 4 = .ok (.iconst 0, 1) := by decide +kernel
theorem dX2_longestShadow_5 : decode cX2_longestShadow 5 = .ok (.istore_n 3, 1) := by decide +kernel
theorem dX2_longestShadow_6 : decode cX2_longestShadow 6 = .ok (.iload_n 3, 1) := by decide +kernel
theorem dX2_longestShadow_7 : decode cX2_longestShadow 7 = .ok (.aload_n 0, 1) := by decide +kernel
theorem dX2_longestShadow_8 : decode cX2_longestShadow 8 = .ok (.getfield 10, 3) := by decide +kernel
theorem dX2_longestShadow_11 : decode cX2_longestShadow 11 = .ok (.getfield 105, 3) := by decide +kernel
theorem dX2_longestShadow_14 : decode cX2_longestShadow 14 = .ok (.if_icmp .ge 50, 3) := by decide +kernel
theorem dX2_longestShadow_17 : decode cX2_longestShadow 17 = .ok (.aload_n 0, 1) := by decide +kernel
theorem dX2_longestShadow_18 : decode cX2_longestShadow 18 = .ok (.getfield 10, 3) := by decide +kernel
theorem dX2_longestShadow_21 : decode cX2_longestShadow 21 = .ok (.iload_n 3, 1) := by decide +kernel
theorem dX2_longestShadow_22 : decode cX2_longestShadow 22 = .ok (.invokevirtual 43, 3) := by decide +kernel
theorem dX2_longestShadow_25 : decode cX2_longestShadow 25 = .ok (.astore 4, 2) := by decide +kernel
theorem dX2_longestShadow_27 : decode cX2_longestShadow 27 = .ok (.aload 4, 2) := by decide +kernel
theorem dX2_longestShadow_29 : decode cX2_longestShadow 29 = .ok (.ifnonnull 7, 3) := by decide +kernel
theorem dX2_longestShadow_32 : decode cX2_longestShadow 32 = .ok (.iconst (-1), 1) := by decide +kernel
theorem dX2_longestShadow_33 : decode cX2_longestShadow 33 = .ok (.goto 12, 3) := by decide +kernel
theorem dX2_longestShadow_36 : decode cX2_longestShadow 36 = .ok (.aload 4, 2) := by decide +kernel
theorem dX2_longestShadow_38 : decode cX2_longestShadow 38 = .ok (.aload_n 0, 1) := by decide +kernel
theorem dX2_longestShadow_39 : decode cX2_longestShadow 39 = .ok (.invokevirtual 115, 3) := by decide +kernel
theorem dX2_longestShadow_42 : decode cX2_longestShadow 42 = .ok (.invokevirtual 118, 3) := by decide +kernel
theorem dX2_longestShadow_45 : decode cX2_longestShadow 45 = .ok (.istore 5, 2) := by decide +kernel
theorem dX2_longestShadow_47 : decode cX2_longestShadow 47 = .ok (.iload 5, 2) := by decide +kernel
theorem dX2_longestShadow_49 : decode cX2_longestShadow 49 = .ok (.iload_n 2, 1) := by decide +kernel
theorem dX2_longestShadow_50 : decode cX2_longestShadow 50 = .ok (.if_icmp .le 8, 3) := by decide +kernel
theorem dX2_longestShadow_53 : decode cX2_longestShadow 53 = .ok (.iload_n 3, 1) := by decide +kernel
theorem dX2_longestShadow_54 : decode cX2_longestShadow 54 = .ok (.istore_n 1, 1) := by decide +kernel
theorem dX2_longestShadow_55 : decode cX2_longestShadow 55 = .ok (.iload 5, 2) := by decide +kernel
theorem dX2_longestShadow_57 : decode cX2_longestShadow 57 = .ok (.istore_n 2, 1) := by decide +kernel
theorem dX2_longestShadow_58 : decode cX2_longestShadow 58 = .ok (.iinc 3 1, 3) := by decide +kernel
theorem dX2_longestShadow_61 : decode cX2_longestShadow 61 = .ok (.goto (-55), 3) := by decide +kernel
theorem dX2_longestShadow_64 : decode cX2_longestShadow 64 = .ok (.iload_n 1, 1) := by decide +kernel
theorem dX2_longestShadow_65 : decode cX2_longestShadow 65 = .ok (.ireturn, 1) := by decide +kernel
theorem dX2_costOf_0 : decode cX2_costOf 0 = .ok (.aload_n 0, 1) := by decide +kernel
theorem dX2_costOf_1 : decode cX2_costOf 1 = .ok (.getfield 10, 3) := by decide +kernel
theorem dX2_costOf_4 : decode cX2_costOf 4 = .ok (.iload_n 1, 1) := by decide +kernel
theorem dX2_costOf_5 : decode cX2_costOf 5 = .ok (.invokevirtual 43, 3) := by decide +kernel
theorem dX2_costOf_8 : decode cX2_costOf 8 = .ok (.astore_n 2, 1) := by decide +kernel
theorem dX2_costOf_9 : decode cX2_costOf 9 = .ok (.aload_n 2, 1) := by decide +kernel
theorem dX2_costOf_10 : decode cX2_costOf 10 = .ok (.ifnonnull 13, 3) := by decide +kernel
theorem dX2_costOf_13 : decode cX2_costOf 13 = .ok (.new 47, 3) := by decide +kernel
theorem dX2_costOf_16 : decode cX2_costOf 16 = .ok (.dup, 1) := by decide +kernel
theorem dX2_costOf_17 : decode cX2_costOf 17 = .ok (.ldc 49, 2) := by decide +kernel
theorem dX2_costOf_19 : decode cX2_costOf 19 = .ok (.invokespecial 51, 3) := by decide +kernel
theorem dX2_costOf_22 : decode cX2_costOf 22 = .ok (.athrow, 1) := by decide +kernel
theorem dX2_costOf_23 : decode cX2_costOf 23 = .ok (.aload_n 2, 1) := by decide +kernel
theorem dX2_costOf_24 : decode cX2_costOf 24 = .ok (.aload_n 0, 1) := by decide +kernel
theorem dX2_costOf_25 : decode cX2_costOf 25 = .ok (.invokevirtual 115, 3) := by decide +kernel
theorem dX2_costOf_28 : decode cX2_costOf 28 = .ok (.invokevirtual 121, 3) := by decide +kernel
theorem dX2_costOf_31 : decode cX2_costOf 31 = .ok (.ireturn, 1) := by decide +kernel
theorem dX2_ownPartOf_0 : decode cX2_ownPartOf 0 = .ok (.aload_n 0, 1) := by decide +kernel
theorem dX2_ownPartOf_1 : decode cX2_ownPartOf 1 = .ok (.getfield 10, 3) := by decide +kernel
theorem dX2_ownPartOf_4 : decode cX2_ownPartOf 4 = .ok (.iload_n 1, 1) := by decide +kernel
theorem dX2_ownPartOf_5 : decode cX2_ownPartOf 5 = .ok (.invokevirtual 43, 3) := by decide +kernel
theorem dX2_ownPartOf_8 : decode cX2_ownPartOf 8 = .ok (.astore_n 2, 1) := by decide +kernel
theorem dX2_ownPartOf_9 : decode cX2_ownPartOf 9 = .ok (.aload_n 2, 1) := by decide +kernel
theorem dX2_ownPartOf_10 : decode cX2_ownPartOf 10 = .ok (.ifnonnull 13, 3) := by decide +kernel
theorem dX2_ownPartOf_13 : decode cX2_ownPartOf 13 = .ok (.new 47, 3) := by decide +kernel
theorem dX2_ownPartOf_16 : decode cX2_ownPartOf 16 = .ok (.dup, 1) := by decide +kernel
theorem dX2_ownPartOf_17 : decode cX2_ownPartOf 17 = .ok (.ldc 49, 2) := by decide +kernel
theorem dX2_ownPartOf_19 : decode cX2_ownPartOf 19 = .ok (.invokespecial 51, 3) := by decide +kernel
theorem dX2_ownPartOf_22 : decode cX2_ownPartOf 22 = .ok (.athrow, 1) := by decide +kernel
theorem dX2_ownPartOf_23 : decode cX2_ownPartOf 23 = .ok (.aload_n 2, 1) := by decide +kernel
theorem dX2_ownPartOf_24 : decode cX2_ownPartOf 24 = .ok (.aload_n 2, 1) := by decide +kernel
theorem dX2_ownPartOf_25 : decode cX2_ownPartOf 25 = .ok (.aload_n 0, 1) := by decide +kernel
theorem dX2_ownPartOf_26 : decode cX2_ownPartOf 26 = .ok (.invokevirtual 115, 3) := by decide +kernel
theorem dX2_ownPartOf_29 : decode cX2_ownPartOf 29 = .ok (.invokevirtual 121, 3) := by decide +kernel
theorem dX2_ownPartOf_32 : decode cX2_ownPartOf 32 = .ok (.aload_n 0, 1) := by decide +kernel
theorem dX2_ownPartOf_33 : decode cX2_ownPartOf 33 = .ok (.invokevirtual 124, 3) := by decide +kernel
theorem dX2_ownPartOf_36 : decode cX2_ownPartOf 36 = .ok (.invokevirtual 128, 3) := by decide +kernel
theorem dX2_ownPartOf_39 : decode cX2_ownPartOf 39 = .ok (.ireturn, 1) := by decide +kernel
theorem dX2_poolPartOf_0 : decode cX2_poolPartOf 0 = .ok (.aload_n 0, 1) := by decide +kernel
theorem dX2_poolPartOf_1 : decode cX2_poolPartOf 1 = .ok (.getfield 10, 3) := by decide +kernel
theorem dX2_poolPartOf_4 : decode cX2_poolPartOf 4 = .ok (.iload_n 1, 1) := by decide +kernel
theorem dX2_poolPartOf_5 : decode cX2_poolPartOf 5 = .ok (.invokevirtual 43, 3) := by decide +kernel
theorem dX2_poolPartOf_8 : decode cX2_poolPartOf 8 = .ok (.astore_n 2, 1) := by decide +kernel
theorem dX2_poolPartOf_9 : decode cX2_poolPartOf 9 = .ok (.aload_n 2, 1) := by decide +kernel
theorem dX2_poolPartOf_10 : decode cX2_poolPartOf 10 = .ok (.ifnonnull 13, 3) := by decide +kernel
theorem dX2_poolPartOf_13 : decode cX2_poolPartOf 13 = .ok (.new 47, 3) := by decide +kernel
theorem dX2_poolPartOf_16 : decode cX2_poolPartOf 16 = .ok (.dup, 1) := by decide +kernel
theorem dX2_poolPartOf_17 : decode cX2_poolPartOf 17 = .ok (.ldc 49, 2) := by decide +kernel
theorem dX2_poolPartOf_19 : decode cX2_poolPartOf 19 = .ok (.invokespecial 51, 3) := by decide +kernel
theorem dX2_poolPartOf_22 : decode cX2_poolPartOf 22 = .ok (.athrow, 1) := by decide +kernel
theorem dX2_poolPartOf_23 : decode cX2_poolPartOf 23 = .ok (.aload_n 0, 1) := by decide +kernel
theorem dX2_poolPartOf_24 : decode cX2_poolPartOf 24 = .ok (.aload_n 2, 1) := by decide +kernel
theorem dX2_poolPartOf_25 : decode cX2_poolPartOf 25 = .ok (.invokevirtual 132, 3) := by decide +kernel
theorem dX2_poolPartOf_28 : decode cX2_poolPartOf 28 = .ok (.istore_n 3, 1) := by decide +kernel
theorem dX2_poolPartOf_29 : decode cX2_poolPartOf 29 = .ok (.iload_n 3, 1) := by decide +kernel
theorem dX2_poolPartOf_30 : decode cX2_poolPartOf 30 = .ok (.aload_n 0, 1) := by decide +kernel
theorem dX2_poolPartOf_31 : decode cX2_poolPartOf 31 = .ok (.getfield 10, 3) := by decide +kernel
theorem dX2_poolPartOf_34 : decode cX2_poolPartOf 34 = .ok (.iload_n 3, 1) := by decide +kernel
theorem dX2_poolPartOf_35 : decode cX2_poolPartOf 35 = .ok (.invokevirtual 136, 3) := by decide +kernel
theorem dX2_poolPartOf_38 : decode cX2_poolPartOf 38 = .ok (.isub, 1) := by decide +kernel
theorem dX2_poolPartOf_39 : decode cX2_poolPartOf 39 = .ok (.ireturn, 1) := by decide +kernel
theorem dX2_reinsuredPartOf_0 : decode cX2_reinsuredPartOf 0 = .ok (.aload_n 0, 1) := by decide +kernel
theorem dX2_reinsuredPartOf_1 : decode cX2_reinsuredPartOf 1 = .ok (.getfield 10, 3) := by decide +kernel
theorem dX2_reinsuredPartOf_4 : decode cX2_reinsuredPartOf 4 = .ok (.iload_n 1, 1) := by decide +kernel
theorem dX2_reinsuredPartOf_5 : decode cX2_reinsuredPartOf 5 = .ok (.invokevirtual 43, 3) := by decide +kernel
theorem dX2_reinsuredPartOf_8 : decode cX2_reinsuredPartOf 8 = .ok (.astore_n 2, 1) := by decide +kernel
theorem dX2_reinsuredPartOf_9 : decode cX2_reinsuredPartOf 9 = .ok (.aload_n 2, 1) := by decide +kernel
theorem dX2_reinsuredPartOf_10 : decode cX2_reinsuredPartOf 10 = .ok (.ifnonnull 13, 3) := by decide +kernel
theorem dX2_reinsuredPartOf_13 : decode cX2_reinsuredPartOf 13 = .ok (.new 47, 3) := by decide +kernel
theorem dX2_reinsuredPartOf_16 : decode cX2_reinsuredPartOf 16 = .ok (.dup, 1) := by decide +kernel
theorem dX2_reinsuredPartOf_17 : decode cX2_reinsuredPartOf 17 = .ok (.ldc 49, 2) := by decide +kernel
theorem dX2_reinsuredPartOf_19 : decode cX2_reinsuredPartOf 19 = .ok (.invokespecial 51, 3) := by decide +kernel
theorem dX2_reinsuredPartOf_22 : decode cX2_reinsuredPartOf 22 = .ok (.athrow, 1) := by decide +kernel
theorem dX2_reinsuredPartOf_23 : decode cX2_reinsuredPartOf 23 = .ok (.aload_n 0, 1) := by decide +kernel
theorem dX2_reinsuredPartOf_24 : decode cX2_reinsuredPartOf 24 = .ok (.getfield 10, 3) := by decide +kernel
theorem dX2_reinsuredPartOf_27 : decode cX2_reinsuredPartOf 27 = .ok (.aload_n 0, 1) := by decide +kernel
theorem dX2_reinsuredPartOf_28 : decode cX2_reinsuredPartOf 28 = .ok (.aload_n 2, 1) := by decide +kernel
theorem dX2_reinsuredPartOf_29 : decode cX2_reinsuredPartOf 29 = .ok (.invokevirtual 132, 3) := by decide +kernel
theorem dX2_reinsuredPartOf_32 : decode cX2_reinsuredPartOf 32 = .ok (.invokevirtual 136, 3) := by decide +kernel
theorem dX2_reinsuredPartOf_35 : decode cX2_reinsuredPartOf 35 = .ok (.ireturn, 1) := by decide +kernel
theorem dX2_fund_0 : decode cX2_fund 0 = .ok (.aload_n 0, 1) := by decide +kernel
theorem dX2_fund_1 : decode cX2_fund 1 = .ok (.getfield 10, 3) := by decide +kernel
theorem dX2_fund_4 : decode cX2_fund 4 = .ok (.getfield 139, 3) := by decide +kernel
theorem dX2_fund_7 : decode cX2_fund 7 = .ok (.ireturn, 1) := by decide +kernel
theorem dX2_rate_0 : decode cX2_rate 0 = .ok (.aload_n 0, 1) := by decide +kernel
theorem dX2_rate_1 : decode cX2_rate 1 = .ok (.getfield 10, 3) := by decide +kernel
theorem dX2_rate_4 : decode cX2_rate 4 = .ok (.getfield 67, 3) := by decide +kernel
theorem dX2_rate_7 : decode cX2_rate 7 = .ok (.ireturn, 1) := by decide +kernel
theorem dX2_retention_0 : decode cX2_retention 0 = .ok (.aload_n 0, 1) := by decide +kernel
theorem dX2_retention_1 : decode cX2_retention 1 = .ok (.getfield 10, 3) := by decide +kernel
theorem dX2_retention_4 : decode cX2_retention 4 = .ok (.getfield 77, 3) := by decide +kernel
theorem dX2_retention_7 : decode cX2_retention 7 = .ok (.ireturn, 1) := by decide +kernel
theorem dX2_limit_0 : decode cX2_limit 0 = .ok (.aload_n 0, 1) := by decide +kernel
theorem dX2_limit_1 : decode cX2_limit 1 = .ok (.getfield 10, 3) := by decide +kernel
theorem dX2_limit_4 : decode cX2_limit 4 = .ok (.getfield 74, 3) := by decide +kernel
theorem dX2_limit_7 : decode cX2_limit 7 = .ok (.ireturn, 1) := by decide +kernel
theorem dX2_reinsurersLoss_0 : decode cX2_reinsurersLoss 0 = .ok (.aload_n 0, 1) := by decide +kernel
theorem dX2_reinsurersLoss_1 : decode cX2_reinsurersLoss 1 = .ok (.getfield 10, 3) := by decide +kernel
theorem dX2_reinsurersLoss_4 : decode cX2_reinsurersLoss 4 = .ok (.getfield 142, 3) := by decide +kernel
theorem dX2_reinsurersLoss_7 : decode cX2_reinsurersLoss 7 = .ok (.ireturn, 1) := by decide +kernel
theorem dX2_hoursUntilFall_0 : decode cX2_hoursUntilFall 0 = .ok (.aload_n 0, 1) := by decide +kernel
theorem dX2_hoursUntilFall_1 : decode cX2_hoursUntilFall 1 = .ok (.getfield 10, 3) := by decide +kernel
theorem dX2_hoursUntilFall_4 : decode cX2_hoursUntilFall 4 = .ok (.iload_n 1, 1) := by decide +kernel
theorem dX2_hoursUntilFall_5 : decode cX2_hoursUntilFall 5 = .ok (.invokevirtual 43, 3) := by decide +kernel
theorem dX2_hoursUntilFall_8 : decode cX2_hoursUntilFall 8 = .ok (.astore_n 2, 1) := by decide +kernel
theorem dX2_hoursUntilFall_9 : decode cX2_hoursUntilFall 9 = .ok (.aload_n 2, 1) := by decide +kernel
theorem dX2_hoursUntilFall_10 : decode cX2_hoursUntilFall 10 = .ok (.ifnonnull 13, 3) := by decide +kernel
theorem dX2_hoursUntilFall_13 : decode cX2_hoursUntilFall 13 = .ok (.new 47, 3) := by decide +kernel
theorem dX2_hoursUntilFall_16 : decode cX2_hoursUntilFall 16 = .ok (.dup, 1) := by decide +kernel
theorem dX2_hoursUntilFall_17 : decode cX2_hoursUntilFall 17 = .ok (.ldc 49, 2) := by decide +kernel
theorem dX2_hoursUntilFall_19 : decode cX2_hoursUntilFall 19 = .ok (.invokespecial 51, 3) := by decide +kernel
theorem dX2_hoursUntilFall_22 : decode cX2_hoursUntilFall 22 = .ok (.athrow, 1) := by decide +kernel
theorem dX2_hoursUntilFall_23 : decode cX2_hoursUntilFall 23 = .ok (.aload_n 2, 1) := by decide +kernel
theorem dX2_hoursUntilFall_24 : decode cX2_hoursUntilFall 24 = .ok (.aload_n 0, 1) := by decide +kernel
theorem dX2_hoursUntilFall_25 : decode cX2_hoursUntilFall 25 = .ok (.getfield 10, 3) := by decide +kernel
theorem dX2_hoursUntilFall_28 : decode cX2_hoursUntilFall 28 = .ok (.getfield 86, 3) := by decide +kernel
theorem dX2_hoursUntilFall_31 : decode cX2_hoursUntilFall 31 = .ok (.invokevirtual 145, 3) := by decide +kernel
theorem dX2_hoursUntilFall_34 : decode cX2_hoursUntilFall 34 = .ok (.ireturn, 1) := by decide +kernel
theorem dX2_nextToFall_0 : decode cX2_nextToFall 0 = .ok (.iconst (-1), 1) := by decide +kernel
theorem dX2_nextToFall_1 : decode cX2_nextToFall 1 = .ok (.istore_n 1, 1) := by decide +kernel
theorem dX2_nextToFall_2 : decode cX2_nextToFall 2 = .ok (.bipush 101, 2) := by decide +kernel
theorem dX2_nextToFall_4 : decode cX2_nextToFall 4 = .ok (.istore_n 2, 1) := by decide +kernel
theorem dX2_nextToFall_5 : decode cX2_nextToFall 5 = .ok (.iconst 0, 1) := by decide +kernel
theorem dX2_nextToFall_6 : decode cX2_nextToFall 6 = .ok (.istore_n 3, 1) := by decide +kernel
theorem dX2_nextToFall_7 : decode cX2_nextToFall 7 = .ok (.iload_n 3, 1) := by decide +kernel
theorem dX2_nextToFall_8 : decode cX2_nextToFall 8 = .ok (.aload_n 0, 1) := by decide +kernel
theorem dX2_nextToFall_9 : decode cX2_nextToFall 9 = .ok (.getfield 10, 3) := by decide +kernel
theorem dX2_nextToFall_12 : decode cX2_nextToFall 12 = .ok (.getfield 105, 3) := by decide +kernel
theorem dX2_nextToFall_15 : decode cX2_nextToFall 15 = .ok (.if_icmp .ge 58, 3) := by decide +kernel
theorem dX2_nextToFall_18 : decode cX2_nextToFall 18 = .ok (.aload_n 0, 1) := by decide +kernel
theorem dX2_nextToFall_19 : decode cX2_nextToFall 19 = .ok (.getfield 10, 3) := by decide +kernel
theorem dX2_nextToFall_22 : decode cX2_nextToFall 22 = .ok (.iload_n 3, 1) := by decide +kernel
theorem dX2_nextToFall_23 : decode cX2_nextToFall 23 = .ok (.invokevirtual 43, 3) := by decide +kernel
theorem dX2_nextToFall_26 : decode cX2_nextToFall 26 = .ok (.astore 4, 2) := by decide +kernel
theorem dX2_nextToFall_28 : decode cX2_nextToFall 28 = .ok (.aload 4, 2) := by decide +kernel
theorem dX2_nextToFall_30 : decode cX2_nextToFall 30 = .ok (.ifnonnull 7, 3) := by decide +kernel
theorem dX2_nextToFall_33 : decode cX2_nextToFall 33 = .ok (.iconst (-1), 1) := by decide +kernel
theorem dX2_nextToFall_34 : decode cX2_nextToFall 34 = .ok (.goto 15, 3) := by decide +kernel
theorem dX2_nextToFall_37 : decode cX2_nextToFall 37 = .ok (.aload 4, 2) := by decide +kernel
theorem dX2_nextToFall_39 : decode cX2_nextToFall 39 = .ok (.aload_n 0, 1) := by decide +kernel
theorem dX2_nextToFall_40 : decode cX2_nextToFall 40 = .ok (.getfield 10, 3) := by decide +kernel
theorem dX2_nextToFall_43 : decode cX2_nextToFall 43 = .ok (.getfield 86, 3) := by decide +kernel
theorem dX2_nextToFall_46 : decode cX2_nextToFall 46 = .ok (.invokevirtual 145, 3) := by decide +kernel
theorem dX2_nextToFall_49 : decode cX2_nextToFall 49 = .ok (.istore 5, 2) := by decide +kernel
theorem dX2_nextToFall_51 : decode cX2_nextToFall 51 = .ok (.iload 5, 2) := by decide +kernel
theorem dX2_nextToFall_53 : decode cX2_nextToFall 53 = .ok (.ifCond .le 14, 3) := by decide +kernel
theorem dX2_nextToFall_56 : decode cX2_nextToFall 56 = .ok (.iload 5, 2) := by decide +kernel
theorem dX2_nextToFall_58 : decode cX2_nextToFall 58 = .ok (.iload_n 2, 1) := by decide +kernel
theorem dX2_nextToFall_59 : decode cX2_nextToFall 59 = .ok (.if_icmp .ge 8, 3) := by decide +kernel
theorem dX2_nextToFall_62 : decode cX2_nextToFall 62 = .ok (.iload_n 3, 1) := by decide +kernel
theorem dX2_nextToFall_63 : decode cX2_nextToFall 63 = .ok (.istore_n 1, 1) := by decide +kernel
theorem dX2_nextToFall_64 : decode cX2_nextToFall 64 = .ok (.iload 5, 2) := by decide +kernel
theorem dX2_nextToFall_66 : decode cX2_nextToFall 66 = .ok (.istore_n 2, 1) := by decide +kernel
theorem dX2_nextToFall_67 : decode cX2_nextToFall 67 = .ok (.iinc 3 1, 3) := by decide +kernel
theorem dX2_nextToFall_70 : decode cX2_nextToFall 70 = .ok (.goto (-63), 3) := by decide +kernel
theorem dX2_nextToFall_73 : decode cX2_nextToFall 73 = .ok (.iload_n 1, 1) := by decide +kernel
theorem dX2_nextToFall_74 : decode cX2_nextToFall 74 = .ok (.ireturn, 1) := by decide +kernel
theorem dX2_fundIn_0 : decode cX2_fundIn 0 = .ok (.iload_n 1, 1) := by decide +kernel
theorem dX2_fundIn_1 : decode cX2_fundIn 1 = .ok (.iconst 1, 1) := by decide +kernel
theorem dX2_fundIn_2 : decode cX2_fundIn 2 = .ok (.bipush 60, 2) := by decide +kernel
theorem dX2_fundIn_4 : decode cX2_fundIn 4 = .ok (.invokestatic 19, 3) := by decide +kernel
theorem dX2_fundIn_7 : decode cX2_fundIn 7 = .ok (.ifCond .ne 13, 3) := by decide +kernel
theorem dX2_fundIn_10 : decode cX2_fundIn 10 = .ok (.new 23, 3) := by decide +kernel
theorem dX2_fundIn_13 : decode cX2_fundIn 13 = .ok (.dup, 1) := by decide +kernel
theorem dX2_fundIn_14 : decode cX2_fundIn 14 = .ok (.ldc 80, 2) := by decide +kernel
theorem dX2_fundIn_16 : decode cX2_fundIn 16 = .ok (.invokespecial 27, 3) := by decide +kernel
theorem dX2_fundIn_19 : decode cX2_fundIn 19 = .ok (.athrow, 1) := by decide +kernel
theorem dX2_fundIn_20 : decode cX2_fundIn 20 = .ok (.aload_n 0, 1) := by decide +kernel
theorem dX2_fundIn_21 : decode cX2_fundIn 21 = .ok (.iload_n 1, 1) := by decide +kernel
theorem dX2_fundIn_22 : decode cX2_fundIn 22 = .ok (.aload_n 0, 1) := by decide +kernel
theorem dX2_fundIn_23 : decode cX2_fundIn 23 = .ok (.getfield 10, 3) := by decide +kernel
theorem dX2_fundIn_26 : decode cX2_fundIn 26 = .ok (.getfield 67, 3) := by decide +kernel
theorem dX2_fundIn_29 : decode cX2_fundIn 29 = .ok (.aload_n 0, 1) := by decide +kernel
theorem dX2_fundIn_30 : decode cX2_fundIn 30 = .ok (.getfield 10, 3) := by decide +kernel
theorem dX2_fundIn_33 : decode cX2_fundIn 33 = .ok (.getfield 74, 3) := by decide +kernel
theorem dX2_fundIn_36 : decode cX2_fundIn 36 = .ok (.invokevirtual 148, 3) := by decide +kernel
theorem dX2_fundIn_39 : decode cX2_fundIn 39 = .ok (.ireturn, 1) := by decide +kernel
theorem dX2_hoursUntilRuin_0 : decode cX2_hoursUntilRuin 0 = .ok (.aload_n 0, 1) := by decide +kernel
theorem dX2_hoursUntilRuin_1 : decode cX2_hoursUntilRuin 1 = .ok (.getfield 16, 3) := by decide +kernel
theorem dX2_hoursUntilRuin_4 : decode cX2_hoursUntilRuin 4 = .ok (.aload_n 0, 1) := by decide +kernel
theorem dX2_hoursUntilRuin_5 : decode cX2_hoursUntilRuin 5 = .ok (.getfield 10, 3) := by decide +kernel
theorem dX2_hoursUntilRuin_8 : decode cX2_hoursUntilRuin 8 = .ok (.invokevirtual 151, 3) := by decide +kernel
theorem dX2_hoursUntilRuin_11 : decode cX2_hoursUntilRuin 11 = .ok (.iconst 0, 1) := by decide +kernel
theorem dX2_hoursUntilRuin_12 : decode cX2_hoursUntilRuin 12 = .ok (.istore_n 1, 1) := by decide +kernel
theorem dX2_hoursUntilRuin_13 : decode cX2_hoursUntilRuin 13 = .ok (.iload_n 1, 1) := by decide +kernel
theorem dX2_hoursUntilRuin_14 : decode cX2_hoursUntilRuin 14 = .ok (.bipush 100, 2) := by decide +kernel
theorem dX2_hoursUntilRuin_16 : decode cX2_hoursUntilRuin 16 = .ok (.if_icmp .ge 30, 3) := by decide +kernel
theorem dX2_hoursUntilRuin_19 : decode cX2_hoursUntilRuin 19 = .ok (.aload_n 0, 1) := by decide +kernel
theorem dX2_hoursUntilRuin_20 : decode cX2_hoursUntilRuin 20 = .ok (.getfield 16, 3) := by decide +kernel
theorem dX2_hoursUntilRuin_23 : decode cX2_hoursUntilRuin 23 = .ok (.getfield 139, 3) := by decide +kernel
theorem dX2_hoursUntilRuin_26 : decode cX2_hoursUntilRuin 26 = .ok (.ifCond .ge 5, 3) := by decide +kernel
theorem dX2_hoursUntilRuin_29 : decode cX2_hoursUntilRuin 29 = .ok (.iload_n 1, 1) := by decide +kernel
theorem dX2_hoursUntilRuin_30 : decode cX2_hoursUntilRuin 30 = .ok (.ireturn, 1) := by decide +kernel
theorem dX2_hoursUntilRuin_31 : decode cX2_hoursUntilRuin 31 = .ok (.aload_n 0, 1) := by decide +kernel
theorem dX2_hoursUntilRuin_32 : decode cX2_hoursUntilRuin 32 = .ok (.getfield 16, 3) := by decide +kernel
theorem dX2_hoursUntilRuin_35 : decode cX2_hoursUntilRuin 35 = .ok (.iconst 1, 1) := by decide +kernel
theorem dX2_hoursUntilRuin_36 : decode cX2_hoursUntilRuin 36 = .ok (.invokevirtual 82, 3) := by decide +kernel
theorem dX2_hoursUntilRuin_39 : decode cX2_hoursUntilRuin 39 = .ok (.pop, 1) := by decide +kernel
theorem dX2_hoursUntilRuin_40 : decode cX2_hoursUntilRuin 40 = .ok (.iinc 1 1, 3) := by decide +kernel
theorem dX2_hoursUntilRuin_43 : decode cX2_hoursUntilRuin 43 = .ok (.goto (-30), 3) := by decide +kernel
theorem dX2_hoursUntilRuin_46 : decode cX2_hoursUntilRuin 46 = .ok (.aload_n 0, 1) := by decide +kernel
theorem dX2_hoursUntilRuin_47 : decode cX2_hoursUntilRuin 47 = .ok (.getfield 16, 3) := by decide +kernel
theorem dX2_hoursUntilRuin_50 : decode cX2_hoursUntilRuin 50 = .ok (.getfield 139, 3) := by decide +kernel
theorem dX2_hoursUntilRuin_53 : decode cX2_hoursUntilRuin 53 = .ok (.ifCond .ge 8, 3) := by decide +kernel
theorem dX2_hoursUntilRuin_56 : decode cX2_hoursUntilRuin 56 = .ok (.bipush 100, 2) := by decide +kernel
theorem dX2_hoursUntilRuin_58 : decode cX2_hoursUntilRuin 58 = .ok (.goto 4, 3) := by decide +kernel
theorem dX2_hoursUntilRuin_61 : decode cX2_hoursUntilRuin 61 = .ok (.iconst (-1), 1) := by decide +kernel
theorem dX2_hoursUntilRuin_62 : decode cX2_hoursUntilRuin 62 = .ok (.ireturn, 1) := by decide +kernel
theorem dX2_bestLimit_0 : decode cX2_bestLimit 0 = .ok (.iconst 0, 1) := by decide +kernel
theorem dX2_bestLimit_1 : decode cX2_bestLimit 1 = .ok (.istore_n 1, 1) := by decide +kernel
theorem dX2_bestLimit_2 : decode cX2_bestLimit 2 = .ok (.aload_n 0, 1) := by decide +kernel
theorem dX2_bestLimit_3 : decode cX2_bestLimit 3 = .ok (.bipush 48, 2) := by decide +kernel
theorem dX2_bestLimit_5 : decode cX2_bestLimit 5 = .ok (.aload_n 0, 1) := by decide +kernel
theorem dX2_bestLimit_6 : decode cX2_bestLimit 6 = .ok (.getfield 10, 3) := by decide +kernel
theorem dX2_bestLimit_9 : decode cX2_bestLimit 9 = .ok (.getfield 67, 3) := by decide +kernel
theorem dX2_bestLimit_12 : decode cX2_bestLimit 12 = .ok (.iconst 0, 1) := by decide +kernel
theorem dX2_bestLimit_13 : decode cX2_bestLimit 13 = .ok (.invokevirtual 148, 3) := by decide +kernel
theorem dX2_bestLimit_16 : decode cX2_bestLimit 16 = .ok (.istore_n 2, 1) := by decide +kernel
theorem dX2_bestLimit_17 : decode cX2_bestLimit 17 = .ok (.bipush 20, 2) := by decide +kernel
theorem dX2_bestLimit_19 : decode cX2_bestLimit 19 = .ok (.istore_n 3, 1) := by decide +kernel
theorem dX2_bestLimit_20 : decode cX2_bestLimit 20 = .ok (.iload_n 3, 1) := by decide +kernel
theorem dX2_bestLimit_21 : decode cX2_bestLimit 21 = .ok (.bipush 100, 2) := by decide +kernel
theorem dX2_bestLimit_23 : decode cX2_bestLimit 23 = .ok (.if_icmp .gt 36, 3) := by decide +kernel
theorem dX2_bestLimit_26 : decode cX2_bestLimit 26 = .ok (.aload_n 0, 1) := by decide +kernel
theorem dX2_bestLimit_27 : decode cX2_bestLimit 27 = .ok (.bipush 48, 2) := by decide +kernel
theorem dX2_bestLimit_29 : decode cX2_bestLimit 29 = .ok (.aload_n 0, 1) := by decide +kernel
theorem dX2_bestLimit_30 : decode cX2_bestLimit 30 = .ok (.getfield 10, 3) := by decide +kernel
theorem dX2_bestLimit_33 : decode cX2_bestLimit 33 = .ok (.getfield 67, 3) := by decide +kernel
theorem dX2_bestLimit_36 : decode cX2_bestLimit 36 = .ok (.iload_n 3, 1) := by decide +kernel
theorem dX2_bestLimit_37 : decode cX2_bestLimit 37 = .ok (.invokevirtual 148, 3) := by decide +kernel
theorem dX2_bestLimit_40 : decode cX2_bestLimit 40 = .ok (.istore 4, 2) := by decide +kernel
theorem dX2_bestLimit_42 : decode cX2_bestLimit 42 = .ok (.iload 4, 2) := by decide +kernel
theorem dX2_bestLimit_44 : decode cX2_bestLimit 44 = .ok (.iload_n 2, 1) := by decide +kernel
theorem dX2_bestLimit_45 : decode cX2_bestLimit 45 = .ok (.if_icmp .le 8, 3) := by decide +kernel
theorem dX2_bestLimit_48 : decode cX2_bestLimit 48 = .ok (.iload_n 3, 1) := by decide +kernel
theorem dX2_bestLimit_49 : decode cX2_bestLimit 49 = .ok (.istore_n 1, 1) := by decide +kernel
theorem dX2_bestLimit_50 : decode cX2_bestLimit 50 = .ok (.iload 4, 2) := by decide +kernel
theorem dX2_bestLimit_52 : decode cX2_bestLimit 52 = .ok (.istore_n 2, 1) := by decide +kernel
theorem dX2_bestLimit_53 : decode cX2_bestLimit 53 = .ok (.iinc 3 20, 3) := by decide +kernel
theorem dX2_bestLimit_56 : decode cX2_bestLimit 56 = .ok (.goto (-36), 3) := by decide +kernel
theorem dX2_bestLimit_59 : decode cX2_bestLimit 59 = .ok (.iload_n 1, 1) := by decide +kernel
theorem dX2_bestLimit_60 : decode cX2_bestLimit 60 = .ok (.ireturn, 1) := by decide +kernel
theorem dX2_fairRate_0 : decode cX2_fairRate 0 = .ok (.iconst 0, 1) := by decide +kernel
theorem dX2_fairRate_1 : decode cX2_fairRate 1 = .ok (.istore_n 1, 1) := by decide +kernel
theorem dX2_fairRate_2 : decode cX2_fairRate 2 = .ok (.iload_n 1, 1) := by decide +kernel
theorem dX2_fairRate_3 : decode cX2_fairRate 3 = .ok (.bipush 9, 2) := by decide +kernel
theorem dX2_fairRate_5 : decode cX2_fairRate 5 = .ok (.if_icmp .gt 35, 3) := by decide +kernel
theorem dX2_fairRate_8 : decode cX2_fairRate 8 = .ok (.aload_n 0, 1) := by decide +kernel
theorem dX2_fairRate_9 : decode cX2_fairRate 9 = .ok (.bipush 48, 2) := by decide +kernel
theorem dX2_fairRate_11 : decode cX2_fairRate 11 = .ok (.iload_n 1, 1) := by decide +kernel
theorem dX2_fairRate_12 : decode cX2_fairRate 12 = .ok (.aload_n 0, 1) := by decide +kernel
theorem dX2_fairRate_13 : decode cX2_fairRate 13 = .ok (.getfield 10, 3) := by decide +kernel
theorem dX2_fairRate_16 : decode cX2_fairRate 16 = .ok (.getfield 74, 3) := by decide +kernel
theorem dX2_fairRate_19 : decode cX2_fairRate 19 = .ok (.invokevirtual 148, 3) := by decide +kernel
theorem dX2_fairRate_22 : decode cX2_fairRate 22 = .ok (.aload_n 0, 1) := by decide +kernel
theorem dX2_fairRate_23 : decode cX2_fairRate 23 = .ok (.getfield 10, 3) := by decide +kernel
theorem dX2_fairRate_26 : decode cX2_fairRate 26 = .ok (.getfield 139, 3) := by decide +kernel
theorem dX2_fairRate_29 : decode cX2_fairRate 29 = .ok (.if_icmp .lt 5, 3) := by decide +kernel
theorem dX2_fairRate_32 : decode cX2_fairRate 32 = .ok (.iload_n 1, 1) := by decide +kernel
theorem dX2_fairRate_33 : decode cX2_fairRate 33 = .ok (.ireturn, 1) := by decide +kernel
theorem dX2_fairRate_34 : decode cX2_fairRate 34 = .ok (.iinc 1 1, 3) := by decide +kernel
theorem dX2_fairRate_37 : decode cX2_fairRate 37 = .ok (.goto (-35), 3) := by decide +kernel
theorem dX2_fairRate_40 : decode cX2_fairRate 40 = .ok (.iconst (-1), 1) := by decide +kernel
theorem dX2_fairRate_41 : decode cX2_fairRate 41 = .ok (.ireturn, 1) := by decide +kernel
theorem dX2_meanShadow_0 : decode cX2_meanShadow 0 = .ok (.iconst 0, 1) := by decide +kernel
theorem dX2_meanShadow_1 : decode cX2_meanShadow 1 = .ok (.istore_n 1, 1) := by decide +kernel
theorem dX2_meanShadow_2 : decode cX2_meanShadow 2 = .ok (.iconst 0, 1) := by decide +kernel
theorem dX2_meanShadow_3 : decode cX2_meanShadow 3 = .ok (.istore_n 2, 1) := by decide +kernel
theorem dX2_meanShadow_4 : decode cX2_meanShadow 4 = .ok (.iload_n 2, 1) := by decide +kernel
theorem dX2_meanShadow_5 : decode cX2_meanShadow 5 = .ok (.aload_n 0, 1) := by decide +kernel
theorem dX2_meanShadow_6 : decode cX2_meanShadow 6 = .ok (.getfield 10, 3) := by decide +kernel
theorem dX2_meanShadow_9 : decode cX2_meanShadow 9 = .ok (.getfield 105, 3) := by decide +kernel
theorem dX2_meanShadow_12 : decode cX2_meanShadow 12 = .ok (.if_icmp .ge 37, 3) := by decide +kernel
theorem dX2_meanShadow_15 : decode cX2_meanShadow 15 = .ok (.aload_n 0, 1) := by decide +kernel
theorem dX2_meanShadow_16 : decode cX2_meanShadow 16 = .ok (.getfield 10, 3) := by decide +kernel
theorem dX2_meanShadow_19 : decode cX2_meanShadow 19 = .ok (.iload_n 2, 1) := by decide +kernel
theorem dX2_meanShadow_20 : decode cX2_meanShadow 20 = .ok (.invokevirtual 43, 3) := by decide +kernel
theorem dX2_meanShadow_23 : decode cX2_meanShadow 23 = .ok (.astore_n 3, 1) := by decide +kernel
theorem dX2_meanShadow_24 : decode cX2_meanShadow 24 = .ok (.iload_n 1, 1) := by decide +kernel
theorem dX2_meanShadow_25 : decode cX2_meanShadow 25 = .ok (.aload_n 3, 1) := by decide +kernel
theorem dX2_meanShadow_26 : decode cX2_meanShadow 26 = .ok (.ifnonnull 7, 3) := by decide +kernel
theorem dX2_meanShadow_29 : decode cX2_meanShadow 29 = .ok (.iconst 0, 1) := by decide +kernel
theorem dX2_meanShadow_30 : decode cX2_meanShadow 30 = .ok (.goto 11, 3) := by decide +kernel
theorem dX2_meanShadow_33 : decode cX2_meanShadow 33 = .ok (.aload_n 3, 1) := by decide +kernel
theorem dX2_meanShadow_34 : decode cX2_meanShadow 34 = .ok (.aload_n 0, 1) := by decide +kernel
theorem dX2_meanShadow_35 : decode cX2_meanShadow 35 = .ok (.invokevirtual 115, 3) := by decide +kernel
theorem dX2_meanShadow_38 : decode cX2_meanShadow 38 = .ok (.invokevirtual 118, 3) := by decide +kernel
theorem dX2_meanShadow_41 : decode cX2_meanShadow 41 = .ok (.iadd, 1) := by decide +kernel
theorem dX2_meanShadow_42 : decode cX2_meanShadow 42 = .ok (.istore_n 1, 1) := by decide +kernel
theorem dX2_meanShadow_43 : decode cX2_meanShadow 43 = .ok (.iinc 2 1, 3) := by decide +kernel
theorem dX2_meanShadow_46 : decode cX2_meanShadow 46 = .ok (.goto (-42), 3) := by decide +kernel
theorem dX2_meanShadow_49 : decode cX2_meanShadow 49 = .ok (.aload_n 0, 1) := by decide +kernel
theorem dX2_meanShadow_50 : decode cX2_meanShadow 50 = .ok (.getfield 10, 3) := by decide +kernel
theorem dX2_meanShadow_53 : decode cX2_meanShadow 53 = .ok (.getfield 105, 3) := by decide +kernel
theorem dX2_meanShadow_56 : decode cX2_meanShadow 56 = .ok (.ifCond .ne 7, 3) := by decide +kernel
theorem dX2_meanShadow_59 : decode cX2_meanShadow 59 = .ok (.dconst 0, 1) := by decide +kernel
theorem dX2_meanShadow_60 : decode cX2_meanShadow 60 = .ok (.goto 14, 3) := by decide +kernel
theorem dX2_meanShadow_63 : decode cX2_meanShadow 63 = .ok (.iload_n 1, 1) := by decide +kernel
theorem dX2_meanShadow_64 : decode cX2_meanShadow 64 = .ok (.i2d, 1) := by decide +kernel
theorem dX2_meanShadow_65 : decode cX2_meanShadow 65 = .ok (.aload_n 0, 1) := by decide +kernel
theorem dX2_meanShadow_66 : decode cX2_meanShadow 66 = .ok (.getfield 10, 3) := by decide +kernel
theorem dX2_meanShadow_69 : decode cX2_meanShadow 69 = .ok (.getfield 105, 3) := by decide +kernel
theorem dX2_meanShadow_72 : decode cX2_meanShadow 72 = .ok (.i2d, 1) := by decide +kernel
theorem dX2_meanShadow_73 : decode cX2_meanShadow 73 = .ok (.ddiv, 1) := by decide +kernel
theorem dX2_meanShadow_74 : decode cX2_meanShadow 74 = .ok (.dreturn, 1) := by decide +kernel
theorem dX2_digest_0 : decode cX2_digest 0 = .ok (.ldc2_w 155, 3) := by decide +kernel
theorem dX2_digest_3 : decode cX2_digest 3 = .ok (.lstore_n 1, 1) := by decide +kernel
theorem dX2_digest_4 : decode cX2_digest 4 = .ok (.lload_n 1, 1) := by decide +kernel
theorem dX2_digest_5 : decode cX2_digest 5 = .ok (.aload_n 0, 1) := by decide +kernel
theorem dX2_digest_6 : decode cX2_digest 6 = .ok (.invokevirtual 157, 3) := by decide +kernel
theorem dX2_digest_9 : decode cX2_digest 9 = .ok (.invokestatic 159, 3) := by decide +kernel
theorem dX2_digest_12 : decode cX2_digest 12 = .ok (.lstore_n 1, 1) := by decide +kernel
theorem dX2_digest_13 : decode cX2_digest 13 = .ok (.lload_n 1, 1) := by decide +kernel
theorem dX2_digest_14 : decode cX2_digest 14 = .ok (.aload_n 0, 1) := by decide +kernel
theorem dX2_digest_15 : decode cX2_digest 15 = .ok (.invokevirtual 115, 3) := by decide +kernel
theorem dX2_digest_18 : decode cX2_digest 18 = .ok (.invokestatic 159, 3) := by decide +kernel
theorem dX2_digest_21 : decode cX2_digest 21 = .ok (.lstore_n 1, 1) := by decide +kernel
theorem dX2_digest_22 : decode cX2_digest 22 = .ok (.lload_n 1, 1) := by decide +kernel
theorem dX2_digest_23 : decode cX2_digest 23 = .ok (.aload_n 0, 1) := by decide +kernel
theorem dX2_digest_24 : decode cX2_digest 24 = .ok (.invokevirtual 163, 3) := by decide +kernel
theorem dX2_digest_27 : decode cX2_digest 27 = .ok (.invokestatic 159, 3) := by decide +kernel
theorem dX2_digest_30 : decode cX2_digest 30 = .ok (.lstore_n 1, 1) := by decide +kernel
theorem dX2_digest_31 : decode cX2_digest 31 = .ok (.lload_n 1, 1) := by decide +kernel
theorem dX2_digest_32 : decode cX2_digest 32 = .ok (.aload_n 0, 1) := by decide +kernel
theorem dX2_digest_33 : decode cX2_digest 33 = .ok (.invokevirtual 166, 3) := by decide +kernel
theorem dX2_digest_36 : decode cX2_digest 36 = .ok (.invokestatic 159, 3) := by decide +kernel
theorem dX2_digest_39 : decode cX2_digest 39 = .ok (.lstore_n 1, 1) := by decide +kernel
theorem dX2_digest_40 : decode cX2_digest 40 = .ok (.lload_n 1, 1) := by decide +kernel
theorem dX2_digest_41 : decode cX2_digest 41 = .ok (.aload_n 0, 1) := by decide +kernel
theorem dX2_digest_42 : decode cX2_digest 42 = .ok (.invokevirtual 169, 3) := by decide +kernel
theorem dX2_digest_45 : decode cX2_digest 45 = .ok (.invokestatic 159, 3) := by decide +kernel
theorem dX2_digest_48 : decode cX2_digest 48 = .ok (.lstore_n 1, 1) := by decide +kernel
theorem dX2_digest_49 : decode cX2_digest 49 = .ok (.lload_n 1, 1) := by decide +kernel
theorem dX2_digest_50 : decode cX2_digest 50 = .ok (.aload_n 0, 1) := by decide +kernel
theorem dX2_digest_51 : decode cX2_digest 51 = .ok (.invokevirtual 171, 3) := by decide +kernel
theorem dX2_digest_54 : decode cX2_digest 54 = .ok (.invokestatic 159, 3) := by decide +kernel
theorem dX2_digest_57 : decode cX2_digest 57 = .ok (.lstore_n 1, 1) := by decide +kernel
theorem dX2_digest_58 : decode cX2_digest 58 = .ok (.lload_n 1, 1) := by decide +kernel
theorem dX2_digest_59 : decode cX2_digest 59 = .ok (.aload_n 0, 1) := by decide +kernel
theorem dX2_digest_60 : decode cX2_digest 60 = .ok (.invokevirtual 173, 3) := by decide +kernel
theorem dX2_digest_63 : decode cX2_digest 63 = .ok (.invokestatic 159, 3) := by decide +kernel
theorem dX2_digest_66 : decode cX2_digest 66 = .ok (.lstore_n 1, 1) := by decide +kernel
theorem dX2_digest_67 : decode cX2_digest 67 = .ok (.lload_n 1, 1) := by decide +kernel
theorem dX2_digest_68 : decode cX2_digest 68 = .ok (.aload_n 0, 1) := by decide +kernel
theorem dX2_digest_69 : decode cX2_digest 69 = .ok (.invokevirtual 175, 3) := by decide +kernel
theorem dX2_digest_72 : decode cX2_digest 72 = .ok (.invokestatic 159, 3) := by decide +kernel
theorem dX2_digest_75 : decode cX2_digest 75 = .ok (.lstore_n 1, 1) := by decide +kernel
theorem dX2_digest_76 : decode cX2_digest 76 = .ok (.lload_n 1, 1) := by decide +kernel
theorem dX2_digest_77 : decode cX2_digest 77 = .ok (.aload_n 0, 1) := by decide +kernel
theorem dX2_digest_78 : decode cX2_digest 78 = .ok (.invokevirtual 177, 3) := by decide +kernel
theorem dX2_digest_81 : decode cX2_digest 81 = .ok (.invokestatic 159, 3) := by decide +kernel
theorem dX2_digest_84 : decode cX2_digest 84 = .ok (.lstore_n 1, 1) := by decide +kernel
theorem dX2_digest_85 : decode cX2_digest 85 = .ok (.lload_n 1, 1) := by decide +kernel
theorem dX2_digest_86 : decode cX2_digest 86 = .ok (.aload_n 0, 1) := by decide +kernel
theorem dX2_digest_87 : decode cX2_digest 87 = .ok (.invokevirtual 179, 3) := by decide +kernel
theorem dX2_digest_90 : decode cX2_digest 90 = .ok (.invokestatic 159, 3) := by decide +kernel
theorem dX2_digest_93 : decode cX2_digest 93 = .ok (.lstore_n 1, 1) := by decide +kernel
theorem dX2_digest_94 : decode cX2_digest 94 = .ok (.lload_n 1, 1) := by decide +kernel
theorem dX2_digest_95 : decode cX2_digest 95 = .ok (.aload_n 0, 1) := by decide +kernel
theorem dX2_digest_96 : decode cX2_digest 96 = .ok (.invokevirtual 182, 3) := by decide +kernel
theorem dX2_digest_99 : decode cX2_digest 99 = .ok (.invokestatic 159, 3) := by decide +kernel
theorem dX2_digest_102 : decode cX2_digest 102 = .ok (.lstore_n 1, 1) := by decide +kernel
theorem dX2_digest_103 : decode cX2_digest 103 = .ok (.lload_n 1, 1) := by decide +kernel
theorem dX2_digest_104 : decode cX2_digest 104 = .ok (.aload_n 0, 1) := by decide +kernel
theorem dX2_digest_105 : decode cX2_digest 105 = .ok (.invokevirtual 185, 3) := by decide +kernel
theorem dX2_digest_108 : decode cX2_digest 108 = .ok (.invokestatic 159, 3) := by decide +kernel
theorem dX2_digest_111 : decode cX2_digest 111 = .ok (.lstore_n 1, 1) := by decide +kernel
theorem dX2_digest_112 : decode cX2_digest 112 = .ok (.iconst 0, 1) := by decide +kernel
theorem dX2_digest_113 : decode cX2_digest 113 = .ok (.istore_n 3, 1) := by decide +kernel
theorem dX2_digest_114 : decode cX2_digest 114 = .ok (.iload_n 3, 1) := by decide +kernel
theorem dX2_digest_115 : decode cX2_digest 115 = .ok (.aload_n 0, 1) := by decide +kernel
theorem dX2_digest_116 : decode cX2_digest 116 = .ok (.getfield 10, 3) := by decide +kernel
theorem dX2_digest_119 : decode cX2_digest 119 = .ok (.getfield 105, 3) := by decide +kernel
theorem dX2_digest_122 : decode cX2_digest 122 = .ok (.if_icmp .ge 36, 3) := by decide +kernel
theorem dX2_digest_125 : decode cX2_digest 125 = .ok (.aload_n 0, 1) := by decide +kernel
theorem dX2_digest_126 : decode cX2_digest 126 = .ok (.getfield 10, 3) := by decide +kernel
theorem dX2_digest_129 : decode cX2_digest 129 = .ok (.iload_n 3, 1) := by decide +kernel
theorem dX2_digest_130 : decode cX2_digest 130 = .ok (.invokevirtual 43, 3) := by decide +kernel
theorem dX2_digest_133 : decode cX2_digest 133 = .ok (.astore 4, 2) := by decide +kernel
theorem dX2_digest_135 : decode cX2_digest 135 = .ok (.aload 4, 2) := by decide +kernel
theorem dX2_digest_137 : decode cX2_digest 137 = .ok (.ifnonnull 7, 3) := by decide +kernel
theorem dX2_digest_140 : decode cX2_digest 140 = .ok (.lload_n 1, 1) := by decide +kernel
theorem dX2_digest_141 : decode cX2_digest 141 = .ok (.goto 10, 3) := by decide +kernel
theorem dX2_digest_144 : decode cX2_digest 144 = .ok (.aload_n 0, 1) := by decide +kernel
theorem dX2_digest_145 : decode cX2_digest 145 = .ok (.lload_n 1, 1) := by decide +kernel
theorem dX2_digest_146 : decode cX2_digest 146 = .ok (.aload 4, 2) := by decide +kernel
theorem dX2_digest_148 : decode cX2_digest 148 = .ok (.invokevirtual 188, 3) := by decide +kernel
theorem dX2_digest_151 : decode cX2_digest 151 = .ok (.lstore_n 1, 1) := by decide +kernel
theorem dX2_digest_152 : decode cX2_digest 152 = .ok (.iinc 3 1, 3) := by decide +kernel
theorem dX2_digest_155 : decode cX2_digest 155 = .ok (.goto (-41), 3) := by decide +kernel
theorem dX2_digest_158 : decode cX2_digest 158 = .ok (.lload_n 1, 1) := by decide +kernel
theorem dX2_digest_159 : decode cX2_digest 159 = .ok (.lreturn, 1) := by decide +kernel
theorem dX2_chainWalker_0 : decode cX2_chainWalker 0 = .ok (.lload_n 1, 1) := by decide +kernel
theorem dX2_chainWalker_1 : decode cX2_chainWalker 1 = .ok (.aload_n 3, 1) := by decide +kernel
theorem dX2_chainWalker_2 : decode cX2_chainWalker 2 = .ok (.getfield 52, 3) := by decide +kernel
theorem dX2_chainWalker_5 : decode cX2_chainWalker 5 = .ok (.ifCond .eq 7, 3) := by decide +kernel
theorem dX2_chainWalker_8 : decode cX2_chainWalker 8 = .ok (.iconst 1, 1) := by decide +kernel
theorem dX2_chainWalker_9 : decode cX2_chainWalker 9 = .ok (.goto 4, 3) := by decide +kernel
theorem dX2_chainWalker_12 : decode cX2_chainWalker 12 = .ok (.iconst 0, 1) := by decide +kernel
theorem dX2_chainWalker_13 : decode cX2_chainWalker 13 = .ok (.invokestatic 159, 3) := by decide +kernel
theorem dX2_chainWalker_16 : decode cX2_chainWalker 16 = .ok (.lstore 4, 2) := by decide +kernel
theorem dX2_chainWalker_18 : decode cX2_chainWalker 18 = .ok (.lload 4, 2) := by decide +kernel
theorem dX2_chainWalker_20 : decode cX2_chainWalker 20 = .ok (.aload_n 3, 1) := by decide +kernel
theorem dX2_chainWalker_21 : decode cX2_chainWalker 21 = .ok (.getfield 58, 3) := by decide +kernel
theorem dX2_chainWalker_24 : decode cX2_chainWalker 24 = .ok (.invokestatic 159, 3) := by decide +kernel
theorem dX2_chainWalker_27 : decode cX2_chainWalker 27 = .ok (.lstore 4, 2) := by decide +kernel
theorem dX2_chainWalker_29 : decode cX2_chainWalker 29 = .ok (.lload 4, 2) := by decide +kernel
theorem dX2_chainWalker_31 : decode cX2_chainWalker 31 = .ok (.aload_n 3, 1) := by decide +kernel
theorem dX2_chainWalker_32 : decode cX2_chainWalker 32 = .ok (.getfield 62, 3) := by decide +kernel
theorem dX2_chainWalker_35 : decode cX2_chainWalker 35 = .ok (.invokestatic 159, 3) := by decide +kernel
theorem dX2_chainWalker_38 : decode cX2_chainWalker 38 = .ok (.lstore 4, 2) := by decide +kernel
theorem dX2_chainWalker_40 : decode cX2_chainWalker 40 = .ok (.lload 4, 2) := by decide +kernel
theorem dX2_chainWalker_42 : decode cX2_chainWalker 42 = .ok (.aload_n 3, 1) := by decide +kernel
theorem dX2_chainWalker_43 : decode cX2_chainWalker 43 = .ok (.getfield 112, 3) := by decide +kernel
theorem dX2_chainWalker_46 : decode cX2_chainWalker 46 = .ok (.invokestatic 159, 3) := by decide +kernel
theorem dX2_chainWalker_49 : decode cX2_chainWalker 49 = .ok (.lstore 4, 2) := by decide +kernel
theorem dX2_chainWalker_51 : decode cX2_chainWalker 51 = .ok (.lload 4, 2) := by decide +kernel
theorem dX2_chainWalker_53 : decode cX2_chainWalker 53 = .ok (.aload_n 3, 1) := by decide +kernel
theorem dX2_chainWalker_54 : decode cX2_chainWalker 54 = .ok (.aload_n 0, 1) := by decide +kernel
theorem dX2_chainWalker_55 : decode cX2_chainWalker 55 = .ok (.invokevirtual 115, 3) := by decide +kernel
theorem dX2_chainWalker_58 : decode cX2_chainWalker 58 = .ok (.invokevirtual 118, 3) := by decide +kernel
theorem dX2_chainWalker_61 : decode cX2_chainWalker 61 = .ok (.invokestatic 159, 3) := by decide +kernel
theorem dX2_chainWalker_64 : decode cX2_chainWalker 64 = .ok (.lstore 4, 2) := by decide +kernel
theorem dX2_chainWalker_66 : decode cX2_chainWalker 66 = .ok (.lload 4, 2) := by decide +kernel
theorem dX2_chainWalker_68 : decode cX2_chainWalker 68 = .ok (.aload_n 3, 1) := by decide +kernel
theorem dX2_chainWalker_69 : decode cX2_chainWalker 69 = .ok (.aload_n 0, 1) := by decide +kernel
theorem dX2_chainWalker_70 : decode cX2_chainWalker 70 = .ok (.invokevirtual 115, 3) := by decide +kernel
theorem dX2_chainWalker_73 : decode cX2_chainWalker 73 = .ok (.invokevirtual 121, 3) := by decide +kernel
theorem dX2_chainWalker_76 : decode cX2_chainWalker 76 = .ok (.invokestatic 159, 3) := by decide +kernel
theorem dX2_chainWalker_79 : decode cX2_chainWalker 79 = .ok (.lstore 4, 2) := by decide +kernel
theorem dX2_chainWalker_81 : decode cX2_chainWalker 81 = .ok (.aload_n 0, 1) := by decide +kernel
theorem dX2_chainWalker_82 : decode cX2_chainWalker 82 = .ok (.aload_n 3, 1) := by decide +kernel
theorem dX2_chainWalker_83 : decode cX2_chainWalker 83 = .ok (.invokevirtual 132, 3) := by decide +kernel
theorem dX2_chainWalker_86 : decode cX2_chainWalker 86 = .ok (.istore 6, 2) := by decide +kernel
theorem dX2_chainWalker_88 : decode cX2_chainWalker 88 = .ok (.aload_n 0, 1) := by decide +kernel
theorem dX2_chainWalker_89 : decode cX2_chainWalker 89 = .ok (.getfield 10, 3) := by decide +kernel
theorem dX2_chainWalker_92 : decode cX2_chainWalker 92 = .ok (.iload 6, 2) := by decide +kernel
theorem dX2_chainWalker_94 : decode cX2_chainWalker 94 = .ok (.invokevirtual 136, 3) := by decide +kernel
theorem dX2_chainWalker_97 : decode cX2_chainWalker 97 = .ok (.istore 7, 2) := by decide +kernel
theorem dX2_chainWalker_99 : decode cX2_chainWalker 99 = .ok (.lload 4, 2) := by decide +kernel
theorem dX2_chainWalker_101 : decode cX2_chainWalker 101 = .ok (.iload 6, 2) := by decide +kernel
theorem dX2_chainWalker_103 : decode cX2_chainWalker 103 = .ok (.iload 7, 2) := by decide +kernel
theorem dX2_chainWalker_105 : decode cX2_chainWalker 105 = .ok (.isub, 1) := by decide +kernel
theorem dX2_chainWalker_106 : decode cX2_chainWalker 106 = .ok (.invokestatic 159, 3) := by decide +kernel
theorem dX2_chainWalker_109 : decode cX2_chainWalker 109 = .ok (.lstore 4, 2) := by decide +kernel
theorem dX2_chainWalker_111 : decode cX2_chainWalker 111 = .ok (.lload 4, 2) := by decide +kernel
theorem dX2_chainWalker_113 : decode cX2_chainWalker 113 = .ok (.iload 7, 2) := by decide +kernel
theorem dX2_chainWalker_115 : decode cX2_chainWalker 115 = .ok (.invokestatic 159, 3) := by decide +kernel
theorem dX2_chainWalker_118 : decode cX2_chainWalker 118 = .ok (.lreturn, 1) := by decide +kernel
theorem dX2_chain_0 : decode cX2_chain 0 = .ok (.lload_n 0, 1) := by decide +kernel
theorem dX2_chain_1 : decode cX2_chain 1 = .ok (.ldc2_w 192, 3) := by decide +kernel
theorem dX2_chain_4 : decode cX2_chain 4 = .ok (.lmul, 1) := by decide +kernel
theorem dX2_chain_5 : decode cX2_chain 5 = .ok (.iload_n 2, 1) := by decide +kernel
theorem dX2_chain_6 : decode cX2_chain 6 = .ok (.i2l, 1) := by decide +kernel
theorem dX2_chain_7 : decode cX2_chain 7 = .ok (.ladd, 1) := by decide +kernel
theorem dX2_chain_8 : decode cX2_chain 8 = .ok (.lreturn, 1) := by decide +kernel
theorem dX2_claimNow_0 : decode cX2_claimNow 0 = .ok (.aload_n 1, 1) := by decide +kernel
theorem dX2_claimNow_1 : decode cX2_claimNow 1 = .ok (.aload_n 0, 1) := by decide +kernel
theorem dX2_claimNow_2 : decode cX2_claimNow 2 = .ok (.invokevirtual 115, 3) := by decide +kernel
theorem dX2_claimNow_5 : decode cX2_claimNow 5 = .ok (.invokevirtual 121, 3) := by decide +kernel
theorem dX2_claimNow_8 : decode cX2_claimNow 8 = .ok (.istore_n 2, 1) := by decide +kernel
theorem dX2_claimNow_9 : decode cX2_claimNow 9 = .ok (.iload_n 2, 1) := by decide +kernel
theorem dX2_claimNow_10 : decode cX2_claimNow 10 = .ok (.aload_n 1, 1) := by decide +kernel
theorem dX2_claimNow_11 : decode cX2_claimNow 11 = .ok (.iload_n 2, 1) := by decide +kernel
theorem dX2_claimNow_12 : decode cX2_claimNow 12 = .ok (.aload_n 0, 1) := by decide +kernel
theorem dX2_claimNow_13 : decode cX2_claimNow 13 = .ok (.invokevirtual 124, 3) := by decide +kernel
theorem dX2_claimNow_16 : decode cX2_claimNow 16 = .ok (.invokevirtual 128, 3) := by decide +kernel
theorem dX2_claimNow_19 : decode cX2_claimNow 19 = .ok (.isub, 1) := by decide +kernel
theorem dX2_claimNow_20 : decode cX2_claimNow 20 = .ok (.ireturn, 1) := by decide +kernel
theorem dX2_fundBehind_0 : decode cX2_fundBehind 0 = .ok (.aload_n 0, 1) := by decide +kernel
theorem dX2_fundBehind_1 : decode cX2_fundBehind 1 = .ok (.getfield 16, 3) := by decide +kernel
theorem dX2_fundBehind_4 : decode cX2_fundBehind 4 = .ok (.aload_n 0, 1) := by decide +kernel
theorem dX2_fundBehind_5 : decode cX2_fundBehind 5 = .ok (.getfield 10, 3) := by decide +kernel
theorem dX2_fundBehind_8 : decode cX2_fundBehind 8 = .ok (.invokevirtual 151, 3) := by decide +kernel
theorem dX2_fundBehind_11 : decode cX2_fundBehind 11 = .ok (.aload_n 0, 1) := by decide +kernel
theorem dX2_fundBehind_12 : decode cX2_fundBehind 12 = .ok (.getfield 16, 3) := by decide +kernel
theorem dX2_fundBehind_15 : decode cX2_fundBehind 15 = .ok (.iload_n 2, 1) := by decide +kernel
theorem dX2_fundBehind_16 : decode cX2_fundBehind 16 = .ok (.putfield 67, 3) := by decide +kernel
theorem dX2_fundBehind_19 : decode cX2_fundBehind 19 = .ok (.aload_n 0, 1) := by decide +kernel
theorem dX2_fundBehind_20 : decode cX2_fundBehind 20 = .ok (.getfield 16, 3) := by decide +kernel
theorem dX2_fundBehind_23 : decode cX2_fundBehind 23 = .ok (.iload_n 3, 1) := by decide +kernel
theorem dX2_fundBehind_24 : decode cX2_fundBehind 24 = .ok (.putfield 74, 3) := by decide +kernel
theorem dX2_fundBehind_27 : decode cX2_fundBehind 27 = .ok (.aload_n 0, 1) := by decide +kernel
theorem dX2_fundBehind_28 : decode cX2_fundBehind 28 = .ok (.getfield 16, 3) := by decide +kernel
theorem dX2_fundBehind_31 : decode cX2_fundBehind 31 = .ok (.iload_n 1, 1) := by decide +kernel
theorem dX2_fundBehind_32 : decode cX2_fundBehind 32 = .ok (.invokevirtual 82, 3) := by decide +kernel
theorem dX2_fundBehind_35 : decode cX2_fundBehind 35 = .ok (.pop, 1) := by decide +kernel
theorem dX2_fundBehind_36 : decode cX2_fundBehind 36 = .ok (.aload_n 0, 1) := by decide +kernel
theorem dX2_fundBehind_37 : decode cX2_fundBehind 37 = .ok (.getfield 16, 3) := by decide +kernel
theorem dX2_fundBehind_40 : decode cX2_fundBehind 40 = .ok (.getfield 139, 3) := by decide +kernel
theorem dX2_fundBehind_43 : decode cX2_fundBehind 43 = .ok (.ireturn, 1) := by decide +kernel
theorem dX2_within_0 : decode cX2_within 0 = .ok (.iload_n 0, 1) := by decide +kernel
theorem dX2_within_1 : decode cX2_within 1 = .ok (.iload_n 1, 1) := by decide +kernel
theorem dX2_within_2 : decode cX2_within 2 = .ok (.if_icmp .lt 12, 3) := by decide +kernel
theorem dX2_within_5 : decode cX2_within 5 = .ok (.iload_n 0, 1) := by decide +kernel
theorem dX2_within_6 : decode cX2_within 6 = .ok (.iload_n 2, 1) := by decide +kernel
theorem dX2_within_7 : decode cX2_within 7 = .ok (.if_icmp .gt 7, 3) := by decide +kernel
theorem dX2_within_10 : decode cX2_within 10 = .ok (.iconst 1, 1) := by decide +kernel
theorem dX2_within_11 : decode cX2_within 11 = .ok (.goto 4, 3) := by decide +kernel
theorem dX2_within_14 : decode cX2_within 14 = .ok (.iconst 0, 1) := by decide +kernel
theorem dX2_within_15 : decode cX2_within 15 = .ok (.ireturn, 1) := by decide +kernel
theorem dX2_hourOfDay_0 : decode cX2_hourOfDay 0 = .ok (.iload_n 0, 1) := by decide +kernel
theorem dX2_hourOfDay_1 : decode cX2_hourOfDay 1 = .ok (.bipush 12, 2) := by decide +kernel
theorem dX2_hourOfDay_3 : decode cX2_hourOfDay 3 = .ok (.invokestatic 99, 3) := by decide +kernel
theorem dX2_hourOfDay_6 : decode cX2_hourOfDay 6 = .ok (.ireturn, 1) := by decide +kernel
theorem dX2_sunAt_0 : decode cX2_sunAt 0 = .ok (.iload_n 0, 1) := by decide +kernel
theorem dX2_sunAt_1 : decode cX2_sunAt 1 = .ok (.iconst 5, 1) := by decide +kernel
theorem dX2_sunAt_2 : decode cX2_sunAt 2 = .ok (.if_icmp .gt 9, 3) := by decide +kernel
theorem dX2_sunAt_5 : decode cX2_sunAt 5 = .ok (.iload_n 0, 1) := by decide +kernel
theorem dX2_sunAt_6 : decode cX2_sunAt 6 = .ok (.iconst 1, 1) := by decide +kernel
theorem dX2_sunAt_7 : decode cX2_sunAt 7 = .ok (.iadd, 1) := by decide +kernel
theorem dX2_sunAt_8 : decode cX2_sunAt 8 = .ok (.goto 7, 3) := by decide +kernel
theorem dX2_sunAt_11 : decode cX2_sunAt 11 = .ok (.bipush 12, 2) := by decide +kernel
theorem dX2_sunAt_13 : decode cX2_sunAt 13 = .ok (.iload_n 0, 1) := by decide +kernel
theorem dX2_sunAt_14 : decode cX2_sunAt 14 = .ok (.isub, 1) := by decide +kernel
theorem dX2_sunAt_15 : decode cX2_sunAt 15 = .ok (.ireturn, 1) := by decide +kernel
theorem dX2_noonAt_0 : decode cX2_noonAt 0 = .ok (.iload_n 0, 1) := by decide +kernel
theorem dX2_noonAt_1 : decode cX2_noonAt 1 = .ok (.iconst 5, 1) := by decide +kernel
theorem dX2_noonAt_2 : decode cX2_noonAt 2 = .ok (.if_icmp .lt 13, 3) := by decide +kernel
theorem dX2_noonAt_5 : decode cX2_noonAt 5 = .ok (.iload_n 0, 1) := by decide +kernel
theorem dX2_noonAt_6 : decode cX2_noonAt 6 = .ok (.bipush 6, 2) := by decide +kernel
theorem dX2_noonAt_8 : decode cX2_noonAt 8 = .ok (.if_icmp .gt 7, 3) := by decide +kernel
theorem dX2_noonAt_11 : decode cX2_noonAt 11 = .ok (.iconst 1, 1) := by decide +kernel
theorem dX2_noonAt_12 : decode cX2_noonAt 12 = .ok (.goto 4, 3) := by decide +kernel
theorem dX2_noonAt_15 : decode cX2_noonAt 15 = .ok (.iconst 0, 1) := by decide +kernel
theorem dX2_noonAt_16 : decode cX2_noonAt 16 = .ok (.ireturn, 1) := by decide +kernel
theorem dJ9_floorMod_7cf53_0 : decode cJ9_floorMod_7cf53 0 = .ok (.iload_n 0, 1) := by decide +kernel
theorem dJ9_floorMod_7cf53_1 : decode cJ9_floorMod_7cf53 1 = .ok (.iload_n 1, 1) := by decide +kernel
theorem dJ9_floorMod_7cf53_2 : decode cJ9_floorMod_7cf53 2 = .ok (.irem, 1) := by decide +kernel
theorem dJ9_floorMod_7cf53_3 : decode cJ9_floorMod_7cf53 3 = .ok (.istore_n 2, 1) := by decide +kernel
theorem dJ9_floorMod_7cf53_4 : decode cJ9_floorMod_7cf53 4 = .ok (.iload_n 0, 1) := by decide +kernel
theorem dJ9_floorMod_7cf53_5 : decode cJ9_floorMod_7cf53 5 = .ok (.iload_n 1, 1) := by decide +kernel
theorem dJ9_floorMod_7cf53_6 : decode cJ9_floorMod_7cf53 6 = .ok (.ixor, 1) := by decide +kernel
theorem dJ9_floorMod_7cf53_7 : decode cJ9_floorMod_7cf53 7 = .ok (.ifCond .ge 11, 3) := by decide +kernel
theorem dJ9_floorMod_7cf53_10 : decode cJ9_floorMod_7cf53 10 = .ok (.iload_n 2, 1) := by decide +kernel
theorem dJ9_floorMod_7cf53_11 : decode cJ9_floorMod_7cf53 11 = .ok (.ifCond .eq 7, 3) := by decide +kernel
theorem dJ9_floorMod_7cf53_14 : decode cJ9_floorMod_7cf53 14 = .ok (.iload_n 2, 1) := by decide +kernel
theorem dJ9_floorMod_7cf53_15 : decode cJ9_floorMod_7cf53 15 = .ok (.iload_n 1, 1) := by decide +kernel
theorem dJ9_floorMod_7cf53_16 : decode cJ9_floorMod_7cf53 16 = .ok (.iadd, 1) := by decide +kernel
theorem dJ9_floorMod_7cf53_17 : decode cJ9_floorMod_7cf53 17 = .ok (.ireturn, 1) := by decide +kernel
theorem dJ9_floorMod_7cf53_18 : decode cJ9_floorMod_7cf53 18 = .ok (.iload_n 2, 1) := by decide +kernel
theorem dJ9_floorMod_7cf53_19 : decode cJ9_floorMod_7cf53 19 = .ok (.ireturn, 1) := by decide +kernel
theorem dJ9_abs_0f7a4_0 : decode cJ9_abs_0f7a4 0 = .ok (.iload_n 0, 1) := by decide +kernel
theorem dJ9_abs_0f7a4_1 : decode cJ9_abs_0f7a4 1 = .ok (.ifCond .ge 8, 3) := by decide +kernel
theorem dJ9_abs_0f7a4_4 : decode cJ9_abs_0f7a4 4 = .ok (.iload_n 0, 1) := by decide +kernel
theorem dJ9_abs_0f7a4_5 : decode cJ9_abs_0f7a4 5 = .ok (.ineg, 1) := by decide +kernel
theorem dJ9_abs_0f7a4_6 : decode cJ9_abs_0f7a4 6 = .ok (.goto 4, 3) := by decide +kernel
theorem dJ9_abs_0f7a4_9 : decode cJ9_abs_0f7a4 9 = .ok (.iload_n 0, 1) := by decide +kernel
theorem dJ9_abs_0f7a4_10 : decode cJ9_abs_0f7a4 10 = .ok (.ireturn, 1) := by decide +kernel
theorem dJ9_max_7cf53_0 : decode cJ9_max_7cf53 0 = .ok (.iload_n 0, 1) := by decide +kernel
theorem dJ9_max_7cf53_1 : decode cJ9_max_7cf53 1 = .ok (.iload_n 1, 1) := by decide +kernel
theorem dJ9_max_7cf53_2 : decode cJ9_max_7cf53 2 = .ok (.if_icmp .lt 7, 3) := by decide +kernel
theorem dJ9_max_7cf53_5 : decode cJ9_max_7cf53 5 = .ok (.iload_n 0, 1) := by decide +kernel
theorem dJ9_max_7cf53_6 : decode cJ9_max_7cf53 6 = .ok (.goto 4, 3) := by decide +kernel
theorem dJ9_max_7cf53_9 : decode cJ9_max_7cf53 9 = .ok (.iload_n 1, 1) := by decide +kernel
theorem dJ9_max_7cf53_10 : decode cJ9_max_7cf53 10 = .ok (.ireturn, 1) := by decide +kernel
theorem dJ9_min_7cf53_0 : decode cJ9_min_7cf53 0 = .ok (.iload_n 0, 1) := by decide +kernel
theorem dJ9_min_7cf53_1 : decode cJ9_min_7cf53 1 = .ok (.iload_n 1, 1) := by decide +kernel
theorem dJ9_min_7cf53_2 : decode cJ9_min_7cf53 2 = .ok (.if_icmp .gt 7, 3) := by decide +kernel
theorem dJ9_min_7cf53_5 : decode cJ9_min_7cf53 5 = .ok (.iload_n 0, 1) := by decide +kernel
theorem dJ9_min_7cf53_6 : decode cJ9_min_7cf53 6 = .ok (.goto 4, 3) := by decide +kernel
theorem dJ9_min_7cf53_9 : decode cJ9_min_7cf53 9 = .ok (.iload_n 1, 1) := by decide +kernel
theorem dJ9_min_7cf53_10 : decode cJ9_min_7cf53 10 = .ok (.ireturn, 1) := by decide +kernel
