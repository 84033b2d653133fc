theorem dX3_init_0 : decode cX3_init 0 = .ok (.aload_n 0, 1) := by decide +kernel
theorem dX3_init_1 : decode cX3_init 1 = .ok (.invokespecial 1, 3) := by decide +kernel
theorem dX3_init_4 : decode cX3_init 4 = .ok (.aload_n 0, 1) := by decide +kernel
theorem dX3_init_5 : decode cX3_init 5 = .ok (.bipush 100, 2) := by decide +kernel
theorem dX3_init_7 : decode cX3_init 7 = .ok (.putfield 7, 3) := by decide +kernel
theorem dX3_init_10 : decode cX3_init 10 = .ok (.aload_n 0, 1) := by decide +kernel
theorem dX3_init_11 : decode cX3_init 11 = .ok (.iconst 2, 1) := by decide +kernel
theorem dX3_init_12 : decode cX3_init 12 = .ok (.putfield 13, 3) := by decide +kernel
theorem dX3_init_15 : decode cX3_init 15 = .ok (.aload_n 0, 1) := by decide +kernel
theorem dX3_init_16 : decode cX3_init 16 = .ok (.bipush 30, 2) := by decide +kernel
theorem dX3_init_18 : decode cX3_init 18 = .ok (.putfield 16, 3) := by decide +kernel
theorem dX3_init_21 : decode cX3_init 21 = .ok (.aload_n 0, 1) := by decide +kernel
theorem dX3_init_22 : decode cX3_init 22 = .ok (.iconst 0, 1) := by decide +kernel
theorem dX3_init_23 : decode cX3_init 23 = .ok (.anewarray 19, 3) := by decide +kernel
theorem dX3_init_26 : decode cX3_init 26 = .ok (.putfield 21, 3) := by decide +kernel
theorem dX3_init_29 : decode cX3_init 29 = .ok (.return_, 1) := by decide +kernel
theorem dX3_add_0 : decode cX3_add 0 = .ok (.aload_n 0, 1) := by decide +kernel
theorem dX3_add_1 : decode cX3_add 1 = .ok (.getfield 21, 3) := by decide +kernel
theorem dX3_add_4 : decode cX3_add 4 = .ok (.arraylength, 1) := by decide +kernel
theorem dX3_add_5 : decode cX3_add 5 = .ok (.iconst 1, 1) := by decide +kernel
theorem dX3_add_6 : decode cX3_add 6 = .ok (.iadd, 1) := by decide +kernel
theorem dX3_add_7 : decode cX3_add 7 = .ok (.anewarray 19, 3) := by decide +kernel
theorem dX3_add_10 : decode cX3_add 10 = .ok (.astore 4, 2) := by decide +kernel
theorem dX3_add_12 : decode cX3_add 12 = .ok (.iconst 0, 1) := by decide +kernel
theorem dX3_add_13 : decode cX3_add 13 = .ok (.istore 5, 2) := by decide +kernel
theorem dX3_add_15 : decode cX3_add 15 = .ok (.iload 5, 2) := by decide +kernel
theorem dX3_add_17 : decode cX3_add 17 = .ok (.aload_n 0, 1) := by decide +kernel
theorem dX3_add_18 : decode cX3_add 18 = .ok (.getfield 21, 3) := by decide +kernel
theorem dX3_add_21 : decode cX3_add 21 = .ok (.arraylength, 1) := by decide +kernel
theorem dX3_add_22 : decode cX3_add 22 = .ok (.if_icmp .ge 21, 3) := by decide +kernel
theorem dX3_add_25 : decode cX3_add 25 = .ok (.aload 4, 2) := by decide +kernel
theorem dX3_add_27 : decode cX3_add 27 = .ok (.iload 5, 2) := by decide +kernel
theorem dX3_add_29 : decode cX3_add 29 = .ok (.aload_n 0, 1) := by decide +kernel
theorem dX3_add_30 : decode cX3_add 30 = .ok (.getfield 21, 3) := by decide +kernel
theorem dX3_add_33 : decode cX3_add 33 = .ok (.iload 5, 2) := by decide +kernel
theorem dX3_add_35 : decode cX3_add 35 = .ok (.aaload, 1) := by decide +kernel
theorem dX3_add_36 : decode cX3_add 36 = .ok (.aastore, 1) := by decide +kernel
theorem dX3_add_37 : decode cX3_add 37 = .ok (.iinc 5 1, 3) := by decide +kernel
theorem dX3_add_40 : decode cX3_add 40 = .ok (.goto (-25), 3) := by decide +kernel
theorem dX3_add_43 : decode cX3_add 43 = .ok (.aload 4, 2) := by decide +kernel
theorem dX3_add_45 : decode cX3_add 45 = .ok (.aload_n 0, 1) := by decide +kernel
theorem dX3_add_46 : decode cX3_add 46 = .ok (.getfield 21, 3) := by decide +kernel
theorem dX3_add_49 : decode cX3_add 49 = .ok (.arraylength, 1) := by decide +kernel
theorem dX3_add_50 : decode cX3_add 50 = .ok (.bipush 6, 2) := by decide +kernel
theorem dX3_add_52 : decode cX3_add 52 = .ok (.newarray .int, 2) := by decide +kernel
theorem dX3_add_54 : decode cX3_add 54 = .ok (.dup, 1) := by decide +kernel
theorem dX3_add_55 : decode cX3_add 55 = .ok (.iconst 0, 1) := by decide +kernel
theorem dX3_add_56 : decode cX3_add 56 = .ok (.iload_n 1, 1) := by decide +kernel
theorem dX3_add_57 : decode cX3_add 57 = .ok (.iastore, 1) := by decide +kernel
theorem dX3_add_58 : decode cX3_add 58 = .ok (.dup, 1) := by decide +kernel
theorem dX3_add_59 : decode cX3_add 59 = .ok (.iconst 1, 1) := by decide +kernel
theorem dX3_add_60 : decode cX3_add 60 = .ok (.iload_n 2, 1) := by decide +kernel
theorem dX3_add_61 : decode cX3_add 61 = .ok (.iastore, 1) := by decide +kernel
theorem dX3_add_62 : decode cX3_add 62 = .ok (.dup, 1) := by decide +kernel
theorem dX3_add_63 : decode cX3_add 63 = .ok (.iconst 2, 1) := by decide +kernel
theorem dX3_add_64 : decode cX3_add 64 = .ok (.iload_n 3, 1) := by decide +kernel
theorem dX3_add_65 : decode cX3_add 65 = .ok (.iastore, 1) := by decide +kernel
theorem dX3_add_66 : decode cX3_add 66 = .ok (.dup, 1) := by decide +kernel
theorem dX3_add_67 : decode cX3_add 67 = .ok (.iconst 3, 1) := by decide +kernel
theorem dX3_add_68 : decode cX3_add 68 = .ok (.iconst 0, 1) := by decide +kernel
theorem dX3_add_69 : decode cX3_add 69 = .ok (.iastore, 1) := by decide +kernel
theorem dX3_add_70 : decode cX3_add 70 = .ok (.dup, 1) := by decide +kernel
theorem dX3_add_71 : decode cX3_add 71 = .ok (.iconst 4, 1) := by decide +kernel
theorem dX3_add_72 : decode cX3_add 72 = .ok (.iconst 1, 1) := by decide +kernel
theorem dX3_add_73 : decode cX3_add 73 = .ok (.iastore, 1) := by decide +kernel
theorem dX3_add_74 : decode cX3_add 74 = .ok (.dup, 1) := by decide +kernel
theorem dX3_add_75 : decode cX3_add 75 = .ok (.iconst 5, 1) := by decide +kernel
theorem dX3_add_76 : decode cX3_add 76 = .ok (.iconst 0, 1) := by decide +kernel
theorem dX3_add_77 : decode cX3_add 77 = .ok (.iastore, 1) := by decide +kernel
theorem dX3_add_78 : decode cX3_add 78 = .ok (.aastore, 1) := by decide +kernel
theorem dX3_add_79 : decode cX3_add 79 = .ok (.aload_n 0, 1) := by decide +kernel
theorem dX3_add_80 : decode cX3_add 80 = .ok (.aload 4, 2) := by decide +kernel
theorem dX3_add_82 : decode cX3_add 82 = .ok (.putfield 21, 3) := by decide +kernel
theorem dX3_add_85 : decode cX3_add 85 = .ok (.return_, 1) := by decide +kernel
theorem dX3_copy_0 : decode cX3_copy 0 = .ok (.new 8, 3) := by decide +kernel
theorem dX3_copy_3 : decode cX3_copy 3 = .ok (.dup, 1) := by decide +kernel
theorem dX3_copy_4 : decode cX3_copy 4 = .ok (.invokespecial 25, 3) := by decide +kernel
theorem dX3_copy_7 : decode cX3_copy 7 = .ok (.astore_n 1, 1) := by decide +kernel
theorem dX3_copy_8 : decode cX3_copy 8 = .ok (.aload_n 1, 1) := by decide +kernel
theorem dX3_copy_9 : decode cX3_copy 9 = .ok (.aload_n 0, 1) := by decide +kernel
theorem dX3_copy_10 : decode cX3_copy 10 = .ok (.getfield 26, 3) := by decide +kernel
theorem dX3_copy_13 : decode cX3_copy 13 = .ok (.putfield 26, 3) := by decide +kernel
theorem dX3_copy_16 : decode cX3_copy 16 = .ok (.aload_n 1, 1) := by decide +kernel
theorem dX3_copy_17 : decode cX3_copy 17 = .ok (.aload_n 0, 1) := by decide +kernel
theorem dX3_copy_18 : decode cX3_copy 18 = .ok (.getfield 7, 3) := by decide +kernel
theorem dX3_copy_21 : decode cX3_copy 21 = .ok (.putfield 7, 3) := by decide +kernel
theorem dX3_copy_24 : decode cX3_copy 24 = .ok (.aload_n 1, 1) := by decide +kernel
theorem dX3_copy_25 : decode cX3_copy 25 = .ok (.aload_n 0, 1) := by decide +kernel
theorem dX3_copy_26 : decode cX3_copy 26 = .ok (.getfield 13, 3) := by decide +kernel
theorem dX3_copy_29 : decode cX3_copy 29 = .ok (.putfield 13, 3) := by decide +kernel
theorem dX3_copy_32 : decode cX3_copy 32 = .ok (.aload_n 1, 1) := by decide +kernel
theorem dX3_copy_33 : decode cX3_copy 33 = .ok (.aload_n 0, 1) := by decide +kernel
theorem dX3_copy_34 : decode cX3_copy 34 = .ok (.getfield 16, 3) := by decide +kernel
theorem dX3_copy_37 : decode cX3_copy 37 = .ok (.putfield 16, 3) := by decide +kernel
theorem dX3_copy_40 : decode cX3_copy 40 = .ok (.aload_n 1, 1) := by decide +kernel
theorem dX3_copy_41 : decode cX3_copy 41 = .ok (.aload_n 0, 1) := by decide +kernel
theorem dX3_copy_42 : decode cX3_copy 42 = .ok (.getfield 29, 3) := by decide +kernel
theorem dX3_copy_45 : decode cX3_copy 45 = .ok (.putfield 29, 3) := by decide +kernel
theorem dX3_copy_48 : decode cX3_copy 48 = .ok (.aload_n 1, 1) := by decide +kernel
theorem dX3_copy_49 : decode cX3_copy 49 = .ok (.aload_n 0, 1) := by decide +kernel
theorem dX3_copy_50 : decode cX3_copy 50 = .ok (.getfield 32, 3) := by decide +kernel
theorem dX3_copy_53 : decode cX3_copy 53 = .ok (.putfield 32, 3) := by decide +kernel
theorem dX3_copy_56 : decode cX3_copy 56 = .ok (.aload_n 1, 1) := by decide +kernel
theorem dX3_copy_57 : decode cX3_copy 57 = .ok (.aload_n 0, 1) := by decide +kernel
theorem dX3_copy_58 : decode cX3_copy 58 = .ok (.getfield 21, 3) := by decide +kernel
theorem dX3_copy_61 : decode cX3_copy 61 = .ok (.arraylength, 1) := by decide +kernel
theorem dX3_copy_62 : decode cX3_copy 62 = .ok (.anewarray 19, 3) := by decide +kernel
theorem dX3_copy_65 : decode cX3_copy 65 = .ok (.putfield 21, 3) := by decide +kernel
theorem dX3_copy_68 : decode cX3_copy 68 = .ok (.iconst 0, 1) := by decide +kernel
theorem dX3_copy_69 : decode cX3_copy 69 = .ok (.istore_n 2, 1) := by decide +kernel
theorem dX3_copy_70 : decode cX3_copy 70 = .ok (.iload_n 2, 1) := by decide +kernel
theorem dX3_copy_71 : decode cX3_copy 71 = .ok (.aload_n 0, 1) := by decide +kernel
theorem dX3_copy_72 : decode cX3_copy 72 = .ok (.getfield 21, 3) := by decide +kernel
theorem dX3_copy_75 : decode cX3_copy 75 = .ok (.arraylength, 1) := by decide +kernel
theorem dX3_copy_76 : decode cX3_copy 76 = .ok (.if_icmp .ge 27, 3) := by decide +kernel
theorem dX3_copy_79 : decode cX3_copy 79 = .ok (.aload_n 1, 1) := by decide +kernel
theorem dX3_copy_80 : decode cX3_copy 80 = .ok (.getfield 21, 3) := by decide +kernel
theorem dX3_copy_83 : decode cX3_copy 83 = .ok (.iload_n 2, 1) := by decide +kernel
theorem dX3_copy_84 : decode cX3_copy 84 = .ok (.aload_n 0, 1) := by decide +kernel
theorem dX3_copy_85 : decode cX3_copy 85 = .ok (.getfield 21, 3) := by decide +kernel
theorem dX3_copy_88 : decode cX3_copy 88 = .ok (.iload_n 2, 1) := by decide +kernel
theorem dX3_copy_89 : decode cX3_copy 89 = .ok (.aaload, 1) := by decide +kernel
theorem dX3_copy_90 : decode cX3_copy 90 = .ok (.invokevirtual 35, 3) := by decide +kernel
theorem dX3_copy_93 : decode cX3_copy 93 = .ok (.checkcast 19, 3) := by decide +kernel
theorem dX3_copy_96 : decode cX3_copy 96 = .ok (.aastore, 1) := by decide +kernel
theorem dX3_copy_97 : decode cX3_copy 97 = .ok (.iinc 2 1, 3) := by decide +kernel
theorem dX3_copy_100 : decode cX3_copy 100 = .ok (.goto (-30), 3) := by decide +kernel
theorem dX3_copy_103 : decode cX3_copy 103 = .ok (.aload_n 1, 1) := by decide +kernel
theorem dX3_copy_104 : decode cX3_copy 104 = .ok (.areturn, 1) := by decide +kernel
theorem dX3_ofDay_0 : decode cX3_ofDay 0 = .ok (.aload_n 0, 1) := by decide +kernel
theorem dX3_ofDay_1 : decode cX3_ofDay 1 = .ok (.getfield 26, 3) := by decide +kernel
theorem dX3_ofDay_4 : decode cX3_ofDay 4 = .ok (.bipush 12, 2) := by decide +kernel
theorem dX3_ofDay_6 : decode cX3_ofDay 6 = .ok (.irem, 1) := by decide +kernel
theorem dX3_ofDay_7 : decode cX3_ofDay 7 = .ok (.ireturn, 1) := by decide +kernel
theorem dX3_sun_0 : decode cX3_sun 0 = .ok (.aload_n 0, 1) := by decide +kernel
theorem dX3_sun_1 : decode cX3_sun 1 = .ok (.invokevirtual 39, 3) := by decide +kernel
theorem dX3_sun_4 : decode cX3_sun 4 = .ok (.bipush 6, 2) := by decide +kernel
theorem dX3_sun_6 : decode cX3_sun 6 = .ok (.if_icmp .ge 12, 3) := by decide +kernel
theorem dX3_sun_9 : decode cX3_sun 9 = .ok (.aload_n 0, 1) := by decide +kernel
theorem dX3_sun_10 : decode cX3_sun 10 = .ok (.invokevirtual 39, 3) := by decide +kernel
theorem dX3_sun_13 : decode cX3_sun 13 = .ok (.iconst 1, 1) := by decide +kernel
theorem dX3_sun_14 : decode cX3_sun 14 = .ok (.iadd, 1) := by decide +kernel
theorem dX3_sun_15 : decode cX3_sun 15 = .ok (.goto 10, 3) := by decide +kernel
theorem dX3_sun_18 : decode cX3_sun 18 = .ok (.bipush 12, 2) := by decide +kernel
theorem dX3_sun_20 : decode cX3_sun 20 = .ok (.aload_n 0, 1) := by decide +kernel
theorem dX3_sun_21 : decode cX3_sun 21 = .ok (.invokevirtual 39, 3) := by decide +kernel
theorem dX3_sun_24 : decode cX3_sun 24 = .ok (.isub, 1) := by decide +kernel
theorem dX3_sun_25 : decode cX3_sun 25 = .ok (.ireturn, 1) := by decide +kernel
theorem dX3_isNoon_0 : decode cX3_isNoon 0 = .ok (.aload_n 0, 1) := by decide +kernel
theorem dX3_isNoon_1 : decode cX3_isNoon 1 = .ok (.invokevirtual 43, 3) := by decide +kernel
theorem dX3_isNoon_4 : decode cX3_isNoon 4 = .ok (.bipush 6, 2) := by decide +kernel
theorem dX3_isNoon_6 : decode cX3_isNoon 6 = .ok (.if_icmp .ne 7, 3) := by decide +kernel
theorem dX3_isNoon_9 : decode cX3_isNoon 9 = .ok (.iconst 1, 1) := by decide +kernel
theorem dX3_isNoon_10 : decode cX3_isNoon 10 = .ok (.goto 4, 3) := by decide +kernel
theorem dX3_isNoon_13 : decode cX3_isNoon 13 = .ok (.iconst 0, 1) := by decide +kernel
theorem dX3_isNoon_14 : decode cX3_isNoon 14 = .ok (.ireturn, 1) := by decide +kernel
theorem dX3_shadow_0 : decode cX3_shadow 0 = .ok (.aload_n 1, 1) := by decide +kernel
theorem dX3_shadow_1 : decode cX3_shadow 1 = .ok (.iconst 0, 1) := by decide +kernel
theorem dX3_shadow_2 : decode cX3_shadow 2 = .ok (.iaload, 1) := by decide +kernel
theorem dX3_shadow_3 : decode cX3_shadow 3 = .ok (.bipush 6, 2) := by decide +kernel
theorem dX3_shadow_5 : decode cX3_shadow 5 = .ok (.imul, 1) := by decide +kernel
theorem dX3_shadow_6 : decode cX3_shadow 6 = .ok (.aload_n 0, 1) := by decide +kernel
theorem dX3_shadow_7 : decode cX3_shadow 7 = .ok (.invokevirtual 43, 3) := by decide +kernel
theorem dX3_shadow_10 : decode cX3_shadow 10 = .ok (.idiv, 1) := by decide +kernel
theorem dX3_shadow_11 : decode cX3_shadow 11 = .ok (.ireturn, 1) := by decide +kernel
theorem dX3_parts_0 : decode cX3_parts 0 = .ok (.aload_n 0, 1) := by decide +kernel
theorem dX3_parts_1 : decode cX3_parts 1 = .ok (.aload_n 1, 1) := by decide +kernel
theorem dX3_parts_2 : decode cX3_parts 2 = .ok (.invokevirtual 46, 3) := by decide +kernel
theorem dX3_parts_5 : decode cX3_parts 5 = .ok (.aload_n 1, 1) := by decide +kernel
theorem dX3_parts_6 : decode cX3_parts 6 = .ok (.iconst 2, 1) := by decide +kernel
theorem dX3_parts_7 : decode cX3_parts 7 = .ok (.iaload, 1) := by decide +kernel
theorem dX3_parts_8 : decode cX3_parts 8 = .ok (.isub, 1) := by decide +kernel
theorem dX3_parts_9 : decode cX3_parts 9 = .ok (.aload_n 1, 1) := by decide +kernel
theorem dX3_parts_10 : decode cX3_parts 10 = .ok (.iconst 2, 1) := by decide +kernel
theorem dX3_parts_11 : decode cX3_parts 11 = .ok (.iaload, 1) := by decide +kernel
theorem dX3_parts_12 : decode cX3_parts 12 = .ok (.isub, 1) := by decide +kernel
theorem dX3_parts_13 : decode cX3_parts 13 = .ok (.istore_n 2, 1) := by decide +kernel
theorem dX3_parts_14 : decode cX3_parts 14 = .ok (.iload_n 2, 1) := by decide +kernel
theorem dX3_parts_15 : decode cX3_parts 15 = .ok (.ifCond .gt 7, 3) := by decide +kernel
theorem dX3_parts_18 : decode cX3_parts 18 = .ok (.iconst 4, 1) := by decide +kernel
theorem dX3_parts_19 : decode cX3_parts 19 = .ok (.newarray .int, 2) := by decide +kernel
theorem dX3_parts_21 : decode cX3_parts 21 = .ok (.areturn, 1) := by decide +kernel
theorem dX3_parts_22 : decode cX3_parts 22 = .ok (.aload_n 1, 1) := by decide +kernel
theorem dX3_parts_23 : decode cX3_parts 23 = .ok (.iconst 4, 1) := by decide +kernel
theorem dX3_parts_24 : decode cX3_parts 24 = .ok (.iaload, 1) := by decide +kernel
theorem dX3_parts_25 : decode cX3_parts 25 = .ok (.ifCond .ne 23, 3) := by decide +kernel
theorem dX3_parts_28 : decode cX3_parts 28 = .ok (.iconst 4, 1) := by decide +kernel
theorem dX3_parts_29 : decode cX3_parts 29 = .ok (.newarray .int, 2) := by decide +kernel
theorem dX3_parts_31 : decode cX3_parts 31 = .ok (.dup, 1) := by decide +kernel
theorem dX3_parts_32 : decode cX3_parts 32 = .ok (.iconst 0, 1) := by decide +kernel
theorem dX3_parts_33 : decode cX3_parts 33 = .ok (.iload_n 2, 1) := by decide +kernel
theorem dX3_parts_34 : decode cX3_parts 34 = .ok (.iastore, 1) := by decide +kernel
theorem dX3_parts_35 : decode cX3_parts 35 = .ok (.dup, 1) := by decide +kernel
theorem dX3_parts_36 : decode cX3_parts 36 = .ok (.iconst 1, 1) := by decide +kernel
theorem dX3_parts_37 : decode cX3_parts 37 = .ok (.iload_n 2, 1) := by decide +kernel
theorem dX3_parts_38 : decode cX3_parts 38 = .ok (.iastore, 1) := by decide +kernel
theorem dX3_parts_39 : decode cX3_parts 39 = .ok (.dup, 1) := by decide +kernel
theorem dX3_parts_40 : decode cX3_parts 40 = .ok (.iconst 2, 1) := by decide +kernel
theorem dX3_parts_41 : decode cX3_parts 41 = .ok (.iconst 0, 1) := by decide +kernel
theorem dX3_parts_42 : decode cX3_parts 42 = .ok (.iastore, 1) := by decide +kernel
theorem dX3_parts_43 : decode cX3_parts 43 = .ok (.dup, 1) := by decide +kernel
theorem dX3_parts_44 : decode cX3_parts 44 = .ok (.iconst 3, 1) := by decide +kernel
theorem dX3_parts_45 : decode cX3_parts 45 = .ok (.iconst 0, 1) := by decide +kernel
theorem dX3_parts_46 : decode cX3_parts 46 = .ok (.iastore, 1) := by decide +kernel
theorem dX3_parts_47 : decode cX3_parts 47 = .ok (.areturn, 1) := by decide +kernel
theorem dX3_parts_48 : decode cX3_parts 48 = .ok (.aload_n 0, 1) := by decide +kernel
theorem dX3_parts_49 : decode cX3_parts 49 = .ok (.invokevirtual 50, 3) := by decide +kernel
theorem dX3_parts_52 : decode cX3_parts 52 = .ok (.ifCond .eq 8, 3) := by decide +kernel
theorem dX3_parts_55 : decode cX3_parts 55 = .ok (.bipush 6, 2) := by decide +kernel
theorem dX3_parts_57 : decode cX3_parts 57 = .ok (.goto 4, 3) := by decide +kernel
theorem dX3_parts_60 : decode cX3_parts 60 = .ok (.iconst 3, 1) := by decide +kernel
theorem dX3_parts_61 : decode cX3_parts 61 = .ok (.istore_n 3, 1) := by decide +kernel
theorem dX3_parts_62 : decode cX3_parts 62 = .ok (.iload_n 3, 1) := by decide +kernel
theorem dX3_parts_63 : decode cX3_parts 63 = .ok (.iload_n 2, 1) := by decide +kernel
theorem dX3_parts_64 : decode cX3_parts 64 = .ok (.if_icmp .lt 23, 3) := by decide +kernel
theorem dX3_parts_67 : decode cX3_parts 67 = .ok (.iconst 4, 1) := by decide +kernel
theorem dX3_parts_68 : decode cX3_parts 68 = .ok (.newarray .int, 2) := by decide +kernel
theorem dX3_parts_70 : decode cX3_parts 70 = .ok (.dup, 1) := by decide +kernel
theorem dX3_parts_71 : decode cX3_parts 71 = .ok (.iconst 0, 1) := by decide +kernel
theorem dX3_parts_72 : decode cX3_parts 72 = .ok (.iload_n 2, 1) := by decide +kernel
theorem dX3_parts_73 : decode cX3_parts 73 = .ok (.iastore, 1) := by decide +kernel
theorem dX3_parts_74 : decode cX3_parts 74 = .ok (.dup, 1) := by decide +kernel
theorem dX3_parts_75 : decode cX3_parts 75 = .ok (.iconst 1, 1) := by decide +kernel
theorem dX3_parts_76 : decode cX3_parts 76 = .ok (.iload_n 2, 1) := by decide +kernel
theorem dX3_parts_77 : decode cX3_parts 77 = .ok (.iastore, 1) := by decide +kernel
theorem dX3_parts_78 : decode cX3_parts 78 = .ok (.dup, 1) := by decide +kernel
theorem dX3_parts_79 : decode cX3_parts 79 = .ok (.iconst 2, 1) := by decide +kernel
theorem dX3_parts_80 : decode cX3_parts 80 = .ok (.iconst 0, 1) := by decide +kernel
theorem dX3_parts_81 : decode cX3_parts 81 = .ok (.iastore, 1) := by decide +kernel
theorem dX3_parts_82 : decode cX3_parts 82 = .ok (.dup, 1) := by decide +kernel
theorem dX3_parts_83 : decode cX3_parts 83 = .ok (.iconst 3, 1) := by decide +kernel
theorem dX3_parts_84 : decode cX3_parts 84 = .ok (.iconst 0, 1) := by decide +kernel
theorem dX3_parts_85 : decode cX3_parts 85 = .ok (.iastore, 1) := by decide +kernel
theorem dX3_parts_86 : decode cX3_parts 86 = .ok (.areturn, 1) := by decide +kernel
theorem dX3_parts_87 : decode cX3_parts 87 = .ok (.iload_n 2, 1) := by decide +kernel
theorem dX3_parts_88 : decode cX3_parts 88 = .ok (.iload_n 3, 1) := by decide +kernel
theorem dX3_parts_89 : decode cX3_parts 89 = .ok (.isub, 1) := by decide +kernel
theorem dX3_parts_90 : decode cX3_parts 90 = .ok (.istore 4, 2) := by decide +kernel
theorem dX3_parts_92 : decode cX3_parts 92 = .ok (.iload 4, 2) := by decide +kernel
theorem dX3_parts_94 : decode cX3_parts 94 = .ok (.aload_n 0, 1) := by decide +kernel
theorem dX3_parts_95 : decode cX3_parts 95 = .ok (.getfield 16, 3) := by decide +kernel
theorem dX3_parts_98 : decode cX3_parts 98 = .ok (.if_icmp .le 13, 3) := by decide +kernel
theorem dX3_parts_101 : decode cX3_parts 101 = .ok (.iload 4, 2) := by decide +kernel
theorem dX3_parts_103 : decode cX3_parts 103 = .ok (.aload_n 0, 1) := by decide +kernel
theorem dX3_parts_104 : decode cX3_parts 104 = .ok (.getfield 16, 3) := by decide +kernel
theorem dX3_parts_107 : decode cX3_parts 107 = .ok (.isub, 1) := by decide +kernel
theorem dX3_parts_108 : decode cX3_parts 108 = .ok (.goto 4, 3) := by decide +kernel
theorem dX3_parts_111 : decode cX3_parts 111 = .ok (.iconst 0, 1) := by decide +kernel
theorem dX3_parts_112 : decode cX3_parts 112 = .ok (.istore 5, 2) := by decide +kernel
theorem dX3_parts_114 : decode cX3_parts 114 = .ok (.iload 5, 2) := by decide +kernel
theorem dX3_parts_116 : decode cX3_parts 116 = .ok (.aload_n 0, 1) := by decide +kernel
theorem dX3_parts_117 : decode cX3_parts 117 = .ok (.getfield 29, 3) := by decide +kernel
theorem dX3_parts_120 : decode cX3_parts 120 = .ok (.if_icmp .ge 8, 3) := by decide +kernel
theorem dX3_parts_123 : decode cX3_parts 123 = .ok (.iload 5, 2) := by decide +kernel
theorem dX3_parts_125 : decode cX3_parts 125 = .ok (.goto 7, 3) := by decide +kernel
theorem dX3_parts_128 : decode cX3_parts 128 = .ok (.aload_n 0, 1) := by decide +kernel
theorem dX3_parts_129 : decode cX3_parts 129 = .ok (.getfield 29, 3) := by decide +kernel
theorem dX3_parts_132 : decode cX3_parts 132 = .ok (.istore 6, 2) := by decide +kernel
theorem dX3_parts_134 : decode cX3_parts 134 = .ok (.iconst 4, 1) := by decide +kernel
theorem dX3_parts_135 : decode cX3_parts 135 = .ok (.newarray .int, 2) := by decide +kernel
theorem dX3_parts_137 : decode cX3_parts 137 = .ok (.dup, 1) := by decide +kernel
theorem dX3_parts_138 : decode cX3_parts 138 = .ok (.iconst 0, 1) := by decide +kernel
theorem dX3_parts_139 : decode cX3_parts 139 = .ok (.iload_n 2, 1) := by decide +kernel
theorem dX3_parts_140 : decode cX3_parts 140 = .ok (.iastore, 1) := by decide +kernel
theorem dX3_parts_141 : decode cX3_parts 141 = .ok (.dup, 1) := by decide +kernel
theorem dX3_parts_142 : decode cX3_parts 142 = .ok (.iconst 1, 1) := by decide +kernel
theorem dX3_parts_143 : decode cX3_parts 143 = .ok (.iload_n 3, 1) := by decide +kernel
theorem dX3_parts_144 : decode cX3_parts 144 = .ok (.iastore, 1) := by decide +kernel
theorem dX3_parts_145 : decode cX3_parts 145 = .ok (.dup, 1) := by decide +kernel
theorem dX3_parts_146 : decode cX3_parts 146 = .ok (.iconst 2, 1) := by decide +kernel
theorem dX3_parts_147 : decode cX3_parts 147 = .ok (.iload 4, 2) := by decide +kernel
theorem dX3_parts_149 : decode cX3_parts 149 = .ok (.iload 6, 2) := by decide +kernel
theorem dX3_parts_151 : decode cX3_parts 151 = .ok (.isub, 1) := by decide +kernel
theorem dX3_parts_152 : decode cX3_parts 152 = .ok (.iastore, 1) := by decide +kernel
theorem dX3_parts_153 : decode cX3_parts 153 = .ok (.dup, 1) := by decide +kernel
theorem dX3_parts_154 : decode cX3_parts 154 = .ok (.iconst 3, 1) := by decide +kernel
theorem dX3_parts_155 : decode cX3_parts 155 = .ok (.iload 6, 2) := by decide +kernel
theorem dX3_parts_157 : decode cX3_parts 157 = .ok (.iastore, 1) := by decide +kernel
theorem dX3_parts_158 : decode cX3_parts 158 = .ok (.areturn, 1) := by decide +kernel
theorem dX3_pass_0 : decode cX3_pass 0 = .ok (.aload_n 0, 1) := by decide +kernel
theorem dX3_pass_1 : decode cX3_pass 1 = .ok (.invokevirtual 39, 3) := by decide +kernel
theorem dX3_pass_4 : decode cX3_pass 4 = .ok (.ifCond .ne 97, 3) := by decide +kernel
theorem dX3_pass_7 : decode cX3_pass 7 = .ok (.aload_n 0, 1) := by decide +kernel
theorem dX3_pass_8 : decode cX3_pass 8 = .ok (.getfield 21, 3) := by decide +kernel
theorem dX3_pass_11 : decode cX3_pass 11 = .ok (.astore_n 1, 1) := by decide +kernel
theorem dX3_pass_12 : decode cX3_pass 12 = .ok (.aload_n 1, 1) := by decide +kernel
theorem dX3_pass_13 : decode cX3_pass 13 = .ok (.arraylength, 1) := by decide +kernel
theorem dX3_pass_14 : decode cX3_pass 14 = .ok (.istore_n 2, 1) := by decide +kernel
theorem dX3_pass_15 : decode cX3_pass 15 = .ok (.iconst 0, 1) := by decide +kernel
theorem dX3_pass_16 : decode cX3_pass 16 = .ok (.istore_n 3, 1) := by decide +kernel
theorem dX3_pass_17 : decode cX3_pass 17 = .ok (.iload_n 3, 1) := by decide +kernel
theorem dX3_pass_18 : decode cX3_pass 18 = .ok (.iload_n 2, 1) := by decide +kernel
theorem dX3_pass_19 : decode cX3_pass 19 = .ok (.if_icmp .ge 39, 3) := by decide +kernel
theorem dX3_pass_22 : decode cX3_pass 22 = .ok (.aload_n 1, 1) := by decide +kernel
theorem dX3_pass_23 : decode cX3_pass 23 = .ok (.iload_n 3, 1) := by decide +kernel
theorem dX3_pass_24 : decode cX3_pass 24 = .ok (.aaload, 1) := by decide +kernel
theorem dX3_pass_25 : decode cX3_pass 25 = .ok (.astore 4, 2) := by decide +kernel
theorem dX3_pass_27 : decode cX3_pass 27 = .ok (.aload_n 0, 1) := by decide +kernel
theorem dX3_pass_28 : decode cX3_pass 28 = .ok (.dup, 1) := by decide +kernel
theorem dX3_pass_29 : decode cX3_pass 29 = .ok (.getfield 7, 3) := by decide +kernel
theorem dX3_pass_32 : decode cX3_pass 32 = .ok (.aload 4, 2) := by decide +kernel
theorem dX3_pass_34 : decode cX3_pass 34 = .ok (.iconst 4, 1) := by decide +kernel
theorem dX3_pass_35 : decode cX3_pass 35 = .ok (.iaload, 1) := by decide +kernel
theorem dX3_pass_36 : decode cX3_pass 36 = .ok (.iconst 1, 1) := by decide +kernel
theorem dX3_pass_37 : decode cX3_pass 37 = .ok (.if_icmp .ne 10, 3) := by decide +kernel
theorem dX3_pass_40 : decode cX3_pass 40 = .ok (.aload_n 0, 1) := by decide +kernel
theorem dX3_pass_41 : decode cX3_pass 41 = .ok (.getfield 13, 3) := by decide +kernel
theorem dX3_pass_44 : decode cX3_pass 44 = .ok (.goto 4, 3) := by decide +kernel
theorem dX3_pass_47 : decode cX3_pass 47 = .ok (.iconst 0, 1) := by decide +kernel
theorem dX3_pass_48 : decode cX3_pass 48 = .ok (.iadd, 1) := by decide +kernel
theorem dX3_pass_49 : decode cX3_pass 49 = .ok (.putfield 7, 3) := by decide +kernel
theorem dX3_pass_52 : decode cX3_pass 52 = .ok (.iinc 3 1, 3) := by decide +kernel
theorem dX3_pass_55 : decode cX3_pass 55 = .ok (.goto (-38), 3) := by decide +kernel
theorem dX3_pass_58 : decode cX3_pass 58 = .ok (.aload_n 0, 1) := by decide +kernel
theorem dX3_pass_59 : decode cX3_pass 59 = .ok (.getfield 29, 3) := by decide +kernel
theorem dX3_pass_62 : decode cX3_pass 62 = .ok (.ifCond .le 39, 3) := by decide +kernel
theorem dX3_pass_65 : decode cX3_pass 65 = .ok (.aload_n 0, 1) := by decide +kernel
theorem dX3_pass_66 : decode cX3_pass 66 = .ok (.dup, 1) := by decide +kernel
theorem dX3_pass_67 : decode cX3_pass 67 = .ok (.getfield 7, 3) := by decide +kernel
theorem dX3_pass_70 : decode cX3_pass 70 = .ok (.iconst 1, 1) := by decide +kernel
theorem dX3_pass_71 : decode cX3_pass 71 = .ok (.aload_n 0, 1) := by decide +kernel
theorem dX3_pass_72 : decode cX3_pass 72 = .ok (.getfield 29, 3) := by decide +kernel
theorem dX3_pass_75 : decode cX3_pass 75 = .ok (.bipush 20, 2) := by decide +kernel
theorem dX3_pass_77 : decode cX3_pass 77 = .ok (.idiv, 1) := by decide +kernel
theorem dX3_pass_78 : decode cX3_pass 78 = .ok (.iadd, 1) := by decide +kernel
theorem dX3_pass_79 : decode cX3_pass 79 = .ok (.isub, 1) := by decide +kernel
theorem dX3_pass_80 : decode cX3_pass 80 = .ok (.putfield 7, 3) := by decide +kernel
theorem dX3_pass_83 : decode cX3_pass 83 = .ok (.aload_n 0, 1) := by decide +kernel
theorem dX3_pass_84 : decode cX3_pass 84 = .ok (.dup, 1) := by decide +kernel
theorem dX3_pass_85 : decode cX3_pass 85 = .ok (.getfield 32, 3) := by decide +kernel
theorem dX3_pass_88 : decode cX3_pass 88 = .ok (.iconst 1, 1) := by decide +kernel
theorem dX3_pass_89 : decode cX3_pass 89 = .ok (.aload_n 0, 1) := by decide +kernel
theorem dX3_pass_90 : decode cX3_pass 90 = .ok (.getfield 29, 3) := by decide +kernel
theorem dX3_pass_93 : decode cX3_pass 93 = .ok (.bipush 20, 2) := by decide +kernel
theorem dX3_pass_95 : decode cX3_pass 95 = .ok (.idiv, 1) := by decide +kernel
theorem dX3_pass_96 : decode cX3_pass 96 = .ok (.iadd, 1) := by decide +kernel
theorem dX3_pass_97 : decode cX3_pass 97 = .ok (.isub, 1) := by decide +kernel
theorem dX3_pass_98 : decode cX3_pass 98 = .ok (.putfield 32, 3) := by decide +kernel
theorem dX3_pass_101 : decode cX3_pass 101 = .ok (.iconst 0, 1) := by decide +kernel
theorem dX3_pass_102 : decode cX3_pass 102 = .ok (.istore_n 1, 1) := by decide +kernel
theorem dX3_pass_103 : decode cX3_pass 103 = .ok (.aload_n 0, 1) := by decide +kernel
theorem dX3_pass_104 : decode cX3_pass 104 = .ok (.getfield 21, 3) := by decide +kernel
theorem dX3_pass_107 : decode cX3_pass 107 = .ok (.astore_n 2, 1) := by decide +kernel
theorem dX3_pass_108 : decode cX3_pass 108 = .ok (.aload_n 2, 1) := by decide +kernel
theorem dX3_pass_109 : decode cX3_pass 109 = .ok (.arraylength, 1) := by decide +kernel
theorem dX3_pass_110 : decode cX3_pass 110 = .ok (.istore_n 3, 1) := by decide +kernel
theorem dX3_pass_111 : decode cX3_pass 111 = .ok (.iconst 0, 1) := by decide +kernel
theorem dX3_pass_112 : decode cX3_pass 112 = .ok (.istore 4, 2) := by decide +kernel
theorem dX3_pass_114 : decode cX3_pass 114 = .ok (.iload 4, 2) := by decide +kernel
theorem dX3_pass_116 : decode cX3_pass 116 = .ok (.iload_n 3, 1) := by decide +kernel
theorem dX3_pass_117 : decode cX3_pass 117 = .ok (.if_icmp .ge 139, 3) := by decide +kernel
theorem dX3_pass_120 : decode cX3_pass 120 = .ok (.aload_n 2, 1) := by decide +kernel
theorem dX3_pass_121 : decode cX3_pass 121 = .ok (.iload 4, 2) := by decide +kernel
theorem dX3_pass_123 : decode cX3_pass 123 = .ok (.aaload, 1) := by decide +kernel
theorem dX3_pass_124 : decode cX3_pass 124 = .ok (.astore 5, 2) := by decide +kernel
theorem dX3_pass_126 : decode cX3_pass 126 = .ok (.aload 5, 2) := by decide +kernel
theorem dX3_pass_128 : decode cX3_pass 128 = .ok (.iconst 3, 1) := by decide +kernel
theorem dX3_pass_129 : decode cX3_pass 129 = .ok (.dup2, 1) := by decide +kernel
theorem dX3_pass_130 : decode cX3_pass 130 = .ok (.iaload, 1) := by decide +kernel
theorem dX3_pass_131 : decode cX3_pass 131 = .ok (.aload 5, 2) := by decide +kernel
theorem dX3_pass_133 : decode cX3_pass 133 = .ok (.iconst 0, 1) := by decide +kernel
theorem dX3_pass_134 : decode cX3_pass 134 = .ok (.iaload, 1) := by decide +kernel
theorem dX3_pass_135 : decode cX3_pass 135 = .ok (.iconst 5, 1) := by decide +kernel
theorem dX3_pass_136 : decode cX3_pass 136 = .ok (.idiv, 1) := by decide +kernel
theorem dX3_pass_137 : decode cX3_pass 137 = .ok (.aload_n 0, 1) := by decide +kernel
theorem dX3_pass_138 : decode cX3_pass 138 = .ok (.invokevirtual 50, 3) := by decide +kernel
theorem dX3_pass_141 : decode cX3_pass 141 = .ok (.ifCond .eq 7, 3) := by decide +kernel
theorem dX3_pass_144 : decode cX3_pass 144 = .ok (.iconst 2, 1) := by decide +kernel
theorem dX3_pass_145 : decode cX3_pass 145 = .ok (.goto 4, 3) := by decide +kernel
theorem dX3_pass_148 : decode cX3_pass 148 = .ok (.iconst 1, 1) := by decide +kernel
theorem dX3_pass_149 : decode cX3_pass 149 = .ok (.iadd, 1) := by decide +kernel
theorem dX3_pass_150 : decode cX3_pass 150 = .ok (.aload 5, 2) := by decide +kernel
theorem dX3_pass_152 : decode cX3_pass 152 = .ok (.iconst 1, 1) := by decide +kernel
theorem dX3_pass_153 : decode cX3_pass 153 = .ok (.iaload, 1) := by decide +kernel
theorem dX3_pass_154 : decode cX3_pass 154 = .ok (.isub, 1) := by decide +kernel
theorem dX3_pass_155 : decode cX3_pass 155 = .ok (.iadd, 1) := by decide +kernel
theorem dX3_pass_156 : decode cX3_pass 156 = .ok (.iastore, 1) := by decide +kernel
theorem dX3_pass_157 : decode cX3_pass 157 = .ok (.aload 5, 2) := by decide +kernel
theorem dX3_pass_159 : decode cX3_pass 159 = .ok (.iconst 3, 1) := by decide +kernel
theorem dX3_pass_160 : decode cX3_pass 160 = .ok (.iaload, 1) := by decide +kernel
theorem dX3_pass_161 : decode cX3_pass 161 = .ok (.ifCond .ge 8, 3) := by decide +kernel
theorem dX3_pass_164 : decode cX3_pass 164 = .ok (.aload 5, 2) := by decide +kernel
theorem dX3_pass_166 : decode cX3_pass 166 = .ok (.iconst 3, 1) := by decide +kernel
theorem dX3_pass_167 : decode cX3_pass 167 = .ok (.iconst 0, 1) := by decide +kernel
theorem dX3_pass_168 : decode cX3_pass 168 = .ok (.iastore, 1) := by decide +kernel
theorem dX3_pass_169 : decode cX3_pass 169 = .ok (.aload 5, 2) := by decide +kernel
theorem dX3_pass_171 : decode cX3_pass 171 = .ok (.iconst 3, 1) := by decide +kernel
theorem dX3_pass_172 : decode cX3_pass 172 = .ok (.iaload, 1) := by decide +kernel
theorem dX3_pass_173 : decode cX3_pass 173 = .ok (.bipush 10, 2) := by decide +kernel
theorem dX3_pass_175 : decode cX3_pass 175 = .ok (.if_icmp .ge 6, 3) := by decide +kernel
theorem dX3_pass_178 : decode cX3_pass 178 = .ok (.goto 72, 3) := by decide +kernel
theorem dX3_pass_181 : decode cX3_pass 181 = .ok (.aload_n 0, 1) := by decide +kernel
theorem dX3_pass_182 : decode cX3_pass 182 = .ok (.aload 5, 2) := by decide +kernel
theorem dX3_pass_184 : decode cX3_pass 184 = .ok (.invokevirtual 54, 3) := by decide +kernel
theorem dX3_pass_187 : decode cX3_pass 187 = .ok (.astore 6, 2) := by decide +kernel
theorem dX3_pass_189 : decode cX3_pass 189 = .ok (.aload_n 0, 1) := by decide +kernel
theorem dX3_pass_190 : decode cX3_pass 190 = .ok (.dup, 1) := by decide +kernel
theorem dX3_pass_191 : decode cX3_pass 191 = .ok (.getfield 7, 3) := by decide +kernel
theorem dX3_pass_194 : decode cX3_pass 194 = .ok (.aload 6, 2) := by decide +kernel
theorem dX3_pass_196 : decode cX3_pass 196 = .ok (.iconst 2, 1) := by decide +kernel
theorem dX3_pass_197 : decode cX3_pass 197 = .ok (.iaload, 1) := by decide +kernel
theorem dX3_pass_198 : decode cX3_pass 198 = .ok (.isub, 1) := by decide +kernel
theorem dX3_pass_199 : decode cX3_pass 199 = .ok (.putfield 7, 3) := by decide +kernel
theorem dX3_pass_202 : decode cX3_pass 202 = .ok (.aload_n 0, 1) := by decide +kernel
theorem dX3_pass_203 : decode cX3_pass 203 = .ok (.dup, 1) := by decide +kernel
theorem dX3_pass_204 : decode cX3_pass 204 = .ok (.getfield 32, 3) := by decide +kernel
theorem dX3_pass_207 : decode cX3_pass 207 = .ok (.aload 6, 2) := by decide +kernel
theorem dX3_pass_209 : decode cX3_pass 209 = .ok (.iconst 3, 1) := by decide +kernel
theorem dX3_pass_210 : decode cX3_pass 210 = .ok (.iaload, 1) := by decide +kernel
theorem dX3_pass_211 : decode cX3_pass 211 = .ok (.iadd, 1) := by decide +kernel
theorem dX3_pass_212 : decode cX3_pass 212 = .ok (.putfield 32, 3) := by decide +kernel
theorem dX3_pass_215 : decode cX3_pass 215 = .ok (.aload 5, 2) := by decide +kernel
theorem dX3_pass_217 : decode cX3_pass 217 = .ok (.iconst 2, 1) := by decide +kernel
theorem dX3_pass_218 : decode cX3_pass 218 = .ok (.dup2, 1) := by decide +kernel
theorem dX3_pass_219 : decode cX3_pass 219 = .ok (.iaload, 1) := by decide +kernel
theorem dX3_pass_220 : decode cX3_pass 220 = .ok (.aload 5, 2) := by decide +kernel
theorem dX3_pass_222 : decode cX3_pass 222 = .ok (.iconst 2, 1) := by decide +kernel
theorem dX3_pass_223 : decode cX3_pass 223 = .ok (.iaload, 1) := by decide +kernel
theorem dX3_pass_224 : decode cX3_pass 224 = .ok (.ifCond .le 7, 3) := by decide +kernel
theorem dX3_pass_227 : decode cX3_pass 227 = .ok (.iconst 1, 1) := by decide +kernel
theorem dX3_pass_228 : decode cX3_pass 228 = .ok (.goto 4, 3) := by decide +kernel
theorem dX3_pass_231 : decode cX3_pass 231 = .ok (.iconst 0, 1) := by decide +kernel
theorem dX3_pass_232 : decode cX3_pass 232 = .ok (.isub, 1) := by decide +kernel
theorem dX3_pass_233 : decode cX3_pass 233 = .ok (.iastore, 1) := by decide +kernel
theorem dX3_pass_234 : decode cX3_pass 234 = .ok (.aload 5, 2) := by decide +kernel
theorem dX3_pass_236 : decode cX3_pass 236 = .ok (.iconst 3, 1) := by decide +kernel
theorem dX3_pass_237 : decode cX3_pass 237 = .ok (.iconst 0, 1) := by decide +kernel
theorem dX3_pass_238 : decode cX3_pass 238 = .ok (.iastore, 1) := by decide +kernel
theorem dX3_pass_239 : decode cX3_pass 239 = .ok (.aload 5, 2) := by decide +kernel
theorem dX3_pass_241 : decode cX3_pass 241 = .ok (.iconst 5, 1) := by decide +kernel
theorem dX3_pass_242 : decode cX3_pass 242 = .ok (.dup2, 1) := by decide +kernel
theorem dX3_pass_243 : decode cX3_pass 243 = .ok (.iaload, 1) := by decide +kernel
theorem dX3_pass_244 : decode cX3_pass 244 = .ok (.iconst 1, 1) := by decide +kernel
theorem dX3_pass_245 : decode cX3_pass 245 = .ok (.iadd, 1) := by decide +kernel
theorem dX3_pass_246 : decode cX3_pass 246 = .ok (.iastore, 1) := by decide +kernel
theorem dX3_pass_247 : decode cX3_pass 247 = .ok (.iinc 1 1, 3) := by decide +kernel
theorem dX3_pass_250 : decode cX3_pass 250 = .ok (.iinc 4 1, 3) := by decide +kernel
theorem dX3_pass_253 : decode cX3_pass 253 = .ok (.goto (-139), 3) := by decide +kernel
theorem dX3_pass_256 : decode cX3_pass 256 = .ok (.aload_n 0, 1) := by decide +kernel
theorem dX3_pass_257 : decode cX3_pass 257 = .ok (.dup, 1) := by decide +kernel
theorem dX3_pass_258 : decode cX3_pass 258 = .ok (.getfield 26, 3) := by decide +kernel
theorem dX3_pass_261 : decode cX3_pass 261 = .ok (.iconst 1, 1) := by decide +kernel
theorem dX3_pass_262 : decode cX3_pass 262 = .ok (.iadd, 1) := by decide +kernel
theorem dX3_pass_263 : decode cX3_pass 263 = .ok (.putfield 26, 3) := by decide +kernel
theorem dX3_pass_266 : decode cX3_pass 266 = .ok (.iload_n 1, 1) := by decide +kernel
theorem dX3_pass_267 : decode cX3_pass 267 = .ok (.ireturn, 1) := by decide +kernel
theorem dX3_pass__0 : decode cX3_pass_ 0 = .ok (.iconst 0, 1) := by decide +kernel
theorem dX3_pass__1 : decode cX3_pass_ 1 = .ok (.istore_n 2, 1) := by decide +kernel
theorem dX3_pass__2 : decode cX3_pass_ 2 = .ok (.iconst 0, 1) := by decide +kernel
theorem dX3_pass__3 : decode cX3_pass_ 3 = .ok (.istore_n 3, 1) := by decide +kernel
theorem dX3_pass__4 : decode cX3_pass_ 4 = .ok (.iload_n 3, 1) := by decide +kernel
theorem dX3_pass__5 : decode cX3_pass_ 5 = .ok (.iload_n 1, 1) := by decide +kernel
theorem dX3_pass__6 : decode cX3_pass_ 6 = .ok (.if_icmp .ge 16, 3) := by decide +kernel
theorem dX3_pass__9 : decode cX3_pass_ 9 = .ok (.iload_n 2, 1) := by decide +kernel
theorem dX3_pass__10 : decode cX3_pass_ 10 = .ok (.aload_n 0, 1) := by decide +kernel
theorem dX3_pass__11 : decode cX3_pass_ 11 = .ok (.invokevirtual 58, 3) := by decide +kernel
theorem dX3_pass__14 : decode cX3_pass_ 14 = .ok (.iadd, 1) := by decide +kernel
theorem dX3_pass__15 : decode cX3_pass_ 15 = .ok (.istore_n 2, 1) := by decide +kernel
theorem dX3_pass__16 : decode cX3_pass_ 16 = .ok (.iinc 3 1, 3) := by decide +kernel
theorem dX3_pass__19 : decode cX3_pass_ 19 = .ok (.goto (-15), 3) := by decide +kernel
theorem dX3_pass__22 : decode cX3_pass_ 22 = .ok (.iload_n 2, 1) := by decide +kernel
theorem dX3_pass__23 : decode cX3_pass_ 23 = .ok (.ireturn, 1) := by decide +kernel
theorem dX3_isSame_0 : decode cX3_isSame 0 = .ok (.iconst 0, 1) := by decide +kernel
theorem dX3_isSame_1 : decode cX3_isSame 1 = .ok (.istore_n 2, 1) := by decide +kernel
theorem dX3_isSame_2 : decode cX3_isSame 2 = .ok (.iconst (-1), 1) := by decide +kernel
theorem dX3_isSame_3 : decode cX3_isSame 3 = .ok (.istore_n 3, 1) := by decide +kernel
theorem dX3_isSame_4 : decode cX3_isSame 4 = .ok (.iconst 0, 1) := by decide +kernel
theorem dX3_isSame_5 : decode cX3_isSame 5 = .ok (.istore 4, 2) := by decide +kernel
theorem dX3_isSame_7 : decode cX3_isSame 7 = .ok (.aload_n 0, 1) := by decide +kernel
theorem dX3_isSame_8 : decode cX3_isSame 8 = .ok (.getfield 21, 3) := by decide +kernel
theorem dX3_isSame_11 : decode cX3_isSame 11 = .ok (.arraylength, 1) := by decide +kernel
theorem dX3_isSame_12 : decode cX3_isSame 12 = .ok (.iconst 1, 1) := by decide +kernel
theorem dX3_isSame_13 : decode cX3_isSame 13 = .ok (.isub, 1) := by decide +kernel
theorem dX3_isSame_14 : decode cX3_isSame 14 = .ok (.istore 5, 2) := by decide +kernel
theorem dX3_isSame_16 : decode cX3_isSame 16 = .ok (.iload 5, 2) := by decide +kernel
theorem dX3_isSame_18 : decode cX3_isSame 18 = .ok (.ifCond .lt 200, 3) := by decide +kernel
theorem dX3_isSame_21 : decode cX3_isSame 21 = .ok (.aload_n 0, 1) := by decide +kernel
theorem dX3_isSame_22 : decode cX3_isSame 22 = .ok (.getfield 21, 3) := by decide +kernel
theorem dX3_isSame_25 : decode cX3_isSame 25 = .ok (.iload 5, 2) := by decide +kernel
theorem dX3_isSame_27 : decode cX3_isSame 27 = .ok (.aaload, 1) := by decide +kernel
theorem dX3_isSame_28 : decode cX3_isSame 28 = .ok (.astore 6, 2) := by decide +kernel
theorem dX3_isSame_30 : decode cX3_isSame 30 = .ok (.aload_n 0, 1) := by decide +kernel
theorem dX3_isSame_31 : decode cX3_isSame 31 = .ok (.aload 6, 2) := by decide +kernel
theorem dX3_isSame_33 : decode cX3_isSame 33 = .ok (.invokevirtual 54, 3) := by decide +kernel
theorem dX3_isSame_36 : decode cX3_isSame 36 = .ok (.astore 7, 2) := by decide +kernel
theorem dX3_isSame_38 : decode cX3_isSame 38 = .ok (.iload_n 2, 1) := by decide +kernel
theorem dX3_isSame_39 : decode cX3_isSame 39 = .ok (.aload 6, 2) := by decide +kernel
theorem dX3_isSame_41 : decode cX3_isSame 41 = .ok (.iconst 4, 1) := by decide +kernel
theorem dX3_isSame_42 : decode cX3_isSame 42 = .ok (.iaload, 1) := by decide +kernel
theorem dX3_isSame_43 : decode cX3_isSame 43 = .ok (.iadd, 1) := by decide +kernel
theorem dX3_isSame_44 : decode cX3_isSame 44 = .ok (.istore_n 2, 1) := by decide +kernel
theorem dX3_isSame_45 : decode cX3_isSame 45 = .ok (.iload 4, 2) := by decide +kernel
theorem dX3_isSame_47 : decode cX3_isSame 47 = .ok (.aload_n 0, 1) := by decide +kernel
theorem dX3_isSame_48 : decode cX3_isSame 48 = .ok (.aload 6, 2) := by decide +kernel
theorem dX3_isSame_50 : decode cX3_isSame 50 = .ok (.invokevirtual 46, 3) := by decide +kernel
theorem dX3_isSame_53 : decode cX3_isSame 53 = .ok (.iadd, 1) := by decide +kernel
theorem dX3_isSame_54 : decode cX3_isSame 54 = .ok (.istore 4, 2) := by decide +kernel
theorem dX3_isSame_56 : decode cX3_isSame 56 = .ok (.iload_n 3, 1) := by decide +kernel
theorem dX3_isSame_57 : decode cX3_isSame 57 = .ok (.ifCond .lt 22, 3) := by decide +kernel
theorem dX3_isSame_60 : decode cX3_isSame 60 = .ok (.aload_n 0, 1) := by decide +kernel
theorem dX3_isSame_61 : decode cX3_isSame 61 = .ok (.aload 6, 2) := by decide +kernel
theorem dX3_isSame_63 : decode cX3_isSame 63 = .ok (.invokevirtual 46, 3) := by decide +kernel
theorem dX3_isSame_66 : decode cX3_isSame 66 = .ok (.aload_n 0, 1) := by decide +kernel
theorem dX3_isSame_67 : decode cX3_isSame 67 = .ok (.aload_n 0, 1) := by decide +kernel
theorem dX3_isSame_68 : decode cX3_isSame 68 = .ok (.getfield 21, 3) := by decide +kernel
theorem dX3_isSame_71 : decode cX3_isSame 71 = .ok (.iload_n 3, 1) := by decide +kernel
theorem dX3_isSame_72 : decode cX3_isSame 72 = .ok (.aaload, 1) := by decide +kernel
theorem dX3_isSame_73 : decode cX3_isSame 73 = .ok (.invokevirtual 46, 3) := by decide +kernel
theorem dX3_isSame_76 : decode cX3_isSame 76 = .ok (.if_icmp .lt 6, 3) := by decide +kernel
theorem dX3_isSame_79 : decode cX3_isSame 79 = .ok (.iload 5, 2) := by decide +kernel
theorem dX3_isSame_81 : decode cX3_isSame 81 = .ok (.istore_n 3, 1) := by decide +kernel
theorem dX3_isSame_82 : decode cX3_isSame 82 = .ok (.aload_n 1, 1) := by decide +kernel
theorem dX3_isSame_83 : decode cX3_isSame 83 = .ok (.iload 5, 2) := by decide +kernel
theorem dX3_isSame_85 : decode cX3_isSame 85 = .ok (.invokevirtual 61, 3) := by decide +kernel
theorem dX3_isSame_88 : decode cX3_isSame 88 = .ok (.aload 6, 2) := by decide +kernel
theorem dX3_isSame_90 : decode cX3_isSame 90 = .ok (.iconst 4, 1) := by decide +kernel
theorem dX3_isSame_91 : decode cX3_isSame 91 = .ok (.iaload, 1) := by decide +kernel
theorem dX3_isSame_92 : decode cX3_isSame 92 = .ok (.iconst 1, 1) := by decide +kernel
theorem dX3_isSame_93 : decode cX3_isSame 93 = .ok (.if_icmp .ne 7, 3) := by decide +kernel
theorem dX3_isSame_96 : decode cX3_isSame 96 = .ok (.iconst 1, 1) := by decide +kernel
theorem dX3_isSame_97 : decode cX3_isSame 97 = .ok (.goto 4, 3) := by decide +kernel
theorem dX3_isSame_100 : decode cX3_isSame 100 = .ok (.iconst 0, 1) := by decide +kernel
theorem dX3_isSame_101 : decode cX3_isSame 101 = .ok (.if_icmp .ne 109, 3) := by decide +kernel
theorem dX3_isSame_104 : decode cX3_isSame 104 = .ok (.aload_n 1, 1) := by decide +kernel
theorem dX3_isSame_105 : decode cX3_isSame 105 = .ok (.iload 5, 2) := by decide +kernel
theorem dX3_isSame_107 : decode cX3_isSame 107 = .ok (.invokevirtual 67, 3) := by decide +kernel
theorem dX3_isSame_110 : decode cX3_isSame 110 = .ok (.aload 6, 2) := by decide +kernel
theorem dX3_isSame_112 : decode cX3_isSame 112 = .ok (.iconst 2, 1) := by decide +kernel
theorem dX3_isSame_113 : decode cX3_isSame 113 = .ok (.iaload, 1) := by decide +kernel
theorem dX3_isSame_114 : decode cX3_isSame 114 = .ok (.if_icmp .ne 96, 3) := by decide +kernel
theorem dX3_isSame_117 : decode cX3_isSame 117 = .ok (.aload_n 1, 1) := by decide +kernel
theorem dX3_isSame_118 : decode cX3_isSame 118 = .ok (.iload 5, 2) := by decide +kernel
theorem dX3_isSame_120 : decode cX3_isSame 120 = .ok (.invokevirtual 71, 3) := by decide +kernel
theorem dX3_isSame_123 : decode cX3_isSame 123 = .ok (.aload 6, 2) := by decide +kernel
theorem dX3_isSame_125 : decode cX3_isSame 125 = .ok (.iconst 3, 1) := by decide +kernel
theorem dX3_isSame_126 : decode cX3_isSame 126 = .ok (.iaload, 1) := by decide +kernel
theorem dX3_isSame_127 : decode cX3_isSame 127 = .ok (.if_icmp .ne 83, 3) := by decide +kernel
theorem dX3_isSame_130 : decode cX3_isSame 130 = .ok (.aload_n 1, 1) := by decide +kernel
theorem dX3_isSame_131 : decode cX3_isSame 131 = .ok (.iload 5, 2) := by decide +kernel
theorem dX3_isSame_133 : decode cX3_isSame 133 = .ok (.invokevirtual 74, 3) := by decide +kernel
theorem dX3_isSame_136 : decode cX3_isSame 136 = .ok (.aload 6, 2) := by decide +kernel
theorem dX3_isSame_138 : decode cX3_isSame 138 = .ok (.iconst 5, 1) := by decide +kernel
theorem dX3_isSame_139 : decode cX3_isSame 139 = .ok (.iaload, 1) := by decide +kernel
theorem dX3_isSame_140 : decode cX3_isSame 140 = .ok (.if_icmp .ne 70, 3) := by decide +kernel
theorem dX3_isSame_143 : decode cX3_isSame 143 = .ok (.aload_n 1, 1) := by decide +kernel
theorem dX3_isSame_144 : decode cX3_isSame 144 = .ok (.iload 5, 2) := by decide +kernel
theorem dX3_isSame_146 : decode cX3_isSame 146 = .ok (.invokevirtual 77, 3) := by decide +kernel
theorem dX3_isSame_149 : decode cX3_isSame 149 = .ok (.aload_n 0, 1) := by decide +kernel
theorem dX3_isSame_150 : decode cX3_isSame 150 = .ok (.aload 6, 2) := by decide +kernel
theorem dX3_isSame_152 : decode cX3_isSame 152 = .ok (.invokevirtual 46, 3) := by decide +kernel
theorem dX3_isSame_155 : decode cX3_isSame 155 = .ok (.if_icmp .ne 55, 3) := by decide +kernel
theorem dX3_isSame_158 : decode cX3_isSame 158 = .ok (.aload_n 1, 1) := by decide +kernel
theorem dX3_isSame_159 : decode cX3_isSame 159 = .ok (.iload 5, 2) := by decide +kernel
theorem dX3_isSame_161 : decode cX3_isSame 161 = .ok (.invokevirtual 80, 3) := by decide +kernel
theorem dX3_isSame_164 : decode cX3_isSame 164 = .ok (.aload 7, 2) := by decide +kernel
theorem dX3_isSame_166 : decode cX3_isSame 166 = .ok (.iconst 0, 1) := by decide +kernel
theorem dX3_isSame_167 : decode cX3_isSame 167 = .ok (.iaload, 1) := by decide +kernel
theorem dX3_isSame_168 : decode cX3_isSame 168 = .ok (.if_icmp .ne 42, 3) := by decide +kernel
theorem dX3_isSame_171 : decode cX3_isSame 171 = .ok (.aload_n 1, 1) := by decide +kernel
theorem dX3_isSame_172 : decode cX3_isSame 172 = .ok (.iload 5, 2) := by decide +kernel
theorem dX3_isSame_174 : decode cX3_isSame 174 = .ok (.invokevirtual 83, 3) := by decide +kernel
theorem dX3_isSame_177 : decode cX3_isSame 177 = .ok (.aload 7, 2) := by decide +kernel
theorem dX3_isSame_179 : decode cX3_isSame 179 = .ok (.iconst 1, 1) := by decide +kernel
theorem dX3_isSame_180 : decode cX3_isSame 180 = .ok (.iaload, 1) := by decide +kernel
theorem dX3_isSame_181 : decode cX3_isSame 181 = .ok (.if_icmp .ne 29, 3) := by decide +kernel
theorem dX3_isSame_184 : decode cX3_isSame 184 = .ok (.aload_n 1, 1) := by decide +kernel
theorem dX3_isSame_185 : decode cX3_isSame 185 = .ok (.iload 5, 2) := by decide +kernel
theorem dX3_isSame_187 : decode cX3_isSame 187 = .ok (.invokevirtual 86, 3) := by decide +kernel
theorem dX3_isSame_190 : decode cX3_isSame 190 = .ok (.aload 7, 2) := by decide +kernel
theorem dX3_isSame_192 : decode cX3_isSame 192 = .ok (.iconst 2, 1) := by decide +kernel
theorem dX3_isSame_193 : decode cX3_isSame 193 = .ok (.iaload, 1) := by decide +kernel
theorem dX3_isSame_194 : decode cX3_isSame 194 = .ok (.if_icmp .ne 16, 3) := by decide +kernel
theorem dX3_isSame_197 : decode cX3_isSame 197 = .ok (.aload_n 1, 1) := by decide +kernel
theorem dX3_isSame_198 : decode cX3_isSame 198 = .ok (.iload 5, 2) := by decide +kernel
theorem dX3_isSame_200 : decode cX3_isSame 200 = .ok (.invokevirtual 89, 3) := by decide +kernel
theorem dX3_isSame_203 : decode cX3_isSame 203 = .ok (.aload 7, 2) := by decide +kernel
theorem dX3_isSame_205 : decode cX3_isSame 205 = .ok (.iconst 3, 1) := by decide +kernel
theorem dX3_isSame_206 : decode cX3_isSame 206 = .ok (.iaload, 1) := by decide +kernel
theorem dX3_isSame_207 : decode cX3_isSame 207 = .ok (.if_icmp .eq 5, 3) := by decide +kernel
theorem dX3_isSame_210 : decode cX3_isSame 210 = .ok (.iconst 0, 1) := by decide +kernel
theorem dX3_isSame_211 : decode cX3_isSame 211 = .ok (.ireturn, 1) := by decide +kernel
theorem dX3_isSame_212 : decode cX3_isSame 212 = .ok (.iinc 5 (-1), 3) := by decide +kernel
theorem dX3_isSame_215 : decode cX3_isSame 215 = .ok (.goto (-199), 3) := by decide +kernel
theorem dX3_isSame_218 : decode cX3_isSame 218 = .ok (.iconst 0, 1) := by decide +kernel
theorem dX3_isSame_219 : decode cX3_isSame 219 = .ok (.istore 5, 2) := by decide +kernel
theorem dX3_isSame_221 : decode cX3_isSame 221 = .ok (.aload_n 0, 1) := by decide +kernel
theorem dX3_isSame_222 : decode cX3_isSame 222 = .ok (.getfield 26, 3) := by decide +kernel
theorem dX3_isSame_225 : decode cX3_isSame 225 = .ok (.iload 5, 2) := by decide +kernel
theorem dX3_isSame_227 : decode cX3_isSame 227 = .ok (.iadd, 1) := by decide +kernel
theorem dX3_isSame_228 : decode cX3_isSame 228 = .ok (.bipush 12, 2) := by decide +kernel
theorem dX3_isSame_230 : decode cX3_isSame 230 = .ok (.irem, 1) := by decide +kernel
theorem dX3_isSame_231 : decode cX3_isSame 231 = .ok (.iconst 5, 1) := by decide +kernel
theorem dX3_isSame_232 : decode cX3_isSame 232 = .ok (.if_icmp .eq 24, 3) := by decide +kernel
theorem dX3_isSame_235 : decode cX3_isSame 235 = .ok (.aload_n 0, 1) := by decide +kernel
theorem dX3_isSame_236 : decode cX3_isSame 236 = .ok (.getfield 26, 3) := by decide +kernel
theorem dX3_isSame_239 : decode cX3_isSame 239 = .ok (.iload 5, 2) := by decide +kernel
theorem dX3_isSame_241 : decode cX3_isSame 241 = .ok (.iadd, 1) := by decide +kernel
theorem dX3_isSame_242 : decode cX3_isSame 242 = .ok (.bipush 12, 2) := by decide +kernel
theorem dX3_isSame_244 : decode cX3_isSame 244 = .ok (.irem, 1) := by decide +kernel
theorem dX3_isSame_245 : decode cX3_isSame 245 = .ok (.bipush 6, 2) := by decide +kernel
theorem dX3_isSame_247 : decode cX3_isSame 247 = .ok (.if_icmp .eq 9, 3) := by decide +kernel
theorem dX3_isSame_250 : decode cX3_isSame 250 = .ok (.iinc 5 1, 3) := by decide +kernel
theorem dX3_isSame_253 : decode cX3_isSame 253 = .ok (.goto (-32), 3) := by decide +kernel
theorem dX3_isSame_256 : decode cX3_isSame 256 = .ok (.aload_n 1, 1) := by decide +kernel
theorem dX3_isSame_257 : decode cX3_isSame 257 = .ok (.invokevirtual 92, 3) := by decide +kernel
theorem dX3_isSame_260 : decode cX3_isSame 260 = .ok (.aload_n 0, 1) := by decide +kernel
theorem dX3_isSame_261 : decode cX3_isSame 261 = .ok (.getfield 26, 3) := by decide +kernel
theorem dX3_isSame_264 : decode cX3_isSame 264 = .ok (.if_icmp .ne 151, 3) := by decide +kernel
theorem dX3_isSame_267 : decode cX3_isSame 267 = .ok (.aload_n 1, 1) := by decide +kernel
theorem dX3_isSame_268 : decode cX3_isSame 268 = .ok (.invokevirtual 94, 3) := by decide +kernel
theorem dX3_isSame_271 : decode cX3_isSame 271 = .ok (.aload_n 0, 1) := by decide +kernel
theorem dX3_isSame_272 : decode cX3_isSame 272 = .ok (.invokevirtual 43, 3) := by decide +kernel
theorem dX3_isSame_275 : decode cX3_isSame 275 = .ok (.if_icmp .ne 140, 3) := by decide +kernel
theorem dX3_isSame_278 : decode cX3_isSame 278 = .ok (.aload_n 1, 1) := by decide +kernel
theorem dX3_isSame_279 : decode cX3_isSame 279 = .ok (.invokevirtual 95, 3) := by decide +kernel
theorem dX3_isSame_282 : decode cX3_isSame 282 = .ok (.aload_n 0, 1) := by decide +kernel
theorem dX3_isSame_283 : decode cX3_isSame 283 = .ok (.invokevirtual 50, 3) := by decide +kernel
theorem dX3_isSame_286 : decode cX3_isSame 286 = .ok (.if_icmp .ne 129, 3) := by decide +kernel
theorem dX3_isSame_289 : decode cX3_isSame 289 = .ok (.aload_n 1, 1) := by decide +kernel
theorem dX3_isSame_290 : decode cX3_isSame 290 = .ok (.invokevirtual 96, 3) := by decide +kernel
theorem dX3_isSame_293 : decode cX3_isSame 293 = .ok (.iload 5, 2) := by decide +kernel
theorem dX3_isSame_295 : decode cX3_isSame 295 = .ok (.if_icmp .ne 120, 3) := by decide +kernel
theorem dX3_isSame_298 : decode cX3_isSame 298 = .ok (.aload_n 1, 1) := by decide +kernel
theorem dX3_isSame_299 : decode cX3_isSame 299 = .ok (.invokevirtual 99, 3) := by decide +kernel
theorem dX3_isSame_302 : decode cX3_isSame 302 = .ok (.aload_n 0, 1) := by decide +kernel
theorem dX3_isSame_303 : decode cX3_isSame 303 = .ok (.getfield 21, 3) := by decide +kernel
theorem dX3_isSame_306 : decode cX3_isSame 306 = .ok (.arraylength, 1) := by decide +kernel
theorem dX3_isSame_307 : decode cX3_isSame 307 = .ok (.if_icmp .ne 108, 3) := by decide +kernel
theorem dX3_isSame_310 : decode cX3_isSame 310 = .ok (.aload_n 1, 1) := by decide +kernel
theorem dX3_isSame_311 : decode cX3_isSame 311 = .ok (.invokevirtual 102, 3) := by decide +kernel
theorem dX3_isSame_314 : decode cX3_isSame 314 = .ok (.iload_n 2, 1) := by decide +kernel
theorem dX3_isSame_315 : decode cX3_isSame 315 = .ok (.if_icmp .ne 100, 3) := by decide +kernel
theorem dX3_isSame_318 : decode cX3_isSame 318 = .ok (.aload_n 1, 1) := by decide +kernel
theorem dX3_isSame_319 : decode cX3_isSame 319 = .ok (.invokevirtual 105, 3) := by decide +kernel
theorem dX3_isSame_322 : decode cX3_isSame 322 = .ok (.iload_n 3, 1) := by decide +kernel
theorem dX3_isSame_323 : decode cX3_isSame 323 = .ok (.if_icmp .ne 92, 3) := by decide +kernel
theorem dX3_isSame_326 : decode cX3_isSame 326 = .ok (.aload_n 1, 1) := by decide +kernel
theorem dX3_isSame_327 : decode cX3_isSame 327 = .ok (.invokevirtual 108, 3) := by decide +kernel
theorem dX3_isSame_330 : decode cX3_isSame 330 = .ok (.aload_n 0, 1) := by decide +kernel
theorem dX3_isSame_331 : decode cX3_isSame 331 = .ok (.getfield 7, 3) := by decide +kernel
theorem dX3_isSame_334 : decode cX3_isSame 334 = .ok (.if_icmp .ne 81, 3) := by decide +kernel
theorem dX3_isSame_337 : decode cX3_isSame 337 = .ok (.aload_n 1, 1) := by decide +kernel
theorem dX3_isSame_338 : decode cX3_isSame 338 = .ok (.invokevirtual 110, 3) := by decide +kernel
theorem dX3_isSame_341 : decode cX3_isSame 341 = .ok (.aload_n 0, 1) := by decide +kernel
theorem dX3_isSame_342 : decode cX3_isSame 342 = .ok (.getfield 13, 3) := by decide +kernel
theorem dX3_isSame_345 : decode cX3_isSame 345 = .ok (.if_icmp .ne 70, 3) := by decide +kernel
theorem dX3_isSame_348 : decode cX3_isSame 348 = .ok (.aload_n 1, 1) := by decide +kernel
theorem dX3_isSame_349 : decode cX3_isSame 349 = .ok (.invokevirtual 112, 3) := by decide +kernel
theorem dX3_isSame_352 : decode cX3_isSame 352 = .ok (.aload_n 0, 1) := by decide +kernel
theorem dX3_isSame_353 : decode cX3_isSame 353 = .ok (.getfield 16, 3) := by decide +kernel
theorem dX3_isSame_356 : decode cX3_isSame 356 = .ok (.if_icmp .ne 59, 3) := by decide +kernel
theorem dX3_isSame_359 : decode cX3_isSame 359 = .ok (.aload_n 1, 1) := by decide +kernel
theorem dX3_isSame_360 : decode cX3_isSame 360 = .ok (.invokevirtual 114, 3) := by decide +kernel
theorem dX3_isSame_363 : decode cX3_isSame 363 = .ok (.aload_n 0, 1) := by decide +kernel
theorem dX3_isSame_364 : decode cX3_isSame 364 = .ok (.getfield 29, 3) := by decide +kernel
theorem dX3_isSame_367 : decode cX3_isSame 367 = .ok (.if_icmp .ne 48, 3) := by decide +kernel
theorem dX3_isSame_370 : decode cX3_isSame 370 = .ok (.aload_n 1, 1) := by decide +kernel
theorem dX3_isSame_371 : decode cX3_isSame 371 = .ok (.invokevirtual 116, 3) := by decide +kernel
theorem dX3_isSame_374 : decode cX3_isSame 374 = .ok (.aload_n 0, 1) := by decide +kernel
theorem dX3_isSame_375 : decode cX3_isSame 375 = .ok (.getfield 32, 3) := by decide +kernel
theorem dX3_isSame_378 : decode cX3_isSame 378 = .ok (.if_icmp .ne 37, 3) := by decide +kernel
theorem dX3_isSame_381 : decode cX3_isSame 381 = .ok (.aload_n 1, 1) := by decide +kernel
theorem dX3_isSame_382 : decode cX3_isSame 382 = .ok (.invokevirtual 119, 3) := by decide +kernel
theorem dX3_isSame_385 : decode cX3_isSame 385 = .ok (.aload_n 0, 1) := by decide +kernel
theorem dX3_isSame_386 : decode cX3_isSame 386 = .ok (.getfield 21, 3) := by decide +kernel
theorem dX3_isSame_389 : decode cX3_isSame 389 = .ok (.arraylength, 1) := by decide +kernel
theorem dX3_isSame_390 : decode cX3_isSame 390 = .ok (.ifCond .ne 7, 3) := by decide +kernel
theorem dX3_isSame_393 : decode cX3_isSame 393 = .ok (.dconst 0, 1) := by decide +kernel
theorem dX3_isSame_394 : decode cX3_isSame 394 = .ok (.goto 13, 3) := by decide +kernel
theorem dX3_isSame_397 : decode cX3_isSame 397 = .ok (.iload 4, 2) := by decide +kernel
theorem dX3_isSame_399 : decode cX3_isSame 399 = .ok (.i2d, 1) := by decide +kernel
theorem dX3_isSame_400 : decode cX3_isSame 400 = .ok (.aload_n 0, 1) := by decide +kernel
theorem dX3_isSame_401 : decode cX3_isSame 401 = .ok (.getfield 21, 3) := by decide +kernel
theorem dX3_isSame_404 : decode cX3_isSame 404 = .ok (.arraylength, 1) := by decide +kernel
theorem dX3_isSame_405 : decode cX3_isSame 405 = .ok (.i2d, 1) := by decide +kernel
theorem dX3_isSame_406 : decode cX3_isSame 406 = .ok (.ddiv, 1) := by decide +kernel
theorem dX3_isSame_407 : decode cX3_isSame 407 = .ok (.dcmp .l, 1) := by decide +kernel
theorem dX3_isSame_408 : decode cX3_isSame 408 = .ok (.ifCond .ne 7, 3) := by decide +kernel
theorem dX3_isSame_411 : decode cX3_isSame 411 = .ok (.iconst 1, 1) := by decide +kernel
theorem dX3_isSame_412 : decode cX3_isSame 412 = .ok (.goto 4, 3) := by decide +kernel
theorem dX3_isSame_415 : decode cX3_isSame 415 = .ok (.iconst 0, 1) := by decide +kernel
theorem dX3_isSame_416 : decode cX3_isSame 416 = .ok (.ireturn, 1) := by decide +kernel
