theorem dX3_init_0 : decode cX3_init 0 = .ok (.aload_n 0, 1) := by decide +kernel
theorem dX3_init_1 : decode cX3_init 1 = .ok (.invokespecial 3, 3) := by decide +kernel
theorem dX3_init_4 : decode cX3_init 4 = .ok (.aload_n 0, 1) := by decide +kernel
theorem dX3_init_5 : decode cX3_init 5 = .ok (.bipush 30, 2) := by decide +kernel
theorem dX3_init_7 : decode cX3_init 7 = .ok (.putfield 9, 3) := by decide +kernel
theorem dX3_init_10 : decode cX3_init 10 = .ok (.aload_n 0, 1) := by decide +kernel
theorem dX3_init_11 : decode cX3_init 11 = .ok (.bipush 8, 2) := by decide +kernel
theorem dX3_init_13 : decode cX3_init 13 = .ok (.newarray .int, 2) := by decide +kernel
theorem dX3_init_15 : decode cX3_init 15 = .ok (.putfield 13, 3) := by decide +kernel
theorem dX3_init_18 : decode cX3_init 18 = .ok (.aload_n 0, 1) := by decide +kernel
theorem dX3_init_19 : decode cX3_init 19 = .ok (.bipush 8, 2) := by decide +kernel
theorem dX3_init_21 : decode cX3_init 21 = .ok (.newarray .int, 2) := by decide +kernel
theorem dX3_init_23 : decode cX3_init 23 = .ok (.putfield 17, 3) := by decide +kernel
theorem dX3_init_26 : decode cX3_init 26 = .ok (.aload_n 0, 1) := by decide +kernel
theorem dX3_init_27 : decode cX3_init 27 = .ok (.bipush 8, 2) := by decide +kernel
theorem dX3_init_29 : decode cX3_init 29 = .ok (.newarray .boolean, 2) := by decide +kernel
theorem dX3_init_31 : decode cX3_init 31 = .ok (.putfield 20, 3) := by decide +kernel
theorem dX3_init_34 : decode cX3_init 34 = .ok (.aload_n 0, 1) := by decide +kernel
theorem dX3_init_35 : decode cX3_init 35 = .ok (.bipush 29, 2) := by decide +kernel
theorem dX3_init_37 : decode cX3_init 37 = .ok (.newarray .int, 2) := by decide +kernel
theorem dX3_init_39 : decode cX3_init 39 = .ok (.putfield 24, 3) := by decide +kernel
theorem dX3_init_42 : decode cX3_init 42 = .ok (.aload_n 0, 1) := by decide +kernel
theorem dX3_init_43 : decode cX3_init 43 = .ok (.bipush 29, 2) := by decide +kernel
theorem dX3_init_45 : decode cX3_init 45 = .ok (.newarray .int, 2) := by decide +kernel
theorem dX3_init_47 : decode cX3_init 47 = .ok (.putfield 27, 3) := by decide +kernel
theorem dX3_init_50 : decode cX3_init 50 = .ok (.aload_n 0, 1) := by decide +kernel
theorem dX3_init_51 : decode cX3_init 51 = .ok (.getfield 24, 3) := by decide +kernel
theorem dX3_init_54 : decode cX3_init 54 = .ok (.iconst 1, 1) := by decide +kernel
theorem dX3_init_55 : decode cX3_init 55 = .ok (.bipush 100, 2) := by decide +kernel
theorem dX3_init_57 : decode cX3_init 57 = .ok (.iastore, 1) := by decide +kernel
theorem dX3_init_58 : decode cX3_init 58 = .ok (.aload_n 0, 1) := by decide +kernel
theorem dX3_init_59 : decode cX3_init 59 = .ok (.getfield 24, 3) := by decide +kernel
theorem dX3_init_62 : decode cX3_init 62 = .ok (.iconst 2, 1) := by decide +kernel
theorem dX3_init_63 : decode cX3_init 63 = .ok (.iconst 2, 1) := by decide +kernel
theorem dX3_init_64 : decode cX3_init 64 = .ok (.iastore, 1) := by decide +kernel
theorem dX3_init_65 : decode cX3_init 65 = .ok (.return_, 1) := by decide +kernel
theorem dX3_thrown_0 : decode cX3_thrown 0 = .ok (.aload_n 0, 1) := by decide +kernel
theorem dX3_thrown_1 : decode cX3_thrown 1 = .ok (.getfield 30, 3) := by decide +kernel
theorem dX3_thrown_4 : decode cX3_thrown 4 = .ok (.ireturn, 1) := by decide +kernel
theorem dX3_no_0 : decode cX3_no 0 = .ok (.aload_n 0, 1) := by decide +kernel
theorem dX3_no_1 : decode cX3_no 1 = .ok (.iload_n 1, 1) := by decide +kernel
theorem dX3_no_2 : decode cX3_no 2 = .ok (.putfield 30, 3) := by decide +kernel
theorem dX3_no_5 : decode cX3_no 5 = .ok (.iconst 0, 1) := by decide +kernel
theorem dX3_no_6 : decode cX3_no 6 = .ok (.ireturn, 1) := by decide +kernel
theorem dX3_ok_0 : decode cX3_ok 0 = .ok (.aload_n 0, 1) := by decide +kernel
theorem dX3_ok_1 : decode cX3_ok 1 = .ok (.iconst 0, 1) := by decide +kernel
theorem dX3_ok_2 : decode cX3_ok 2 = .ok (.putfield 30, 3) := by decide +kernel
theorem dX3_ok_5 : decode cX3_ok 5 = .ok (.iload_n 1, 1) := by decide +kernel
theorem dX3_ok_6 : decode cX3_ok 6 = .ok (.ireturn, 1) := by decide +kernel
theorem dX3_isFrom_0 : decode cX3_isFrom 0 = .ok (.iload_n 0, 1) := by decide +kernel
theorem dX3_isFrom_1 : decode cX3_isFrom 1 = .ok (.iload_n 1, 1) := by decide +kernel
theorem dX3_isFrom_2 : decode cX3_isFrom 2 = .ok (.if_icmp .lt 12, 3) := by decide +kernel
theorem dX3_isFrom_5 : decode cX3_isFrom 5 = .ok (.iload_n 0, 1) := by decide +kernel
theorem dX3_isFrom_6 : decode cX3_isFrom 6 = .ok (.iload_n 2, 1) := by decide +kernel
theorem dX3_isFrom_7 : decode cX3_isFrom 7 = .ok (.if_icmp .gt 7, 3) := by decide +kernel
theorem dX3_isFrom_10 : decode cX3_isFrom 10 = .ok (.iconst 1, 1) := by decide +kernel
theorem dX3_isFrom_11 : decode cX3_isFrom 11 = .ok (.goto 4, 3) := by decide +kernel
theorem dX3_isFrom_14 : decode cX3_isFrom 14 = .ok (.iconst 0, 1) := by decide +kernel
theorem dX3_isFrom_15 : decode cX3_isFrom 15 = .ok (.ireturn, 1) := by decide +kernel
theorem dX3_isWalker_0 : decode cX3_isWalker 0 = .ok (.iload_n 1, 1) := by decide +kernel
theorem dX3_isWalker_1 : decode cX3_isWalker 1 = .ok (.iconst 0, 1) := by decide +kernel
theorem dX3_isWalker_2 : decode cX3_isWalker 2 = .ok (.aload_n 0, 1) := by decide +kernel
theorem dX3_isWalker_3 : decode cX3_isWalker 3 = .ok (.getfield 33, 3) := by decide +kernel
theorem dX3_isWalker_6 : decode cX3_isWalker 6 = .ok (.iconst 1, 1) := by decide +kernel
theorem dX3_isWalker_7 : decode cX3_isWalker 7 = .ok (.isub, 1) := by decide +kernel
theorem dX3_isWalker_8 : decode cX3_isWalker 8 = .ok (.invokestatic 36, 3) := by decide +kernel
theorem dX3_isWalker_11 : decode cX3_isWalker 11 = .ok (.ireturn, 1) := by decide +kernel
theorem dX3_keep_0 : decode cX3_keep 0 = .ok (.aload_n 0, 1) := by decide +kernel
theorem dX3_keep_1 : decode cX3_keep 1 = .ok (.getfield 24, 3) := by decide +kernel
theorem dX3_keep_4 : decode cX3_keep 4 = .ok (.iconst 0, 1) := by decide +kernel
theorem dX3_keep_5 : decode cX3_keep 5 = .ok (.aload_n 0, 1) := by decide +kernel
theorem dX3_keep_6 : decode cX3_keep 6 = .ok (.getfield 27, 3) := by decide +kernel
theorem dX3_keep_9 : decode cX3_keep 9 = .ok (.iconst 0, 1) := by decide +kernel
theorem dX3_keep_10 : decode cX3_keep 10 = .ok (.bipush 29, 2) := by decide +kernel
theorem dX3_keep_12 : decode cX3_keep 12 = .ok (.invokestatic 40, 3) := by decide +kernel
theorem dX3_keep_15 : decode cX3_keep 15 = .ok (.return_, 1) := by decide +kernel
theorem dX3_bringBack_0 : decode cX3_bringBack 0 = .ok (.aload_n 0, 1) := by decide +kernel
theorem dX3_bringBack_1 : decode cX3_bringBack 1 = .ok (.getfield 27, 3) := by decide +kernel
theorem dX3_bringBack_4 : decode cX3_bringBack 4 = .ok (.iconst 0, 1) := by decide +kernel
theorem dX3_bringBack_5 : decode cX3_bringBack 5 = .ok (.aload_n 0, 1) := by decide +kernel
theorem dX3_bringBack_6 : decode cX3_bringBack 6 = .ok (.getfield 24, 3) := by decide +kernel
theorem dX3_bringBack_9 : decode cX3_bringBack 9 = .ok (.iconst 0, 1) := by decide +kernel
theorem dX3_bringBack_10 : decode cX3_bringBack 10 = .ok (.bipush 29, 2) := by decide +kernel
theorem dX3_bringBack_12 : decode cX3_bringBack 12 = .ok (.invokestatic 40, 3) := by decide +kernel
theorem dX3_bringBack_15 : decode cX3_bringBack 15 = .ok (.return_, 1) := by decide +kernel
theorem dX3_sunNow_0 : decode cX3_sunNow 0 = .ok (.getstatic 46, 3) := by decide +kernel
theorem dX3_sunNow_3 : decode cX3_sunNow 3 = .ok (.aload_n 0, 1) := by decide +kernel
theorem dX3_sunNow_4 : decode cX3_sunNow 4 = .ok (.getfield 24, 3) := by decide +kernel
theorem dX3_sunNow_7 : decode cX3_sunNow 7 = .ok (.iconst 0, 1) := by decide +kernel
theorem dX3_sunNow_8 : decode cX3_sunNow 8 = .ok (.iaload, 1) := by decide +kernel
theorem dX3_sunNow_9 : decode cX3_sunNow 9 = .ok (.bipush 12, 2) := by decide +kernel
theorem dX3_sunNow_11 : decode cX3_sunNow 11 = .ok (.irem, 1) := by decide +kernel
theorem dX3_sunNow_12 : decode cX3_sunNow 12 = .ok (.iaload, 1) := by decide +kernel
theorem dX3_sunNow_13 : decode cX3_sunNow 13 = .ok (.ireturn, 1) := by decide +kernel
theorem dX3_noon_0 : decode cX3_noon 0 = .ok (.aload_n 0, 1) := by decide +kernel
theorem dX3_noon_1 : decode cX3_noon 1 = .ok (.getfield 24, 3) := by decide +kernel
theorem dX3_noon_4 : decode cX3_noon 4 = .ok (.iconst 0, 1) := by decide +kernel
theorem dX3_noon_5 : decode cX3_noon 5 = .ok (.iaload, 1) := by decide +kernel
theorem dX3_noon_6 : decode cX3_noon 6 = .ok (.bipush 12, 2) := by decide +kernel
theorem dX3_noon_8 : decode cX3_noon 8 = .ok (.irem, 1) := by decide +kernel
theorem dX3_noon_9 : decode cX3_noon 9 = .ok (.iconst 5, 1) := by decide +kernel
theorem dX3_noon_10 : decode cX3_noon 10 = .ok (.if_icmp .eq 17, 3) := by decide +kernel
theorem dX3_noon_13 : decode cX3_noon 13 = .ok (.aload_n 0, 1) := by decide +kernel
theorem dX3_noon_14 : decode cX3_noon 14 = .ok (.getfield 24, 3) := by decide +kernel
theorem dX3_noon_17 : decode cX3_noon 17 = .ok (.iconst 0, 1) := by decide +kernel
theorem dX3_noon_18 : decode cX3_noon 18 = .ok (.iaload, 1) := by decide +kernel
theorem dX3_noon_19 : decode cX3_noon 19 = .ok (.bipush 12, 2) := by decide +kernel
theorem dX3_noon_21 : decode cX3_noon 21 = .ok (.irem, 1) := by decide +kernel
theorem dX3_noon_22 : decode cX3_noon 22 = .ok (.bipush 6, 2) := by decide +kernel
theorem dX3_noon_24 : decode cX3_noon 24 = .ok (.if_icmp .ne 7, 3) := by decide +kernel
theorem dX3_noon_27 : decode cX3_noon 27 = .ok (.iconst 1, 1) := by decide +kernel
theorem dX3_noon_28 : decode cX3_noon 28 = .ok (.goto 4, 3) := by decide +kernel
theorem dX3_noon_31 : decode cX3_noon 31 = .ok (.iconst 0, 1) := by decide +kernel
theorem dX3_noon_32 : decode cX3_noon 32 = .ok (.ireturn, 1) := by decide +kernel
theorem dX3_shadow_0 : decode cX3_shadow 0 = .ok (.bipush 6, 2) := by decide +kernel
theorem dX3_shadow_2 : decode cX3_shadow 2 = .ok (.aload_n 0, 1) := by decide +kernel
theorem dX3_shadow_3 : decode cX3_shadow 3 = .ok (.getfield 13, 3) := by decide +kernel
theorem dX3_shadow_6 : decode cX3_shadow 6 = .ok (.iload_n 1, 1) := by decide +kernel
theorem dX3_shadow_7 : decode cX3_shadow 7 = .ok (.iaload, 1) := by decide +kernel
theorem dX3_shadow_8 : decode cX3_shadow 8 = .ok (.imul, 1) := by decide +kernel
theorem dX3_shadow_9 : decode cX3_shadow 9 = .ok (.aload_n 0, 1) := by decide +kernel
theorem dX3_shadow_10 : decode cX3_shadow 10 = .ok (.invokevirtual 49, 3) := by decide +kernel
theorem dX3_shadow_13 : decode cX3_shadow 13 = .ok (.idiv, 1) := by decide +kernel
theorem dX3_shadow_14 : decode cX3_shadow 14 = .ok (.ireturn, 1) := by decide +kernel
theorem dX3_cost_0 : decode cX3_cost 0 = .ok (.iconst 0, 1) := by decide +kernel
theorem dX3_cost_1 : decode cX3_cost 1 = .ok (.aload_n 0, 1) := by decide +kernel
theorem dX3_cost_2 : decode cX3_cost 2 = .ok (.iload_n 1, 1) := by decide +kernel
theorem dX3_cost_3 : decode cX3_cost 3 = .ok (.invokevirtual 53, 3) := by decide +kernel
theorem dX3_cost_6 : decode cX3_cost 6 = .ok (.iconst 2, 1) := by decide +kernel
theorem dX3_cost_7 : decode cX3_cost 7 = .ok (.aload_n 0, 1) := by decide +kernel
theorem dX3_cost_8 : decode cX3_cost 8 = .ok (.getfield 24, 3) := by decide +kernel
theorem dX3_cost_11 : decode cX3_cost 11 = .ok (.iconst 5, 1) := by decide +kernel
theorem dX3_cost_12 : decode cX3_cost 12 = .ok (.iload_n 1, 1) := by decide +kernel
theorem dX3_cost_13 : decode cX3_cost 13 = .ok (.iadd, 1) := by decide +kernel
theorem dX3_cost_14 : decode cX3_cost 14 = .ok (.iaload, 1) := by decide +kernel
theorem dX3_cost_15 : decode cX3_cost 15 = .ok (.imul, 1) := by decide +kernel
theorem dX3_cost_16 : decode cX3_cost 16 = .ok (.isub, 1) := by decide +kernel
theorem dX3_cost_17 : decode cX3_cost 17 = .ok (.invokestatic 57, 3) := by decide +kernel
theorem dX3_cost_20 : decode cX3_cost 20 = .ok (.ireturn, 1) := by decide +kernel
theorem dX3_own_0 : decode cX3_own 0 = .ok (.aload_n 0, 1) := by decide +kernel
theorem dX3_own_1 : decode cX3_own 1 = .ok (.getfield 20, 3) := by decide +kernel
theorem dX3_own_4 : decode cX3_own 4 = .ok (.iload_n 1, 1) := by decide +kernel
theorem dX3_own_5 : decode cX3_own 5 = .ok (.baload, 1) := by decide +kernel
theorem dX3_own_6 : decode cX3_own 6 = .ok (.ifCond .eq 27, 3) := by decide +kernel
theorem dX3_own_9 : decode cX3_own 9 = .ok (.aload_n 0, 1) := by decide +kernel
theorem dX3_own_10 : decode cX3_own 10 = .ok (.iload_n 1, 1) := by decide +kernel
theorem dX3_own_11 : decode cX3_own 11 = .ok (.invokevirtual 63, 3) := by decide +kernel
theorem dX3_own_14 : decode cX3_own 14 = .ok (.aload_n 0, 1) := by decide +kernel
theorem dX3_own_15 : decode cX3_own 15 = .ok (.invokevirtual 66, 3) := by decide +kernel
theorem dX3_own_18 : decode cX3_own 18 = .ok (.ifCond .eq 8, 3) := by decide +kernel
theorem dX3_own_21 : decode cX3_own 21 = .ok (.bipush 6, 2) := by decide +kernel
theorem dX3_own_23 : decode cX3_own 23 = .ok (.goto 4, 3) := by decide +kernel
theorem dX3_own_26 : decode cX3_own 26 = .ok (.iconst 3, 1) := by decide +kernel
theorem dX3_own_27 : decode cX3_own 27 = .ok (.invokestatic 70, 3) := by decide +kernel
theorem dX3_own_30 : decode cX3_own 30 = .ok (.goto 8, 3) := by decide +kernel
theorem dX3_own_33 : decode cX3_own 33 = .ok (.aload_n 0, 1) := by decide +kernel
theorem dX3_own_34 : decode cX3_own 34 = .ok (.iload_n 1, 1) := by decide +kernel
theorem dX3_own_35 : decode cX3_own 35 = .ok (.invokevirtual 63, 3) := by decide +kernel
theorem dX3_own_38 : decode cX3_own 38 = .ok (.ireturn, 1) := by decide +kernel
theorem dX3_reinsured_0 : decode cX3_reinsured 0 = .ok (.aload_n 0, 1) := by decide +kernel
theorem dX3_reinsured_1 : decode cX3_reinsured 1 = .ok (.getfield 24, 3) := by decide +kernel
theorem dX3_reinsured_4 : decode cX3_reinsured 4 = .ok (.iconst 3, 1) := by decide +kernel
theorem dX3_reinsured_5 : decode cX3_reinsured 5 = .ok (.iaload, 1) := by decide +kernel
theorem dX3_reinsured_6 : decode cX3_reinsured 6 = .ok (.iconst 0, 1) := by decide +kernel
theorem dX3_reinsured_7 : decode cX3_reinsured 7 = .ok (.aload_n 0, 1) := by decide +kernel
theorem dX3_reinsured_8 : decode cX3_reinsured 8 = .ok (.iload_n 1, 1) := by decide +kernel
theorem dX3_reinsured_9 : decode cX3_reinsured 9 = .ok (.invokevirtual 63, 3) := by decide +kernel
theorem dX3_reinsured_12 : decode cX3_reinsured 12 = .ok (.aload_n 0, 1) := by decide +kernel
theorem dX3_reinsured_13 : decode cX3_reinsured 13 = .ok (.iload_n 1, 1) := by decide +kernel
theorem dX3_reinsured_14 : decode cX3_reinsured 14 = .ok (.invokevirtual 73, 3) := by decide +kernel
theorem dX3_reinsured_17 : decode cX3_reinsured 17 = .ok (.isub, 1) := by decide +kernel
theorem dX3_reinsured_18 : decode cX3_reinsured 18 = .ok (.aload_n 0, 1) := by decide +kernel
theorem dX3_reinsured_19 : decode cX3_reinsured 19 = .ok (.getfield 9, 3) := by decide +kernel
theorem dX3_reinsured_22 : decode cX3_reinsured 22 = .ok (.isub, 1) := by decide +kernel
theorem dX3_reinsured_23 : decode cX3_reinsured 23 = .ok (.invokestatic 57, 3) := by decide +kernel
theorem dX3_reinsured_26 : decode cX3_reinsured 26 = .ok (.invokestatic 70, 3) := by decide +kernel
theorem dX3_reinsured_29 : decode cX3_reinsured 29 = .ok (.ireturn, 1) := by decide +kernel
theorem dX3_pooled_0 : decode cX3_pooled 0 = .ok (.aload_n 0, 1) := by decide +kernel
theorem dX3_pooled_1 : decode cX3_pooled 1 = .ok (.iload_n 1, 1) := by decide +kernel
theorem dX3_pooled_2 : decode cX3_pooled 2 = .ok (.invokevirtual 63, 3) := by decide +kernel
theorem dX3_pooled_5 : decode cX3_pooled 5 = .ok (.aload_n 0, 1) := by decide +kernel
theorem dX3_pooled_6 : decode cX3_pooled 6 = .ok (.iload_n 1, 1) := by decide +kernel
theorem dX3_pooled_7 : decode cX3_pooled 7 = .ok (.invokevirtual 73, 3) := by decide +kernel
theorem dX3_pooled_10 : decode cX3_pooled 10 = .ok (.isub, 1) := by decide +kernel
theorem dX3_pooled_11 : decode cX3_pooled 11 = .ok (.aload_n 0, 1) := by decide +kernel
theorem dX3_pooled_12 : decode cX3_pooled 12 = .ok (.iload_n 1, 1) := by decide +kernel
theorem dX3_pooled_13 : decode cX3_pooled 13 = .ok (.invokevirtual 76, 3) := by decide +kernel
theorem dX3_pooled_16 : decode cX3_pooled 16 = .ok (.isub, 1) := by decide +kernel
theorem dX3_pooled_17 : decode cX3_pooled 17 = .ok (.ireturn, 1) := by decide +kernel
theorem dX3_in_0 : decode cX3_in 0 = .ok (.iconst 0, 1) := by decide +kernel
theorem dX3_in_1 : decode cX3_in 1 = .ok (.istore_n 1, 1) := by decide +kernel
theorem dX3_in_2 : decode cX3_in 2 = .ok (.iconst 0, 1) := by decide +kernel
theorem dX3_in_3 : decode cX3_in 3 = .ok (.istore_n 2, 1) := by decide +kernel
theorem dX3_in_4 : decode cX3_in 4 = .ok (.iload_n 2, 1) := by decide +kernel
theorem dX3_in_5 : decode cX3_in 5 = .ok (.aload_n 0, 1) := by decide +kernel
theorem dX3_in_6 : decode cX3_in 6 = .ok (.getfield 33, 3) := by decide +kernel
theorem dX3_in_9 : decode cX3_in 9 = .ok (.if_icmp .ge 26, 3) := by decide +kernel
theorem dX3_in_12 : decode cX3_in 12 = .ok (.iload_n 1, 1) := by decide +kernel
theorem dX3_in_13 : decode cX3_in 13 = .ok (.aload_n 0, 1) := by decide +kernel
theorem dX3_in_14 : decode cX3_in 14 = .ok (.getfield 20, 3) := by decide +kernel
theorem dX3_in_17 : decode cX3_in 17 = .ok (.iload_n 2, 1) := by decide +kernel
theorem dX3_in_18 : decode cX3_in 18 = .ok (.baload, 1) := by decide +kernel
theorem dX3_in_19 : decode cX3_in 19 = .ok (.ifCond .eq 7, 3) := by decide +kernel
theorem dX3_in_22 : decode cX3_in 22 = .ok (.iconst 1, 1) := by decide +kernel
theorem dX3_in_23 : decode cX3_in 23 = .ok (.goto 4, 3) := by decide +kernel
theorem dX3_in_26 : decode cX3_in 26 = .ok (.iconst 0, 1) := by decide +kernel
theorem dX3_in_27 : decode cX3_in 27 = .ok (.iadd, 1) := by decide +kernel
theorem dX3_in_28 : decode cX3_in 28 = .ok (.istore_n 1, 1) := by decide +kernel
theorem dX3_in_29 : decode cX3_in 29 = .ok (.iinc 2 1, 3) := by decide +kernel
theorem dX3_in_32 : decode cX3_in 32 = .ok (.goto (-28), 3) := by decide +kernel
theorem dX3_in_35 : decode cX3_in 35 = .ok (.iload_n 1, 1) := by decide +kernel
theorem dX3_in_36 : decode cX3_in 36 = .ok (.ireturn, 1) := by decide +kernel
theorem dX3_pay_0 : decode cX3_pay 0 = .ok (.aload_n 0, 1) := by decide +kernel
theorem dX3_pay_1 : decode cX3_pay 1 = .ok (.getfield 24, 3) := by decide +kernel
theorem dX3_pay_4 : decode cX3_pay 4 = .ok (.iconst 1, 1) := by decide +kernel
theorem dX3_pay_5 : decode cX3_pay 5 = .ok (.dup2, 1) := by decide +kernel
theorem dX3_pay_6 : decode cX3_pay 6 = .ok (.iaload, 1) := by decide +kernel
theorem dX3_pay_7 : decode cX3_pay 7 = .ok (.aload_n 0, 1) := by decide +kernel
theorem dX3_pay_8 : decode cX3_pay 8 = .ok (.getfield 24, 3) := by decide +kernel
theorem dX3_pay_11 : decode cX3_pay 11 = .ok (.iconst 2, 1) := by decide +kernel
theorem dX3_pay_12 : decode cX3_pay 12 = .ok (.iaload, 1) := by decide +kernel
theorem dX3_pay_13 : decode cX3_pay 13 = .ok (.aload_n 0, 1) := by decide +kernel
theorem dX3_pay_14 : decode cX3_pay 14 = .ok (.invokevirtual 79, 3) := by decide +kernel
theorem dX3_pay_17 : decode cX3_pay 17 = .ok (.imul, 1) := by decide +kernel
theorem dX3_pay_18 : decode cX3_pay 18 = .ok (.iadd, 1) := by decide +kernel
theorem dX3_pay_19 : decode cX3_pay 19 = .ok (.iastore, 1) := by decide +kernel
theorem dX3_pay_20 : decode cX3_pay 20 = .ok (.aload_n 0, 1) := by decide +kernel
theorem dX3_pay_21 : decode cX3_pay 21 = .ok (.getfield 24, 3) := by decide +kernel
theorem dX3_pay_24 : decode cX3_pay 24 = .ok (.iconst 3, 1) := by decide +kernel
theorem dX3_pay_25 : decode cX3_pay 25 = .ok (.iaload, 1) := by decide +kernel
theorem dX3_pay_26 : decode cX3_pay 26 = .ok (.ifCond .ne 4, 3) := by decide +kernel
theorem dX3_pay_29 : decode cX3_pay 29 = .ok (.return_, 1) := by decide +kernel
theorem dX3_pay_30 : decode cX3_pay 30 = .ok (.aload_n 0, 1) := by decide +kernel
theorem dX3_pay_31 : decode cX3_pay 31 = .ok (.getfield 24, 3) := by decide +kernel
theorem dX3_pay_34 : decode cX3_pay 34 = .ok (.iconst 3, 1) := by decide +kernel
theorem dX3_pay_35 : decode cX3_pay 35 = .ok (.iaload, 1) := by decide +kernel
theorem dX3_pay_36 : decode cX3_pay 36 = .ok (.bipush 20, 2) := by decide +kernel
theorem dX3_pay_38 : decode cX3_pay 38 = .ok (.idiv, 1) := by decide +kernel
theorem dX3_pay_39 : decode cX3_pay 39 = .ok (.iconst 1, 1) := by decide +kernel
theorem dX3_pay_40 : decode cX3_pay 40 = .ok (.iadd, 1) := by decide +kernel
theorem dX3_pay_41 : decode cX3_pay 41 = .ok (.istore_n 1, 1) := by decide +kernel
theorem dX3_pay_42 : decode cX3_pay 42 = .ok (.aload_n 0, 1) := by decide +kernel
theorem dX3_pay_43 : decode cX3_pay 43 = .ok (.getfield 24, 3) := by decide +kernel
theorem dX3_pay_46 : decode cX3_pay 46 = .ok (.iconst 1, 1) := by decide +kernel
theorem dX3_pay_47 : decode cX3_pay 47 = .ok (.dup2, 1) := by decide +kernel
theorem dX3_pay_48 : decode cX3_pay 48 = .ok (.iaload, 1) := by decide +kernel
theorem dX3_pay_49 : decode cX3_pay 49 = .ok (.iload_n 1, 1) := by decide +kernel
theorem dX3_pay_50 : decode cX3_pay 50 = .ok (.isub, 1) := by decide +kernel
theorem dX3_pay_51 : decode cX3_pay 51 = .ok (.iastore, 1) := by decide +kernel
theorem dX3_pay_52 : decode cX3_pay 52 = .ok (.aload_n 0, 1) := by decide +kernel
theorem dX3_pay_53 : decode cX3_pay 53 = .ok (.getfield 24, 3) := by decide +kernel
theorem dX3_pay_56 : decode cX3_pay 56 = .ok (.iconst 4, 1) := by decide +kernel
theorem dX3_pay_57 : decode cX3_pay 57 = .ok (.dup2, 1) := by decide +kernel
theorem dX3_pay_58 : decode cX3_pay 58 = .ok (.iaload, 1) := by decide +kernel
theorem dX3_pay_59 : decode cX3_pay 59 = .ok (.iload_n 1, 1) := by decide +kernel
theorem dX3_pay_60 : decode cX3_pay 60 = .ok (.isub, 1) := by decide +kernel
theorem dX3_pay_61 : decode cX3_pay 61 = .ok (.iastore, 1) := by decide +kernel
theorem dX3_pay_62 : decode cX3_pay 62 = .ok (.return_, 1) := by decide +kernel
theorem dX3_fall_0 : decode cX3_fall 0 = .ok (.aload_n 0, 1) := by decide +kernel
theorem dX3_fall_1 : decode cX3_fall 1 = .ok (.getfield 24, 3) := by decide +kernel
theorem dX3_fall_4 : decode cX3_fall 4 = .ok (.iconst 1, 1) := by decide +kernel
theorem dX3_fall_5 : decode cX3_fall 5 = .ok (.dup2, 1) := by decide +kernel
theorem dX3_fall_6 : decode cX3_fall 6 = .ok (.iaload, 1) := by decide +kernel
theorem dX3_fall_7 : decode cX3_fall 7 = .ok (.aload_n 0, 1) := by decide +kernel
theorem dX3_fall_8 : decode cX3_fall 8 = .ok (.iload_n 1, 1) := by decide +kernel
theorem dX3_fall_9 : decode cX3_fall 9 = .ok (.invokevirtual 82, 3) := by decide +kernel
theorem dX3_fall_12 : decode cX3_fall 12 = .ok (.isub, 1) := by decide +kernel
theorem dX3_fall_13 : decode cX3_fall 13 = .ok (.iastore, 1) := by decide +kernel
theorem dX3_fall_14 : decode cX3_fall 14 = .ok (.aload_n 0, 1) := by decide +kernel
theorem dX3_fall_15 : decode cX3_fall 15 = .ok (.getfield 24, 3) := by decide +kernel
theorem dX3_fall_18 : decode cX3_fall 18 = .ok (.iconst 4, 1) := by decide +kernel
theorem dX3_fall_19 : decode cX3_fall 19 = .ok (.dup2, 1) := by decide +kernel
theorem dX3_fall_20 : decode cX3_fall 20 = .ok (.iaload, 1) := by decide +kernel
theorem dX3_fall_21 : decode cX3_fall 21 = .ok (.aload_n 0, 1) := by decide +kernel
theorem dX3_fall_22 : decode cX3_fall 22 = .ok (.iload_n 1, 1) := by decide +kernel
theorem dX3_fall_23 : decode cX3_fall 23 = .ok (.invokevirtual 76, 3) := by decide +kernel
theorem dX3_fall_26 : decode cX3_fall 26 = .ok (.iadd, 1) := by decide +kernel
theorem dX3_fall_27 : decode cX3_fall 27 = .ok (.iastore, 1) := by decide +kernel
theorem dX3_fall_28 : decode cX3_fall 28 = .ok (.aload_n 0, 1) := by decide +kernel
theorem dX3_fall_29 : decode cX3_fall 29 = .ok (.getfield 24, 3) := by decide +kernel
theorem dX3_fall_32 : decode cX3_fall 32 = .ok (.iconst 5, 1) := by decide +kernel
theorem dX3_fall_33 : decode cX3_fall 33 = .ok (.iload_n 1, 1) := by decide +kernel
theorem dX3_fall_34 : decode cX3_fall 34 = .ok (.iadd, 1) := by decide +kernel
theorem dX3_fall_35 : decode cX3_fall 35 = .ok (.iconst 0, 1) := by decide +kernel
theorem dX3_fall_36 : decode cX3_fall 36 = .ok (.aload_n 0, 1) := by decide +kernel
theorem dX3_fall_37 : decode cX3_fall 37 = .ok (.getfield 24, 3) := by decide +kernel
theorem dX3_fall_40 : decode cX3_fall 40 = .ok (.iconst 5, 1) := by decide +kernel
theorem dX3_fall_41 : decode cX3_fall 41 = .ok (.iload_n 1, 1) := by decide +kernel
theorem dX3_fall_42 : decode cX3_fall 42 = .ok (.iadd, 1) := by decide +kernel
theorem dX3_fall_43 : decode cX3_fall 43 = .ok (.iaload, 1) := by decide +kernel
theorem dX3_fall_44 : decode cX3_fall 44 = .ok (.iconst 1, 1) := by decide +kernel
theorem dX3_fall_45 : decode cX3_fall 45 = .ok (.isub, 1) := by decide +kernel
theorem dX3_fall_46 : decode cX3_fall 46 = .ok (.invokestatic 57, 3) := by decide +kernel
theorem dX3_fall_49 : decode cX3_fall 49 = .ok (.iastore, 1) := by decide +kernel
theorem dX3_fall_50 : decode cX3_fall 50 = .ok (.aload_n 0, 1) := by decide +kernel
theorem dX3_fall_51 : decode cX3_fall 51 = .ok (.getfield 24, 3) := by decide +kernel
theorem dX3_fall_54 : decode cX3_fall 54 = .ok (.bipush 13, 2) := by decide +kernel
theorem dX3_fall_56 : decode cX3_fall 56 = .ok (.iload_n 1, 1) := by decide +kernel
theorem dX3_fall_57 : decode cX3_fall 57 = .ok (.iadd, 1) := by decide +kernel
theorem dX3_fall_58 : decode cX3_fall 58 = .ok (.iconst 0, 1) := by decide +kernel
theorem dX3_fall_59 : decode cX3_fall 59 = .ok (.iastore, 1) := by decide +kernel
theorem dX3_fall_60 : decode cX3_fall 60 = .ok (.aload_n 0, 1) := by decide +kernel
theorem dX3_fall_61 : decode cX3_fall 61 = .ok (.getfield 24, 3) := by decide +kernel
theorem dX3_fall_64 : decode cX3_fall 64 = .ok (.bipush 21, 2) := by decide +kernel
theorem dX3_fall_66 : decode cX3_fall 66 = .ok (.iload_n 1, 1) := by decide +kernel
theorem dX3_fall_67 : decode cX3_fall 67 = .ok (.iadd, 1) := by decide +kernel
theorem dX3_fall_68 : decode cX3_fall 68 = .ok (.dup2, 1) := by decide +kernel
theorem dX3_fall_69 : decode cX3_fall 69 = .ok (.iaload, 1) := by decide +kernel
theorem dX3_fall_70 : decode cX3_fall 70 = .ok (.iconst 1, 1) := by decide +kernel
theorem dX3_fall_71 : decode cX3_fall 71 = .ok (.iadd, 1) := by decide +kernel
theorem dX3_fall_72 : decode cX3_fall 72 = .ok (.iastore, 1) := by decide +kernel
theorem dX3_fall_73 : decode cX3_fall 73 = .ok (.return_, 1) := by decide +kernel
theorem dX3_hourOn_0 : decode cX3_hourOn 0 = .ok (.aload_n 0, 1) := by decide +kernel
theorem dX3_hourOn_1 : decode cX3_hourOn 1 = .ok (.getfield 24, 3) := by decide +kernel
theorem dX3_hourOn_4 : decode cX3_hourOn 4 = .ok (.iconst 0, 1) := by decide +kernel
theorem dX3_hourOn_5 : decode cX3_hourOn 5 = .ok (.iaload, 1) := by decide +kernel
theorem dX3_hourOn_6 : decode cX3_hourOn 6 = .ok (.bipush 12, 2) := by decide +kernel
theorem dX3_hourOn_8 : decode cX3_hourOn 8 = .ok (.irem, 1) := by decide +kernel
theorem dX3_hourOn_9 : decode cX3_hourOn 9 = .ok (.ifCond .ne 7, 3) := by decide +kernel
theorem dX3_hourOn_12 : decode cX3_hourOn 12 = .ok (.aload_n 0, 1) := by decide +kernel
theorem dX3_hourOn_13 : decode cX3_hourOn 13 = .ok (.invokevirtual 85, 3) := by decide +kernel
theorem dX3_hourOn_16 : decode cX3_hourOn 16 = .ok (.iconst 0, 1) := by decide +kernel
theorem dX3_hourOn_17 : decode cX3_hourOn 17 = .ok (.istore_n 1, 1) := by decide +kernel
theorem dX3_hourOn_18 : decode cX3_hourOn 18 = .ok (.iconst 0, 1) := by decide +kernel
theorem dX3_hourOn_19 : decode cX3_hourOn 19 = .ok (.istore_n 2, 1) := by decide +kernel
theorem dX3_hourOn_20 : decode cX3_hourOn 20 = .ok (.iload_n 2, 1) := by decide +kernel
theorem dX3_hourOn_21 : decode cX3_hourOn 21 = .ok (.aload_n 0, 1) := by decide +kernel
theorem dX3_hourOn_22 : decode cX3_hourOn 22 = .ok (.getfield 33, 3) := by decide +kernel
theorem dX3_hourOn_25 : decode cX3_hourOn 25 = .ok (.if_icmp .ge 85, 3) := by decide +kernel
theorem dX3_hourOn_28 : decode cX3_hourOn 28 = .ok (.aload_n 0, 1) := by decide +kernel
theorem dX3_hourOn_29 : decode cX3_hourOn 29 = .ok (.getfield 24, 3) := by decide +kernel
theorem dX3_hourOn_32 : decode cX3_hourOn 32 = .ok (.bipush 13, 2) := by decide +kernel
theorem dX3_hourOn_34 : decode cX3_hourOn 34 = .ok (.iload_n 2, 1) := by decide +kernel
theorem dX3_hourOn_35 : decode cX3_hourOn 35 = .ok (.iadd, 1) := by decide +kernel
theorem dX3_hourOn_36 : decode cX3_hourOn 36 = .ok (.iconst 0, 1) := by decide +kernel
theorem dX3_hourOn_37 : decode cX3_hourOn 37 = .ok (.aload_n 0, 1) := by decide +kernel
theorem dX3_hourOn_38 : decode cX3_hourOn 38 = .ok (.getfield 24, 3) := by decide +kernel
theorem dX3_hourOn_41 : decode cX3_hourOn 41 = .ok (.bipush 13, 2) := by decide +kernel
theorem dX3_hourOn_43 : decode cX3_hourOn 43 = .ok (.iload_n 2, 1) := by decide +kernel
theorem dX3_hourOn_44 : decode cX3_hourOn 44 = .ok (.iadd, 1) := by decide +kernel
theorem dX3_hourOn_45 : decode cX3_hourOn 45 = .ok (.iaload, 1) := by decide +kernel
theorem dX3_hourOn_46 : decode cX3_hourOn 46 = .ok (.aload_n 0, 1) := by decide +kernel
theorem dX3_hourOn_47 : decode cX3_hourOn 47 = .ok (.getfield 13, 3) := by decide +kernel
theorem dX3_hourOn_50 : decode cX3_hourOn 50 = .ok (.iload_n 2, 1) := by decide +kernel
theorem dX3_hourOn_51 : decode cX3_hourOn 51 = .ok (.iaload, 1) := by decide +kernel
theorem dX3_hourOn_52 : decode cX3_hourOn 52 = .ok (.iconst 5, 1) := by decide +kernel
theorem dX3_hourOn_53 : decode cX3_hourOn 53 = .ok (.idiv, 1) := by decide +kernel
theorem dX3_hourOn_54 : decode cX3_hourOn 54 = .ok (.iadd, 1) := by decide +kernel
theorem dX3_hourOn_55 : decode cX3_hourOn 55 = .ok (.aload_n 0, 1) := by decide +kernel
theorem dX3_hourOn_56 : decode cX3_hourOn 56 = .ok (.invokevirtual 66, 3) := by decide +kernel
theorem dX3_hourOn_59 : decode cX3_hourOn 59 = .ok (.ifCond .eq 7, 3) := by decide +kernel
theorem dX3_hourOn_62 : decode cX3_hourOn 62 = .ok (.iconst 2, 1) := by decide +kernel
theorem dX3_hourOn_63 : decode cX3_hourOn 63 = .ok (.goto 4, 3) := by decide +kernel
theorem dX3_hourOn_66 : decode cX3_hourOn 66 = .ok (.iconst 1, 1) := by decide +kernel
theorem dX3_hourOn_67 : decode cX3_hourOn 67 = .ok (.iadd, 1) := by decide +kernel
theorem dX3_hourOn_68 : decode cX3_hourOn 68 = .ok (.aload_n 0, 1) := by decide +kernel
theorem dX3_hourOn_69 : decode cX3_hourOn 69 = .ok (.getfield 17, 3) := by decide +kernel
theorem dX3_hourOn_72 : decode cX3_hourOn 72 = .ok (.iload_n 2, 1) := by decide +kernel
theorem dX3_hourOn_73 : decode cX3_hourOn 73 = .ok (.iaload, 1) := by decide +kernel
theorem dX3_hourOn_74 : decode cX3_hourOn 74 = .ok (.isub, 1) := by decide +kernel
theorem dX3_hourOn_75 : decode cX3_hourOn 75 = .ok (.invokestatic 57, 3) := by decide +kernel
theorem dX3_hourOn_78 : decode cX3_hourOn 78 = .ok (.iastore, 1) := by decide +kernel
theorem dX3_hourOn_79 : decode cX3_hourOn 79 = .ok (.aload_n 0, 1) := by decide +kernel
theorem dX3_hourOn_80 : decode cX3_hourOn 80 = .ok (.getfield 24, 3) := by decide +kernel
theorem dX3_hourOn_83 : decode cX3_hourOn 83 = .ok (.bipush 13, 2) := by decide +kernel
theorem dX3_hourOn_85 : decode cX3_hourOn 85 = .ok (.iload_n 2, 1) := by decide +kernel
theorem dX3_hourOn_86 : decode cX3_hourOn 86 = .ok (.iadd, 1) := by decide +kernel
theorem dX3_hourOn_87 : decode cX3_hourOn 87 = .ok (.iaload, 1) := by decide +kernel
theorem dX3_hourOn_88 : decode cX3_hourOn 88 = .ok (.bipush 10, 2) := by decide +kernel
theorem dX3_hourOn_90 : decode cX3_hourOn 90 = .ok (.if_icmp .ge 6, 3) := by decide +kernel
theorem dX3_hourOn_93 : decode cX3_hourOn 93 = .ok (.goto 11, 3) := by decide +kernel
theorem dX3_hourOn_96 : decode cX3_hourOn 96 = .ok (.aload_n 0, 1) := by decide +kernel
theorem dX3_hourOn_97 : decode cX3_hourOn 97 = .ok (.iload_n 2, 1) := by decide +kernel
theorem dX3_hourOn_98 : decode cX3_hourOn 98 = .ok (.invokevirtual 88, 3) := by decide +kernel
theorem dX3_hourOn_101 : decode cX3_hourOn 101 = .ok (.iinc 1 1, 3) := by decide +kernel
theorem dX3_hourOn_104 : decode cX3_hourOn 104 = .ok (.iinc 2 1, 3) := by decide +kernel
theorem dX3_hourOn_107 : decode cX3_hourOn 107 = .ok (.goto (-87), 3) := by decide +kernel
theorem dX3_hourOn_110 : decode cX3_hourOn 110 = .ok (.aload_n 0, 1) := by decide +kernel
theorem dX3_hourOn_111 : decode cX3_hourOn 111 = .ok (.getfield 24, 3) := by decide +kernel
theorem dX3_hourOn_114 : decode cX3_hourOn 114 = .ok (.iconst 0, 1) := by decide +kernel
theorem dX3_hourOn_115 : decode cX3_hourOn 115 = .ok (.dup2, 1) := by decide +kernel
theorem dX3_hourOn_116 : decode cX3_hourOn 116 = .ok (.iaload, 1) := by decide +kernel
theorem dX3_hourOn_117 : decode cX3_hourOn 117 = .ok (.iconst 1, 1) := by decide +kernel
theorem dX3_hourOn_118 : decode cX3_hourOn 118 = .ok (.iadd, 1) := by decide +kernel
theorem dX3_hourOn_119 : decode cX3_hourOn 119 = .ok (.iastore, 1) := by decide +kernel
theorem dX3_hourOn_120 : decode cX3_hourOn 120 = .ok (.iload_n 1, 1) := by decide +kernel
theorem dX3_hourOn_121 : decode cX3_hourOn 121 = .ok (.ireturn, 1) := by decide +kernel
theorem dX3_hoursOn_0 : decode cX3_hoursOn 0 = .ok (.iconst 0, 1) := by decide +kernel
theorem dX3_hoursOn_1 : decode cX3_hoursOn 1 = .ok (.istore_n 2, 1) := by decide +kernel
theorem dX3_hoursOn_2 : decode cX3_hoursOn 2 = .ok (.iconst 0, 1) := by decide +kernel
theorem dX3_hoursOn_3 : decode cX3_hoursOn 3 = .ok (.istore_n 3, 1) := by decide +kernel
theorem dX3_hoursOn_4 : decode cX3_hoursOn 4 = .ok (.iload_n 3, 1) := by decide +kernel
theorem dX3_hoursOn_5 : decode cX3_hoursOn 5 = .ok (.iload_n 1, 1) := by decide +kernel
theorem dX3_hoursOn_6 : decode cX3_hoursOn 6 = .ok (.if_icmp .ge 16, 3) := by decide +kernel
theorem dX3_hoursOn_9 : decode cX3_hoursOn 9 = .ok (.iload_n 2, 1) := by decide +kernel
theorem dX3_hoursOn_10 : decode cX3_hoursOn 10 = .ok (.aload_n 0, 1) := by decide +kernel
theorem dX3_hoursOn_11 : decode cX3_hoursOn 11 = .ok (.invokevirtual 92, 3) := by decide +kernel
theorem dX3_hoursOn_14 : decode cX3_hoursOn 14 = .ok (.iadd, 1) := by decide +kernel
theorem dX3_hoursOn_15 : decode cX3_hoursOn 15 = .ok (.istore_n 2, 1) := by decide +kernel
theorem dX3_hoursOn_16 : decode cX3_hoursOn 16 = .ok (.iinc 3 1, 3) := by decide +kernel
theorem dX3_hoursOn_19 : decode cX3_hoursOn 19 = .ok (.goto (-15), 3) := by decide +kernel
theorem dX3_hoursOn_22 : decode cX3_hoursOn 22 = .ok (.iload_n 2, 1) := by decide +kernel
theorem dX3_hoursOn_23 : decode cX3_hoursOn 23 = .ok (.ireturn, 1) := by decide +kernel
theorem dX3_addWalker_0 : decode cX3_addWalker 0 = .ok (.aload_n 0, 1) := by decide +kernel
theorem dX3_addWalker_1 : decode cX3_addWalker 1 = .ok (.iconst 0, 1) := by decide +kernel
theorem dX3_addWalker_2 : decode cX3_addWalker 2 = .ok (.putfield 30, 3) := by decide +kernel
theorem dX3_addWalker_5 : decode cX3_addWalker 5 = .ok (.iload_n 1, 1) := by decide +kernel
theorem dX3_addWalker_6 : decode cX3_addWalker 6 = .ok (.iconst 1, 1) := by decide +kernel
theorem dX3_addWalker_7 : decode cX3_addWalker 7 = .ok (.bipush 30, 2) := by decide +kernel
theorem dX3_addWalker_9 : decode cX3_addWalker 9 = .ok (.invokestatic 36, 3) := by decide +kernel
theorem dX3_addWalker_12 : decode cX3_addWalker 12 = .ok (.ifCond .eq 22, 3) := by decide +kernel
theorem dX3_addWalker_15 : decode cX3_addWalker 15 = .ok (.iload_n 2, 1) := by decide +kernel
theorem dX3_addWalker_16 : decode cX3_addWalker 16 = .ok (.iconst 0, 1) := by decide +kernel
theorem dX3_addWalker_17 : decode cX3_addWalker 17 = .ok (.iconst 5, 1) := by decide +kernel
theorem dX3_addWalker_18 : decode cX3_addWalker 18 = .ok (.invokestatic 36, 3) := by decide +kernel
theorem dX3_addWalker_21 : decode cX3_addWalker 21 = .ok (.ifCond .eq 13, 3) := by decide +kernel
theorem dX3_addWalker_24 : decode cX3_addWalker 24 = .ok (.iload_n 3, 1) := by decide +kernel
theorem dX3_addWalker_25 : decode cX3_addWalker 25 = .ok (.iconst 0, 1) := by decide +kernel
theorem dX3_addWalker_26 : decode cX3_addWalker 26 = .ok (.bipush 9, 2) := by decide +kernel
theorem dX3_addWalker_28 : decode cX3_addWalker 28 = .ok (.invokestatic 36, 3) := by decide +kernel
theorem dX3_addWalker_31 : decode cX3_addWalker 31 = .ok (.ifCond .ne 9, 3) := by decide +kernel
theorem dX3_addWalker_34 : decode cX3_addWalker 34 = .ok (.aload_n 0, 1) := by decide +kernel
theorem dX3_addWalker_35 : decode cX3_addWalker 35 = .ok (.iconst 1, 1) := by decide +kernel
theorem dX3_addWalker_36 : decode cX3_addWalker 36 = .ok (.invokevirtual 95, 3) := by decide +kernel
theorem dX3_addWalker_39 : decode cX3_addWalker 39 = .ok (.ireturn, 1) := by decide +kernel
theorem dX3_addWalker_40 : decode cX3_addWalker 40 = .ok (.aload_n 0, 1) := by decide +kernel
theorem dX3_addWalker_41 : decode cX3_addWalker 41 = .ok (.getfield 33, 3) := by decide +kernel
theorem dX3_addWalker_44 : decode cX3_addWalker 44 = .ok (.bipush 8, 2) := by decide +kernel
theorem dX3_addWalker_46 : decode cX3_addWalker 46 = .ok (.if_icmp .ne 9, 3) := by decide +kernel
theorem dX3_addWalker_49 : decode cX3_addWalker 49 = .ok (.aload_n 0, 1) := by decide +kernel
theorem dX3_addWalker_50 : decode cX3_addWalker 50 = .ok (.iconst 2, 1) := by decide +kernel
theorem dX3_addWalker_51 : decode cX3_addWalker 51 = .ok (.invokevirtual 95, 3) := by decide +kernel
theorem dX3_addWalker_54 : decode cX3_addWalker 54 = .ok (.ireturn, 1) := by decide +kernel
theorem dX3_addWalker_55 : decode cX3_addWalker 55 = .ok (.aload_n 0, 1) := by decide +kernel
theorem dX3_addWalker_56 : decode cX3_addWalker 56 = .ok (.getfield 13, 3) := by decide +kernel
theorem dX3_addWalker_59 : decode cX3_addWalker 59 = .ok (.aload_n 0, 1) := by decide +kernel
theorem dX3_addWalker_60 : decode cX3_addWalker 60 = .ok (.getfield 33, 3) := by decide +kernel
theorem dX3_addWalker_63 : decode cX3_addWalker 63 = .ok (.iload_n 1, 1) := by decide +kernel
theorem dX3_addWalker_64 : decode cX3_addWalker 64 = .ok (.iastore, 1) := by decide +kernel
theorem dX3_addWalker_65 : decode cX3_addWalker 65 = .ok (.aload_n 0, 1) := by decide +kernel
theorem dX3_addWalker_66 : decode cX3_addWalker 66 = .ok (.getfield 17, 3) := by decide +kernel
theorem dX3_addWalker_69 : decode cX3_addWalker 69 = .ok (.aload_n 0, 1) := by decide +kernel
theorem dX3_addWalker_70 : decode cX3_addWalker 70 = .ok (.getfield 33, 3) := by decide +kernel
theorem dX3_addWalker_73 : decode cX3_addWalker 73 = .ok (.iload_n 2, 1) := by decide +kernel
theorem dX3_addWalker_74 : decode cX3_addWalker 74 = .ok (.iastore, 1) := by decide +kernel
theorem dX3_addWalker_75 : decode cX3_addWalker 75 = .ok (.aload_n 0, 1) := by decide +kernel
theorem dX3_addWalker_76 : decode cX3_addWalker 76 = .ok (.getfield 20, 3) := by decide +kernel
theorem dX3_addWalker_79 : decode cX3_addWalker 79 = .ok (.aload_n 0, 1) := by decide +kernel
theorem dX3_addWalker_80 : decode cX3_addWalker 80 = .ok (.getfield 33, 3) := by decide +kernel
theorem dX3_addWalker_83 : decode cX3_addWalker 83 = .ok (.iconst 1, 1) := by decide +kernel
theorem dX3_addWalker_84 : decode cX3_addWalker 84 = .ok (.bastore, 1) := by decide +kernel
theorem dX3_addWalker_85 : decode cX3_addWalker 85 = .ok (.aload_n 0, 1) := by decide +kernel
theorem dX3_addWalker_86 : decode cX3_addWalker 86 = .ok (.getfield 24, 3) := by decide +kernel
theorem dX3_addWalker_89 : decode cX3_addWalker 89 = .ok (.iconst 5, 1) := by decide +kernel
theorem dX3_addWalker_90 : decode cX3_addWalker 90 = .ok (.aload_n 0, 1) := by decide +kernel
theorem dX3_addWalker_91 : decode cX3_addWalker 91 = .ok (.getfield 33, 3) := by decide +kernel
theorem dX3_addWalker_94 : decode cX3_addWalker 94 = .ok (.iadd, 1) := by decide +kernel
theorem dX3_addWalker_95 : decode cX3_addWalker 95 = .ok (.iload_n 3, 1) := by decide +kernel
theorem dX3_addWalker_96 : decode cX3_addWalker 96 = .ok (.iastore, 1) := by decide +kernel
theorem dX3_addWalker_97 : decode cX3_addWalker 97 = .ok (.aload_n 0, 1) := by decide +kernel
theorem dX3_addWalker_98 : decode cX3_addWalker 98 = .ok (.dup, 1) := by decide +kernel
theorem dX3_addWalker_99 : decode cX3_addWalker 99 = .ok (.getfield 33, 3) := by decide +kernel
theorem dX3_addWalker_102 : decode cX3_addWalker 102 = .ok (.iconst 1, 1) := by decide +kernel
theorem dX3_addWalker_103 : decode cX3_addWalker 103 = .ok (.iadd, 1) := by decide +kernel
theorem dX3_addWalker_104 : decode cX3_addWalker 104 = .ok (.putfield 33, 3) := by decide +kernel
theorem dX3_addWalker_107 : decode cX3_addWalker 107 = .ok (.aload_n 0, 1) := by decide +kernel
theorem dX3_addWalker_108 : decode cX3_addWalker 108 = .ok (.getfield 33, 3) := by decide +kernel
theorem dX3_addWalker_111 : decode cX3_addWalker 111 = .ok (.iconst 1, 1) := by decide +kernel
theorem dX3_addWalker_112 : decode cX3_addWalker 112 = .ok (.isub, 1) := by decide +kernel
theorem dX3_addWalker_113 : decode cX3_addWalker 113 = .ok (.ireturn, 1) := by decide +kernel
theorem dX3_turnMember_0 : decode cX3_turnMember 0 = .ok (.aload_n 0, 1) := by decide +kernel
theorem dX3_turnMember_1 : decode cX3_turnMember 1 = .ok (.aload_n 0, 1) := by decide +kernel
theorem dX3_turnMember_2 : decode cX3_turnMember 2 = .ok (.iload_n 1, 1) := by decide +kernel
theorem dX3_turnMember_3 : decode cX3_turnMember 3 = .ok (.invokevirtual 98, 3) := by decide +kernel
theorem dX3_turnMember_6 : decode cX3_turnMember 6 = .ok (.ifCond .eq 7, 3) := by decide +kernel
theorem dX3_turnMember_9 : decode cX3_turnMember 9 = .ok (.iconst 0, 1) := by decide +kernel
theorem dX3_turnMember_10 : decode cX3_turnMember 10 = .ok (.goto 4, 3) := by decide +kernel
theorem dX3_turnMember_13 : decode cX3_turnMember 13 = .ok (.iconst 1, 1) := by decide +kernel
theorem dX3_turnMember_14 : decode cX3_turnMember 14 = .ok (.putfield 30, 3) := by decide +kernel
theorem dX3_turnMember_17 : decode cX3_turnMember 17 = .ok (.aload_n 0, 1) := by decide +kernel
theorem dX3_turnMember_18 : decode cX3_turnMember 18 = .ok (.getfield 30, 3) := by decide +kernel
theorem dX3_turnMember_21 : decode cX3_turnMember 21 = .ok (.ifCond .le 5, 3) := by decide +kernel
theorem dX3_turnMember_24 : decode cX3_turnMember 24 = .ok (.iconst 0, 1) := by decide +kernel
theorem dX3_turnMember_25 : decode cX3_turnMember 25 = .ok (.ireturn, 1) := by decide +kernel
theorem dX3_turnMember_26 : decode cX3_turnMember 26 = .ok (.aload_n 0, 1) := by decide +kernel
theorem dX3_turnMember_27 : decode cX3_turnMember 27 = .ok (.getfield 20, 3) := by decide +kernel
theorem dX3_turnMember_30 : decode cX3_turnMember 30 = .ok (.iload_n 1, 1) := by decide +kernel
theorem dX3_turnMember_31 : decode cX3_turnMember 31 = .ok (.aload_n 0, 1) := by decide +kernel
theorem dX3_turnMember_32 : decode cX3_turnMember 32 = .ok (.getfield 20, 3) := by decide +kernel
theorem dX3_turnMember_35 : decode cX3_turnMember 35 = .ok (.iload_n 1, 1) := by decide +kernel
theorem dX3_turnMember_36 : decode cX3_turnMember 36 = .ok (.baload, 1) := by decide +kernel
theorem dX3_turnMember_37 : decode cX3_turnMember 37 = .ok (.ifCond .ne 7, 3) := by decide +kernel
theorem dX3_turnMember_40 : decode cX3_turnMember 40 = .ok (.iconst 1, 1) := by decide +kernel
theorem dX3_turnMember_41 : decode cX3_turnMember 41 = .ok (.goto 4, 3) := by decide +kernel
theorem dX3_turnMember_44 : decode cX3_turnMember 44 = .ok (.iconst 0, 1) := by decide +kernel
theorem dX3_turnMember_45 : decode cX3_turnMember 45 = .ok (.bastore, 1) := by decide +kernel
theorem dX3_turnMember_46 : decode cX3_turnMember 46 = .ok (.aload_n 0, 1) := by decide +kernel
theorem dX3_turnMember_47 : decode cX3_turnMember 47 = .ok (.getfield 20, 3) := by decide +kernel
theorem dX3_turnMember_50 : decode cX3_turnMember 50 = .ok (.iload_n 1, 1) := by decide +kernel
theorem dX3_turnMember_51 : decode cX3_turnMember 51 = .ok (.baload, 1) := by decide +kernel
theorem dX3_turnMember_52 : decode cX3_turnMember 52 = .ok (.ireturn, 1) := by decide +kernel
theorem dX3_setNet_0 : decode cX3_setNet 0 = .ok (.aload_n 0, 1) := by decide +kernel
theorem dX3_setNet_1 : decode cX3_setNet 1 = .ok (.iconst 0, 1) := by decide +kernel
theorem dX3_setNet_2 : decode cX3_setNet 2 = .ok (.putfield 30, 3) := by decide +kernel
theorem dX3_setNet_5 : decode cX3_setNet 5 = .ok (.aload_n 0, 1) := by decide +kernel
theorem dX3_setNet_6 : decode cX3_setNet 6 = .ok (.iload_n 1, 1) := by decide +kernel
theorem dX3_setNet_7 : decode cX3_setNet 7 = .ok (.invokevirtual 98, 3) := by decide +kernel
theorem dX3_setNet_10 : decode cX3_setNet 10 = .ok (.ifCond .ne 9, 3) := by decide +kernel
theorem dX3_setNet_13 : decode cX3_setNet 13 = .ok (.aload_n 0, 1) := by decide +kernel
theorem dX3_setNet_14 : decode cX3_setNet 14 = .ok (.iconst 1, 1) := by decide +kernel
theorem dX3_setNet_15 : decode cX3_setNet 15 = .ok (.invokevirtual 95, 3) := by decide +kernel
theorem dX3_setNet_18 : decode cX3_setNet 18 = .ok (.ireturn, 1) := by decide +kernel
theorem dX3_setNet_19 : decode cX3_setNet 19 = .ok (.iload_n 2, 1) := by decide +kernel
theorem dX3_setNet_20 : decode cX3_setNet 20 = .ok (.iconst 0, 1) := by decide +kernel
theorem dX3_setNet_21 : decode cX3_setNet 21 = .ok (.bipush 9, 2) := by decide +kernel
theorem dX3_setNet_23 : decode cX3_setNet 23 = .ok (.invokestatic 36, 3) := by decide +kernel
theorem dX3_setNet_26 : decode cX3_setNet 26 = .ok (.ifCond .ne 9, 3) := by decide +kernel
theorem dX3_setNet_29 : decode cX3_setNet 29 = .ok (.aload_n 0, 1) := by decide +kernel
theorem dX3_setNet_30 : decode cX3_setNet 30 = .ok (.iconst 2, 1) := by decide +kernel
theorem dX3_setNet_31 : decode cX3_setNet 31 = .ok (.invokevirtual 95, 3) := by decide +kernel
theorem dX3_setNet_34 : decode cX3_setNet 34 = .ok (.ireturn, 1) := by decide +kernel
theorem dX3_setNet_35 : decode cX3_setNet 35 = .ok (.aload_n 0, 1) := by decide +kernel
theorem dX3_setNet_36 : decode cX3_setNet 36 = .ok (.getfield 24, 3) := by decide +kernel
theorem dX3_setNet_39 : decode cX3_setNet 39 = .ok (.iconst 5, 1) := by decide +kernel
theorem dX3_setNet_40 : decode cX3_setNet 40 = .ok (.iload_n 1, 1) := by decide +kernel
theorem dX3_setNet_41 : decode cX3_setNet 41 = .ok (.iadd, 1) := by decide +kernel
theorem dX3_setNet_42 : decode cX3_setNet 42 = .ok (.iaload, 1) := by decide +kernel
theorem dX3_setNet_43 : decode cX3_setNet 43 = .ok (.istore_n 3, 1) := by decide +kernel
theorem dX3_setNet_44 : decode cX3_setNet 44 = .ok (.aload_n 0, 1) := by decide +kernel
theorem dX3_setNet_45 : decode cX3_setNet 45 = .ok (.getfield 24, 3) := by decide +kernel
theorem dX3_setNet_48 : decode cX3_setNet 48 = .ok (.iconst 5, 1) := by decide +kernel
theorem dX3_setNet_49 : decode cX3_setNet 49 = .ok (.iload_n 1, 1) := by decide +kernel
theorem dX3_setNet_50 : decode cX3_setNet 50 = .ok (.iadd, 1) := by decide +kernel
theorem dX3_setNet_51 : decode cX3_setNet 51 = .ok (.iload_n 2, 1) := by decide +kernel
theorem dX3_setNet_52 : decode cX3_setNet 52 = .ok (.iastore, 1) := by decide +kernel
theorem dX3_setNet_53 : decode cX3_setNet 53 = .ok (.iload_n 3, 1) := by decide +kernel
theorem dX3_setNet_54 : decode cX3_setNet 54 = .ok (.ireturn, 1) := by decide +kernel
theorem dX3_rest_0 : decode cX3_rest 0 = .ok (.aload_n 0, 1) := by decide +kernel
theorem dX3_rest_1 : decode cX3_rest 1 = .ok (.iconst 0, 1) := by decide +kernel
theorem dX3_rest_2 : decode cX3_rest 2 = .ok (.putfield 30, 3) := by decide +kernel
theorem dX3_rest_5 : decode cX3_rest 5 = .ok (.aload_n 0, 1) := by decide +kernel
theorem dX3_rest_6 : decode cX3_rest 6 = .ok (.iload_n 1, 1) := by decide +kernel
theorem dX3_rest_7 : decode cX3_rest 7 = .ok (.invokevirtual 98, 3) := by decide +kernel
theorem dX3_rest_10 : decode cX3_rest 10 = .ok (.ifCond .ne 9, 3) := by decide +kernel
theorem dX3_rest_13 : decode cX3_rest 13 = .ok (.aload_n 0, 1) := by decide +kernel
theorem dX3_rest_14 : decode cX3_rest 14 = .ok (.iconst 1, 1) := by decide +kernel
theorem dX3_rest_15 : decode cX3_rest 15 = .ok (.invokevirtual 95, 3) := by decide +kernel
theorem dX3_rest_18 : decode cX3_rest 18 = .ok (.ireturn, 1) := by decide +kernel
theorem dX3_rest_19 : decode cX3_rest 19 = .ok (.aload_n 0, 1) := by decide +kernel
theorem dX3_rest_20 : decode cX3_rest 20 = .ok (.getfield 24, 3) := by decide +kernel
theorem dX3_rest_23 : decode cX3_rest 23 = .ok (.bipush 13, 2) := by decide +kernel
theorem dX3_rest_25 : decode cX3_rest 25 = .ok (.iload_n 1, 1) := by decide +kernel
theorem dX3_rest_26 : decode cX3_rest 26 = .ok (.iadd, 1) := by decide +kernel
theorem dX3_rest_27 : decode cX3_rest 27 = .ok (.iaload, 1) := by decide +kernel
theorem dX3_rest_28 : decode cX3_rest 28 = .ok (.istore_n 2, 1) := by decide +kernel
theorem dX3_rest_29 : decode cX3_rest 29 = .ok (.aload_n 0, 1) := by decide +kernel
theorem dX3_rest_30 : decode cX3_rest 30 = .ok (.getfield 24, 3) := by decide +kernel
theorem dX3_rest_33 : decode cX3_rest 33 = .ok (.bipush 13, 2) := by decide +kernel
theorem dX3_rest_35 : decode cX3_rest 35 = .ok (.iload_n 1, 1) := by decide +kernel
theorem dX3_rest_36 : decode cX3_rest 36 = .ok (.iadd, 1) := by decide +kernel
theorem dX3_rest_37 : decode cX3_rest 37 = .ok (.iconst 0, 1) := by decide +kernel
theorem dX3_rest_38 : decode cX3_rest 38 = .ok (.iastore, 1) := by decide +kernel
theorem dX3_rest_39 : decode cX3_rest 39 = .ok (.iload_n 2, 1) := by decide +kernel
theorem dX3_rest_40 : decode cX3_rest 40 = .ok (.ireturn, 1) := by decide +kernel
theorem dX3_setRate_0 : decode cX3_setRate 0 = .ok (.aload_n 0, 1) := by decide +kernel
theorem dX3_setRate_1 : decode cX3_setRate 1 = .ok (.iconst 0, 1) := by decide +kernel
theorem dX3_setRate_2 : decode cX3_setRate 2 = .ok (.putfield 30, 3) := by decide +kernel
theorem dX3_setRate_5 : decode cX3_setRate 5 = .ok (.iload_n 1, 1) := by decide +kernel
theorem dX3_setRate_6 : decode cX3_setRate 6 = .ok (.iconst 0, 1) := by decide +kernel
theorem dX3_setRate_7 : decode cX3_setRate 7 = .ok (.bipush 9, 2) := by decide +kernel
theorem dX3_setRate_9 : decode cX3_setRate 9 = .ok (.invokestatic 36, 3) := by decide +kernel
theorem dX3_setRate_12 : decode cX3_setRate 12 = .ok (.ifCond .ne 9, 3) := by decide +kernel
theorem dX3_setRate_15 : decode cX3_setRate 15 = .ok (.aload_n 0, 1) := by decide +kernel
theorem dX3_setRate_16 : decode cX3_setRate 16 = .ok (.iconst 1, 1) := by decide +kernel
theorem dX3_setRate_17 : decode cX3_setRate 17 = .ok (.invokevirtual 95, 3) := by decide +kernel
theorem dX3_setRate_20 : decode cX3_setRate 20 = .ok (.ireturn, 1) := by decide +kernel
theorem dX3_setRate_21 : decode cX3_setRate 21 = .ok (.aload_n 0, 1) := by decide +kernel
theorem dX3_setRate_22 : decode cX3_setRate 22 = .ok (.getfield 24, 3) := by decide +kernel
theorem dX3_setRate_25 : decode cX3_setRate 25 = .ok (.iconst 2, 1) := by decide +kernel
theorem dX3_setRate_26 : decode cX3_setRate 26 = .ok (.iaload, 1) := by decide +kernel
theorem dX3_setRate_27 : decode cX3_setRate 27 = .ok (.istore_n 2, 1) := by decide +kernel
theorem dX3_setRate_28 : decode cX3_setRate 28 = .ok (.aload_n 0, 1) := by decide +kernel
theorem dX3_setRate_29 : decode cX3_setRate 29 = .ok (.getfield 24, 3) := by decide +kernel
theorem dX3_setRate_32 : decode cX3_setRate 32 = .ok (.iconst 2, 1) := by decide +kernel
theorem dX3_setRate_33 : decode cX3_setRate 33 = .ok (.iload_n 1, 1) := by decide +kernel
theorem dX3_setRate_34 : decode cX3_setRate 34 = .ok (.iastore, 1) := by decide +kernel
theorem dX3_setRate_35 : decode cX3_setRate 35 = .ok (.iload_n 2, 1) := by decide +kernel
theorem dX3_setRate_36 : decode cX3_setRate 36 = .ok (.ireturn, 1) := by decide +kernel
theorem dX3_reinsure_0 : decode cX3_reinsure 0 = .ok (.aload_n 0, 1) := by decide +kernel
theorem dX3_reinsure_1 : decode cX3_reinsure 1 = .ok (.iconst 0, 1) := by decide +kernel
theorem dX3_reinsure_2 : decode cX3_reinsure 2 = .ok (.putfield 30, 3) := by decide +kernel
theorem dX3_reinsure_5 : decode cX3_reinsure 5 = .ok (.iload_n 1, 1) := by decide +kernel
theorem dX3_reinsure_6 : decode cX3_reinsure 6 = .ok (.iconst 0, 1) := by decide +kernel
theorem dX3_reinsure_7 : decode cX3_reinsure 7 = .ok (.sipush 200, 3) := by decide +kernel
theorem dX3_reinsure_10 : decode cX3_reinsure 10 = .ok (.invokestatic 36, 3) := by decide +kernel
theorem dX3_reinsure_13 : decode cX3_reinsure 13 = .ok (.ifCond .eq 14, 3) := by decide +kernel
theorem dX3_reinsure_16 : decode cX3_reinsure 16 = .ok (.iload_n 2, 1) := by decide +kernel
theorem dX3_reinsure_17 : decode cX3_reinsure 17 = .ok (.iconst 0, 1) := by decide +kernel
theorem dX3_reinsure_18 : decode cX3_reinsure 18 = .ok (.sipush 400, 3) := by decide +kernel
theorem dX3_reinsure_21 : decode cX3_reinsure 21 = .ok (.invokestatic 36, 3) := by decide +kernel
theorem dX3_reinsure_24 : decode cX3_reinsure 24 = .ok (.ifCond .ne 9, 3) := by decide +kernel
theorem dX3_reinsure_27 : decode cX3_reinsure 27 = .ok (.aload_n 0, 1) := by decide +kernel
theorem dX3_reinsure_28 : decode cX3_reinsure 28 = .ok (.iconst 1, 1) := by decide +kernel
theorem dX3_reinsure_29 : decode cX3_reinsure 29 = .ok (.invokevirtual 95, 3) := by decide +kernel
theorem dX3_reinsure_32 : decode cX3_reinsure 32 = .ok (.ireturn, 1) := by decide +kernel
theorem dX3_reinsure_33 : decode cX3_reinsure 33 = .ok (.aload_n 0, 1) := by decide +kernel
theorem dX3_reinsure_34 : decode cX3_reinsure 34 = .ok (.getfield 24, 3) := by decide +kernel
theorem dX3_reinsure_37 : decode cX3_reinsure 37 = .ok (.iconst 3, 1) := by decide +kernel
theorem dX3_reinsure_38 : decode cX3_reinsure 38 = .ok (.iaload, 1) := by decide +kernel
theorem dX3_reinsure_39 : decode cX3_reinsure 39 = .ok (.istore_n 3, 1) := by decide +kernel
theorem dX3_reinsure_40 : decode cX3_reinsure 40 = .ok (.aload_n 0, 1) := by decide +kernel
theorem dX3_reinsure_41 : decode cX3_reinsure 41 = .ok (.iload_n 1, 1) := by decide +kernel
theorem dX3_reinsure_42 : decode cX3_reinsure 42 = .ok (.putfield 9, 3) := by decide +kernel
theorem dX3_reinsure_45 : decode cX3_reinsure 45 = .ok (.aload_n 0, 1) := by decide +kernel
theorem dX3_reinsure_46 : decode cX3_reinsure 46 = .ok (.getfield 24, 3) := by decide +kernel
theorem dX3_reinsure_49 : decode cX3_reinsure 49 = .ok (.iconst 3, 1) := by decide +kernel
theorem dX3_reinsure_50 : decode cX3_reinsure 50 = .ok (.iload_n 2, 1) := by decide +kernel
theorem dX3_reinsure_51 : decode cX3_reinsure 51 = .ok (.iastore, 1) := by decide +kernel
theorem dX3_reinsure_52 : decode cX3_reinsure 52 = .ok (.iload_n 3, 1) := by decide +kernel
theorem dX3_reinsure_53 : decode cX3_reinsure 53 = .ok (.ireturn, 1) := by decide +kernel
theorem dX3_pass_0 : decode cX3_pass 0 = .ok (.aload_n 0, 1) := by decide +kernel
theorem dX3_pass_1 : decode cX3_pass 1 = .ok (.iconst 0, 1) := by decide +kernel
theorem dX3_pass_2 : decode cX3_pass 2 = .ok (.putfield 30, 3) := by decide +kernel
theorem dX3_pass_5 : decode cX3_pass 5 = .ok (.iload_n 1, 1) := by decide +kernel
theorem dX3_pass_6 : decode cX3_pass 6 = .ok (.iconst 1, 1) := by decide +kernel
theorem dX3_pass_7 : decode cX3_pass 7 = .ok (.bipush 60, 2) := by decide +kernel
theorem dX3_pass_9 : decode cX3_pass 9 = .ok (.invokestatic 36, 3) := by decide +kernel
theorem dX3_pass_12 : decode cX3_pass 12 = .ok (.ifCond .eq 11, 3) := by decide +kernel
theorem dX3_pass_15 : decode cX3_pass 15 = .ok (.aload_n 0, 1) := by decide +kernel
theorem dX3_pass_16 : decode cX3_pass 16 = .ok (.iload_n 1, 1) := by decide +kernel
theorem dX3_pass_17 : decode cX3_pass 17 = .ok (.invokevirtual 102, 3) := by decide +kernel
theorem dX3_pass_20 : decode cX3_pass 20 = .ok (.goto 8, 3) := by decide +kernel
theorem dX3_pass_23 : decode cX3_pass 23 = .ok (.aload_n 0, 1) := by decide +kernel
theorem dX3_pass_24 : decode cX3_pass 24 = .ok (.iconst 1, 1) := by decide +kernel
theorem dX3_pass_25 : decode cX3_pass 25 = .ok (.invokevirtual 95, 3) := by decide +kernel
theorem dX3_pass_28 : decode cX3_pass 28 = .ok (.ireturn, 1) := by decide +kernel
theorem dX3_hour_0 : decode cX3_hour 0 = .ok (.aload_n 0, 1) := by decide +kernel
theorem dX3_hour_1 : decode cX3_hour 1 = .ok (.aload_n 0, 1) := by decide +kernel
theorem dX3_hour_2 : decode cX3_hour 2 = .ok (.getfield 24, 3) := by decide +kernel
theorem dX3_hour_5 : decode cX3_hour 5 = .ok (.iconst 0, 1) := by decide +kernel
theorem dX3_hour_6 : decode cX3_hour 6 = .ok (.iaload, 1) := by decide +kernel
theorem dX3_hour_7 : decode cX3_hour 7 = .ok (.invokevirtual 105, 3) := by decide +kernel
theorem dX3_hour_10 : decode cX3_hour 10 = .ok (.ireturn, 1) := by decide +kernel
theorem dX3_sun_0 : decode cX3_sun 0 = .ok (.aload_n 0, 1) := by decide +kernel
theorem dX3_sun_1 : decode cX3_sun 1 = .ok (.aload_n 0, 1) := by decide +kernel
theorem dX3_sun_2 : decode cX3_sun 2 = .ok (.invokevirtual 49, 3) := by decide +kernel
theorem dX3_sun_5 : decode cX3_sun 5 = .ok (.invokevirtual 105, 3) := by decide +kernel
theorem dX3_sun_8 : decode cX3_sun 8 = .ok (.ireturn, 1) := by decide +kernel
theorem dX3_isNoon_0 : decode cX3_isNoon 0 = .ok (.aload_n 0, 1) := by decide +kernel
theorem dX3_isNoon_1 : decode cX3_isNoon 1 = .ok (.iconst 0, 1) := by decide +kernel
theorem dX3_isNoon_2 : decode cX3_isNoon 2 = .ok (.putfield 30, 3) := by decide +kernel
theorem dX3_isNoon_5 : decode cX3_isNoon 5 = .ok (.aload_n 0, 1) := by decide +kernel
theorem dX3_isNoon_6 : decode cX3_isNoon 6 = .ok (.invokevirtual 66, 3) := by decide +kernel
theorem dX3_isNoon_9 : decode cX3_isNoon 9 = .ok (.ireturn, 1) := by decide +kernel
theorem dX3_hoursUntilNoon_0 : decode cX3_hoursUntilNoon 0 = .ok (.aload_n 0, 1) := by decide +kernel
theorem dX3_hoursUntilNoon_1 : decode cX3_hoursUntilNoon 1 = .ok (.getfield 24, 3) := by decide +kernel
theorem dX3_hoursUntilNoon_4 : decode cX3_hoursUntilNoon 4 = .ok (.iconst 0, 1) := by decide +kernel
theorem dX3_hoursUntilNoon_5 : decode cX3_hoursUntilNoon 5 = .ok (.iaload, 1) := by decide +kernel
theorem dX3_hoursUntilNoon_6 : decode cX3_hoursUntilNoon 6 = .ok (.bipush 12, 2) := by decide +kernel
theorem dX3_hoursUntilNoon_8 : decode cX3_hoursUntilNoon 8 = .ok (.irem, 1) := by decide +kernel
theorem dX3_hoursUntilNoon_9 : decode cX3_hoursUntilNoon 9 = .ok (.istore_n 1, 1) := by decide +kernel
theorem dX3_hoursUntilNoon_10 : decode cX3_hoursUntilNoon 10 = .ok (.aload_n 0, 1) := by decide +kernel
theorem dX3_hoursUntilNoon_11 : decode cX3_hoursUntilNoon 11 = .ok (.iload_n 1, 1) := by decide +kernel
theorem dX3_hoursUntilNoon_12 : decode cX3_hoursUntilNoon 12 = .ok (.iconst 5, 1) := by decide +kernel
theorem dX3_hoursUntilNoon_13 : decode cX3_hoursUntilNoon 13 = .ok (.if_icmp .ge 9, 3) := by decide +kernel
theorem dX3_hoursUntilNoon_16 : decode cX3_hoursUntilNoon 16 = .ok (.iconst 5, 1) := by decide +kernel
theorem dX3_hoursUntilNoon_17 : decode cX3_hoursUntilNoon 17 = .ok (.iload_n 1, 1) := by decide +kernel
theorem dX3_hoursUntilNoon_18 : decode cX3_hoursUntilNoon 18 = .ok (.isub, 1) := by decide +kernel
theorem dX3_hoursUntilNoon_19 : decode cX3_hoursUntilNoon 19 = .ok (.goto 17, 3) := by decide +kernel
theorem dX3_hoursUntilNoon_22 : decode cX3_hoursUntilNoon 22 = .ok (.iload_n 1, 1) := by decide +kernel
theorem dX3_hoursUntilNoon_23 : decode cX3_hoursUntilNoon 23 = .ok (.bipush 7, 2) := by decide +kernel
theorem dX3_hoursUntilNoon_25 : decode cX3_hoursUntilNoon 25 = .ok (.if_icmp .ge 7, 3) := by decide +kernel
theorem dX3_hoursUntilNoon_28 : decode cX3_hoursUntilNoon 28 = .ok (.iconst 0, 1) := by decide +kernel
theorem dX3_hoursUntilNoon_29 : decode cX3_hoursUntilNoon 29 = .ok (.goto 7, 3) := by decide +kernel
theorem dX3_hoursUntilNoon_32 : decode cX3_hoursUntilNoon 32 = .ok (.bipush 17, 2) := by decide +kernel
theorem dX3_hoursUntilNoon_34 : decode cX3_hoursUntilNoon 34 = .ok (.iload_n 1, 1) := by decide +kernel
theorem dX3_hoursUntilNoon_35 : decode cX3_hoursUntilNoon 35 = .ok (.isub, 1) := by decide +kernel
theorem dX3_hoursUntilNoon_36 : decode cX3_hoursUntilNoon 36 = .ok (.invokevirtual 105, 3) := by decide +kernel
theorem dX3_hoursUntilNoon_39 : decode cX3_hoursUntilNoon 39 = .ok (.ireturn, 1) := by decide +kernel
theorem dX3_walkers_0 : decode cX3_walkers 0 = .ok (.aload_n 0, 1) := by decide +kernel
theorem dX3_walkers_1 : decode cX3_walkers 1 = .ok (.aload_n 0, 1) := by decide +kernel
theorem dX3_walkers_2 : decode cX3_walkers 2 = .ok (.getfield 33, 3) := by decide +kernel
theorem dX3_walkers_5 : decode cX3_walkers 5 = .ok (.invokevirtual 105, 3) := by decide +kernel
theorem dX3_walkers_8 : decode cX3_walkers 8 = .ok (.ireturn, 1) := by decide +kernel
theorem dX3_members_0 : decode cX3_members 0 = .ok (.aload_n 0, 1) := by decide +kernel
theorem dX3_members_1 : decode cX3_members 1 = .ok (.aload_n 0, 1) := by decide +kernel
theorem dX3_members_2 : decode cX3_members 2 = .ok (.invokevirtual 79, 3) := by decide +kernel
theorem dX3_members_5 : decode cX3_members 5 = .ok (.invokevirtual 105, 3) := by decide +kernel
theorem dX3_members_8 : decode cX3_members 8 = .ok (.ireturn, 1) := by decide +kernel
theorem dX3_isMember_0 : decode cX3_isMember 0 = .ok (.aload_n 0, 1) := by decide +kernel
theorem dX3_isMember_1 : decode cX3_isMember 1 = .ok (.aload_n 0, 1) := by decide +kernel
theorem dX3_isMember_2 : decode cX3_isMember 2 = .ok (.iload_n 1, 1) := by decide +kernel
theorem dX3_isMember_3 : decode cX3_isMember 3 = .ok (.invokevirtual 98, 3) := by decide +kernel
theorem dX3_isMember_6 : decode cX3_isMember 6 = .ok (.ifCond .eq 7, 3) := by decide +kernel
theorem dX3_isMember_9 : decode cX3_isMember 9 = .ok (.iconst 0, 1) := by decide +kernel
theorem dX3_isMember_10 : decode cX3_isMember 10 = .ok (.goto 4, 3) := by decide +kernel
theorem dX3_isMember_13 : decode cX3_isMember 13 = .ok (.iconst 1, 1) := by decide +kernel
theorem dX3_isMember_14 : decode cX3_isMember 14 = .ok (.putfield 30, 3) := by decide +kernel
theorem dX3_isMember_17 : decode cX3_isMember 17 = .ok (.aload_n 0, 1) := by decide +kernel
theorem dX3_isMember_18 : decode cX3_isMember 18 = .ok (.getfield 30, 3) := by decide +kernel
theorem dX3_isMember_21 : decode cX3_isMember 21 = .ok (.ifCond .ne 16, 3) := by decide +kernel
theorem dX3_isMember_24 : decode cX3_isMember 24 = .ok (.aload_n 0, 1) := by decide +kernel
theorem dX3_isMember_25 : decode cX3_isMember 25 = .ok (.getfield 20, 3) := by decide +kernel
theorem dX3_isMember_28 : decode cX3_isMember 28 = .ok (.iload_n 1, 1) := by decide +kernel
theorem dX3_isMember_29 : decode cX3_isMember 29 = .ok (.baload, 1) := by decide +kernel
theorem dX3_isMember_30 : decode cX3_isMember 30 = .ok (.ifCond .eq 7, 3) := by decide +kernel
theorem dX3_isMember_33 : decode cX3_isMember 33 = .ok (.iconst 1, 1) := by decide +kernel
theorem dX3_isMember_34 : decode cX3_isMember 34 = .ok (.goto 4, 3) := by decide +kernel
theorem dX3_isMember_37 : decode cX3_isMember 37 = .ok (.iconst 0, 1) := by decide +kernel
theorem dX3_isMember_38 : decode cX3_isMember 38 = .ok (.ireturn, 1) := by decide +kernel
theorem dX3_ofWalker_0 : decode cX3_ofWalker 0 = .ok (.aload_n 0, 1) := by decide +kernel
theorem dX3_ofWalker_1 : decode cX3_ofWalker 1 = .ok (.iconst 0, 1) := by decide +kernel
theorem dX3_ofWalker_2 : decode cX3_ofWalker 2 = .ok (.putfield 30, 3) := by decide +kernel
theorem dX3_ofWalker_5 : decode cX3_ofWalker 5 = .ok (.aload_n 0, 1) := by decide +kernel
theorem dX3_ofWalker_6 : decode cX3_ofWalker 6 = .ok (.iload_n 1, 1) := by decide +kernel
theorem dX3_ofWalker_7 : decode cX3_ofWalker 7 = .ok (.invokevirtual 98, 3) := by decide +kernel
theorem dX3_ofWalker_10 : decode cX3_ofWalker 10 = .ok (.ifCond .eq 14, 3) := by decide +kernel
theorem dX3_ofWalker_13 : decode cX3_ofWalker 13 = .ok (.aload_n 0, 1) := by decide +kernel
theorem dX3_ofWalker_14 : decode cX3_ofWalker 14 = .ok (.getfield 24, 3) := by decide +kernel
theorem dX3_ofWalker_17 : decode cX3_ofWalker 17 = .ok (.iload_n 2, 1) := by decide +kernel
theorem dX3_ofWalker_18 : decode cX3_ofWalker 18 = .ok (.iload_n 1, 1) := by decide +kernel
theorem dX3_ofWalker_19 : decode cX3_ofWalker 19 = .ok (.iadd, 1) := by decide +kernel
theorem dX3_ofWalker_20 : decode cX3_ofWalker 20 = .ok (.iaload, 1) := by decide +kernel
theorem dX3_ofWalker_21 : decode cX3_ofWalker 21 = .ok (.goto 8, 3) := by decide +kernel
theorem dX3_ofWalker_24 : decode cX3_ofWalker 24 = .ok (.aload_n 0, 1) := by decide +kernel
theorem dX3_ofWalker_25 : decode cX3_ofWalker 25 = .ok (.iconst 1, 1) := by decide +kernel
theorem dX3_ofWalker_26 : decode cX3_ofWalker 26 = .ok (.invokevirtual 95, 3) := by decide +kernel
theorem dX3_ofWalker_29 : decode cX3_ofWalker 29 = .ok (.ireturn, 1) := by decide +kernel
theorem dX3_netOf_0 : decode cX3_netOf 0 = .ok (.aload_n 0, 1) := by decide +kernel
theorem dX3_netOf_1 : decode cX3_netOf 1 = .ok (.iload_n 1, 1) := by decide +kernel
theorem dX3_netOf_2 : decode cX3_netOf 2 = .ok (.iconst 5, 1) := by decide +kernel
theorem dX3_netOf_3 : decode cX3_netOf 3 = .ok (.invokevirtual 108, 3) := by decide +kernel
theorem dX3_netOf_6 : decode cX3_netOf 6 = .ok (.ireturn, 1) := by decide +kernel
theorem dX3_wobbleOf_0 : decode cX3_wobbleOf 0 = .ok (.aload_n 0, 1) := by decide +kernel
theorem dX3_wobbleOf_1 : decode cX3_wobbleOf 1 = .ok (.iload_n 1, 1) := by decide +kernel
theorem dX3_wobbleOf_2 : decode cX3_wobbleOf 2 = .ok (.bipush 13, 2) := by decide +kernel
theorem dX3_wobbleOf_4 : decode cX3_wobbleOf 4 = .ok (.invokevirtual 108, 3) := by decide +kernel
theorem dX3_wobbleOf_7 : decode cX3_wobbleOf 7 = .ok (.ireturn, 1) := by decide +kernel
theorem dX3_fallsOf_0 : decode cX3_fallsOf 0 = .ok (.aload_n 0, 1) := by decide +kernel
theorem dX3_fallsOf_1 : decode cX3_fallsOf 1 = .ok (.iload_n 1, 1) := by decide +kernel
theorem dX3_fallsOf_2 : decode cX3_fallsOf 2 = .ok (.bipush 21, 2) := by decide +kernel
theorem dX3_fallsOf_4 : decode cX3_fallsOf 4 = .ok (.invokevirtual 108, 3) := by decide +kernel
theorem dX3_fallsOf_7 : decode cX3_fallsOf 7 = .ok (.ireturn, 1) := by decide +kernel
theorem dX3_shadowOf_0 : decode cX3_shadowOf 0 = .ok (.aload_n 0, 1) := by decide +kernel
theorem dX3_shadowOf_1 : decode cX3_shadowOf 1 = .ok (.iconst 0, 1) := by decide +kernel
theorem dX3_shadowOf_2 : decode cX3_shadowOf 2 = .ok (.putfield 30, 3) := by decide +kernel
theorem dX3_shadowOf_5 : decode cX3_shadowOf 5 = .ok (.aload_n 0, 1) := by decide +kernel
theorem dX3_shadowOf_6 : decode cX3_shadowOf 6 = .ok (.iload_n 1, 1) := by decide +kernel
theorem dX3_shadowOf_7 : decode cX3_shadowOf 7 = .ok (.invokevirtual 98, 3) := by decide +kernel
theorem dX3_shadowOf_10 : decode cX3_shadowOf 10 = .ok (.ifCond .eq 11, 3) := by decide +kernel
theorem dX3_shadowOf_13 : decode cX3_shadowOf 13 = .ok (.aload_n 0, 1) := by decide +kernel
theorem dX3_shadowOf_14 : decode cX3_shadowOf 14 = .ok (.iload_n 1, 1) := by decide +kernel
theorem dX3_shadowOf_15 : decode cX3_shadowOf 15 = .ok (.invokevirtual 53, 3) := by decide +kernel
theorem dX3_shadowOf_18 : decode cX3_shadowOf 18 = .ok (.goto 8, 3) := by decide +kernel
theorem dX3_shadowOf_21 : decode cX3_shadowOf 21 = .ok (.aload_n 0, 1) := by decide +kernel
theorem dX3_shadowOf_22 : decode cX3_shadowOf 22 = .ok (.iconst 1, 1) := by decide +kernel
theorem dX3_shadowOf_23 : decode cX3_shadowOf 23 = .ok (.invokevirtual 95, 3) := by decide +kernel
theorem dX3_shadowOf_26 : decode cX3_shadowOf 26 = .ok (.ireturn, 1) := by decide +kernel
theorem dX3_longestShadow_0 : decode cX3_longestShadow 0 = .ok (.aload_n 0, 1) := by decide +kernel
theorem dX3_longestShadow_1 : decode cX3_longestShadow 1 = .ok (.iconst 0, 1) := by decide +kernel
theorem dX3_longestShadow_2 : decode cX3_longestShadow 2 = .ok (.putfield 30, 3) := by decide +kernel
theorem dX3_longestShadow_5 : decode cX3_longestShadow 5 = .ok (.iconst (-1), 1) := by decide +kernel
theorem dX3_longestShadow_6 : decode cX3_longestShadow 6 = .ok (.istore_n 1, 1) := by decide +kernel
theorem dX3_longestShadow_7 : decode cX3_longestShadow 7 = .ok (.iconst 0, 1) := by decide +kernel
theorem dX3_longestShadow_8 : decode cX3_longestShadow 8 = .ok (.istore_n 2, 1) := by decide +kernel
theorem dX3_longestShadow_9 : decode cX3_longestShadow 9 = .ok (.iload_n 2, 1) := by decide +kernel
theorem dX3_longestShadow_10 : decode cX3_longestShadow 10 = .ok (.aload_n 0, 1) := by decide +kernel
theorem dX3_longestShadow_11 : decode cX3_longestShadow 11 = .ok (.getfield 33, 3) := by decide +kernel
theorem dX3_longestShadow_14 : decode cX3_longestShadow 14 = .ok (.if_icmp .ge 29, 3) := by decide +kernel
theorem dX3_longestShadow_17 : decode cX3_longestShadow 17 = .ok (.iload_n 1, 1) := by decide +kernel
theorem dX3_longestShadow_18 : decode cX3_longestShadow 18 = .ok (.iconst (-1), 1) := by decide +kernel
theorem dX3_longestShadow_19 : decode cX3_longestShadow 19 = .ok (.if_icmp .eq 16, 3) := by decide +kernel
theorem dX3_longestShadow_22 : decode cX3_longestShadow 22 = .ok (.aload_n 0, 1) := by decide +kernel
theorem dX3_longestShadow_23 : decode cX3_longestShadow 23 = .ok (.iload_n 2, 1) := by decide +kernel
theorem dX3_longestShadow_24 : decode cX3_longestShadow 24 = .ok (.invokevirtual 53, 3) := by decide +kernel
theorem dX3_longestShadow_27 : decode cX3_longestShadow 27 = .ok (.aload_n 0, 1) := by decide +kernel
theorem dX3_longestShadow_28 : decode cX3_longestShadow 28 = .ok (.iload_n 1, 1) := by decide +kernel
theorem dX3_longestShadow_29 : decode cX3_longestShadow 29 = .ok (.invokevirtual 53, 3) := by decide +kernel
theorem dX3_longestShadow_32 : decode cX3_longestShadow 32 = .ok (.if_icmp .le 5, 3) := by decide +kernel
theorem dX3_longestShadow_35 : decode cX3_longestShadow 35 = .ok (.iload_n 2, 1) := by decide +kernel
theorem dX3_longestShadow_36 : decode cX3_longestShadow 36 = .ok (.istore_n 1, 1) := by decide +kernel
theorem dX3_longestShadow_37 : decode cX3_longestShadow 37 = .ok (.iinc 2 1, 3) := by decide +kernel
theorem dX3_longestShadow_40 : decode cX3_longestShadow 40 = .ok (.goto (-31), 3) := by decide +kernel
theorem dX3_longestShadow_43 : decode cX3_longestShadow 43 = .ok (.iload_n 1, 1) := by decide +kernel
theorem dX3_longestShadow_44 : decode cX3_longestShadow 44 = .ok (.ireturn, 1) := by decide +kernel
theorem dX3_costOf_0 : decode cX3_costOf 0 = .ok (.aload_n 0, 1) := by decide +kernel
theorem dX3_costOf_1 : decode cX3_costOf 1 = .ok (.iconst 0, 1) := by decide +kernel
theorem dX3_costOf_2 : decode cX3_costOf 2 = .ok (.putfield 30, 3) := by decide +kernel
theorem dX3_costOf_5 : decode cX3_costOf 5 = .ok (.aload_n 0, 1) := by decide +kernel
theorem dX3_costOf_6 : decode cX3_costOf 6 = .ok (.iload_n 1, 1) := by decide +kernel
theorem dX3_costOf_7 : decode cX3_costOf 7 = .ok (.invokevirtual 98, 3) := by decide +kernel
theorem dX3_costOf_10 : decode cX3_costOf 10 = .ok (.ifCond .eq 11, 3) := by decide +kernel
theorem dX3_costOf_13 : decode cX3_costOf 13 = .ok (.aload_n 0, 1) := by decide +kernel
theorem dX3_costOf_14 : decode cX3_costOf 14 = .ok (.iload_n 1, 1) := by decide +kernel
theorem dX3_costOf_15 : decode cX3_costOf 15 = .ok (.invokevirtual 63, 3) := by decide +kernel
theorem dX3_costOf_18 : decode cX3_costOf 18 = .ok (.goto 8, 3) := by decide +kernel
theorem dX3_costOf_21 : decode cX3_costOf 21 = .ok (.aload_n 0, 1) := by decide +kernel
theorem dX3_costOf_22 : decode cX3_costOf 22 = .ok (.iconst 1, 1) := by decide +kernel
theorem dX3_costOf_23 : decode cX3_costOf 23 = .ok (.invokevirtual 95, 3) := by decide +kernel
theorem dX3_costOf_26 : decode cX3_costOf 26 = .ok (.ireturn, 1) := by decide +kernel
theorem dX3_ownPartOf_0 : decode cX3_ownPartOf 0 = .ok (.aload_n 0, 1) := by decide +kernel
theorem dX3_ownPartOf_1 : decode cX3_ownPartOf 1 = .ok (.iconst 0, 1) := by decide +kernel
theorem dX3_ownPartOf_2 : decode cX3_ownPartOf 2 = .ok (.putfield 30, 3) := by decide +kernel
theorem dX3_ownPartOf_5 : decode cX3_ownPartOf 5 = .ok (.aload_n 0, 1) := by decide +kernel
theorem dX3_ownPartOf_6 : decode cX3_ownPartOf 6 = .ok (.iload_n 1, 1) := by decide +kernel
theorem dX3_ownPartOf_7 : decode cX3_ownPartOf 7 = .ok (.invokevirtual 98, 3) := by decide +kernel
theorem dX3_ownPartOf_10 : decode cX3_ownPartOf 10 = .ok (.ifCond .eq 11, 3) := by decide +kernel
theorem dX3_ownPartOf_13 : decode cX3_ownPartOf 13 = .ok (.aload_n 0, 1) := by decide +kernel
theorem dX3_ownPartOf_14 : decode cX3_ownPartOf 14 = .ok (.iload_n 1, 1) := by decide +kernel
theorem dX3_ownPartOf_15 : decode cX3_ownPartOf 15 = .ok (.invokevirtual 73, 3) := by decide +kernel
theorem dX3_ownPartOf_18 : decode cX3_ownPartOf 18 = .ok (.goto 8, 3) := by decide +kernel
theorem dX3_ownPartOf_21 : decode cX3_ownPartOf 21 = .ok (.aload_n 0, 1) := by decide +kernel
theorem dX3_ownPartOf_22 : decode cX3_ownPartOf 22 = .ok (.iconst 1, 1) := by decide +kernel
theorem dX3_ownPartOf_23 : decode cX3_ownPartOf 23 = .ok (.invokevirtual 95, 3) := by decide +kernel
theorem dX3_ownPartOf_26 : decode cX3_ownPartOf 26 = .ok (.ireturn, 1) := by decide +kernel
theorem dX3_poolPartOf_0 : decode cX3_poolPartOf 0 = .ok (.aload_n 0, 1) := by decide +kernel
theorem dX3_poolPartOf_1 : decode cX3_poolPartOf 1 = .ok (.iconst 0, 1) := by decide +kernel
theorem dX3_poolPartOf_2 : decode cX3_poolPartOf 2 = .ok (.putfield 30, 3) := by decide +kernel
theorem dX3_poolPartOf_5 : decode cX3_poolPartOf 5 = .ok (.aload_n 0, 1) := by decide +kernel
theorem dX3_poolPartOf_6 : decode cX3_poolPartOf 6 = .ok (.iload_n 1, 1) := by decide +kernel
theorem dX3_poolPartOf_7 : decode cX3_poolPartOf 7 = .ok (.invokevirtual 98, 3) := by decide +kernel
theorem dX3_poolPartOf_10 : decode cX3_poolPartOf 10 = .ok (.ifCond .eq 11, 3) := by decide +kernel
theorem dX3_poolPartOf_13 : decode cX3_poolPartOf 13 = .ok (.aload_n 0, 1) := by decide +kernel
theorem dX3_poolPartOf_14 : decode cX3_poolPartOf 14 = .ok (.iload_n 1, 1) := by decide +kernel
theorem dX3_poolPartOf_15 : decode cX3_poolPartOf 15 = .ok (.invokevirtual 82, 3) := by decide +kernel
theorem dX3_poolPartOf_18 : decode cX3_poolPartOf 18 = .ok (.goto 8, 3) := by decide +kernel
theorem dX3_poolPartOf_21 : decode cX3_poolPartOf 21 = .ok (.aload_n 0, 1) := by decide +kernel
theorem dX3_poolPartOf_22 : decode cX3_poolPartOf 22 = .ok (.iconst 1, 1) := by decide +kernel
theorem dX3_poolPartOf_23 : decode cX3_poolPartOf 23 = .ok (.invokevirtual 95, 3) := by decide +kernel
theorem dX3_poolPartOf_26 : decode cX3_poolPartOf 26 = .ok (.ireturn, 1) := by decide +kernel
theorem dX3_reinsuredPartOf_0 : decode cX3_reinsuredPartOf 0 = .ok (.aload_n 0, 1) := by decide +kernel
theorem dX3_reinsuredPartOf_1 : decode cX3_reinsuredPartOf 1 = .ok (.iconst 0, 1) := by decide +kernel
theorem dX3_reinsuredPartOf_2 : decode cX3_reinsuredPartOf 2 = .ok (.putfield 30, 3) := by decide +kernel
theorem dX3_reinsuredPartOf_5 : decode cX3_reinsuredPartOf 5 = .ok (.aload_n 0, 1) := by decide +kernel
theorem dX3_reinsuredPartOf_6 : decode cX3_reinsuredPartOf 6 = .ok (.iload_n 1, 1) := by decide +kernel
theorem dX3_reinsuredPartOf_7 : decode cX3_reinsuredPartOf 7 = .ok (.invokevirtual 98, 3) := by decide +kernel
theorem dX3_reinsuredPartOf_10 : decode cX3_reinsuredPartOf 10 = .ok (.ifCond .eq 11, 3) := by decide +kernel
theorem dX3_reinsuredPartOf_13 : decode cX3_reinsuredPartOf 13 = .ok (.aload_n 0, 1) := by decide +kernel
theorem dX3_reinsuredPartOf_14 : decode cX3_reinsuredPartOf 14 = .ok (.iload_n 1, 1) := by decide +kernel
theorem dX3_reinsuredPartOf_15 : decode cX3_reinsuredPartOf 15 = .ok (.invokevirtual 76, 3) := by decide +kernel
theorem dX3_reinsuredPartOf_18 : decode cX3_reinsuredPartOf 18 = .ok (.goto 8, 3) := by decide +kernel
theorem dX3_reinsuredPartOf_21 : decode cX3_reinsuredPartOf 21 = .ok (.aload_n 0, 1) := by decide +kernel
theorem dX3_reinsuredPartOf_22 : decode cX3_reinsuredPartOf 22 = .ok (.iconst 1, 1) := by decide +kernel
theorem dX3_reinsuredPartOf_23 : decode cX3_reinsuredPartOf 23 = .ok (.invokevirtual 95, 3) := by decide +kernel
theorem dX3_reinsuredPartOf_26 : decode cX3_reinsuredPartOf 26 = .ok (.ireturn, 1) := by decide +kernel
theorem dX3_fund_0 : decode cX3_fund 0 = .ok (.aload_n 0, 1) := by decide +kernel
theorem dX3_fund_1 : decode cX3_fund 1 = .ok (.aload_n 0, 1) := by decide +kernel
theorem dX3_fund_2 : decode cX3_fund 2 = .ok (.getfield 24, 3) := by decide +kernel
theorem dX3_fund_5 : decode cX3_fund 5 = .ok (.iconst 1, 1) := by decide +kernel
theorem dX3_fund_6 : decode cX3_fund 6 = .ok (.iaload, 1) := by decide +kernel
theorem dX3_fund_7 : decode cX3_fund 7 = .ok (.invokevirtual 105, 3) := by decide +kernel
theorem dX3_fund_10 : decode cX3_fund 10 = .ok (.ireturn, 1) := by decide +kernel
theorem dX3_rate_0 : decode cX3_rate 0 = .ok (.aload_n 0, 1) := by decide +kernel
theorem dX3_rate_1 : decode cX3_rate 1 = .ok (.aload_n 0, 1) := by decide +kernel
theorem dX3_rate_2 : decode cX3_rate 2 = .ok (.getfield 24, 3) := by decide +kernel
theorem dX3_rate_5 : decode cX3_rate 5 = .ok (.iconst 2, 1) := by decide +kernel
theorem dX3_rate_6 : decode cX3_rate 6 = .ok (.iaload, 1) := by decide +kernel
theorem dX3_rate_7 : decode cX3_rate 7 = .ok (.invokevirtual 105, 3) := by decide +kernel
theorem dX3_rate_10 : decode cX3_rate 10 = .ok (.ireturn, 1) := by decide +kernel
theorem dX3_retention_0 : decode cX3_retention 0 = .ok (.aload_n 0, 1) := by decide +kernel
theorem dX3_retention_1 : decode cX3_retention 1 = .ok (.aload_n 0, 1) := by decide +kernel
theorem dX3_retention_2 : decode cX3_retention 2 = .ok (.getfield 9, 3) := by decide +kernel
theorem dX3_retention_5 : decode cX3_retention 5 = .ok (.invokevirtual 105, 3) := by decide +kernel
theorem dX3_retention_8 : decode cX3_retention 8 = .ok (.ireturn, 1) := by decide +kernel
theorem dX3_limit_0 : decode cX3_limit 0 = .ok (.aload_n 0, 1) := by decide +kernel
theorem dX3_limit_1 : decode cX3_limit 1 = .ok (.aload_n 0, 1) := by decide +kernel
theorem dX3_limit_2 : decode cX3_limit 2 = .ok (.getfield 24, 3) := by decide +kernel
theorem dX3_limit_5 : decode cX3_limit 5 = .ok (.iconst 3, 1) := by decide +kernel
theorem dX3_limit_6 : decode cX3_limit 6 = .ok (.iaload, 1) := by decide +kernel
theorem dX3_limit_7 : decode cX3_limit 7 = .ok (.invokevirtual 105, 3) := by decide +kernel
theorem dX3_limit_10 : decode cX3_limit 10 = .ok (.ireturn, 1) := by decide +kernel
theorem dX3_reinsurersLoss_0 : decode cX3_reinsurersLoss 0 = .ok (.aload_n 0, 1) := by decide +kernel
theorem dX3_reinsurersLoss_1 : decode cX3_reinsurersLoss 1 = .ok (.aload_n 0, 1) := by decide +kernel
theorem dX3_reinsurersLoss_2 : decode cX3_reinsurersLoss 2 = .ok (.getfield 24, 3) := by decide +kernel
theorem dX3_reinsurersLoss_5 : decode cX3_reinsurersLoss 5 = .ok (.iconst 4, 1) := by decide +kernel
theorem dX3_reinsurersLoss_6 : decode cX3_reinsurersLoss 6 = .ok (.iaload, 1) := by decide +kernel
theorem dX3_reinsurersLoss_7 : decode cX3_reinsurersLoss 7 = .ok (.invokevirtual 105, 3) := by decide +kernel
theorem dX3_reinsurersLoss_10 : decode cX3_reinsurersLoss 10 = .ok (.ireturn, 1) := by decide +kernel
theorem dX3_hoursUntilFall_0 : decode cX3_hoursUntilFall 0 = .ok (.aload_n 0, 1) := by decide +kernel
theorem dX3_hoursUntilFall_1 : decode cX3_hoursUntilFall 1 = .ok (.iconst 0, 1) := by decide +kernel
theorem dX3_hoursUntilFall_2 : decode cX3_hoursUntilFall 2 = .ok (.putfield 30, 3) := by decide +kernel
theorem dX3_hoursUntilFall_5 : decode cX3_hoursUntilFall 5 = .ok (.aload_n 0, 1) := by decide +kernel
theorem dX3_hoursUntilFall_6 : decode cX3_hoursUntilFall 6 = .ok (.iload_n 1, 1) := by decide +kernel
theorem dX3_hoursUntilFall_7 : decode cX3_hoursUntilFall 7 = .ok (.invokevirtual 98, 3) := by decide +kernel
theorem dX3_hoursUntilFall_10 : decode cX3_hoursUntilFall 10 = .ok (.ifCond .ne 9, 3) := by decide +kernel
theorem dX3_hoursUntilFall_13 : decode cX3_hoursUntilFall 13 = .ok (.aload_n 0, 1) := by decide +kernel
theorem dX3_hoursUntilFall_14 : decode cX3_hoursUntilFall 14 = .ok (.iconst 1, 1) := by decide +kernel
theorem dX3_hoursUntilFall_15 : decode cX3_hoursUntilFall 15 = .ok (.invokevirtual 95, 3) := by decide +kernel
theorem dX3_hoursUntilFall_18 : decode cX3_hoursUntilFall 18 = .ok (.ireturn, 1) := by decide +kernel
theorem dX3_hoursUntilFall_19 : decode cX3_hoursUntilFall 19 = .ok (.aload_n 0, 1) := by decide +kernel
theorem dX3_hoursUntilFall_20 : decode cX3_hoursUntilFall 20 = .ok (.invokevirtual 111, 3) := by decide +kernel
theorem dX3_hoursUntilFall_23 : decode cX3_hoursUntilFall 23 = .ok (.iconst (-1), 1) := by decide +kernel
theorem dX3_hoursUntilFall_24 : decode cX3_hoursUntilFall 24 = .ok (.istore_n 2, 1) := by decide +kernel
theorem dX3_hoursUntilFall_25 : decode cX3_hoursUntilFall 25 = .ok (.iconst 1, 1) := by decide +kernel
theorem dX3_hoursUntilFall_26 : decode cX3_hoursUntilFall 26 = .ok (.istore_n 3, 1) := by decide +kernel
theorem dX3_hoursUntilFall_27 : decode cX3_hoursUntilFall 27 = .ok (.iload_n 3, 1) := by decide +kernel
theorem dX3_hoursUntilFall_28 : decode cX3_hoursUntilFall 28 = .ok (.bipush 100, 2) := by decide +kernel
theorem dX3_hoursUntilFall_30 : decode cX3_hoursUntilFall 30 = .ok (.if_icmp .gt 42, 3) := by decide +kernel
theorem dX3_hoursUntilFall_33 : decode cX3_hoursUntilFall 33 = .ok (.iload_n 2, 1) := by decide +kernel
theorem dX3_hoursUntilFall_34 : decode cX3_hoursUntilFall 34 = .ok (.iconst (-1), 1) := by decide +kernel
theorem dX3_hoursUntilFall_35 : decode cX3_hoursUntilFall 35 = .ok (.if_icmp .ne 37, 3) := by decide +kernel
theorem dX3_hoursUntilFall_38 : decode cX3_hoursUntilFall 38 = .ok (.aload_n 0, 1) := by decide +kernel
theorem dX3_hoursUntilFall_39 : decode cX3_hoursUntilFall 39 = .ok (.invokevirtual 92, 3) := by decide +kernel
theorem dX3_hoursUntilFall_42 : decode cX3_hoursUntilFall 42 = .ok (.pop, 1) := by decide +kernel
theorem dX3_hoursUntilFall_43 : decode cX3_hoursUntilFall 43 = .ok (.aload_n 0, 1) := by decide +kernel
theorem dX3_hoursUntilFall_44 : decode cX3_hoursUntilFall 44 = .ok (.getfield 24, 3) := by decide +kernel
theorem dX3_hoursUntilFall_47 : decode cX3_hoursUntilFall 47 = .ok (.bipush 21, 2) := by decide +kernel
theorem dX3_hoursUntilFall_49 : decode cX3_hoursUntilFall 49 = .ok (.iload_n 1, 1) := by decide +kernel
theorem dX3_hoursUntilFall_50 : decode cX3_hoursUntilFall 50 = .ok (.iadd, 1) := by decide +kernel
theorem dX3_hoursUntilFall_51 : decode cX3_hoursUntilFall 51 = .ok (.iaload, 1) := by decide +kernel
theorem dX3_hoursUntilFall_52 : decode cX3_hoursUntilFall 52 = .ok (.aload_n 0, 1) := by decide +kernel
theorem dX3_hoursUntilFall_53 : decode cX3_hoursUntilFall 53 = .ok (.getfield 27, 3) := by decide +kernel
theorem dX3_hoursUntilFall_56 : decode cX3_hoursUntilFall 56 = .ok (.bipush 21, 2) := by decide +kernel
theorem dX3_hoursUntilFall_58 : decode cX3_hoursUntilFall 58 = .ok (.iload_n 1, 1) := by decide +kernel
theorem dX3_hoursUntilFall_59 : decode cX3_hoursUntilFall 59 = .ok (.iadd, 1) := by decide +kernel
theorem dX3_hoursUntilFall_60 : decode cX3_hoursUntilFall 60 = .ok (.iaload, 1) := by decide +kernel
theorem dX3_hoursUntilFall_61 : decode cX3_hoursUntilFall 61 = .ok (.if_icmp .le 5, 3) := by decide +kernel
theorem dX3_hoursUntilFall_64 : decode cX3_hoursUntilFall 64 = .ok (.iload_n 3, 1) := by decide +kernel
theorem dX3_hoursUntilFall_65 : decode cX3_hoursUntilFall 65 = .ok (.istore_n 2, 1) := by decide +kernel
theorem dX3_hoursUntilFall_66 : decode cX3_hoursUntilFall 66 = .ok (.iinc 3 1, 3) := by decide +kernel
theorem dX3_hoursUntilFall_69 : decode cX3_hoursUntilFall 69 = .ok (.goto (-42), 3) := by decide +kernel
theorem dX3_hoursUntilFall_72 : decode cX3_hoursUntilFall 72 = .ok (.aload_n 0, 1) := by decide +kernel
theorem dX3_hoursUntilFall_73 : decode cX3_hoursUntilFall 73 = .ok (.invokevirtual 114, 3) := by decide +kernel
theorem dX3_hoursUntilFall_76 : decode cX3_hoursUntilFall 76 = .ok (.iload_n 2, 1) := by decide +kernel
theorem dX3_hoursUntilFall_77 : decode cX3_hoursUntilFall 77 = .ok (.ireturn, 1) := by decide +kernel
theorem dX3_next_0 : decode cX3_next 0 = .ok (.aload_n 0, 1) := by decide +kernel
theorem dX3_next_1 : decode cX3_next 1 = .ok (.invokevirtual 111, 3) := by decide +kernel
theorem dX3_next_4 : decode cX3_next 4 = .ok (.iconst (-1), 1) := by decide +kernel
theorem dX3_next_5 : decode cX3_next 5 = .ok (.istore_n 1, 1) := by decide +kernel
theorem dX3_next_6 : decode cX3_next 6 = .ok (.iconst 0, 1) := by decide +kernel
theorem dX3_next_7 : decode cX3_next 7 = .ok (.istore_n 2, 1) := by decide +kernel
theorem dX3_next_8 : decode cX3_next 8 = .ok (.iload_n 2, 1) := by decide +kernel
theorem dX3_next_9 : decode cX3_next 9 = .ok (.bipush 100, 2) := by decide +kernel
theorem dX3_next_11 : decode cX3_next 11 = .ok (.if_icmp .ge 64, 3) := by decide +kernel
theorem dX3_next_14 : decode cX3_next 14 = .ok (.iload_n 1, 1) := by decide +kernel
theorem dX3_next_15 : decode cX3_next 15 = .ok (.iconst (-1), 1) := by decide +kernel
theorem dX3_next_16 : decode cX3_next 16 = .ok (.if_icmp .ne 59, 3) := by decide +kernel
theorem dX3_next_19 : decode cX3_next 19 = .ok (.aload_n 0, 1) := by decide +kernel
theorem dX3_next_20 : decode cX3_next 20 = .ok (.invokevirtual 92, 3) := by decide +kernel
theorem dX3_next_23 : decode cX3_next 23 = .ok (.ifCond .ne 6, 3) := by decide +kernel
theorem dX3_next_26 : decode cX3_next 26 = .ok (.goto 43, 3) := by decide +kernel
theorem dX3_next_29 : decode cX3_next 29 = .ok (.aload_n 0, 1) := by decide +kernel
theorem dX3_next_30 : decode cX3_next 30 = .ok (.getfield 33, 3) := by decide +kernel
theorem dX3_next_33 : decode cX3_next 33 = .ok (.iconst 1, 1) := by decide +kernel
theorem dX3_next_34 : decode cX3_next 34 = .ok (.isub, 1) := by decide +kernel
theorem dX3_next_35 : decode cX3_next 35 = .ok (.istore_n 3, 1) := by decide +kernel
theorem dX3_next_36 : decode cX3_next 36 = .ok (.iload_n 3, 1) := by decide +kernel
theorem dX3_next_37 : decode cX3_next 37 = .ok (.ifCond .lt 32, 3) := by decide +kernel
theorem dX3_next_40 : decode cX3_next 40 = .ok (.aload_n 0, 1) := by decide +kernel
theorem dX3_next_41 : decode cX3_next 41 = .ok (.getfield 24, 3) := by decide +kernel
theorem dX3_next_44 : decode cX3_next 44 = .ok (.bipush 21, 2) := by decide +kernel
theorem dX3_next_46 : decode cX3_next 46 = .ok (.iload_n 3, 1) := by decide +kernel
theorem dX3_next_47 : decode cX3_next 47 = .ok (.iadd, 1) := by decide +kernel
theorem dX3_next_48 : decode cX3_next 48 = .ok (.iaload, 1) := by decide +kernel
theorem dX3_next_49 : decode cX3_next 49 = .ok (.aload_n 0, 1) := by decide +kernel
theorem dX3_next_50 : decode cX3_next 50 = .ok (.getfield 27, 3) := by decide +kernel
theorem dX3_next_53 : decode cX3_next 53 = .ok (.bipush 21, 2) := by decide +kernel
theorem dX3_next_55 : decode cX3_next 55 = .ok (.iload_n 3, 1) := by decide +kernel
theorem dX3_next_56 : decode cX3_next 56 = .ok (.iadd, 1) := by decide +kernel
theorem dX3_next_57 : decode cX3_next 57 = .ok (.iaload, 1) := by decide +kernel
theorem dX3_next_58 : decode cX3_next 58 = .ok (.if_icmp .le 5, 3) := by decide +kernel
theorem dX3_next_61 : decode cX3_next 61 = .ok (.iload_n 3, 1) := by decide +kernel
theorem dX3_next_62 : decode cX3_next 62 = .ok (.istore_n 1, 1) := by decide +kernel
theorem dX3_next_63 : decode cX3_next 63 = .ok (.iinc 3 (-1), 3) := by decide +kernel
theorem dX3_next_66 : decode cX3_next 66 = .ok (.goto (-30), 3) := by decide +kernel
theorem dX3_next_69 : decode cX3_next 69 = .ok (.iinc 2 1, 3) := by decide +kernel
theorem dX3_next_72 : decode cX3_next 72 = .ok (.goto (-64), 3) := by decide +kernel
theorem dX3_next_75 : decode cX3_next 75 = .ok (.aload_n 0, 1) := by decide +kernel
theorem dX3_next_76 : decode cX3_next 76 = .ok (.invokevirtual 114, 3) := by decide +kernel
theorem dX3_next_79 : decode cX3_next 79 = .ok (.iload_n 1, 1) := by decide +kernel
theorem dX3_next_80 : decode cX3_next 80 = .ok (.ireturn, 1) := by decide +kernel
theorem dX3_nextToFall_0 : decode cX3_nextToFall 0 = .ok (.aload_n 0, 1) := by decide +kernel
theorem dX3_nextToFall_1 : decode cX3_nextToFall 1 = .ok (.aload_n 0, 1) := by decide +kernel
theorem dX3_nextToFall_2 : decode cX3_nextToFall 2 = .ok (.invokevirtual 117, 3) := by decide +kernel
theorem dX3_nextToFall_5 : decode cX3_nextToFall 5 = .ok (.invokevirtual 105, 3) := by decide +kernel
theorem dX3_nextToFall_8 : decode cX3_nextToFall 8 = .ok (.ireturn, 1) := by decide +kernel
theorem dX3_fundBehind_0 : decode cX3_fundBehind 0 = .ok (.aload_n 0, 1) := by decide +kernel
theorem dX3_fundBehind_1 : decode cX3_fundBehind 1 = .ok (.iload_n 1, 1) := by decide +kernel
theorem dX3_fundBehind_2 : decode cX3_fundBehind 2 = .ok (.invokevirtual 102, 3) := by decide +kernel
theorem dX3_fundBehind_5 : decode cX3_fundBehind 5 = .ok (.pop, 1) := by decide +kernel
theorem dX3_fundBehind_6 : decode cX3_fundBehind 6 = .ok (.aload_n 0, 1) := by decide +kernel
theorem dX3_fundBehind_7 : decode cX3_fundBehind 7 = .ok (.getfield 24, 3) := by decide +kernel
theorem dX3_fundBehind_10 : decode cX3_fundBehind 10 = .ok (.iconst 1, 1) := by decide +kernel
theorem dX3_fundBehind_11 : decode cX3_fundBehind 11 = .ok (.iaload, 1) := by decide +kernel
theorem dX3_fundBehind_12 : decode cX3_fundBehind 12 = .ok (.istore_n 2, 1) := by decide +kernel
theorem dX3_fundBehind_13 : decode cX3_fundBehind 13 = .ok (.aload_n 0, 1) := by decide +kernel
theorem dX3_fundBehind_14 : decode cX3_fundBehind 14 = .ok (.invokevirtual 114, 3) := by decide +kernel
theorem dX3_fundBehind_17 : decode cX3_fundBehind 17 = .ok (.iload_n 2, 1) := by decide +kernel
theorem dX3_fundBehind_18 : decode cX3_fundBehind 18 = .ok (.ireturn, 1) := by decide +kernel
theorem dX3_fundIn_0 : decode cX3_fundIn 0 = .ok (.aload_n 0, 1) := by decide +kernel
theorem dX3_fundIn_1 : decode cX3_fundIn 1 = .ok (.iconst 0, 1) := by decide +kernel
theorem dX3_fundIn_2 : decode cX3_fundIn 2 = .ok (.putfield 30, 3) := by decide +kernel
theorem dX3_fundIn_5 : decode cX3_fundIn 5 = .ok (.iload_n 1, 1) := by decide +kernel
theorem dX3_fundIn_6 : decode cX3_fundIn 6 = .ok (.iconst 1, 1) := by decide +kernel
theorem dX3_fundIn_7 : decode cX3_fundIn 7 = .ok (.bipush 60, 2) := by decide +kernel
theorem dX3_fundIn_9 : decode cX3_fundIn 9 = .ok (.invokestatic 36, 3) := by decide +kernel
theorem dX3_fundIn_12 : decode cX3_fundIn 12 = .ok (.ifCond .ne 9, 3) := by decide +kernel
theorem dX3_fundIn_15 : decode cX3_fundIn 15 = .ok (.aload_n 0, 1) := by decide +kernel
theorem dX3_fundIn_16 : decode cX3_fundIn 16 = .ok (.iconst 1, 1) := by decide +kernel
theorem dX3_fundIn_17 : decode cX3_fundIn 17 = .ok (.invokevirtual 95, 3) := by decide +kernel
theorem dX3_fundIn_20 : decode cX3_fundIn 20 = .ok (.ireturn, 1) := by decide +kernel
theorem dX3_fundIn_21 : decode cX3_fundIn 21 = .ok (.aload_n 0, 1) := by decide +kernel
theorem dX3_fundIn_22 : decode cX3_fundIn 22 = .ok (.invokevirtual 111, 3) := by decide +kernel
theorem dX3_fundIn_25 : decode cX3_fundIn 25 = .ok (.aload_n 0, 1) := by decide +kernel
theorem dX3_fundIn_26 : decode cX3_fundIn 26 = .ok (.iload_n 1, 1) := by decide +kernel
theorem dX3_fundIn_27 : decode cX3_fundIn 27 = .ok (.invokevirtual 120, 3) := by decide +kernel
theorem dX3_fundIn_30 : decode cX3_fundIn 30 = .ok (.ireturn, 1) := by decide +kernel
theorem dX3_hoursUntilRuin_0 : decode cX3_hoursUntilRuin 0 = .ok (.aload_n 0, 1) := by decide +kernel
theorem dX3_hoursUntilRuin_1 : decode cX3_hoursUntilRuin 1 = .ok (.iconst 0, 1) := by decide +kernel
theorem dX3_hoursUntilRuin_2 : decode cX3_hoursUntilRuin 2 = .ok (.putfield 30, 3) := by decide +kernel
theorem dX3_hoursUntilRuin_5 : decode cX3_hoursUntilRuin 5 = .ok (.aload_n 0, 1) := by decide +kernel
theorem dX3_hoursUntilRuin_6 : decode cX3_hoursUntilRuin 6 = .ok (.invokevirtual 111, 3) := by decide +kernel
theorem dX3_hoursUntilRuin_9 : decode cX3_hoursUntilRuin 9 = .ok (.iconst 0, 1) := by decide +kernel
theorem dX3_hoursUntilRuin_10 : decode cX3_hoursUntilRuin 10 = .ok (.istore_n 1, 1) := by decide +kernel
theorem dX3_hoursUntilRuin_11 : decode cX3_hoursUntilRuin 11 = .ok (.iload_n 1, 1) := by decide +kernel
theorem dX3_hoursUntilRuin_12 : decode cX3_hoursUntilRuin 12 = .ok (.bipush 100, 2) := by decide +kernel
theorem dX3_hoursUntilRuin_14 : decode cX3_hoursUntilRuin 14 = .ok (.if_icmp .gt 23, 3) := by decide +kernel
theorem dX3_hoursUntilRuin_17 : decode cX3_hoursUntilRuin 17 = .ok (.aload_n 0, 1) := by decide +kernel
theorem dX3_hoursUntilRuin_18 : decode cX3_hoursUntilRuin 18 = .ok (.getfield 24, 3) := by decide +kernel
theorem dX3_hoursUntilRuin_21 : decode cX3_hoursUntilRuin 21 = .ok (.iconst 1, 1) := by decide +kernel
theorem dX3_hoursUntilRuin_22 : decode cX3_hoursUntilRuin 22 = .ok (.iaload, 1) := by decide +kernel
theorem dX3_hoursUntilRuin_23 : decode cX3_hoursUntilRuin 23 = .ok (.ifCond .lt 14, 3) := by decide +kernel
theorem dX3_hoursUntilRuin_26 : decode cX3_hoursUntilRuin 26 = .ok (.aload_n 0, 1) := by decide +kernel
theorem dX3_hoursUntilRuin_27 : decode cX3_hoursUntilRuin 27 = .ok (.invokevirtual 92, 3) := by decide +kernel
theorem dX3_hoursUntilRuin_30 : decode cX3_hoursUntilRuin 30 = .ok (.pop, 1) := by decide +kernel
theorem dX3_hoursUntilRuin_31 : decode cX3_hoursUntilRuin 31 = .ok (.iinc 1 1, 3) := by decide +kernel
theorem dX3_hoursUntilRuin_34 : decode cX3_hoursUntilRuin 34 = .ok (.goto (-23), 3) := by decide +kernel
theorem dX3_hoursUntilRuin_37 : decode cX3_hoursUntilRuin 37 = .ok (.aload_n 0, 1) := by decide +kernel
theorem dX3_hoursUntilRuin_38 : decode cX3_hoursUntilRuin 38 = .ok (.invokevirtual 114, 3) := by decide +kernel
theorem dX3_hoursUntilRuin_41 : decode cX3_hoursUntilRuin 41 = .ok (.iload_n 1, 1) := by decide +kernel
theorem dX3_hoursUntilRuin_42 : decode cX3_hoursUntilRuin 42 = .ok (.bipush 100, 2) := by decide +kernel
theorem dX3_hoursUntilRuin_44 : decode cX3_hoursUntilRuin 44 = .ok (.if_icmp .le 7, 3) := by decide +kernel
theorem dX3_hoursUntilRuin_47 : decode cX3_hoursUntilRuin 47 = .ok (.iconst (-1), 1) := by decide +kernel
theorem dX3_hoursUntilRuin_48 : decode cX3_hoursUntilRuin 48 = .ok (.goto 4, 3) := by decide +kernel
theorem dX3_hoursUntilRuin_51 : decode cX3_hoursUntilRuin 51 = .ok (.iload_n 1, 1) := by decide +kernel
theorem dX3_hoursUntilRuin_52 : decode cX3_hoursUntilRuin 52 = .ok (.ireturn, 1) := by decide +kernel
theorem dX3_best_0 : decode cX3_best 0 = .ok (.aload_n 0, 1) := by decide +kernel
theorem dX3_best_1 : decode cX3_best 1 = .ok (.invokevirtual 111, 3) := by decide +kernel
theorem dX3_best_4 : decode cX3_best 4 = .ok (.iconst 0, 1) := by decide +kernel
theorem dX3_best_5 : decode cX3_best 5 = .ok (.istore_n 1, 1) := by decide +kernel
theorem dX3_best_6 : decode cX3_best 6 = .ok (.iconst 0, 1) := by decide +kernel
theorem dX3_best_7 : decode cX3_best 7 = .ok (.istore_n 2, 1) := by decide +kernel
theorem dX3_best_8 : decode cX3_best 8 = .ok (.iconst 0, 1) := by decide +kernel
theorem dX3_best_9 : decode cX3_best 9 = .ok (.istore_n 3, 1) := by decide +kernel
theorem dX3_best_10 : decode cX3_best 10 = .ok (.iload_n 3, 1) := by decide +kernel
theorem dX3_best_11 : decode cX3_best 11 = .ok (.bipush 100, 2) := by decide +kernel
theorem dX3_best_13 : decode cX3_best 13 = .ok (.if_icmp .gt 42, 3) := by decide +kernel
theorem dX3_best_16 : decode cX3_best 16 = .ok (.aload_n 0, 1) := by decide +kernel
theorem dX3_best_17 : decode cX3_best 17 = .ok (.getfield 24, 3) := by decide +kernel
theorem dX3_best_20 : decode cX3_best 20 = .ok (.iconst 3, 1) := by decide +kernel
theorem dX3_best_21 : decode cX3_best 21 = .ok (.iload_n 3, 1) := by decide +kernel
theorem dX3_best_22 : decode cX3_best 22 = .ok (.iastore, 1) := by decide +kernel
theorem dX3_best_23 : decode cX3_best 23 = .ok (.aload_n 0, 1) := by decide +kernel
theorem dX3_best_24 : decode cX3_best 24 = .ok (.bipush 48, 2) := by decide +kernel
theorem dX3_best_26 : decode cX3_best 26 = .ok (.invokevirtual 120, 3) := by decide +kernel
theorem dX3_best_29 : decode cX3_best 29 = .ok (.istore 4, 2) := by decide +kernel
theorem dX3_best_31 : decode cX3_best 31 = .ok (.iload_n 3, 1) := by decide +kernel
theorem dX3_best_32 : decode cX3_best 32 = .ok (.ifCond .le 12, 3) := by decide +kernel
theorem dX3_best_35 : decode cX3_best 35 = .ok (.iload 4, 2) := by decide +kernel
theorem dX3_best_37 : decode cX3_best 37 = .ok (.iload_n 2, 1) := by decide +kernel
theorem dX3_best_38 : decode cX3_best 38 = .ok (.if_icmp .gt 6, 3) := by decide +kernel
theorem dX3_best_41 : decode cX3_best 41 = .ok (.goto 8, 3) := by decide +kernel
theorem dX3_best_44 : decode cX3_best 44 = .ok (.iload_n 3, 1) := by decide +kernel
theorem dX3_best_45 : decode cX3_best 45 = .ok (.istore_n 1, 1) := by decide +kernel
theorem dX3_best_46 : decode cX3_best 46 = .ok (.iload 4, 2) := by decide +kernel
theorem dX3_best_48 : decode cX3_best 48 = .ok (.istore_n 2, 1) := by decide +kernel
theorem dX3_best_49 : decode cX3_best 49 = .ok (.iinc 3 20, 3) := by decide +kernel
theorem dX3_best_52 : decode cX3_best 52 = .ok (.goto (-42), 3) := by decide +kernel
theorem dX3_best_55 : decode cX3_best 55 = .ok (.iload_n 1, 1) := by decide +kernel
theorem dX3_best_56 : decode cX3_best 56 = .ok (.ireturn, 1) := by decide +kernel
theorem dX3_bestLimit_0 : decode cX3_bestLimit 0 = .ok (.aload_n 0, 1) := by decide +kernel
theorem dX3_bestLimit_1 : decode cX3_bestLimit 1 = .ok (.aload_n 0, 1) := by decide +kernel
theorem dX3_bestLimit_2 : decode cX3_bestLimit 2 = .ok (.invokevirtual 123, 3) := by decide +kernel
theorem dX3_bestLimit_5 : decode cX3_bestLimit 5 = .ok (.invokevirtual 105, 3) := by decide +kernel
theorem dX3_bestLimit_8 : decode cX3_bestLimit 8 = .ok (.ireturn, 1) := by decide +kernel
theorem dX3_fair_0 : decode cX3_fair 0 = .ok (.aload_n 0, 1) := by decide +kernel
theorem dX3_fair_1 : decode cX3_fair 1 = .ok (.invokevirtual 111, 3) := by decide +kernel
theorem dX3_fair_4 : decode cX3_fair 4 = .ok (.iconst 0, 1) := by decide +kernel
theorem dX3_fair_5 : decode cX3_fair 5 = .ok (.istore_n 1, 1) := by decide +kernel
theorem dX3_fair_6 : decode cX3_fair 6 = .ok (.iload_n 1, 1) := by decide +kernel
theorem dX3_fair_7 : decode cX3_fair 7 = .ok (.bipush 10, 2) := by decide +kernel
theorem dX3_fair_9 : decode cX3_fair 9 = .ok (.if_icmp .ge 33, 3) := by decide +kernel
theorem dX3_fair_12 : decode cX3_fair 12 = .ok (.aload_n 0, 1) := by decide +kernel
theorem dX3_fair_13 : decode cX3_fair 13 = .ok (.getfield 24, 3) := by decide +kernel
theorem dX3_fair_16 : decode cX3_fair 16 = .ok (.iconst 2, 1) := by decide +kernel
theorem dX3_fair_17 : decode cX3_fair 17 = .ok (.iload_n 1, 1) := by decide +kernel
theorem dX3_fair_18 : decode cX3_fair 18 = .ok (.iastore, 1) := by decide +kernel
theorem dX3_fair_19 : decode cX3_fair 19 = .ok (.aload_n 0, 1) := by decide +kernel
theorem dX3_fair_20 : decode cX3_fair 20 = .ok (.bipush 48, 2) := by decide +kernel
theorem dX3_fair_22 : decode cX3_fair 22 = .ok (.invokevirtual 120, 3) := by decide +kernel
theorem dX3_fair_25 : decode cX3_fair 25 = .ok (.aload_n 0, 1) := by decide +kernel
theorem dX3_fair_26 : decode cX3_fair 26 = .ok (.getfield 27, 3) := by decide +kernel
theorem dX3_fair_29 : decode cX3_fair 29 = .ok (.iconst 1, 1) := by decide +kernel
theorem dX3_fair_30 : decode cX3_fair 30 = .ok (.iaload, 1) := by decide +kernel
theorem dX3_fair_31 : decode cX3_fair 31 = .ok (.if_icmp .lt 5, 3) := by decide +kernel
theorem dX3_fair_34 : decode cX3_fair 34 = .ok (.iload_n 1, 1) := by decide +kernel
theorem dX3_fair_35 : decode cX3_fair 35 = .ok (.ireturn, 1) := by decide +kernel
theorem dX3_fair_36 : decode cX3_fair 36 = .ok (.iinc 1 1, 3) := by decide +kernel
theorem dX3_fair_39 : decode cX3_fair 39 = .ok (.goto (-33), 3) := by decide +kernel
theorem dX3_fair_42 : decode cX3_fair 42 = .ok (.iconst (-1), 1) := by decide +kernel
theorem dX3_fair_43 : decode cX3_fair 43 = .ok (.ireturn, 1) := by decide +kernel
theorem dX3_fairRate_0 : decode cX3_fairRate 0 = .ok (.aload_n 0, 1) := by decide +kernel
theorem dX3_fairRate_1 : decode cX3_fairRate 1 = .ok (.aload_n 0, 1) := by decide +kernel
theorem dX3_fairRate_2 : decode cX3_fairRate 2 = .ok (.invokevirtual 126, 3) := by decide +kernel
theorem dX3_fairRate_5 : decode cX3_fairRate 5 = .ok (.invokevirtual 105, 3) := by decide +kernel
theorem dX3_fairRate_8 : decode cX3_fairRate 8 = .ok (.ireturn, 1) := by decide +kernel
theorem dX3_meanShadow_0 : decode cX3_meanShadow 0 = .ok (.aload_n 0, 1) := by decide +kernel
theorem dX3_meanShadow_1 : decode cX3_meanShadow 1 = .ok (.iconst 0, 1) := by decide +kernel
theorem dX3_meanShadow_2 : decode cX3_meanShadow 2 = .ok (.putfield 30, 3) := by decide +kernel
theorem dX3_meanShadow_5 : decode cX3_meanShadow 5 = .ok (.iconst 0, 1) := by decide +kernel
theorem dX3_meanShadow_6 : decode cX3_meanShadow 6 = .ok (.istore_n 1, 1) := by decide +kernel
theorem dX3_meanShadow_7 : decode cX3_meanShadow 7 = .ok (.iconst 0, 1) := by decide +kernel
theorem dX3_meanShadow_8 : decode cX3_meanShadow 8 = .ok (.istore_n 2, 1) := by decide +kernel
theorem dX3_meanShadow_9 : decode cX3_meanShadow 9 = .ok (.iload_n 2, 1) := by decide +kernel
theorem dX3_meanShadow_10 : decode cX3_meanShadow 10 = .ok (.aload_n 0, 1) := by decide +kernel
theorem dX3_meanShadow_11 : decode cX3_meanShadow 11 = .ok (.getfield 33, 3) := by decide +kernel
theorem dX3_meanShadow_14 : decode cX3_meanShadow 14 = .ok (.if_icmp .ge 17, 3) := by decide +kernel
theorem dX3_meanShadow_17 : decode cX3_meanShadow 17 = .ok (.iload_n 1, 1) := by decide +kernel
theorem dX3_meanShadow_18 : decode cX3_meanShadow 18 = .ok (.aload_n 0, 1) := by decide +kernel
theorem dX3_meanShadow_19 : decode cX3_meanShadow 19 = .ok (.iload_n 2, 1) := by decide +kernel
theorem dX3_meanShadow_20 : decode cX3_meanShadow 20 = .ok (.invokevirtual 53, 3) := by decide +kernel
theorem dX3_meanShadow_23 : decode cX3_meanShadow 23 = .ok (.iadd, 1) := by decide +kernel
theorem dX3_meanShadow_24 : decode cX3_meanShadow 24 = .ok (.istore_n 1, 1) := by decide +kernel
theorem dX3_meanShadow_25 : decode cX3_meanShadow 25 = .ok (.iinc 2 1, 3) := by decide +kernel
theorem dX3_meanShadow_28 : decode cX3_meanShadow 28 = .ok (.goto (-19), 3) := by decide +kernel
theorem dX3_meanShadow_31 : decode cX3_meanShadow 31 = .ok (.aload_n 0, 1) := by decide +kernel
theorem dX3_meanShadow_32 : decode cX3_meanShadow 32 = .ok (.getfield 33, 3) := by decide +kernel
theorem dX3_meanShadow_35 : decode cX3_meanShadow 35 = .ok (.ifCond .ne 7, 3) := by decide +kernel
theorem dX3_meanShadow_38 : decode cX3_meanShadow 38 = .ok (.dconst 0, 1) := by decide +kernel
theorem dX3_meanShadow_39 : decode cX3_meanShadow 39 = .ok (.goto 11, 3) := by decide +kernel
theorem dX3_meanShadow_42 : decode cX3_meanShadow 42 = .ok (.iload_n 1, 1) := by decide +kernel
theorem dX3_meanShadow_43 : decode cX3_meanShadow 43 = .ok (.i2d, 1) := by decide +kernel
theorem dX3_meanShadow_44 : decode cX3_meanShadow 44 = .ok (.aload_n 0, 1) := by decide +kernel
theorem dX3_meanShadow_45 : decode cX3_meanShadow 45 = .ok (.getfield 33, 3) := by decide +kernel
theorem dX3_meanShadow_48 : decode cX3_meanShadow 48 = .ok (.i2d, 1) := by decide +kernel
theorem dX3_meanShadow_49 : decode cX3_meanShadow 49 = .ok (.ddiv, 1) := by decide +kernel
theorem dX3_meanShadow_50 : decode cX3_meanShadow 50 = .ok (.dreturn, 1) := by decide +kernel
theorem dX3_digest_0 : decode cX3_digest 0 = .ok (.aload_n 0, 1) := by decide +kernel
theorem dX3_digest_1 : decode cX3_digest 1 = .ok (.iconst 0, 1) := by decide +kernel
theorem dX3_digest_2 : decode cX3_digest 2 = .ok (.putfield 30, 3) := by decide +kernel
theorem dX3_digest_5 : decode cX3_digest 5 = .ok (.bipush 12, 2) := by decide +kernel
theorem dX3_digest_7 : decode cX3_digest 7 = .ok (.newarray .int, 2) := by decide +kernel
theorem dX3_digest_9 : decode cX3_digest 9 = .ok (.dup, 1) := by decide +kernel
theorem dX3_digest_10 : decode cX3_digest 10 = .ok (.iconst 0, 1) := by decide +kernel
theorem dX3_digest_11 : decode cX3_digest 11 = .ok (.aload_n 0, 1) := by decide +kernel
theorem dX3_digest_12 : decode cX3_digest 12 = .ok (.getfield 24, 3) := by decide +kernel
theorem dX3_digest_15 : decode cX3_digest 15 = .ok (.iconst 0, 1) := by decide +kernel
theorem dX3_digest_16 : decode cX3_digest 16 = .ok (.iaload, 1) := by decide +kernel
theorem dX3_digest_17 : decode cX3_digest 17 = .ok (.iastore, 1) := by decide +kernel
theorem dX3_digest_18 : decode cX3_digest 18 = .ok (.dup, 1) := by decide +kernel
theorem dX3_digest_19 : decode cX3_digest 19 = .ok (.iconst 1, 1) := by decide +kernel
theorem dX3_digest_20 : decode cX3_digest 20 = .ok (.aload_n 0, 1) := by decide +kernel
theorem dX3_digest_21 : decode cX3_digest 21 = .ok (.invokevirtual 49, 3) := by decide +kernel
theorem dX3_digest_24 : decode cX3_digest 24 = .ok (.iastore, 1) := by decide +kernel
theorem dX3_digest_25 : decode cX3_digest 25 = .ok (.dup, 1) := by decide +kernel
theorem dX3_digest_26 : decode cX3_digest 26 = .ok (.iconst 2, 1) := by decide +kernel
theorem dX3_digest_27 : decode cX3_digest 27 = .ok (.aload_n 0, 1) := by decide +kernel
theorem dX3_digest_28 : decode cX3_digest 28 = .ok (.getfield 33, 3) := by decide +kernel
theorem dX3_digest_31 : decode cX3_digest 31 = .ok (.iastore, 1) := by decide +kernel
theorem dX3_digest_32 : decode cX3_digest 32 = .ok (.dup, 1) := by decide +kernel
theorem dX3_digest_33 : decode cX3_digest 33 = .ok (.iconst 3, 1) := by decide +kernel
theorem dX3_digest_34 : decode cX3_digest 34 = .ok (.aload_n 0, 1) := by decide +kernel
theorem dX3_digest_35 : decode cX3_digest 35 = .ok (.invokevirtual 79, 3) := by decide +kernel
theorem dX3_digest_38 : decode cX3_digest 38 = .ok (.iastore, 1) := by decide +kernel
theorem dX3_digest_39 : decode cX3_digest 39 = .ok (.dup, 1) := by decide +kernel
theorem dX3_digest_40 : decode cX3_digest 40 = .ok (.iconst 4, 1) := by decide +kernel
theorem dX3_digest_41 : decode cX3_digest 41 = .ok (.aload_n 0, 1) := by decide +kernel
theorem dX3_digest_42 : decode cX3_digest 42 = .ok (.getfield 24, 3) := by decide +kernel
theorem dX3_digest_45 : decode cX3_digest 45 = .ok (.iconst 1, 1) := by decide +kernel
theorem dX3_digest_46 : decode cX3_digest 46 = .ok (.iaload, 1) := by decide +kernel
theorem dX3_digest_47 : decode cX3_digest 47 = .ok (.iastore, 1) := by decide +kernel
theorem dX3_digest_48 : decode cX3_digest 48 = .ok (.dup, 1) := by decide +kernel
theorem dX3_digest_49 : decode cX3_digest 49 = .ok (.iconst 5, 1) := by decide +kernel
theorem dX3_digest_50 : decode cX3_digest 50 = .ok (.aload_n 0, 1) := by decide +kernel
theorem dX3_digest_51 : decode cX3_digest 51 = .ok (.getfield 24, 3) := by decide +kernel
theorem dX3_digest_54 : decode cX3_digest 54 = .ok (.iconst 2, 1) := by decide +kernel
theorem dX3_digest_55 : decode cX3_digest 55 = .ok (.iaload, 1) := by decide +kernel
theorem dX3_digest_56 : decode cX3_digest 56 = .ok (.iastore, 1) := by decide +kernel
theorem dX3_digest_57 : decode cX3_digest 57 = .ok (.dup, 1) := by decide +kernel
theorem dX3_digest_58 : decode cX3_digest 58 = .ok (.bipush 6, 2) := by decide +kernel
theorem dX3_digest_60 : decode cX3_digest 60 = .ok (.aload_n 0, 1) := by decide +kernel
theorem dX3_digest_61 : decode cX3_digest 61 = .ok (.getfield 9, 3) := by decide +kernel
theorem dX3_digest_64 : decode cX3_digest 64 = .ok (.iastore, 1) := by decide +kernel
theorem dX3_digest_65 : decode cX3_digest 65 = .ok (.dup, 1) := by decide +kernel
theorem dX3_digest_66 : decode cX3_digest 66 = .ok (.bipush 7, 2) := by decide +kernel
theorem dX3_digest_68 : decode cX3_digest 68 = .ok (.aload_n 0, 1) := by decide +kernel
theorem dX3_digest_69 : decode cX3_digest 69 = .ok (.getfield 24, 3) := by decide +kernel
theorem dX3_digest_72 : decode cX3_digest 72 = .ok (.iconst 3, 1) := by decide +kernel
theorem dX3_digest_73 : decode cX3_digest 73 = .ok (.iaload, 1) := by decide +kernel
theorem dX3_digest_74 : decode cX3_digest 74 = .ok (.iastore, 1) := by decide +kernel
theorem dX3_digest_75 : decode cX3_digest 75 = .ok (.dup, 1) := by decide +kernel
theorem dX3_digest_76 : decode cX3_digest 76 = .ok (.bipush 8, 2) := by decide +kernel
theorem dX3_digest_78 : decode cX3_digest 78 = .ok (.aload_n 0, 1) := by decide +kernel
theorem dX3_digest_79 : decode cX3_digest 79 = .ok (.getfield 24, 3) := by decide +kernel
theorem dX3_digest_82 : decode cX3_digest 82 = .ok (.iconst 4, 1) := by decide +kernel
theorem dX3_digest_83 : decode cX3_digest 83 = .ok (.iaload, 1) := by decide +kernel
theorem dX3_digest_84 : decode cX3_digest 84 = .ok (.iastore, 1) := by decide +kernel
theorem dX3_digest_85 : decode cX3_digest 85 = .ok (.dup, 1) := by decide +kernel
theorem dX3_digest_86 : decode cX3_digest 86 = .ok (.bipush 9, 2) := by decide +kernel
theorem dX3_digest_88 : decode cX3_digest 88 = .ok (.aload_n 0, 1) := by decide +kernel
theorem dX3_digest_89 : decode cX3_digest 89 = .ok (.invokevirtual 117, 3) := by decide +kernel
theorem dX3_digest_92 : decode cX3_digest 92 = .ok (.iastore, 1) := by decide +kernel
theorem dX3_digest_93 : decode cX3_digest 93 = .ok (.dup, 1) := by decide +kernel
theorem dX3_digest_94 : decode cX3_digest 94 = .ok (.bipush 10, 2) := by decide +kernel
theorem dX3_digest_96 : decode cX3_digest 96 = .ok (.aload_n 0, 1) := by decide +kernel
theorem dX3_digest_97 : decode cX3_digest 97 = .ok (.invokevirtual 123, 3) := by decide +kernel
theorem dX3_digest_100 : decode cX3_digest 100 = .ok (.iastore, 1) := by decide +kernel
theorem dX3_digest_101 : decode cX3_digest 101 = .ok (.dup, 1) := by decide +kernel
theorem dX3_digest_102 : decode cX3_digest 102 = .ok (.bipush 11, 2) := by decide +kernel
theorem dX3_digest_104 : decode cX3_digest 104 = .ok (.aload_n 0, 1) := by decide +kernel
theorem dX3_digest_105 : decode cX3_digest 105 = .ok (.invokevirtual 126, 3) := by decide +kernel
theorem dX3_digest_108 : decode cX3_digest 108 = .ok (.iastore, 1) := by decide +kernel
theorem dX3_digest_109 : decode cX3_digest 109 = .ok (.astore_n 1, 1) := by decide +kernel
theorem dX3_digest_110 : decode cX3_digest 110 = .ok (.ldc2_w 129, 3) := by decide +kernel
theorem dX3_digest_113 : decode cX3_digest 113 = .ok (.lstore_n 2, 1) := by decide +kernel
theorem dX3_digest_114 : decode cX3_digest 114 = .ok (.aload_n 1, 1) := by decide +kernel
theorem dX3_digest_115 : decode cX3_digest 115 = .ok (.astore 4, 2) := by decide +kernel
theorem dX3_digest_117 : decode cX3_digest 117 = .ok (.aload 4, 2) := by decide +kernel
theorem dX3_digest_119 : decode cX3_digest 119 = .ok (.arraylength, 1) := by decide +kernel
theorem dX3_digest_120 : decode cX3_digest 120 = .ok (.istore 5, 2) := by decide +kernel
theorem dX3_digest_122 : decode cX3_digest 122 = .ok (.iconst 0, 1) := by decide +kernel
theorem dX3_digest_123 : decode cX3_digest 123 = .ok (.istore 6, 2) := by decide +kernel
theorem dX3_digest_125 : decode cX3_digest 125 = .ok (.iload 6, 2) := by decide +kernel
theorem dX3_digest_127 : decode cX3_digest 127 = .ok (.iload 5, 2) := by decide +kernel
theorem dX3_digest_129 : decode cX3_digest 129 = .ok (.if_icmp .ge 26, 3) := by decide +kernel
theorem dX3_digest_132 : decode cX3_digest 132 = .ok (.aload 4, 2) := by decide +kernel
theorem dX3_digest_134 : decode cX3_digest 134 = .ok (.iload 6, 2) := by decide +kernel
theorem dX3_digest_136 : decode cX3_digest 136 = .ok (.iaload, 1) := by decide +kernel
theorem dX3_digest_137 : decode cX3_digest 137 = .ok (.istore 7, 2) := by decide +kernel
theorem dX3_digest_139 : decode cX3_digest 139 = .ok (.lload_n 2, 1) := by decide +kernel
theorem dX3_digest_140 : decode cX3_digest 140 = .ok (.ldc2_w 131, 3) := by decide +kernel
theorem dX3_digest_143 : decode cX3_digest 143 = .ok (.lmul, 1) := by decide +kernel
theorem dX3_digest_144 : decode cX3_digest 144 = .ok (.iload 7, 2) := by decide +kernel
theorem dX3_digest_146 : decode cX3_digest 146 = .ok (.i2l, 1) := by decide +kernel
theorem dX3_digest_147 : decode cX3_digest 147 = .ok (.ladd, 1) := by decide +kernel
theorem dX3_digest_148 : decode cX3_digest 148 = .ok (.lstore_n 2, 1) := by decide +kernel
theorem dX3_digest_149 : decode cX3_digest 149 = .ok (.iinc 6 1, 3) := by decide +kernel
theorem dX3_digest_152 : decode cX3_digest 152 = .ok (.goto (-27), 3) := by decide +kernel
theorem dX3_digest_155 : decode cX3_digest 155 = .ok (.iconst 0, 1) := by decide +kernel
theorem dX3_digest_156 : decode cX3_digest 156 = .ok (.istore 4, 2) := by decide +kernel
theorem dX3_digest_158 : decode cX3_digest 158 = .ok (.iload 4, 2) := by decide +kernel
theorem dX3_digest_160 : decode cX3_digest 160 = .ok (.aload_n 0, 1) := by decide +kernel
theorem dX3_digest_161 : decode cX3_digest 161 = .ok (.getfield 33, 3) := by decide +kernel
theorem dX3_digest_164 : decode cX3_digest 164 = .ok (.if_icmp .ge 151, 3) := by decide +kernel
theorem dX3_digest_167 : decode cX3_digest 167 = .ok (.bipush 8, 2) := by decide +kernel
theorem dX3_digest_169 : decode cX3_digest 169 = .ok (.newarray .int, 2) := by decide +kernel
theorem dX3_digest_171 : decode cX3_digest 171 = .ok (.dup, 1) := by decide +kernel
theorem dX3_digest_172 : decode cX3_digest 172 = .ok (.iconst 0, 1) := by decide +kernel
theorem dX3_digest_173 : decode cX3_digest 173 = .ok (.aload_n 0, 1) := by decide +kernel
theorem dX3_digest_174 : decode cX3_digest 174 = .ok (.getfield 20, 3) := by decide +kernel
theorem dX3_digest_177 : decode cX3_digest 177 = .ok (.iload 4, 2) := by decide +kernel
theorem dX3_digest_179 : decode cX3_digest 179 = .ok (.baload, 1) := by decide +kernel
theorem dX3_digest_180 : decode cX3_digest 180 = .ok (.ifCond .eq 7, 3) := by decide +kernel
theorem dX3_digest_183 : decode cX3_digest 183 = .ok (.iconst 1, 1) := by decide +kernel
theorem dX3_digest_184 : decode cX3_digest 184 = .ok (.goto 4, 3) := by decide +kernel
theorem dX3_digest_187 : decode cX3_digest 187 = .ok (.iconst 0, 1) := by decide +kernel
theorem dX3_digest_188 : decode cX3_digest 188 = .ok (.iastore, 1) := by decide +kernel
theorem dX3_digest_189 : decode cX3_digest 189 = .ok (.dup, 1) := by decide +kernel
theorem dX3_digest_190 : decode cX3_digest 190 = .ok (.iconst 1, 1) := by decide +kernel
theorem dX3_digest_191 : decode cX3_digest 191 = .ok (.aload_n 0, 1) := by decide +kernel
theorem dX3_digest_192 : decode cX3_digest 192 = .ok (.getfield 24, 3) := by decide +kernel
theorem dX3_digest_195 : decode cX3_digest 195 = .ok (.iconst 5, 1) := by decide +kernel
theorem dX3_digest_196 : decode cX3_digest 196 = .ok (.iload 4, 2) := by decide +kernel
theorem dX3_digest_198 : decode cX3_digest 198 = .ok (.iadd, 1) := by decide +kernel
theorem dX3_digest_199 : decode cX3_digest 199 = .ok (.iaload, 1) := by decide +kernel
theorem dX3_digest_200 : decode cX3_digest 200 = .ok (.iastore, 1) := by decide +kernel
theorem dX3_digest_201 : decode cX3_digest 201 = .ok (.dup, 1) := by decide +kernel
theorem dX3_digest_202 : decode cX3_digest 202 = .ok (.iconst 2, 1) := by decide +kernel
theorem dX3_digest_203 : decode cX3_digest 203 = .ok (.aload_n 0, 1) := by decide +kernel
theorem dX3_digest_204 : decode cX3_digest 204 = .ok (.getfield 24, 3) := by decide +kernel
theorem dX3_digest_207 : decode cX3_digest 207 = .ok (.bipush 13, 2) := by decide +kernel
theorem dX3_digest_209 : decode cX3_digest 209 = .ok (.iload 4, 2) := by decide +kernel
theorem dX3_digest_211 : decode cX3_digest 211 = .ok (.iadd, 1) := by decide +kernel
theorem dX3_digest_212 : decode cX3_digest 212 = .ok (.iaload, 1) := by decide +kernel
theorem dX3_digest_213 : decode cX3_digest 213 = .ok (.iastore, 1) := by decide +kernel
theorem dX3_digest_214 : decode cX3_digest 214 = .ok (.dup, 1) := by decide +kernel
theorem dX3_digest_215 : decode cX3_digest 215 = .ok (.iconst 3, 1) := by decide +kernel
theorem dX3_digest_216 : decode cX3_digest 216 = .ok (.aload_n 0, 1) := by decide +kernel
theorem dX3_digest_217 : decode cX3_digest 217 = .ok (.getfield 24, 3) := by decide +kernel
theorem dX3_digest_220 : decode cX3_digest 220 = .ok (.bipush 21, 2) := by decide +kernel
theorem dX3_digest_222 : decode cX3_digest 222 = .ok (.iload 4, 2) := by decide +kernel
theorem dX3_digest_224 : decode cX3_digest 224 = .ok (.iadd, 1) := by decide +kernel
theorem dX3_digest_225 : decode cX3_digest 225 = .ok (.iaload, 1) := by decide +kernel
theorem dX3_digest_226 : decode cX3_digest 226 = .ok (.iastore, 1) := by decide +kernel
theorem dX3_digest_227 : decode cX3_digest 227 = .ok (.dup, 1) := by decide +kernel
theorem dX3_digest_228 : decode cX3_digest 228 = .ok (.iconst 4, 1) := by decide +kernel
theorem dX3_digest_229 : decode cX3_digest 229 = .ok (.aload_n 0, 1) := by decide +kernel
theorem dX3_digest_230 : decode cX3_digest 230 = .ok (.iload 4, 2) := by decide +kernel
theorem dX3_digest_232 : decode cX3_digest 232 = .ok (.invokevirtual 53, 3) := by decide +kernel
theorem dX3_digest_235 : decode cX3_digest 235 = .ok (.iastore, 1) := by decide +kernel
theorem dX3_digest_236 : decode cX3_digest 236 = .ok (.dup, 1) := by decide +kernel
theorem dX3_digest_237 : decode cX3_digest 237 = .ok (.iconst 5, 1) := by decide +kernel
theorem dX3_digest_238 : decode cX3_digest 238 = .ok (.aload_n 0, 1) := by decide +kernel
theorem dX3_digest_239 : decode cX3_digest 239 = .ok (.iload 4, 2) := by decide +kernel
theorem dX3_digest_241 : decode cX3_digest 241 = .ok (.invokevirtual 63, 3) := by decide +kernel
theorem dX3_digest_244 : decode cX3_digest 244 = .ok (.iastore, 1) := by decide +kernel
theorem dX3_digest_245 : decode cX3_digest 245 = .ok (.dup, 1) := by decide +kernel
theorem dX3_digest_246 : decode cX3_digest 246 = .ok (.bipush 6, 2) := by decide +kernel
theorem dX3_digest_248 : decode cX3_digest 248 = .ok (.aload_n 0, 1) := by decide +kernel
theorem dX3_digest_249 : decode cX3_digest 249 = .ok (.iload 4, 2) := by decide +kernel
theorem dX3_digest_251 : decode cX3_digest 251 = .ok (.invokevirtual 82, 3) := by decide +kernel
theorem dX3_digest_254 : decode cX3_digest 254 = .ok (.iastore, 1) := by decide +kernel
theorem dX3_digest_255 : decode cX3_digest 255 = .ok (.dup, 1) := by decide +kernel
theorem dX3_digest_256 : decode cX3_digest 256 = .ok (.bipush 7, 2) := by decide +kernel
theorem dX3_digest_258 : decode cX3_digest 258 = .ok (.aload_n 0, 1) := by decide +kernel
theorem dX3_digest_259 : decode cX3_digest 259 = .ok (.iload 4, 2) := by decide +kernel
theorem dX3_digest_261 : decode cX3_digest 261 = .ok (.invokevirtual 76, 3) := by decide +kernel
theorem dX3_digest_264 : decode cX3_digest 264 = .ok (.iastore, 1) := by decide +kernel
theorem dX3_digest_265 : decode cX3_digest 265 = .ok (.astore 5, 2) := by decide +kernel
theorem dX3_digest_267 : decode cX3_digest 267 = .ok (.aload 5, 2) := by decide +kernel
theorem dX3_digest_269 : decode cX3_digest 269 = .ok (.astore 6, 2) := by decide +kernel
theorem dX3_digest_271 : decode cX3_digest 271 = .ok (.aload 6, 2) := by decide +kernel
theorem dX3_digest_273 : decode cX3_digest 273 = .ok (.arraylength, 1) := by decide +kernel
theorem dX3_digest_274 : decode cX3_digest 274 = .ok (.istore 7, 2) := by decide +kernel
theorem dX3_digest_276 : decode cX3_digest 276 = .ok (.iconst 0, 1) := by decide +kernel
theorem dX3_digest_277 : decode cX3_digest 277 = .ok (.istore 8, 2) := by decide +kernel
theorem dX3_digest_279 : decode cX3_digest 279 = .ok (.iload 8, 2) := by decide +kernel
theorem dX3_digest_281 : decode cX3_digest 281 = .ok (.iload 7, 2) := by decide +kernel
theorem dX3_digest_283 : decode cX3_digest 283 = .ok (.if_icmp .ge 26, 3) := by decide +kernel
theorem dX3_digest_286 : decode cX3_digest 286 = .ok (.aload 6, 2) := by decide +kernel
theorem dX3_digest_288 : decode cX3_digest 288 = .ok (.iload 8, 2) := by decide +kernel
theorem dX3_digest_290 : decode cX3_digest 290 = .ok (.iaload, 1) := by decide +kernel
theorem dX3_digest_291 : decode cX3_digest 291 = .ok (.istore 9, 2) := by decide +kernel
theorem dX3_digest_293 : decode cX3_digest 293 = .ok (.lload_n 2, 1) := by decide +kernel
theorem dX3_digest_294 : decode cX3_digest 294 = .ok (.ldc2_w 131, 3) := by decide +kernel
theorem dX3_digest_297 : decode cX3_digest 297 = .ok (.lmul, 1) := by decide +kernel
theorem dX3_digest_298 : decode cX3_digest 298 = .ok (.iload 9, 2) := by decide +kernel
theorem dX3_digest_300 : decode cX3_digest 300 = .ok (.i2l, 1) := by decide +kernel
theorem dX3_digest_301 : decode cX3_digest 301 = .ok (.ladd, 1) := by decide +kernel
theorem dX3_digest_302 : decode cX3_digest 302 = .ok (.lstore_n 2, 1) := by decide +kernel
theorem dX3_digest_303 : decode cX3_digest 303 = .ok (.iinc 8 1, 3) := by decide +kernel
theorem dX3_digest_306 : decode cX3_digest 306 = .ok (.goto (-27), 3) := by decide +kernel
theorem dX3_digest_309 : decode cX3_digest 309 = .ok (.iinc 4 1, 3) := by decide +kernel
theorem dX3_digest_312 : decode cX3_digest 312 = .ok (.goto (-154), 3) := by decide +kernel
theorem dX3_digest_315 : decode cX3_digest 315 = .ok (.lload_n 2, 1) := by decide +kernel
theorem dX3_digest_316 : decode cX3_digest 316 = .ok (.lreturn, 1) := by decide +kernel
