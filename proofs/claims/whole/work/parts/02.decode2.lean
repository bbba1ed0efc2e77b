theorem dX3_post_26 : decode cX3_post 26 = .ok (.getfield 28, 3) := by decide +kernel
theorem dX3_post_29 : decode cX3_post 29 = .ok (.iload_n 3, 1) := by decide +kernel
theorem dX3_post_30 : decode cX3_post 30 = .ok (.iload_n 2, 1) := by decide +kernel
theorem dX3_post_31 : decode cX3_post 31 = .ok (.iastore, 1) := by decide +kernel
theorem dX3_post_32 : decode cX3_post 32 = .ok (.aload_n 0, 1) := by decide +kernel
theorem dX3_post_33 : decode cX3_post 33 = .ok (.getfield 31, 3) := by decide +kernel
theorem dX3_post_36 : decode cX3_post 36 = .ok (.iload_n 3, 1) := by decide +kernel
theorem dX3_post_37 : decode cX3_post 37 = .ok (.aload_n 0, 1) := by decide +kernel
theorem dX3_post_38 : decode cX3_post 38 = .ok (.iload_n 2, 1) := by decide +kernel
theorem dX3_post_39 : decode cX3_post 39 = .ok (.invokevirtual 66, 3) := by decide +kernel
theorem dX3_post_42 : decode cX3_post 42 = .ok (.aload_n 0, 1) := by decide +kernel
theorem dX3_post_43 : decode cX3_post 43 = .ok (.getfield 9, 3) := by decide +kernel
theorem dX3_post_46 : decode cX3_post 46 = .ok (.iadd, 1) := by decide +kernel
theorem dX3_post_47 : decode cX3_post 47 = .ok (.bipush 8, 2) := by decide +kernel
theorem dX3_post_49 : decode cX3_post 49 = .ok (.irem, 1) := by decide +kernel
theorem dX3_post_50 : decode cX3_post 50 = .ok (.iastore, 1) := by decide +kernel
theorem dX3_post_51 : decode cX3_post 51 = .ok (.aload_n 0, 1) := by decide +kernel
theorem dX3_post_52 : decode cX3_post 52 = .ok (.getfield 34, 3) := by decide +kernel
theorem dX3_post_55 : decode cX3_post 55 = .ok (.iload_n 3, 1) := by decide +kernel
theorem dX3_post_56 : decode cX3_post 56 = .ok (.aload_n 0, 1) := by decide +kernel
theorem dX3_post_57 : decode cX3_post 57 = .ok (.iload_n 1, 1) := by decide +kernel
theorem dX3_post_58 : decode cX3_post 58 = .ok (.invokevirtual 70, 3) := by decide +kernel
theorem dX3_post_61 : decode cX3_post 61 = .ok (.iastore, 1) := by decide +kernel
theorem dX3_post_62 : decode cX3_post 62 = .ok (.aload_n 0, 1) := by decide +kernel
theorem dX3_post_63 : decode cX3_post 63 = .ok (.getfield 37, 3) := by decide +kernel
theorem dX3_post_66 : decode cX3_post 66 = .ok (.iload_n 3, 1) := by decide +kernel
theorem dX3_post_67 : decode cX3_post 67 = .ok (.iconst 1, 1) := by decide +kernel
theorem dX3_post_68 : decode cX3_post 68 = .ok (.iload_n 1, 1) := by decide +kernel
theorem dX3_post_69 : decode cX3_post 69 = .ok (.ishl, 1) := by decide +kernel
theorem dX3_post_70 : decode cX3_post 70 = .ok (.iastore, 1) := by decide +kernel
theorem dX3_post_71 : decode cX3_post 71 = .ok (.aload_n 0, 1) := by decide +kernel
theorem dX3_post_72 : decode cX3_post 72 = .ok (.dup, 1) := by decide +kernel
theorem dX3_post_73 : decode cX3_post 73 = .ok (.getfield 53, 3) := by decide +kernel
theorem dX3_post_76 : decode cX3_post 76 = .ok (.iconst 1, 1) := by decide +kernel
theorem dX3_post_77 : decode cX3_post 77 = .ok (.iadd, 1) := by decide +kernel
theorem dX3_post_78 : decode cX3_post 78 = .ok (.putfield 53, 3) := by decide +kernel
theorem dX3_post_81 : decode cX3_post 81 = .ok (.iload_n 3, 1) := by decide +kernel
theorem dX3_post_82 : decode cX3_post 82 = .ok (.ireturn, 1) := by decide +kernel
theorem dX3_slipAll_0 : decode cX3_slipAll 0 = .ok (.iconst 0, 1) := by decide +kernel
theorem dX3_slipAll_1 : decode cX3_slipAll 1 = .ok (.istore_n 2, 1) := by decide +kernel
theorem dX3_slipAll_2 : decode cX3_slipAll 2 = .ok (.iload_n 2, 1) := by decide +kernel
theorem dX3_slipAll_3 : decode cX3_slipAll 3 = .ok (.aload_n 0, 1) := by decide +kernel
theorem dX3_slipAll_4 : decode cX3_slipAll 4 = .ok (.getfield 53, 3) := by decide +kernel
theorem dX3_slipAll_7 : decode cX3_slipAll 7 = .ok (.if_icmp .ge 46, 3) := by decide +kernel
theorem dX3_slipAll_10 : decode cX3_slipAll 10 = .ok (.iload_n 2, 1) := by decide +kernel
theorem dX3_slipAll_11 : decode cX3_slipAll 11 = .ok (.bipush 8, 2) := by decide +kernel
theorem dX3_slipAll_13 : decode cX3_slipAll 13 = .ok (.if_icmp .ge 40, 3) := by decide +kernel
theorem dX3_slipAll_16 : decode cX3_slipAll 16 = .ok (.aload_n 0, 1) := by decide +kernel
theorem dX3_slipAll_17 : decode cX3_slipAll 17 = .ok (.getfield 31, 3) := by decide +kernel
theorem dX3_slipAll_20 : decode cX3_slipAll 20 = .ok (.iload_n 2, 1) := by decide +kernel
theorem dX3_slipAll_21 : decode cX3_slipAll 21 = .ok (.iaload, 1) := by decide +kernel
theorem dX3_slipAll_22 : decode cX3_slipAll 22 = .ok (.iconst (-1), 1) := by decide +kernel
theorem dX3_slipAll_23 : decode cX3_slipAll 23 = .ok (.if_icmp .eq 24, 3) := by decide +kernel
theorem dX3_slipAll_26 : decode cX3_slipAll 26 = .ok (.aload_n 0, 1) := by decide +kernel
theorem dX3_slipAll_27 : decode cX3_slipAll 27 = .ok (.getfield 31, 3) := by decide +kernel
theorem dX3_slipAll_30 : decode cX3_slipAll 30 = .ok (.iload_n 2, 1) := by decide +kernel
theorem dX3_slipAll_31 : decode cX3_slipAll 31 = .ok (.aload_n 0, 1) := by decide +kernel
theorem dX3_slipAll_32 : decode cX3_slipAll 32 = .ok (.aload_n 0, 1) := by decide +kernel
theorem dX3_slipAll_33 : decode cX3_slipAll 33 = .ok (.getfield 28, 3) := by decide +kernel
theorem dX3_slipAll_36 : decode cX3_slipAll 36 = .ok (.iload_n 2, 1) := by decide +kernel
theorem dX3_slipAll_37 : decode cX3_slipAll 37 = .ok (.iaload, 1) := by decide +kernel
theorem dX3_slipAll_38 : decode cX3_slipAll 38 = .ok (.invokevirtual 66, 3) := by decide +kernel
theorem dX3_slipAll_41 : decode cX3_slipAll 41 = .ok (.iload_n 1, 1) := by decide +kernel
theorem dX3_slipAll_42 : decode cX3_slipAll 42 = .ok (.iadd, 1) := by decide +kernel
theorem dX3_slipAll_43 : decode cX3_slipAll 43 = .ok (.bipush 8, 2) := by decide +kernel
theorem dX3_slipAll_45 : decode cX3_slipAll 45 = .ok (.irem, 1) := by decide +kernel
theorem dX3_slipAll_46 : decode cX3_slipAll 46 = .ok (.iastore, 1) := by decide +kernel
theorem dX3_slipAll_47 : decode cX3_slipAll 47 = .ok (.iinc 2 1, 3) := by decide +kernel
theorem dX3_slipAll_50 : decode cX3_slipAll 50 = .ok (.goto (-48), 3) := by decide +kernel
theorem dX3_slipAll_53 : decode cX3_slipAll 53 = .ok (.return_, 1) := by decide +kernel
theorem dX3_passDay_0 : decode cX3_passDay 0 = .ok (.iconst 0, 1) := by decide +kernel
theorem dX3_passDay_1 : decode cX3_passDay 1 = .ok (.istore_n 1, 1) := by decide +kernel
theorem dX3_passDay_2 : decode cX3_passDay 2 = .ok (.iconst 0, 1) := by decide +kernel
theorem dX3_passDay_3 : decode cX3_passDay 3 = .ok (.istore_n 2, 1) := by decide +kernel
theorem dX3_passDay_4 : decode cX3_passDay 4 = .ok (.iload_n 2, 1) := by decide +kernel
theorem dX3_passDay_5 : decode cX3_passDay 5 = .ok (.aload_n 0, 1) := by decide +kernel
theorem dX3_passDay_6 : decode cX3_passDay 6 = .ok (.getfield 53, 3) := by decide +kernel
theorem dX3_passDay_9 : decode cX3_passDay 9 = .ok (.if_icmp .ge 29, 3) := by decide +kernel
theorem dX3_passDay_12 : decode cX3_passDay 12 = .ok (.iload_n 2, 1) := by decide +kernel
theorem dX3_passDay_13 : decode cX3_passDay 13 = .ok (.bipush 8, 2) := by decide +kernel
theorem dX3_passDay_15 : decode cX3_passDay 15 = .ok (.if_icmp .ge 23, 3) := by decide +kernel
theorem dX3_passDay_18 : decode cX3_passDay 18 = .ok (.aload_n 0, 1) := by decide +kernel
theorem dX3_passDay_19 : decode cX3_passDay 19 = .ok (.iload_n 2, 1) := by decide +kernel
theorem dX3_passDay_20 : decode cX3_passDay 20 = .ok (.invokevirtual 73, 3) := by decide +kernel
theorem dX3_passDay_23 : decode cX3_passDay 23 = .ok (.ifCond .eq 9, 3) := by decide +kernel
theorem dX3_passDay_26 : decode cX3_passDay 26 = .ok (.iload_n 1, 1) := by decide +kernel
theorem dX3_passDay_27 : decode cX3_passDay 27 = .ok (.iconst 1, 1) := by decide +kernel
theorem dX3_passDay_28 : decode cX3_passDay 28 = .ok (.iload_n 2, 1) := by decide +kernel
theorem dX3_passDay_29 : decode cX3_passDay 29 = .ok (.ishl, 1) := by decide +kernel
theorem dX3_passDay_30 : decode cX3_passDay 30 = .ok (.ior, 1) := by decide +kernel
theorem dX3_passDay_31 : decode cX3_passDay 31 = .ok (.istore_n 1, 1) := by decide +kernel
theorem dX3_passDay_32 : decode cX3_passDay 32 = .ok (.iinc 2 1, 3) := by decide +kernel
theorem dX3_passDay_35 : decode cX3_passDay 35 = .ok (.goto (-31), 3) := by decide +kernel
theorem dX3_passDay_38 : decode cX3_passDay 38 = .ok (.aload_n 0, 1) := by decide +kernel
theorem dX3_passDay_39 : decode cX3_passDay 39 = .ok (.dup, 1) := by decide +kernel
theorem dX3_passDay_40 : decode cX3_passDay 40 = .ok (.getfield 44, 3) := by decide +kernel
theorem dX3_passDay_43 : decode cX3_passDay 43 = .ok (.iconst 1, 1) := by decide +kernel
theorem dX3_passDay_44 : decode cX3_passDay 44 = .ok (.iadd, 1) := by decide +kernel
theorem dX3_passDay_45 : decode cX3_passDay 45 = .ok (.putfield 44, 3) := by decide +kernel
theorem dX3_passDay_48 : decode cX3_passDay 48 = .ok (.iload_n 1, 1) := by decide +kernel
theorem dX3_passDay_49 : decode cX3_passDay 49 = .ok (.ireturn, 1) := by decide +kernel
theorem dX3_passDays_0 : decode cX3_passDays 0 = .ok (.iconst 0, 1) := by decide +kernel
theorem dX3_passDays_1 : decode cX3_passDays 1 = .ok (.istore_n 2, 1) := by decide +kernel
theorem dX3_passDays_2 : decode cX3_passDays 2 = .ok (.iload_n 2, 1) := by decide +kernel
theorem dX3_passDays_3 : decode cX3_passDays 3 = .ok (.iload_n 1, 1) := by decide +kernel
theorem dX3_passDays_4 : decode cX3_passDays 4 = .ok (.if_icmp .ge 14, 3) := by decide +kernel
theorem dX3_passDays_7 : decode cX3_passDays 7 = .ok (.aload_n 0, 1) := by decide +kernel
theorem dX3_passDays_8 : decode cX3_passDays 8 = .ok (.invokevirtual 76, 3) := by decide +kernel
theorem dX3_passDays_11 : decode cX3_passDays 11 = .ok (.pop, 1) := by decide +kernel
theorem dX3_passDays_12 : decode cX3_passDays 12 = .ok (.iinc 2 1, 3) := by decide +kernel
theorem dX3_passDays_15 : decode cX3_passDays 15 = .ok (.goto (-13), 3) := by decide +kernel
theorem dX3_passDays_18 : decode cX3_passDays 18 = .ok (.return_, 1) := by decide +kernel
theorem dX3_passDayOf_0 : decode cX3_passDayOf 0 = .ok (.aload_n 0, 1) := by decide +kernel
theorem dX3_passDayOf_1 : decode cX3_passDayOf 1 = .ok (.iload_n 1, 1) := by decide +kernel
theorem dX3_passDayOf_2 : decode cX3_passDayOf 2 = .ok (.invokevirtual 73, 3) := by decide +kernel
theorem dX3_passDayOf_5 : decode cX3_passDayOf 5 = .ok (.pop, 1) := by decide +kernel
theorem dX3_passDayOf_6 : decode cX3_passDayOf 6 = .ok (.aload_n 0, 1) := by decide +kernel
theorem dX3_passDayOf_7 : decode cX3_passDayOf 7 = .ok (.dup, 1) := by decide +kernel
theorem dX3_passDayOf_8 : decode cX3_passDayOf 8 = .ok (.getfield 44, 3) := by decide +kernel
theorem dX3_passDayOf_11 : decode cX3_passDayOf 11 = .ok (.iconst 1, 1) := by decide +kernel
theorem dX3_passDayOf_12 : decode cX3_passDayOf 12 = .ok (.iadd, 1) := by decide +kernel
theorem dX3_passDayOf_13 : decode cX3_passDayOf 13 = .ok (.putfield 44, 3) := by decide +kernel
theorem dX3_passDayOf_16 : decode cX3_passDayOf 16 = .ok (.return_, 1) := by decide +kernel
theorem dX3_readBehind_0 : decode cX3_readBehind 0 = .ok (.iconst 0, 1) := by decide +kernel
theorem dX3_readBehind_1 : decode cX3_readBehind 1 = .ok (.istore_n 3, 1) := by decide +kernel
theorem dX3_readBehind_2 : decode cX3_readBehind 2 = .ok (.iload_n 3, 1) := by decide +kernel
theorem dX3_readBehind_3 : decode cX3_readBehind 3 = .ok (.iload_n 2, 1) := by decide +kernel
theorem dX3_readBehind_4 : decode cX3_readBehind 4 = .ok (.if_icmp .ge 14, 3) := by decide +kernel
theorem dX3_readBehind_7 : decode cX3_readBehind 7 = .ok (.aload_n 0, 1) := by decide +kernel
theorem dX3_readBehind_8 : decode cX3_readBehind 8 = .ok (.iload_n 1, 1) := by decide +kernel
theorem dX3_readBehind_9 : decode cX3_readBehind 9 = .ok (.invokevirtual 80, 3) := by decide +kernel
theorem dX3_readBehind_12 : decode cX3_readBehind 12 = .ok (.iinc 3 1, 3) := by decide +kernel
theorem dX3_readBehind_15 : decode cX3_readBehind 15 = .ok (.goto (-13), 3) := by decide +kernel
theorem dX3_readBehind_18 : decode cX3_readBehind 18 = .ok (.aload_n 0, 1) := by decide +kernel
theorem dX3_readBehind_19 : decode cX3_readBehind 19 = .ok (.iload_n 1, 1) := by decide +kernel
theorem dX3_readBehind_20 : decode cX3_readBehind 20 = .ok (.invokevirtual 84, 3) := by decide +kernel
theorem dX3_readBehind_23 : decode cX3_readBehind 23 = .ok (.ireturn, 1) := by decide +kernel
theorem dX3_firstOtherwise_0 : decode cX3_firstOtherwise 0 = .ok (.iconst 0, 1) := by decide +kernel
theorem dX3_firstOtherwise_1 : decode cX3_firstOtherwise 1 = .ok (.istore_n 3, 1) := by decide +kernel
theorem dX3_firstOtherwise_2 : decode cX3_firstOtherwise 2 = .ok (.iload_n 3, 1) := by decide +kernel
theorem dX3_firstOtherwise_3 : decode cX3_firstOtherwise 3 = .ok (.aload_n 1, 1) := by decide +kernel
theorem dX3_firstOtherwise_4 : decode cX3_firstOtherwise 4 = .ok (.getfield 87, 3) := by decide +kernel
theorem dX3_firstOtherwise_7 : decode cX3_firstOtherwise 7 = .ok (.if_icmp .ge 40, 3) := by decide +kernel
theorem dX3_firstOtherwise_10 : decode cX3_firstOtherwise 10 = .ok (.aload_n 0, 1) := by decide +kernel
theorem dX3_firstOtherwise_11 : decode cX3_firstOtherwise 11 = .ok (.iload_n 2, 1) := by decide +kernel
theorem dX3_firstOtherwise_12 : decode cX3_firstOtherwise 12 = .ok (.invokevirtual 73, 3) := by decide +kernel
theorem dX3_firstOtherwise_15 : decode cX3_firstOtherwise 15 = .ok (.pop, 1) := by decide +kernel
theorem dX3_firstOtherwise_16 : decode cX3_firstOtherwise 16 = .ok (.aload_n 0, 1) := by decide +kernel
theorem dX3_firstOtherwise_17 : decode cX3_firstOtherwise 17 = .ok (.dup, 1) := by decide +kernel
theorem dX3_firstOtherwise_18 : decode cX3_firstOtherwise 18 = .ok (.getfield 44, 3) := by decide +kernel
theorem dX3_firstOtherwise_21 : decode cX3_firstOtherwise 21 = .ok (.iconst 1, 1) := by decide +kernel
theorem dX3_firstOtherwise_22 : decode cX3_firstOtherwise 22 = .ok (.iadd, 1) := by decide +kernel
theorem dX3_firstOtherwise_23 : decode cX3_firstOtherwise 23 = .ok (.putfield 44, 3) := by decide +kernel
theorem dX3_firstOtherwise_26 : decode cX3_firstOtherwise 26 = .ok (.aload_n 0, 1) := by decide +kernel
theorem dX3_firstOtherwise_27 : decode cX3_firstOtherwise 27 = .ok (.iload_n 2, 1) := by decide +kernel
theorem dX3_firstOtherwise_28 : decode cX3_firstOtherwise 28 = .ok (.invokevirtual 92, 3) := by decide +kernel
theorem dX3_firstOtherwise_31 : decode cX3_firstOtherwise 31 = .ok (.aload_n 1, 1) := by decide +kernel
theorem dX3_firstOtherwise_32 : decode cX3_firstOtherwise 32 = .ok (.iload_n 3, 1) := by decide +kernel
theorem dX3_firstOtherwise_33 : decode cX3_firstOtherwise 33 = .ok (.invokevirtual 95, 3) := by decide +kernel
theorem dX3_firstOtherwise_36 : decode cX3_firstOtherwise 36 = .ok (.if_icmp .eq 5, 3) := by decide +kernel
theorem dX3_firstOtherwise_39 : decode cX3_firstOtherwise 39 = .ok (.iload_n 3, 1) := by decide +kernel
theorem dX3_firstOtherwise_40 : decode cX3_firstOtherwise 40 = .ok (.ireturn, 1) := by decide +kernel
theorem dX3_firstOtherwise_41 : decode cX3_firstOtherwise 41 = .ok (.iinc 3 1, 3) := by decide +kernel
theorem dX3_firstOtherwise_44 : decode cX3_firstOtherwise 44 = .ok (.goto (-42), 3) := by decide +kernel
theorem dX3_firstOtherwise_47 : decode cX3_firstOtherwise 47 = .ok (.iconst (-1), 1) := by decide +kernel
theorem dX3_firstOtherwise_48 : decode cX3_firstOtherwise 48 = .ok (.ireturn, 1) := by decide +kernel
theorem dX3_goesDown_0 : decode cX3_goesDown 0 = .ok (.aload_n 0, 1) := by decide +kernel
theorem dX3_goesDown_1 : decode cX3_goesDown 1 = .ok (.iload_n 1, 1) := by decide +kernel
theorem dX3_goesDown_2 : decode cX3_goesDown 2 = .ok (.invokevirtual 63, 3) := by decide +kernel
theorem dX3_goesDown_5 : decode cX3_goesDown 5 = .ok (.ifCond .eq 13, 3) := by decide +kernel
theorem dX3_goesDown_8 : decode cX3_goesDown 8 = .ok (.aload_n 0, 1) := by decide +kernel
theorem dX3_goesDown_9 : decode cX3_goesDown 9 = .ok (.getfield 31, 3) := by decide +kernel
theorem dX3_goesDown_12 : decode cX3_goesDown 12 = .ok (.iload_n 1, 1) := by decide +kernel
theorem dX3_goesDown_13 : decode cX3_goesDown 13 = .ok (.iaload, 1) := by decide +kernel
theorem dX3_goesDown_14 : decode cX3_goesDown 14 = .ok (.iconst (-1), 1) := by decide +kernel
theorem dX3_goesDown_15 : decode cX3_goesDown 15 = .ok (.if_icmp .ne 5, 3) := by decide +kernel
theorem dX3_goesDown_18 : decode cX3_goesDown 18 = .ok (.iconst 0, 1) := by decide +kernel
theorem dX3_goesDown_19 : decode cX3_goesDown 19 = .ok (.ireturn, 1) := by decide +kernel
theorem dX3_goesDown_20 : decode cX3_goesDown 20 = .ok (.aload_n 0, 1) := by decide +kernel
theorem dX3_goesDown_21 : decode cX3_goesDown 21 = .ok (.aload_n 0, 1) := by decide +kernel
theorem dX3_goesDown_22 : decode cX3_goesDown 22 = .ok (.getfield 31, 3) := by decide +kernel
theorem dX3_goesDown_25 : decode cX3_goesDown 25 = .ok (.iload_n 1, 1) := by decide +kernel
theorem dX3_goesDown_26 : decode cX3_goesDown 26 = .ok (.iaload, 1) := by decide +kernel
theorem dX3_goesDown_27 : decode cX3_goesDown 27 = .ok (.invokevirtual 98, 3) := by decide +kernel
theorem dX3_goesDown_30 : decode cX3_goesDown 30 = .ok (.istore_n 2, 1) := by decide +kernel
theorem dX3_goesDown_31 : decode cX3_goesDown 31 = .ok (.iload_n 2, 1) := by decide +kernel
theorem dX3_goesDown_32 : decode cX3_goesDown 32 = .ok (.iconst (-1), 1) := by decide +kernel
theorem dX3_goesDown_33 : decode cX3_goesDown 33 = .ok (.if_icmp .eq 68, 3) := by decide +kernel
theorem dX3_goesDown_36 : decode cX3_goesDown 36 = .ok (.aload_n 0, 1) := by decide +kernel
theorem dX3_goesDown_37 : decode cX3_goesDown 37 = .ok (.getfield 37, 3) := by decide +kernel
theorem dX3_goesDown_40 : decode cX3_goesDown 40 = .ok (.iload_n 1, 1) := by decide +kernel
theorem dX3_goesDown_41 : decode cX3_goesDown 41 = .ok (.dup2, 1) := by decide +kernel
theorem dX3_goesDown_42 : decode cX3_goesDown 42 = .ok (.iaload, 1) := by decide +kernel
theorem dX3_goesDown_43 : decode cX3_goesDown 43 = .ok (.iconst 1, 1) := by decide +kernel
theorem dX3_goesDown_44 : decode cX3_goesDown 44 = .ok (.iload_n 2, 1) := by decide +kernel
theorem dX3_goesDown_45 : decode cX3_goesDown 45 = .ok (.ishl, 1) := by decide +kernel
theorem dX3_goesDown_46 : decode cX3_goesDown 46 = .ok (.ior, 1) := by decide +kernel
theorem dX3_goesDown_47 : decode cX3_goesDown 47 = .ok (.iastore, 1) := by decide +kernel
theorem dX3_goesDown_48 : decode cX3_goesDown 48 = .ok (.iload_n 2, 1) := by decide +kernel
theorem dX3_goesDown_49 : decode cX3_goesDown 49 = .ok (.aload_n 0, 1) := by decide +kernel
theorem dX3_goesDown_50 : decode cX3_goesDown 50 = .ok (.getfield 28, 3) := by decide +kernel
theorem dX3_goesDown_53 : decode cX3_goesDown 53 = .ok (.iload_n 1, 1) := by decide +kernel
theorem dX3_goesDown_54 : decode cX3_goesDown 54 = .ok (.iaload, 1) := by decide +kernel
theorem dX3_goesDown_55 : decode cX3_goesDown 55 = .ok (.if_icmp .ne 12, 3) := by decide +kernel
theorem dX3_goesDown_58 : decode cX3_goesDown 58 = .ok (.aload_n 0, 1) := by decide +kernel
theorem dX3_goesDown_59 : decode cX3_goesDown 59 = .ok (.getfield 31, 3) := by decide +kernel
theorem dX3_goesDown_62 : decode cX3_goesDown 62 = .ok (.iload_n 1, 1) := by decide +kernel
theorem dX3_goesDown_63 : decode cX3_goesDown 63 = .ok (.iconst (-1), 1) := by decide +kernel
theorem dX3_goesDown_64 : decode cX3_goesDown 64 = .ok (.iastore, 1) := by decide +kernel
theorem dX3_goesDown_65 : decode cX3_goesDown 65 = .ok (.iconst 1, 1) := by decide +kernel
theorem dX3_goesDown_66 : decode cX3_goesDown 66 = .ok (.ireturn, 1) := by decide +kernel
theorem dX3_goesDown_67 : decode cX3_goesDown 67 = .ok (.aload_n 0, 1) := by decide +kernel
theorem dX3_goesDown_68 : decode cX3_goesDown 68 = .ok (.iload_n 2, 1) := by decide +kernel
theorem dX3_goesDown_69 : decode cX3_goesDown 69 = .ok (.iload_n 1, 1) := by decide +kernel
theorem dX3_goesDown_70 : decode cX3_goesDown 70 = .ok (.invokevirtual 101, 3) := by decide +kernel
theorem dX3_goesDown_73 : decode cX3_goesDown 73 = .ok (.ifCond .ne 5, 3) := by decide +kernel
theorem dX3_goesDown_76 : decode cX3_goesDown 76 = .ok (.iconst 0, 1) := by decide +kernel
theorem dX3_goesDown_77 : decode cX3_goesDown 77 = .ok (.ireturn, 1) := by decide +kernel
theorem dX3_goesDown_78 : decode cX3_goesDown 78 = .ok (.aload_n 0, 1) := by decide +kernel
theorem dX3_goesDown_79 : decode cX3_goesDown 79 = .ok (.getfield 34, 3) := by decide +kernel
theorem dX3_goesDown_82 : decode cX3_goesDown 82 = .ok (.iload_n 1, 1) := by decide +kernel
theorem dX3_goesDown_83 : decode cX3_goesDown 83 = .ok (.aload_n 0, 1) := by decide +kernel
theorem dX3_goesDown_84 : decode cX3_goesDown 84 = .ok (.getfield 34, 3) := by decide +kernel
theorem dX3_goesDown_87 : decode cX3_goesDown 87 = .ok (.iload_n 1, 1) := by decide +kernel
theorem dX3_goesDown_88 : decode cX3_goesDown 88 = .ok (.iaload, 1) := by decide +kernel
theorem dX3_goesDown_89 : decode cX3_goesDown 89 = .ok (.aload_n 0, 1) := by decide +kernel
theorem dX3_goesDown_90 : decode cX3_goesDown 90 = .ok (.iload_n 2, 1) := by decide +kernel
theorem dX3_goesDown_91 : decode cX3_goesDown 91 = .ok (.iload_n 1, 1) := by decide +kernel
theorem dX3_goesDown_92 : decode cX3_goesDown 92 = .ok (.invokevirtual 105, 3) := by decide +kernel
theorem dX3_goesDown_95 : decode cX3_goesDown 95 = .ok (.isub, 1) := by decide +kernel
theorem dX3_goesDown_96 : decode cX3_goesDown 96 = .ok (.iconst 0, 1) := by decide +kernel
theorem dX3_goesDown_97 : decode cX3_goesDown 97 = .ok (.invokestatic 109, 3) := by decide +kernel
theorem dX3_goesDown_100 : decode cX3_goesDown 100 = .ok (.iastore, 1) := by decide +kernel
theorem dX3_goesDown_101 : decode cX3_goesDown 101 = .ok (.aload_n 0, 1) := by decide +kernel
theorem dX3_goesDown_102 : decode cX3_goesDown 102 = .ok (.getfield 31, 3) := by decide +kernel
theorem dX3_goesDown_105 : decode cX3_goesDown 105 = .ok (.iload_n 1, 1) := by decide +kernel
theorem dX3_goesDown_106 : decode cX3_goesDown 106 = .ok (.aload_n 0, 1) := by decide +kernel
theorem dX3_goesDown_107 : decode cX3_goesDown 107 = .ok (.getfield 31, 3) := by decide +kernel
theorem dX3_goesDown_110 : decode cX3_goesDown 110 = .ok (.iload_n 1, 1) := by decide +kernel
theorem dX3_goesDown_111 : decode cX3_goesDown 111 = .ok (.iaload, 1) := by decide +kernel
theorem dX3_goesDown_112 : decode cX3_goesDown 112 = .ok (.bipush 8, 2) := by decide +kernel
theorem dX3_goesDown_114 : decode cX3_goesDown 114 = .ok (.iadd, 1) := by decide +kernel
theorem dX3_goesDown_115 : decode cX3_goesDown 115 = .ok (.iconst 1, 1) := by decide +kernel
theorem dX3_goesDown_116 : decode cX3_goesDown 116 = .ok (.isub, 1) := by decide +kernel
theorem dX3_goesDown_117 : decode cX3_goesDown 117 = .ok (.bipush 8, 2) := by decide +kernel
theorem dX3_goesDown_119 : decode cX3_goesDown 119 = .ok (.irem, 1) := by decide +kernel
theorem dX3_goesDown_120 : decode cX3_goesDown 120 = .ok (.iastore, 1) := by decide +kernel
theorem dX3_goesDown_121 : decode cX3_goesDown 121 = .ok (.iconst 0, 1) := by decide +kernel
theorem dX3_goesDown_122 : decode cX3_goesDown 122 = .ok (.ireturn, 1) := by decide +kernel
theorem dX3_carries_0 : decode cX3_carries 0 = .ok (.aload_n 0, 1) := by decide +kernel
theorem dX3_carries_1 : decode cX3_carries 1 = .ok (.iload_n 1, 1) := by decide +kernel
theorem dX3_carries_2 : decode cX3_carries 2 = .ok (.invokevirtual 59, 3) := by decide +kernel
theorem dX3_carries_5 : decode cX3_carries 5 = .ok (.ifCond .eq 22, 3) := by decide +kernel
theorem dX3_carries_8 : decode cX3_carries 8 = .ok (.aload_n 0, 1) := by decide +kernel
theorem dX3_carries_9 : decode cX3_carries 9 = .ok (.iload_n 2, 1) := by decide +kernel
theorem dX3_carries_10 : decode cX3_carries 10 = .ok (.invokevirtual 63, 3) := by decide +kernel
theorem dX3_carries_13 : decode cX3_carries 13 = .ok (.ifCond .eq 14, 3) := by decide +kernel
theorem dX3_carries_16 : decode cX3_carries 16 = .ok (.aload_n 0, 1) := by decide +kernel
theorem dX3_carries_17 : decode cX3_carries 17 = .ok (.getfield 56, 3) := by decide +kernel
theorem dX3_carries_20 : decode cX3_carries 20 = .ok (.iload_n 1, 1) := by decide +kernel
theorem dX3_carries_21 : decode cX3_carries 21 = .ok (.ishr, 1) := by decide +kernel
theorem dX3_carries_22 : decode cX3_carries 22 = .ok (.iconst 1, 1) := by decide +kernel
theorem dX3_carries_23 : decode cX3_carries 23 = .ok (.iand, 1) := by decide +kernel
theorem dX3_carries_24 : decode cX3_carries 24 = .ok (.ifCond .eq 5, 3) := by decide +kernel
theorem dX3_carries_27 : decode cX3_carries 27 = .ok (.iconst 0, 1) := by decide +kernel
theorem dX3_carries_28 : decode cX3_carries 28 = .ok (.ireturn, 1) := by decide +kernel
theorem dX3_carries_29 : decode cX3_carries 29 = .ok (.aload_n 0, 1) := by decide +kernel
theorem dX3_carries_30 : decode cX3_carries 30 = .ok (.iconst 0, 1) := by decide +kernel
theorem dX3_carries_31 : decode cX3_carries 31 = .ok (.iload_n 1, 1) := by decide +kernel
theorem dX3_carries_32 : decode cX3_carries 32 = .ok (.iload_n 2, 1) := by decide +kernel
theorem dX3_carries_33 : decode cX3_carries 33 = .ok (.invokevirtual 114, 3) := by decide +kernel
theorem dX3_carries_36 : decode cX3_carries 36 = .ok (.ifCond .eq 7, 3) := by decide +kernel
theorem dX3_carries_39 : decode cX3_carries 39 = .ok (.iconst 1, 1) := by decide +kernel
theorem dX3_carries_40 : decode cX3_carries 40 = .ok (.goto 4, 3) := by decide +kernel
theorem dX3_carries_43 : decode cX3_carries 43 = .ok (.iconst 0, 1) := by decide +kernel
theorem dX3_carries_44 : decode cX3_carries 44 = .ok (.istore_n 3, 1) := by decide +kernel
theorem dX3_carries_45 : decode cX3_carries 45 = .ok (.iload_n 3, 1) := by decide +kernel
theorem dX3_carries_46 : decode cX3_carries 46 = .ok (.ifCond .ne 14, 3) := by decide +kernel
theorem dX3_carries_49 : decode cX3_carries 49 = .ok (.aload_n 0, 1) := by decide +kernel
theorem dX3_carries_50 : decode cX3_carries 50 = .ok (.getfield 34, 3) := by decide +kernel
theorem dX3_carries_53 : decode cX3_carries 53 = .ok (.iload_n 2, 1) := by decide +kernel
theorem dX3_carries_54 : decode cX3_carries 54 = .ok (.iaload, 1) := by decide +kernel
theorem dX3_carries_55 : decode cX3_carries 55 = .ok (.bipush 50, 2) := by decide +kernel
theorem dX3_carries_57 : decode cX3_carries 57 = .ok (.if_icmp .lt 7, 3) := by decide +kernel
theorem dX3_carries_60 : decode cX3_carries 60 = .ok (.iconst 1, 1) := by decide +kernel
theorem dX3_carries_61 : decode cX3_carries 61 = .ok (.goto 4, 3) := by decide +kernel
theorem dX3_carries_64 : decode cX3_carries 64 = .ok (.iconst 0, 1) := by decide +kernel
theorem dX3_carries_65 : decode cX3_carries 65 = .ok (.istore 4, 2) := by decide +kernel
theorem dX3_carries_67 : decode cX3_carries 67 = .ok (.iload_n 3, 1) := by decide +kernel
theorem dX3_carries_68 : decode cX3_carries 68 = .ok (.ifCond .eq 17, 3) := by decide +kernel
theorem dX3_carries_71 : decode cX3_carries 71 = .ok (.aload_n 0, 1) := by decide +kernel
theorem dX3_carries_72 : decode cX3_carries 72 = .ok (.getfield 25, 3) := by decide +kernel
theorem dX3_carries_75 : decode cX3_carries 75 = .ok (.iload_n 2, 1) := by decide +kernel
theorem dX3_carries_76 : decode cX3_carries 76 = .ok (.iaload, 1) := by decide +kernel
theorem dX3_carries_77 : decode cX3_carries 77 = .ok (.iload_n 1, 1) := by decide +kernel
theorem dX3_carries_78 : decode cX3_carries 78 = .ok (.if_icmp .eq 7, 3) := by decide +kernel
theorem dX3_carries_81 : decode cX3_carries 81 = .ok (.iconst 1, 1) := by decide +kernel
theorem dX3_carries_82 : decode cX3_carries 82 = .ok (.goto 4, 3) := by decide +kernel
theorem dX3_carries_85 : decode cX3_carries 85 = .ok (.iconst 0, 1) := by decide +kernel
theorem dX3_carries_86 : decode cX3_carries 86 = .ok (.istore 5, 2) := by decide +kernel
theorem dX3_carries_88 : decode cX3_carries 88 = .ok (.aload_n 0, 1) := by decide +kernel
theorem dX3_carries_89 : decode cX3_carries 89 = .ok (.getfield 15, 3) := by decide +kernel
theorem dX3_carries_92 : decode cX3_carries 92 = .ok (.iload_n 1, 1) := by decide +kernel
theorem dX3_carries_93 : decode cX3_carries 93 = .ok (.iaload, 1) := by decide +kernel
theorem dX3_carries_94 : decode cX3_carries 94 = .ok (.tableswitch 90 1 5 #[34, 37, 40, 67, 88], 34) := by decide +kernel
theorem dX3_carries_128 : decode cX3_carries 128 = .ok (.iload 4, 2) := by decide +kernel
theorem dX3_carries_130 : decode cX3_carries 130 = .ok (.ireturn, 1) := by decide +kernel
theorem dX3_carries_131 : decode cX3_carries 131 = .ok (.iload 5, 2) := by decide +kernel
theorem dX3_carries_133 : decode cX3_carries 133 = .ok (.ireturn, 1) := by decide +kernel
theorem dX3_carries_134 : decode cX3_carries 134 = .ok (.iload 4, 2) := by decide +kernel
theorem dX3_carries_136 : decode cX3_carries 136 = .ok (.ifCond .eq 23, 3) := by decide +kernel
theorem dX3_carries_139 : decode cX3_carries 139 = .ok (.aload_n 0, 1) := by decide +kernel
theorem dX3_carries_140 : decode cX3_carries 140 = .ok (.getfield 44, 3) := by decide +kernel
theorem dX3_carries_143 : decode cX3_carries 143 = .ok (.bipush 7, 2) := by decide +kernel
theorem dX3_carries_145 : decode cX3_carries 145 = .ok (.irem, 1) := by decide +kernel
theorem dX3_carries_146 : decode cX3_carries 146 = .ok (.aload_n 0, 1) := by decide +kernel
theorem dX3_carries_147 : decode cX3_carries 147 = .ok (.getfield 19, 3) := by decide +kernel
theorem dX3_carries_150 : decode cX3_carries 150 = .ok (.iload_n 1, 1) := by decide +kernel
theorem dX3_carries_151 : decode cX3_carries 151 = .ok (.iaload, 1) := by decide +kernel
theorem dX3_carries_152 : decode cX3_carries 152 = .ok (.if_icmp .eq 7, 3) := by decide +kernel
theorem dX3_carries_155 : decode cX3_carries 155 = .ok (.iconst 1, 1) := by decide +kernel
theorem dX3_carries_156 : decode cX3_carries 156 = .ok (.goto 4, 3) := by decide +kernel
theorem dX3_carries_159 : decode cX3_carries 159 = .ok (.iconst 0, 1) := by decide +kernel
theorem dX3_carries_160 : decode cX3_carries 160 = .ok (.ireturn, 1) := by decide +kernel
theorem dX3_carries_161 : decode cX3_carries 161 = .ok (.iload 5, 2) := by decide +kernel
theorem dX3_carries_163 : decode cX3_carries 163 = .ok (.ifCond .eq 17, 3) := by decide +kernel
theorem dX3_carries_166 : decode cX3_carries 166 = .ok (.aload_n 0, 1) := by decide +kernel
theorem dX3_carries_167 : decode cX3_carries 167 = .ok (.getfield 19, 3) := by decide +kernel
theorem dX3_carries_170 : decode cX3_carries 170 = .ok (.iload_n 1, 1) := by decide +kernel
theorem dX3_carries_171 : decode cX3_carries 171 = .ok (.iaload, 1) := by decide +kernel
theorem dX3_carries_172 : decode cX3_carries 172 = .ok (.iconst 4, 1) := by decide +kernel
theorem dX3_carries_173 : decode cX3_carries 173 = .ok (.if_icmp .gt 7, 3) := by decide +kernel
theorem dX3_carries_176 : decode cX3_carries 176 = .ok (.iconst 1, 1) := by decide +kernel
theorem dX3_carries_177 : decode cX3_carries 177 = .ok (.goto 4, 3) := by decide +kernel
theorem dX3_carries_180 : decode cX3_carries 180 = .ok (.iconst 0, 1) := by decide +kernel
theorem dX3_carries_181 : decode cX3_carries 181 = .ok (.ireturn, 1) := by decide +kernel
theorem dX3_carries_182 : decode cX3_carries 182 = .ok (.iconst 1, 1) := by decide +kernel
theorem dX3_carries_183 : decode cX3_carries 183 = .ok (.ireturn, 1) := by decide +kernel
theorem dX3_carries_184 : decode cX3_carries 184 = .ok (.iload_n 3, 1) := by decide +kernel
theorem dX3_carries_185 : decode cX3_carries 185 = .ok (.ireturn, 1) := by decide +kernel
theorem dX3_softens_0 : decode cX3_softens 0 = .ok (.aload_n 0, 1) := by decide +kernel
theorem dX3_softens_1 : decode cX3_softens 1 = .ok (.iload_n 1, 1) := by decide +kernel
theorem dX3_softens_2 : decode cX3_softens 2 = .ok (.invokevirtual 59, 3) := by decide +kernel
theorem dX3_softens_5 : decode cX3_softens 5 = .ok (.ifCond .eq 11, 3) := by decide +kernel
theorem dX3_softens_8 : decode cX3_softens 8 = .ok (.aload_n 0, 1) := by decide +kernel
theorem dX3_softens_9 : decode cX3_softens 9 = .ok (.iload_n 2, 1) := by decide +kernel
theorem dX3_softens_10 : decode cX3_softens 10 = .ok (.invokevirtual 63, 3) := by decide +kernel
theorem dX3_softens_13 : decode cX3_softens 13 = .ok (.ifCond .ne 5, 3) := by decide +kernel
theorem dX3_softens_16 : decode cX3_softens 16 = .ok (.iconst 0, 1) := by decide +kernel
theorem dX3_softens_17 : decode cX3_softens 17 = .ok (.ireturn, 1) := by decide +kernel
theorem dX3_softens_18 : decode cX3_softens 18 = .ok (.aload_n 0, 1) := by decide +kernel
theorem dX3_softens_19 : decode cX3_softens 19 = .ok (.iconst 1, 1) := by decide +kernel
theorem dX3_softens_20 : decode cX3_softens 20 = .ok (.iload_n 1, 1) := by decide +kernel
theorem dX3_softens_21 : decode cX3_softens 21 = .ok (.iload_n 2, 1) := by decide +kernel
theorem dX3_softens_22 : decode cX3_softens 22 = .ok (.invokevirtual 114, 3) := by decide +kernel
theorem dX3_softens_25 : decode cX3_softens 25 = .ok (.istore_n 3, 1) := by decide +kernel
theorem dX3_softens_26 : decode cX3_softens 26 = .ok (.aload_n 0, 1) := by decide +kernel
theorem dX3_softens_27 : decode cX3_softens 27 = .ok (.getfield 15, 3) := by decide +kernel
theorem dX3_softens_30 : decode cX3_softens 30 = .ok (.iload_n 1, 1) := by decide +kernel
theorem dX3_softens_31 : decode cX3_softens 31 = .ok (.iaload, 1) := by decide +kernel
theorem dX3_softens_32 : decode cX3_softens 32 = .ok (.tableswitch 80 1 5 #[36, 40, 49, 68, 78], 36) := by decide +kernel
theorem dX3_softens_68 : decode cX3_softens 68 = .ok (.iconst 2, 1) := by decide +kernel
theorem dX3_softens_69 : decode cX3_softens 69 = .ok (.iload_n 3, 1) := by decide +kernel
theorem dX3_softens_70 : decode cX3_softens 70 = .ok (.imul, 1) := by decide +kernel
theorem dX3_softens_71 : decode cX3_softens 71 = .ok (.ireturn, 1) := by decide +kernel
theorem dX3_softens_72 : decode cX3_softens 72 = .ok (.iload_n 3, 1) := by decide +kernel
theorem dX3_softens_73 : decode cX3_softens 73 = .ok (.aload_n 0, 1) := by decide +kernel
theorem dX3_softens_74 : decode cX3_softens 74 = .ok (.getfield 19, 3) := by decide +kernel
theorem dX3_softens_77 : decode cX3_softens 77 = .ok (.iload_n 1, 1) := by decide +kernel
theorem dX3_softens_78 : decode cX3_softens 78 = .ok (.iaload, 1) := by decide +kernel
theorem dX3_softens_79 : decode cX3_softens 79 = .ok (.iadd, 1) := by decide +kernel
theorem dX3_softens_80 : decode cX3_softens 80 = .ok (.ireturn, 1) := by decide +kernel
theorem dX3_softens_81 : decode cX3_softens 81 = .ok (.aload_n 0, 1) := by decide +kernel
theorem dX3_softens_82 : decode cX3_softens 82 = .ok (.getfield 34, 3) := by decide +kernel
theorem dX3_softens_85 : decode cX3_softens 85 = .ok (.iload_n 2, 1) := by decide +kernel
theorem dX3_softens_86 : decode cX3_softens 86 = .ok (.iaload, 1) := by decide +kernel
theorem dX3_softens_87 : decode cX3_softens 87 = .ok (.bipush 20, 2) := by decide +kernel
theorem dX3_softens_89 : decode cX3_softens 89 = .ok (.if_icmp .le 9, 3) := by decide +kernel
theorem dX3_softens_92 : decode cX3_softens 92 = .ok (.iconst 2, 1) := by decide +kernel
theorem dX3_softens_93 : decode cX3_softens 93 = .ok (.iload_n 3, 1) := by decide +kernel
theorem dX3_softens_94 : decode cX3_softens 94 = .ok (.imul, 1) := by decide +kernel
theorem dX3_softens_95 : decode cX3_softens 95 = .ok (.goto 4, 3) := by decide +kernel
theorem dX3_softens_98 : decode cX3_softens 98 = .ok (.iconst 0, 1) := by decide +kernel
theorem dX3_softens_99 : decode cX3_softens 99 = .ok (.ireturn, 1) := by decide +kernel
theorem dX3_softens_100 : decode cX3_softens 100 = .ok (.iload_n 3, 1) := by decide +kernel
theorem dX3_softens_101 : decode cX3_softens 101 = .ok (.aload_n 0, 1) := by decide +kernel
theorem dX3_softens_102 : decode cX3_softens 102 = .ok (.getfield 19, 3) := by decide +kernel
theorem dX3_softens_105 : decode cX3_softens 105 = .ok (.iload_n 1, 1) := by decide +kernel
theorem dX3_softens_106 : decode cX3_softens 106 = .ok (.iaload, 1) := by decide +kernel
theorem dX3_softens_107 : decode cX3_softens 107 = .ok (.iadd, 1) := by decide +kernel
theorem dX3_softens_108 : decode cX3_softens 108 = .ok (.ineg, 1) := by decide +kernel
theorem dX3_softens_109 : decode cX3_softens 109 = .ok (.ireturn, 1) := by decide +kernel
theorem dX3_softens_110 : decode cX3_softens 110 = .ok (.iconst 0, 1) := by decide +kernel
theorem dX3_softens_111 : decode cX3_softens 111 = .ok (.ireturn, 1) := by decide +kernel
theorem dX3_softens_112 : decode cX3_softens 112 = .ok (.iload_n 3, 1) := by decide +kernel
theorem dX3_softens_113 : decode cX3_softens 113 = .ok (.ireturn, 1) := by decide +kernel
theorem dX3_toneWritten_0 : decode cX3_toneWritten 0 = .ok (.aload_n 0, 1) := by decide +kernel
theorem dX3_toneWritten_1 : decode cX3_toneWritten 1 = .ok (.iload_n 1, 1) := by decide +kernel
theorem dX3_toneWritten_2 : decode cX3_toneWritten 2 = .ok (.invokevirtual 59, 3) := by decide +kernel
theorem dX3_toneWritten_5 : decode cX3_toneWritten 5 = .ok (.ifCond .ne 5, 3) := by decide +kernel
theorem dX3_toneWritten_8 : decode cX3_toneWritten 8 = .ok (.iconst 0, 1) := by decide +kernel
theorem dX3_toneWritten_9 : decode cX3_toneWritten 9 = .ok (.ireturn, 1) := by decide +kernel
theorem dX3_toneWritten_10 : decode cX3_toneWritten 10 = .ok (.aload_n 0, 1) := by decide +kernel
theorem dX3_toneWritten_11 : decode cX3_toneWritten 11 = .ok (.iconst 2, 1) := by decide +kernel
theorem dX3_toneWritten_12 : decode cX3_toneWritten 12 = .ok (.iload_n 1, 1) := by decide +kernel
theorem dX3_toneWritten_13 : decode cX3_toneWritten 13 = .ok (.iconst (-1), 1) := by decide +kernel
theorem dX3_toneWritten_14 : decode cX3_toneWritten 14 = .ok (.invokevirtual 114, 3) := by decide +kernel
theorem dX3_toneWritten_17 : decode cX3_toneWritten 17 = .ok (.istore_n 2, 1) := by decide +kernel
theorem dX3_toneWritten_18 : decode cX3_toneWritten 18 = .ok (.aload_n 0, 1) := by decide +kernel
theorem dX3_toneWritten_19 : decode cX3_toneWritten 19 = .ok (.getfield 15, 3) := by decide +kernel
theorem dX3_toneWritten_22 : decode cX3_toneWritten 22 = .ok (.iload_n 1, 1) := by decide +kernel
theorem dX3_toneWritten_23 : decode cX3_toneWritten 23 = .ok (.iaload, 1) := by decide +kernel
theorem dX3_toneWritten_24 : decode cX3_toneWritten 24 = .ok (.tableswitch 55 1 5 #[36, 40, 36, 40, 45], 36) := by decide +kernel
theorem dX3_toneWritten_60 : decode cX3_toneWritten 60 = .ok (.iload_n 2, 1) := by decide +kernel
theorem dX3_toneWritten_61 : decode cX3_toneWritten 61 = .ok (.iconst 2, 1) := by decide +kernel
theorem dX3_toneWritten_62 : decode cX3_toneWritten 62 = .ok (.idiv, 1) := by decide +kernel
theorem dX3_toneWritten_63 : decode cX3_toneWritten 63 = .ok (.ireturn, 1) := by decide +kernel
theorem dX3_toneWritten_64 : decode cX3_toneWritten 64 = .ok (.bipush 99, 2) := by decide +kernel
theorem dX3_toneWritten_66 : decode cX3_toneWritten 66 = .ok (.iload_n 2, 1) := by decide +kernel
theorem dX3_toneWritten_67 : decode cX3_toneWritten 67 = .ok (.isub, 1) := by decide +kernel
theorem dX3_toneWritten_68 : decode cX3_toneWritten 68 = .ok (.ireturn, 1) := by decide +kernel
theorem dX3_toneWritten_69 : decode cX3_toneWritten 69 = .ok (.bipush 10, 2) := by decide +kernel
theorem dX3_toneWritten_71 : decode cX3_toneWritten 71 = .ok (.aload_n 0, 1) := by decide +kernel
theorem dX3_toneWritten_72 : decode cX3_toneWritten 72 = .ok (.getfield 19, 3) := by decide +kernel
theorem dX3_toneWritten_75 : decode cX3_toneWritten 75 = .ok (.iload_n 1, 1) := by decide +kernel
theorem dX3_toneWritten_76 : decode cX3_toneWritten 76 = .ok (.iaload, 1) := by decide +kernel
theorem dX3_toneWritten_77 : decode cX3_toneWritten 77 = .ok (.imul, 1) := by decide +kernel
theorem dX3_toneWritten_78 : decode cX3_toneWritten 78 = .ok (.ireturn, 1) := by decide +kernel
theorem dX3_toneWritten_79 : decode cX3_toneWritten 79 = .ok (.iload_n 2, 1) := by decide +kernel
theorem dX3_toneWritten_80 : decode cX3_toneWritten 80 = .ok (.ireturn, 1) := by decide +kernel
theorem dX3_ruled_0 : decode cX3_ruled 0 = .ok (.aload_n 0, 1) := by decide +kernel
theorem dX3_ruled_1 : decode cX3_ruled 1 = .ok (.getfield 40, 3) := by decide +kernel
theorem dX3_ruled_4 : decode cX3_ruled 4 = .ok (.aload_n 0, 1) := by decide +kernel
theorem dX3_ruled_5 : decode cX3_ruled 5 = .ok (.iload_n 3, 1) := by decide +kernel
theorem dX3_ruled_6 : decode cX3_ruled 6 = .ok (.invokevirtual 118, 3) := by decide +kernel
theorem dX3_ruled_9 : decode cX3_ruled 9 = .ok (.putfield 121, 3) := by decide +kernel
theorem dX3_ruled_12 : decode cX3_ruled 12 = .ok (.aload_n 0, 1) := by decide +kernel
theorem dX3_ruled_13 : decode cX3_ruled 13 = .ok (.getfield 40, 3) := by decide +kernel
theorem dX3_ruled_16 : decode cX3_ruled 16 = .ok (.aload_n 0, 1) := by decide +kernel
theorem dX3_ruled_17 : decode cX3_ruled 17 = .ok (.iload_n 2, 1) := by decide +kernel
theorem dX3_ruled_18 : decode cX3_ruled 18 = .ok (.invokevirtual 66, 3) := by decide +kernel
theorem dX3_ruled_21 : decode cX3_ruled 21 = .ok (.putfield 123, 3) := by decide +kernel
theorem dX3_ruled_24 : decode cX3_ruled 24 = .ok (.aload_n 0, 1) := by decide +kernel
theorem dX3_ruled_25 : decode cX3_ruled 25 = .ok (.getfield 40, 3) := by decide +kernel
theorem dX3_ruled_28 : decode cX3_ruled 28 = .ok (.aload_n 0, 1) := by decide +kernel
theorem dX3_ruled_29 : decode cX3_ruled 29 = .ok (.iload_n 2, 1) := by decide +kernel
theorem dX3_ruled_30 : decode cX3_ruled 30 = .ok (.invokevirtual 125, 3) := by decide +kernel
theorem dX3_ruled_33 : decode cX3_ruled 33 = .ok (.putfield 128, 3) := by decide +kernel
theorem dX3_ruled_36 : decode cX3_ruled 36 = .ok (.aload_n 0, 1) := by decide +kernel
theorem dX3_ruled_37 : decode cX3_ruled 37 = .ok (.getfield 40, 3) := by decide +kernel
theorem dX3_ruled_40 : decode cX3_ruled 40 = .ok (.aload_n 0, 1) := by decide +kernel
theorem dX3_ruled_41 : decode cX3_ruled 41 = .ok (.getfield 44, 3) := by decide +kernel
theorem dX3_ruled_44 : decode cX3_ruled 44 = .ok (.putfield 130, 3) := by decide +kernel
theorem dX3_ruled_47 : decode cX3_ruled 47 = .ok (.aload_n 0, 1) := by decide +kernel
theorem dX3_ruled_48 : decode cX3_ruled 48 = .ok (.getfield 40, 3) := by decide +kernel
theorem dX3_ruled_51 : decode cX3_ruled 51 = .ok (.aload_n 0, 1) := by decide +kernel
theorem dX3_ruled_52 : decode cX3_ruled 52 = .ok (.iload_n 3, 1) := by decide +kernel
theorem dX3_ruled_53 : decode cX3_ruled 53 = .ok (.invokevirtual 84, 3) := by decide +kernel
theorem dX3_ruled_56 : decode cX3_ruled 56 = .ok (.invokestatic 131, 3) := by decide +kernel
theorem dX3_ruled_59 : decode cX3_ruled 59 = .ok (.putfield 136, 3) := by decide +kernel
theorem dX3_ruled_62 : decode cX3_ruled 62 = .ok (.aload_n 0, 1) := by decide +kernel
theorem dX3_ruled_63 : decode cX3_ruled 63 = .ok (.getfield 40, 3) := by decide +kernel
theorem dX3_ruled_66 : decode cX3_ruled 66 = .ok (.aload_n 0, 1) := by decide +kernel
theorem dX3_ruled_67 : decode cX3_ruled 67 = .ok (.iload_n 3, 1) := by decide +kernel
theorem dX3_ruled_68 : decode cX3_ruled 68 = .ok (.invokevirtual 63, 3) := by decide +kernel
theorem dX3_ruled_71 : decode cX3_ruled 71 = .ok (.ifCond .eq 17, 3) := by decide +kernel
theorem dX3_ruled_74 : decode cX3_ruled 74 = .ok (.aload_n 0, 1) := by decide +kernel
theorem dX3_ruled_75 : decode cX3_ruled 75 = .ok (.getfield 25, 3) := by decide +kernel
theorem dX3_ruled_78 : decode cX3_ruled 78 = .ok (.iload_n 3, 1) := by decide +kernel
theorem dX3_ruled_79 : decode cX3_ruled 79 = .ok (.iaload, 1) := by decide +kernel
theorem dX3_ruled_80 : decode cX3_ruled 80 = .ok (.iload_n 2, 1) := by decide +kernel
theorem dX3_ruled_81 : decode cX3_ruled 81 = .ok (.if_icmp .ne 7, 3) := by decide +kernel
theorem dX3_ruled_84 : decode cX3_ruled 84 = .ok (.iconst 1, 1) := by decide +kernel
theorem dX3_ruled_85 : decode cX3_ruled 85 = .ok (.goto 4, 3) := by decide +kernel
theorem dX3_ruled_88 : decode cX3_ruled 88 = .ok (.iconst 0, 1) := by decide +kernel
theorem dX3_ruled_89 : decode cX3_ruled 89 = .ok (.putfield 138, 3) := by decide +kernel
theorem dX3_ruled_92 : decode cX3_ruled 92 = .ok (.aload_n 0, 1) := by decide +kernel
theorem dX3_ruled_93 : decode cX3_ruled 93 = .ok (.getfield 40, 3) := by decide +kernel
theorem dX3_ruled_96 : decode cX3_ruled 96 = .ok (.aload_n 0, 1) := by decide +kernel
theorem dX3_ruled_97 : decode cX3_ruled 97 = .ok (.getfield 47, 3) := by decide +kernel
theorem dX3_ruled_100 : decode cX3_ruled 100 = .ok (.iload_n 1, 1) := by decide +kernel
theorem dX3_ruled_101 : decode cX3_ruled 101 = .ok (.invokevirtual 141, 3) := by decide +kernel
theorem dX3_ruled_104 : decode cX3_ruled 104 = .ok (.iload_n 1, 1) := by decide +kernel
theorem dX3_ruled_105 : decode cX3_ruled 105 = .ok (.iconst 2, 1) := by decide +kernel
theorem dX3_ruled_106 : decode cX3_ruled 106 = .ok (.if_icmp .ne 7, 3) := by decide +kernel
theorem dX3_ruled_109 : decode cX3_ruled 109 = .ok (.iconst 0, 1) := by decide +kernel
theorem dX3_ruled_110 : decode cX3_ruled 110 = .ok (.goto 5, 3) := by decide +kernel
theorem dX3_ruled_113 : decode cX3_ruled 113 = .ok (.bipush (-99), 2) := by decide +kernel
theorem dX3_ruled_115 : decode cX3_ruled 115 = .ok (.invokestatic 109, 3) := by decide +kernel
theorem dX3_ruled_118 : decode cX3_ruled 118 = .ok (.ireturn, 1) := by decide +kernel
theorem dX3_bounded_0 : decode cX3_bounded 0 = .ok (.iload_n 1, 1) := by decide +kernel
theorem dX3_bounded_1 : decode cX3_bounded 1 = .ok (.bipush 99, 2) := by decide +kernel
theorem dX3_bounded_3 : decode cX3_bounded 3 = .ok (.iload_n 0, 1) := by decide +kernel
theorem dX3_bounded_4 : decode cX3_bounded 4 = .ok (.invokestatic 144, 3) := by decide +kernel
theorem dX3_bounded_7 : decode cX3_bounded 7 = .ok (.invokestatic 149, 3) := by decide +kernel
theorem dX3_bounded_10 : decode cX3_bounded 10 = .ok (.ireturn, 1) := by decide +kernel
theorem dX3_isUnder_0 : decode cX3_isUnder 0 = .ok (.iload_n 0, 1) := by decide +kernel
theorem dX3_isUnder_1 : decode cX3_isUnder 1 = .ok (.istore_n 2, 1) := by decide +kernel
theorem dX3_isUnder_2 : decode cX3_isUnder 2 = .ok (.iconst 0, 1) := by decide +kernel
theorem dX3_isUnder_3 : decode cX3_isUnder 3 = .ok (.istore_n 3, 1) := by decide +kernel
theorem dX3_isUnder_4 : decode cX3_isUnder 4 = .ok (.iload_n 3, 1) := by decide +kernel
theorem dX3_isUnder_5 : decode cX3_isUnder 5 = .ok (.bipush 6, 2) := by decide +kernel
theorem dX3_isUnder_7 : decode cX3_isUnder 7 = .ok (.if_icmp .ge 34, 3) := by decide +kernel
theorem dX3_isUnder_10 : decode cX3_isUnder 10 = .ok (.iload_n 2, 1) := by decide +kernel
theorem dX3_isUnder_11 : decode cX3_isUnder 11 = .ok (.ifCond .lt 30, 3) := by decide +kernel
theorem dX3_isUnder_14 : decode cX3_isUnder 14 = .ok (.iload_n 2, 1) := by decide +kernel
theorem dX3_isUnder_15 : decode cX3_isUnder 15 = .ok (.getstatic 152, 3) := by decide +kernel
theorem dX3_isUnder_18 : decode cX3_isUnder 18 = .ok (.arraylength, 1) := by decide +kernel
theorem dX3_isUnder_19 : decode cX3_isUnder 19 = .ok (.if_icmp .ge 22, 3) := by decide +kernel
theorem dX3_isUnder_22 : decode cX3_isUnder 22 = .ok (.iload_n 2, 1) := by decide +kernel
theorem dX3_isUnder_23 : decode cX3_isUnder 23 = .ok (.iload_n 1, 1) := by decide +kernel
theorem dX3_isUnder_24 : decode cX3_isUnder 24 = .ok (.if_icmp .ne 5, 3) := by decide +kernel
theorem dX3_isUnder_27 : decode cX3_isUnder 27 = .ok (.iconst 1, 1) := by decide +kernel
theorem dX3_isUnder_28 : decode cX3_isUnder 28 = .ok (.ireturn, 1) := by decide +kernel
theorem dX3_isUnder_29 : decode cX3_isUnder 29 = .ok (.getstatic 152, 3) := by decide +kernel
theorem dX3_isUnder_32 : decode cX3_isUnder 32 = .ok (.iload_n 2, 1) := by decide +kernel
theorem dX3_isUnder_33 : decode cX3_isUnder 33 = .ok (.iaload, 1) := by decide +kernel
theorem dX3_isUnder_34 : decode cX3_isUnder 34 = .ok (.istore_n 2, 1) := by decide +kernel
theorem dX3_isUnder_35 : decode cX3_isUnder 35 = .ok (.iinc 3 1, 3) := by decide +kernel
theorem dX3_isUnder_38 : decode cX3_isUnder 38 = .ok (.goto (-34), 3) := by decide +kernel
theorem dX3_isUnder_41 : decode cX3_isUnder 41 = .ok (.iconst 0, 1) := by decide +kernel
theorem dX3_isUnder_42 : decode cX3_isUnder 42 = .ok (.ireturn, 1) := by decide +kernel
theorem dX4_init_0 : decode cX4_init 0 = .ok (.aload_n 0, 1) := by decide +kernel
theorem dX4_init_1 : decode cX4_init 1 = .ok (.invokespecial 1, 3) := by decide +kernel
theorem dX4_init_4 : decode cX4_init 4 = .ok (.new 7, 3) := by decide +kernel
theorem dX4_init_7 : decode cX4_init 7 = .ok (.dup, 1) := by decide +kernel
theorem dX4_init_8 : decode cX4_init 8 = .ok (.invokespecial 9, 3) := by decide +kernel
theorem dX4_init_11 : decode cX4_init 11 = .ok (.astore_n 1, 1) := by decide +kernel
theorem dX4_init_12 : decode cX4_init 12 = .ok (.aload_n 0, 1) := by decide +kernel
theorem dX4_init_13 : decode cX4_init 13 = .ok (.aload_n 1, 1) := by decide +kernel
theorem dX4_init_14 : decode cX4_init 14 = .ok (.putfield 10, 3) := by decide +kernel
theorem dX4_init_17 : decode cX4_init 17 = .ok (.aload_n 0, 1) := by decide +kernel
theorem dX4_init_18 : decode cX4_init 18 = .ok (.new 16, 3) := by decide +kernel
theorem dX4_init_21 : decode cX4_init 21 = .ok (.dup, 1) := by decide +kernel
theorem dX4_init_22 : decode cX4_init 22 = .ok (.aload_n 1, 1) := by decide +kernel
theorem dX4_init_23 : decode cX4_init 23 = .ok (.invokespecial 18, 3) := by decide +kernel
theorem dX4_init_26 : decode cX4_init 26 = .ok (.putfield 21, 3) := by decide +kernel
theorem dX4_init_29 : decode cX4_init 29 = .ok (.aload_n 0, 1) := by decide +kernel
theorem dX4_init_30 : decode cX4_init 30 = .ok (.getfield 21, 3) := by decide +kernel
theorem dX4_init_33 : decode cX4_init 33 = .ok (.ldc 25, 2) := by decide +kernel
theorem dX4_init_35 : decode cX4_init 35 = .ok (.invokevirtual 27, 3) := by decide +kernel
theorem dX4_init_38 : decode cX4_init 38 = .ok (.aload_n 0, 1) := by decide +kernel
theorem dX4_init_39 : decode cX4_init 39 = .ok (.getfield 21, 3) := by decide +kernel
theorem dX4_init_42 : decode cX4_init 42 = .ok (.invokevirtual 31, 3) := by decide +kernel
theorem dX4_init_45 : decode cX4_init 45 = .ok (.pop, 1) := by decide +kernel
theorem dX4_init_46 : decode cX4_init 46 = .ok (.aload_n 0, 1) := by decide +kernel
theorem dX4_init_47 : decode cX4_init 47 = .ok (.new 35, 3) := by decide +kernel
theorem dX4_init_50 : decode cX4_init 50 = .ok (.dup, 1) := by decide +kernel
theorem dX4_init_51 : decode cX4_init 51 = .ok (.aload_n 1, 1) := by decide +kernel
theorem dX4_init_52 : decode cX4_init 52 = .ok (.invokespecial 37, 3) := by decide +kernel
theorem dX4_init_55 : decode cX4_init 55 = .ok (.putfield 38, 3) := by decide +kernel
theorem dX4_init_58 : decode cX4_init 58 = .ok (.aload_n 0, 1) := by decide +kernel
theorem dX4_init_59 : decode cX4_init 59 = .ok (.new 35, 3) := by decide +kernel
theorem dX4_init_62 : decode cX4_init 62 = .ok (.dup, 1) := by decide +kernel
theorem dX4_init_63 : decode cX4_init 63 = .ok (.aload_n 1, 1) := by decide +kernel
theorem dX4_init_64 : decode cX4_init 64 = .ok (.invokespecial 37, 3) := by decide +kernel
theorem dX4_init_67 : decode cX4_init 67 = .ok (.putfield 42, 3) := by decide +kernel
theorem dX4_init_70 : decode cX4_init 70 = .ok (.aload_n 0, 1) := by decide +kernel
theorem dX4_init_71 : decode cX4_init 71 = .ok (.new 35, 3) := by decide +kernel
theorem dX4_init_74 : decode cX4_init 74 = .ok (.dup, 1) := by decide +kernel
theorem dX4_init_75 : decode cX4_init 75 = .ok (.aload_n 1, 1) := by decide +kernel
theorem dX4_init_76 : decode cX4_init 76 = .ok (.invokespecial 37, 3) := by decide +kernel
theorem dX4_init_79 : decode cX4_init 79 = .ok (.putfield 45, 3) := by decide +kernel
theorem dX4_init_82 : decode cX4_init 82 = .ok (.aload_n 0, 1) := by decide +kernel
theorem dX4_init_83 : decode cX4_init 83 = .ok (.iconst 5, 1) := by decide +kernel
theorem dX4_init_84 : decode cX4_init 84 = .ok (.newarray .int, 2) := by decide +kernel
theorem dX4_init_86 : decode cX4_init 86 = .ok (.putfield 48, 3) := by decide +kernel
theorem dX4_init_89 : decode cX4_init 89 = .ok (.aload_n 0, 1) := by decide +kernel
theorem dX4_init_90 : decode cX4_init 90 = .ok (.iconst 4, 1) := by decide +kernel
theorem dX4_init_91 : decode cX4_init 91 = .ok (.anewarray 52, 3) := by decide +kernel
theorem dX4_init_94 : decode cX4_init 94 = .ok (.putfield 54, 3) := by decide +kernel
theorem dX4_init_97 : decode cX4_init 97 = .ok (.iconst 0, 1) := by decide +kernel
theorem dX4_init_98 : decode cX4_init 98 = .ok (.istore_n 2, 1) := by decide +kernel
theorem dX4_init_99 : decode cX4_init 99 = .ok (.iload_n 2, 1) := by decide +kernel
theorem dX4_init_100 : decode cX4_init 100 = .ok (.aload_n 0, 1) := by decide +kernel
theorem dX4_init_101 : decode cX4_init 101 = .ok (.getfield 54, 3) := by decide +kernel
theorem dX4_init_104 : decode cX4_init 104 = .ok (.arraylength, 1) := by decide +kernel
theorem dX4_init_105 : decode cX4_init 105 = .ok (.if_icmp .ge 22, 3) := by decide +kernel
theorem dX4_init_108 : decode cX4_init 108 = .ok (.aload_n 0, 1) := by decide +kernel
theorem dX4_init_109 : decode cX4_init 109 = .ok (.getfield 54, 3) := by decide +kernel
theorem dX4_init_112 : decode cX4_init 112 = .ok (.iload_n 2, 1) := by decide +kernel
theorem dX4_init_113 : decode cX4_init 113 = .ok (.new 52, 3) := by decide +kernel
theorem dX4_init_116 : decode cX4_init 116 = .ok (.dup, 1) := by decide +kernel
theorem dX4_init_117 : decode cX4_init 117 = .ok (.invokespecial 58, 3) := by decide +kernel
theorem dX4_init_120 : decode cX4_init 120 = .ok (.aastore, 1) := by decide +kernel
theorem dX4_init_121 : decode cX4_init 121 = .ok (.iinc 2 1, 3) := by decide +kernel
theorem dX4_init_124 : decode cX4_init 124 = .ok (.goto (-25), 3) := by decide +kernel
theorem dX4_init_127 : decode cX4_init 127 = .ok (.return_, 1) := by decide +kernel
theorem dX4_set_0 : decode cX4_set 0 = .ok (.aload_n 0, 1) := by decide +kernel
theorem dX4_set_1 : decode cX4_set 1 = .ok (.iload_n 2, 1) := by decide +kernel
theorem dX4_set_2 : decode cX4_set 2 = .ok (.iload_n 1, 1) := by decide +kernel
theorem dX4_set_3 : decode cX4_set 3 = .ok (.invokevirtual 59, 3) := by decide +kernel
theorem dX4_set_6 : decode cX4_set 6 = .ok (.istore 4, 2) := by decide +kernel
theorem dX4_set_8 : decode cX4_set 8 = .ok (.iload_n 1, 1) := by decide +kernel
theorem dX4_set_9 : decode cX4_set 9 = .ok (.ifCond .lt 28, 3) := by decide +kernel
theorem dX4_set_12 : decode cX4_set 12 = .ok (.iload_n 1, 1) := by decide +kernel
theorem dX4_set_13 : decode cX4_set 13 = .ok (.iconst 3, 1) := by decide +kernel
theorem dX4_set_14 : decode cX4_set 14 = .ok (.if_icmp .gt 23, 3) := by decide +kernel
theorem dX4_set_17 : decode cX4_set 17 = .ok (.iload 4, 2) := by decide +kernel
theorem dX4_set_19 : decode cX4_set 19 = .ok (.sipush (-1000), 3) := by decide +kernel
theorem dX4_set_22 : decode cX4_set 22 = .ok (.if_icmp .eq 15, 3) := by decide +kernel
theorem dX4_set_25 : decode cX4_set 25 = .ok (.iload_n 3, 1) := by decide +kernel
theorem dX4_set_26 : decode cX4_set 26 = .ok (.ifCond .lt 11, 3) := by decide +kernel
theorem dX4_set_29 : decode cX4_set 29 = .ok (.iload_n 3, 1) := by decide +kernel
theorem dX4_set_30 : decode cX4_set 30 = .ok (.iload_n 1, 1) := by decide +kernel
theorem dX4_set_31 : decode cX4_set 31 = .ok (.invokestatic 63, 3) := by decide +kernel
theorem dX4_set_34 : decode cX4_set 34 = .ok (.if_icmp .le 6, 3) := by decide +kernel
theorem dX4_set_37 : decode cX4_set 37 = .ok (.bipush (-2), 2) := by decide +kernel
theorem dX4_set_39 : decode cX4_set 39 = .ok (.ireturn, 1) := by decide +kernel
theorem dX4_set_40 : decode cX4_set 40 = .ok (.iload_n 1, 1) := by decide +kernel
theorem dX4_set_41 : decode cX4_set 41 = .ok (.tableswitch 61 0 2 #[27, 38, 49], 27) := by decide +kernel
theorem dX4_set_68 : decode cX4_set 68 = .ok (.aload_n 0, 1) := by decide +kernel
theorem dX4_set_69 : decode cX4_set 69 = .ok (.getfield 38, 3) := by decide +kernel
theorem dX4_set_72 : decode cX4_set 72 = .ok (.iload_n 3, 1) := by decide +kernel
theorem dX4_set_73 : decode cX4_set 73 = .ok (.putfield 67, 3) := by decide +kernel
theorem dX4_set_76 : decode cX4_set 76 = .ok (.goto 35, 3) := by decide +kernel
theorem dX4_set_79 : decode cX4_set 79 = .ok (.aload_n 0, 1) := by decide +kernel
theorem dX4_set_80 : decode cX4_set 80 = .ok (.getfield 38, 3) := by decide +kernel
theorem dX4_set_83 : decode cX4_set 83 = .ok (.iload_n 3, 1) := by decide +kernel
theorem dX4_set_84 : decode cX4_set 84 = .ok (.putfield 71, 3) := by decide +kernel
theorem dX4_set_87 : decode cX4_set 87 = .ok (.goto 24, 3) := by decide +kernel
theorem dX4_set_90 : decode cX4_set 90 = .ok (.aload_n 0, 1) := by decide +kernel
theorem dX4_set_91 : decode cX4_set 91 = .ok (.getfield 38, 3) := by decide +kernel
theorem dX4_set_94 : decode cX4_set 94 = .ok (.iload_n 2, 1) := by decide +kernel
theorem dX4_set_95 : decode cX4_set 95 = .ok (.iload_n 3, 1) := by decide +kernel
theorem dX4_set_96 : decode cX4_set 96 = .ok (.invokevirtual 74, 3) := by decide +kernel
theorem dX4_set_99 : decode cX4_set 99 = .ok (.goto 12, 3) := by decide +kernel
theorem dX4_set_102 : decode cX4_set 102 = .ok (.aload_n 0, 1) := by decide +kernel
theorem dX4_set_103 : decode cX4_set 103 = .ok (.getfield 38, 3) := by decide +kernel
theorem dX4_set_106 : decode cX4_set 106 = .ok (.iload_n 2, 1) := by decide +kernel
theorem dX4_set_107 : decode cX4_set 107 = .ok (.iload_n 3, 1) := by decide +kernel
theorem dX4_set_108 : decode cX4_set 108 = .ok (.invokevirtual 78, 3) := by decide +kernel
theorem dX4_set_111 : decode cX4_set 111 = .ok (.iload 4, 2) := by decide +kernel
theorem dX4_set_113 : decode cX4_set 113 = .ok (.ireturn, 1) := by decide +kernel
theorem dX4_person_0 : decode cX4_person 0 = .ok (.iload_n 1, 1) := by decide +kernel
theorem dX4_person_1 : decode cX4_person 1 = .ok (.ifCond .lt 18, 3) := by decide +kernel
theorem dX4_person_4 : decode cX4_person 4 = .ok (.iload_n 1, 1) := by decide +kernel
theorem dX4_person_5 : decode cX4_person 5 = .ok (.iconst 5, 1) := by decide +kernel
theorem dX4_person_6 : decode cX4_person 6 = .ok (.if_icmp .gt 13, 3) := by decide +kernel
theorem dX4_person_9 : decode cX4_person 9 = .ok (.iload_n 2, 1) := by decide +kernel
theorem dX4_person_10 : decode cX4_person 10 = .ok (.ifCond .lt 9, 3) := by decide +kernel
theorem dX4_person_13 : decode cX4_person 13 = .ok (.iload_n 2, 1) := by decide +kernel
theorem dX4_person_14 : decode cX4_person 14 = .ok (.bipush 9, 2) := by decide +kernel
theorem dX4_person_16 : decode cX4_person 16 = .ok (.if_icmp .le 6, 3) := by decide +kernel
theorem dX4_person_19 : decode cX4_person 19 = .ok (.bipush (-2), 2) := by decide +kernel
theorem dX4_person_21 : decode cX4_person 21 = .ok (.ireturn, 1) := by decide +kernel
theorem dX4_person_22 : decode cX4_person 22 = .ok (.iload_n 3, 1) := by decide +kernel
theorem dX4_person_23 : decode cX4_person 23 = .ok (.ifCond .lt 21, 3) := by decide +kernel
theorem dX4_person_26 : decode cX4_person 26 = .ok (.iload_n 3, 1) := by decide +kernel
theorem dX4_person_27 : decode cX4_person 27 = .ok (.bipush 8, 2) := by decide +kernel
theorem dX4_person_29 : decode cX4_person 29 = .ok (.if_icmp .ge 15, 3) := by decide +kernel
theorem dX4_person_32 : decode cX4_person 32 = .ok (.aload_n 0, 1) := by decide +kernel
theorem dX4_person_33 : decode cX4_person 33 = .ok (.getfield 38, 3) := by decide +kernel
theorem dX4_person_36 : decode cX4_person 36 = .ok (.iload_n 3, 1) := by decide +kernel
theorem dX4_person_37 : decode cX4_person 37 = .ok (.invokevirtual 81, 3) := by decide +kernel
theorem dX4_person_40 : decode cX4_person 40 = .ok (.iconst (-1), 1) := by decide +kernel
theorem dX4_person_41 : decode cX4_person 41 = .ok (.if_icmp .eq 6, 3) := by decide +kernel
theorem dX4_person_44 : decode cX4_person 44 = .ok (.bipush (-2), 2) := by decide +kernel
theorem dX4_person_46 : decode cX4_person 46 = .ok (.ireturn, 1) := by decide +kernel
theorem dX4_person_47 : decode cX4_person 47 = .ok (.aload_n 0, 1) := by decide +kernel
theorem dX4_person_48 : decode cX4_person 48 = .ok (.getfield 38, 3) := by decide +kernel
theorem dX4_person_51 : decode cX4_person 51 = .ok (.iload_n 1, 1) := by decide +kernel
theorem dX4_person_52 : decode cX4_person 52 = .ok (.iload_n 2, 1) := by decide +kernel
theorem dX4_person_53 : decode cX4_person 53 = .ok (.iload_n 3, 1) := by decide +kernel
theorem dX4_person_54 : decode cX4_person 54 = .ok (.invokevirtual 84, 3) := by decide +kernel
theorem dX4_person_57 : decode cX4_person 57 = .ok (.ireturn, 1) := by decide +kernel
theorem dX4_swap_0 : decode cX4_swap 0 = .ok (.aload_n 0, 1) := by decide +kernel
theorem dX4_swap_1 : decode cX4_swap 1 = .ok (.getfield 38, 3) := by decide +kernel
theorem dX4_swap_4 : decode cX4_swap 4 = .ok (.iload_n 1, 1) := by decide +kernel
theorem dX4_swap_5 : decode cX4_swap 5 = .ok (.iload_n 2, 1) := by decide +kernel
theorem dX4_swap_6 : decode cX4_swap 6 = .ok (.invokevirtual 88, 3) := by decide +kernel
theorem dX4_swap_9 : decode cX4_swap 9 = .ok (.ifCond .ne 6, 3) := by decide +kernel
theorem dX4_swap_12 : decode cX4_swap 12 = .ok (.bipush (-2), 2) := by decide +kernel
theorem dX4_swap_14 : decode cX4_swap 14 = .ok (.ireturn, 1) := by decide +kernel
theorem dX4_swap_15 : decode cX4_swap 15 = .ok (.aload_n 0, 1) := by decide +kernel
theorem dX4_swap_16 : decode cX4_swap 16 = .ok (.getfield 38, 3) := by decide +kernel
theorem dX4_swap_19 : decode cX4_swap 19 = .ok (.iload_n 2, 1) := by decide +kernel
theorem dX4_swap_20 : decode cX4_swap 20 = .ok (.invokevirtual 92, 3) := by decide +kernel
theorem dX4_swap_23 : decode cX4_swap 23 = .ok (.istore_n 3, 1) := by decide +kernel
theorem dX4_swap_24 : decode cX4_swap 24 = .ok (.aload_n 0, 1) := by decide +kernel
theorem dX4_swap_25 : decode cX4_swap 25 = .ok (.getfield 38, 3) := by decide +kernel
theorem dX4_swap_28 : decode cX4_swap 28 = .ok (.iload_n 2, 1) := by decide +kernel
theorem dX4_swap_29 : decode cX4_swap 29 = .ok (.aload_n 0, 1) := by decide +kernel
theorem dX4_swap_30 : decode cX4_swap 30 = .ok (.getfield 38, 3) := by decide +kernel
theorem dX4_swap_33 : decode cX4_swap 33 = .ok (.iload_n 1, 1) := by decide +kernel
theorem dX4_swap_34 : decode cX4_swap 34 = .ok (.invokevirtual 92, 3) := by decide +kernel
theorem dX4_swap_37 : decode cX4_swap 37 = .ok (.invokevirtual 95, 3) := by decide +kernel
theorem dX4_swap_40 : decode cX4_swap 40 = .ok (.aload_n 0, 1) := by decide +kernel
theorem dX4_swap_41 : decode cX4_swap 41 = .ok (.getfield 38, 3) := by decide +kernel
theorem dX4_swap_44 : decode cX4_swap 44 = .ok (.iload_n 1, 1) := by decide +kernel
theorem dX4_swap_45 : decode cX4_swap 45 = .ok (.iload_n 3, 1) := by decide +kernel
theorem dX4_swap_46 : decode cX4_swap 46 = .ok (.invokevirtual 95, 3) := by decide +kernel
theorem dX4_swap_49 : decode cX4_swap 49 = .ok (.iload_n 3, 1) := by decide +kernel
theorem dX4_swap_50 : decode cX4_swap 50 = .ok (.ireturn, 1) := by decide +kernel
theorem dX4_told_0 : decode cX4_told 0 = .ok (.iload_n 2, 1) := by decide +kernel
theorem dX4_told_1 : decode cX4_told 1 = .ok (.ifCond .ne 11, 3) := by decide +kernel
theorem dX4_told_4 : decode cX4_told 4 = .ok (.aload_n 0, 1) := by decide +kernel
theorem dX4_told_5 : decode cX4_told 5 = .ok (.getfield 38, 3) := by decide +kernel
theorem dX4_told_8 : decode cX4_told 8 = .ok (.getfield 67, 3) := by decide +kernel
theorem dX4_told_11 : decode cX4_told 11 = .ok (.ireturn, 1) := by decide +kernel
theorem dX4_told_12 : decode cX4_told 12 = .ok (.iload_n 2, 1) := by decide +kernel
theorem dX4_told_13 : decode cX4_told 13 = .ok (.iconst 1, 1) := by decide +kernel
theorem dX4_told_14 : decode cX4_told 14 = .ok (.if_icmp .ne 11, 3) := by decide +kernel
theorem dX4_told_17 : decode cX4_told 17 = .ok (.aload_n 0, 1) := by decide +kernel
theorem dX4_told_18 : decode cX4_told 18 = .ok (.getfield 38, 3) := by decide +kernel
theorem dX4_told_21 : decode cX4_told 21 = .ok (.getfield 71, 3) := by decide +kernel
theorem dX4_told_24 : decode cX4_told 24 = .ok (.ireturn, 1) := by decide +kernel
theorem dX4_told_25 : decode cX4_told 25 = .ok (.iload_n 2, 1) := by decide +kernel
theorem dX4_told_26 : decode cX4_told 26 = .ok (.iconst 3, 1) := by decide +kernel
theorem dX4_told_27 : decode cX4_told 27 = .ok (.if_icmp .eq 9, 3) := by decide +kernel
theorem dX4_told_30 : decode cX4_told 30 = .ok (.iload_n 2, 1) := by decide +kernel
theorem dX4_told_31 : decode cX4_told 31 = .ok (.bipush 7, 2) := by decide +kernel
theorem dX4_told_33 : decode cX4_told 33 = .ok (.if_icmp .lt 27, 3) := by decide +kernel
theorem dX4_told_36 : decode cX4_told 36 = .ok (.aload_n 0, 1) := by decide +kernel
theorem dX4_told_37 : decode cX4_told 37 = .ok (.getfield 38, 3) := by decide +kernel
theorem dX4_told_40 : decode cX4_told 40 = .ok (.iload_n 1, 1) := by decide +kernel
theorem dX4_told_41 : decode cX4_told 41 = .ok (.invokevirtual 98, 3) := by decide +kernel
theorem dX4_told_44 : decode cX4_told 44 = .ok (.ifCond .eq 12, 3) := by decide +kernel
theorem dX4_told_47 : decode cX4_told 47 = .ok (.aload_n 0, 1) := by decide +kernel
theorem dX4_told_48 : decode cX4_told 48 = .ok (.iload_n 1, 1) := by decide +kernel
theorem dX4_told_49 : decode cX4_told 49 = .ok (.iload_n 2, 1) := by decide +kernel
theorem dX4_told_50 : decode cX4_told 50 = .ok (.invokevirtual 102, 3) := by decide +kernel
theorem dX4_told_53 : decode cX4_told 53 = .ok (.goto 6, 3) := by decide +kernel
theorem dX4_told_56 : decode cX4_told 56 = .ok (.sipush (-1000), 3) := by decide +kernel
theorem dX4_told_59 : decode cX4_told 59 = .ok (.ireturn, 1) := by decide +kernel
theorem dX4_told_60 : decode cX4_told 60 = .ok (.aload_n 0, 1) := by decide +kernel
theorem dX4_told_61 : decode cX4_told 61 = .ok (.getfield 38, 3) := by decide +kernel
theorem dX4_told_64 : decode cX4_told 64 = .ok (.iload_n 1, 1) := by decide +kernel
theorem dX4_told_65 : decode cX4_told 65 = .ok (.invokevirtual 105, 3) := by decide +kernel
theorem dX4_told_68 : decode cX4_told 68 = .ok (.ifCond .eq 12, 3) := by decide +kernel
theorem dX4_told_71 : decode cX4_told 71 = .ok (.aload_n 0, 1) := by decide +kernel
theorem dX4_told_72 : decode cX4_told 72 = .ok (.iload_n 1, 1) := by decide +kernel
theorem dX4_told_73 : decode cX4_told 73 = .ok (.iload_n 2, 1) := by decide +kernel
theorem dX4_told_74 : decode cX4_told 74 = .ok (.invokevirtual 108, 3) := by decide +kernel
theorem dX4_told_77 : decode cX4_told 77 = .ok (.goto 6, 3) := by decide +kernel
theorem dX4_told_80 : decode cX4_told 80 = .ok (.sipush (-1000), 3) := by decide +kernel
theorem dX4_told_83 : decode cX4_told 83 = .ok (.ireturn, 1) := by decide +kernel
theorem dX4_asks_0 : decode cX4_asks 0 = .ok (.aload_n 0, 1) := by decide +kernel
theorem dX4_asks_1 : decode cX4_asks 1 = .ok (.getfield 38, 3) := by decide +kernel
theorem dX4_asks_4 : decode cX4_asks 4 = .ok (.iload_n 1, 1) := by decide +kernel
theorem dX4_asks_5 : decode cX4_asks 5 = .ok (.invokevirtual 105, 3) := by decide +kernel
theorem dX4_asks_8 : decode cX4_asks 8 = .ok (.ifCond .eq 23, 3) := by decide +kernel
theorem dX4_asks_11 : decode cX4_asks 11 = .ok (.aload_n 0, 1) := by decide +kernel
theorem dX4_asks_12 : decode cX4_asks 12 = .ok (.getfield 38, 3) := by decide +kernel
theorem dX4_asks_15 : decode cX4_asks 15 = .ok (.iload_n 2, 1) := by decide +kernel
theorem dX4_asks_16 : decode cX4_asks 16 = .ok (.invokevirtual 98, 3) := by decide +kernel
theorem dX4_asks_19 : decode cX4_asks 19 = .ok (.ifCond .eq 12, 3) := by decide +kernel
theorem dX4_asks_22 : decode cX4_asks 22 = .ok (.iload_n 3, 1) := by decide +kernel
theorem dX4_asks_23 : decode cX4_asks 23 = .ok (.ifCond .lt 8, 3) := by decide +kernel
theorem dX4_asks_26 : decode cX4_asks 26 = .ok (.iload_n 3, 1) := by decide +kernel
theorem dX4_asks_27 : decode cX4_asks 27 = .ok (.iconst 1, 1) := by decide +kernel
theorem dX4_asks_28 : decode cX4_asks 28 = .ok (.if_icmp .le 7, 3) := by decide +kernel
theorem dX4_asks_31 : decode cX4_asks 31 = .ok (.sipush (-1000), 3) := by decide +kernel
theorem dX4_asks_34 : decode cX4_asks 34 = .ok (.ireturn, 1) := by decide +kernel
theorem dX4_asks_35 : decode cX4_asks 35 = .ok (.iload_n 3, 1) := by decide +kernel
theorem dX4_asks_36 : decode cX4_asks 36 = .ok (.iconst 1, 1) := by decide +kernel
theorem dX4_asks_37 : decode cX4_asks 37 = .ok (.if_icmp .ne 13, 3) := by decide +kernel
theorem dX4_asks_40 : decode cX4_asks 40 = .ok (.aload_n 0, 1) := by decide +kernel
theorem dX4_asks_41 : decode cX4_asks 41 = .ok (.getfield 38, 3) := by decide +kernel
theorem dX4_asks_44 : decode cX4_asks 44 = .ok (.iload_n 1, 1) := by decide +kernel
theorem dX4_asks_45 : decode cX4_asks 45 = .ok (.iload_n 2, 1) := by decide +kernel
theorem dX4_asks_46 : decode cX4_asks 46 = .ok (.invokevirtual 111, 3) := by decide +kernel
theorem dX4_asks_49 : decode cX4_asks 49 = .ok (.ireturn, 1) := by decide +kernel
theorem dX4_asks_50 : decode cX4_asks 50 = .ok (.aload_n 0, 1) := by decide +kernel
theorem dX4_asks_51 : decode cX4_asks 51 = .ok (.getfield 38, 3) := by decide +kernel
theorem dX4_asks_54 : decode cX4_asks 54 = .ok (.iload_n 1, 1) := by decide +kernel
theorem dX4_asks_55 : decode cX4_asks 55 = .ok (.iload_n 2, 1) := by decide +kernel
theorem dX4_asks_56 : decode cX4_asks 56 = .ok (.invokevirtual 114, 3) := by decide +kernel
theorem dX4_asks_59 : decode cX4_asks 59 = .ok (.ifCond .eq 7, 3) := by decide +kernel
theorem dX4_asks_62 : decode cX4_asks 62 = .ok (.iconst 1, 1) := by decide +kernel
theorem dX4_asks_63 : decode cX4_asks 63 = .ok (.goto 4, 3) := by decide +kernel
theorem dX4_asks_66 : decode cX4_asks 66 = .ok (.iconst 0, 1) := by decide +kernel
theorem dX4_asks_67 : decode cX4_asks 67 = .ok (.ireturn, 1) := by decide +kernel
theorem dX4_writes_0 : decode cX4_writes 0 = .ok (.aload_n 0, 1) := by decide +kernel
theorem dX4_writes_1 : decode cX4_writes 1 = .ok (.getfield 38, 3) := by decide +kernel
theorem dX4_writes_4 : decode cX4_writes 4 = .ok (.iload_n 1, 1) := by decide +kernel
theorem dX4_writes_5 : decode cX4_writes 5 = .ok (.invokevirtual 105, 3) := by decide +kernel
theorem dX4_writes_8 : decode cX4_writes 8 = .ok (.ifCond .eq 14, 3) := by decide +kernel
theorem dX4_writes_11 : decode cX4_writes 11 = .ok (.aload_n 0, 1) := by decide +kernel
theorem dX4_writes_12 : decode cX4_writes 12 = .ok (.getfield 38, 3) := by decide +kernel
theorem dX4_writes_15 : decode cX4_writes 15 = .ok (.iload_n 1, 1) := by decide +kernel
theorem dX4_writes_16 : decode cX4_writes 16 = .ok (.invokevirtual 117, 3) := by decide +kernel
theorem dX4_writes_19 : decode cX4_writes 19 = .ok (.goto 5, 3) := by decide +kernel
theorem dX4_writes_22 : decode cX4_writes 22 = .ok (.bipush (-2), 2) := by decide +kernel
theorem dX4_writes_24 : decode cX4_writes 24 = .ok (.ireturn, 1) := by decide +kernel
theorem dX4_greatest_0 : decode cX4_greatest 0 = .ok (.iload_n 0, 1) := by decide +kernel
theorem dX4_greatest_1 : decode cX4_greatest 1 = .ok (.tableswitch 37 0 2 #[27, 31, 34], 27) := by decide +kernel
theorem dX4_greatest_28 : decode cX4_greatest 28 = .ok (.sipush 999, 3) := by decide +kernel
theorem dX4_greatest_31 : decode cX4_greatest 31 = .ok (.ireturn, 1) := by decide +kernel
theorem dX4_greatest_32 : decode cX4_greatest 32 = .ok (.bipush 7, 2) := by decide +kernel
theorem dX4_greatest_34 : decode cX4_greatest 34 = .ok (.ireturn, 1) := by decide +kernel
theorem dX4_greatest_35 : decode cX4_greatest 35 = .ok (.bipush 9, 2) := by decide +kernel
theorem dX4_greatest_37 : decode cX4_greatest 37 = .ok (.ireturn, 1) := by decide +kernel
theorem dX4_greatest_38 : decode cX4_greatest 38 = .ok (.bipush 99, 2) := by decide +kernel
theorem dX4_greatest_40 : decode cX4_greatest 40 = .ok (.ireturn, 1) := by decide +kernel
theorem dX4_toldOfOne_0 : decode cX4_toldOfOne 0 = .ok (.iload_n 2, 1) := by decide +kernel
theorem dX4_toldOfOne_1 : decode cX4_toldOfOne 1 = .ok (.tableswitch 71 2 6 #[35, 71, 44, 53, 62], 35) := by decide +kernel
theorem dX4_toldOfOne_36 : decode cX4_toldOfOne 36 = .ok (.aload_n 0, 1) := by decide +kernel
theorem dX4_toldOfOne_37 : decode cX4_toldOfOne 37 = .ok (.getfield 38, 3) := by decide +kernel
theorem dX4_toldOfOne_40 : decode cX4_toldOfOne 40 = .ok (.iload_n 1, 1) := by decide +kernel
theorem dX4_toldOfOne_41 : decode cX4_toldOfOne 41 = .ok (.invokevirtual 120, 3) := by decide +kernel
theorem dX4_toldOfOne_44 : decode cX4_toldOfOne 44 = .ok (.ireturn, 1) := by decide +kernel
theorem dX4_toldOfOne_45 : decode cX4_toldOfOne 45 = .ok (.aload_n 0, 1) := by decide +kernel
theorem dX4_toldOfOne_46 : decode cX4_toldOfOne 46 = .ok (.getfield 38, 3) := by decide +kernel
theorem dX4_toldOfOne_49 : decode cX4_toldOfOne 49 = .ok (.iload_n 1, 1) := by decide +kernel
theorem dX4_toldOfOne_50 : decode cX4_toldOfOne 50 = .ok (.invokevirtual 123, 3) := by decide +kernel
theorem dX4_toldOfOne_53 : decode cX4_toldOfOne 53 = .ok (.ireturn, 1) := by decide +kernel
theorem dX4_toldOfOne_54 : decode cX4_toldOfOne 54 = .ok (.aload_n 0, 1) := by decide +kernel
theorem dX4_toldOfOne_55 : decode cX4_toldOfOne 55 = .ok (.getfield 38, 3) := by decide +kernel
theorem dX4_toldOfOne_58 : decode cX4_toldOfOne 58 = .ok (.iload_n 1, 1) := by decide +kernel
theorem dX4_toldOfOne_59 : decode cX4_toldOfOne 59 = .ok (.invokevirtual 92, 3) := by decide +kernel
theorem dX4_toldOfOne_62 : decode cX4_toldOfOne 62 = .ok (.ireturn, 1) := by decide +kernel
theorem dX4_toldOfOne_63 : decode cX4_toldOfOne 63 = .ok (.aload_n 0, 1) := by decide +kernel
theorem dX4_toldOfOne_64 : decode cX4_toldOfOne 64 = .ok (.getfield 38, 3) := by decide +kernel
theorem dX4_toldOfOne_67 : decode cX4_toldOfOne 67 = .ok (.iload_n 1, 1) := by decide +kernel
theorem dX4_toldOfOne_68 : decode cX4_toldOfOne 68 = .ok (.invokevirtual 126, 3) := by decide +kernel
theorem dX4_toldOfOne_71 : decode cX4_toldOfOne 71 = .ok (.ireturn, 1) := by decide +kernel
theorem dX4_toldOfOne_72 : decode cX4_toldOfOne 72 = .ok (.sipush (-1000), 3) := by decide +kernel
theorem dX4_toldOfOne_75 : decode cX4_toldOfOne 75 = .ok (.ireturn, 1) := by decide +kernel
theorem dX4_toldOfLetter_0 : decode cX4_toldOfLetter 0 = .ok (.iload_n 2, 1) := by decide +kernel
theorem dX4_toldOfLetter_1 : decode cX4_toldOfLetter 1 = .ok (.tableswitch 92 3 10 #[47, 92, 92, 92, 56, 65, 74, 83], 47) := by decide +kernel
theorem dX4_toldOfLetter_48 : decode cX4_toldOfLetter 48 = .ok (.aload_n 0, 1) := by decide +kernel
theorem dX4_toldOfLetter_49 : decode cX4_toldOfLetter 49 = .ok (.getfield 38, 3) := by decide +kernel
theorem dX4_toldOfLetter_52 : decode cX4_toldOfLetter 52 = .ok (.iload_n 1, 1) := by decide +kernel
theorem dX4_toldOfLetter_53 : decode cX4_toldOfLetter 53 = .ok (.invokevirtual 129, 3) := by decide +kernel
theorem dX4_toldOfLetter_56 : decode cX4_toldOfLetter 56 = .ok (.ireturn, 1) := by decide +kernel
theorem dX4_toldOfLetter_57 : decode cX4_toldOfLetter 57 = .ok (.aload_n 0, 1) := by decide +kernel
theorem dX4_toldOfLetter_58 : decode cX4_toldOfLetter 58 = .ok (.getfield 38, 3) := by decide +kernel
theorem dX4_toldOfLetter_61 : decode cX4_toldOfLetter 61 = .ok (.iload_n 1, 1) := by decide +kernel
theorem dX4_toldOfLetter_62 : decode cX4_toldOfLetter 62 = .ok (.invokevirtual 132, 3) := by decide +kernel
theorem dX4_toldOfLetter_65 : decode cX4_toldOfLetter 65 = .ok (.ireturn, 1) := by decide +kernel
theorem dX4_toldOfLetter_66 : decode cX4_toldOfLetter 66 = .ok (.aload_n 0, 1) := by decide +kernel
theorem dX4_toldOfLetter_67 : decode cX4_toldOfLetter 67 = .ok (.getfield 38, 3) := by decide +kernel
theorem dX4_toldOfLetter_70 : decode cX4_toldOfLetter 70 = .ok (.iload_n 1, 1) := by decide +kernel
theorem dX4_toldOfLetter_71 : decode cX4_toldOfLetter 71 = .ok (.invokevirtual 135, 3) := by decide +kernel
theorem dX4_toldOfLetter_74 : decode cX4_toldOfLetter 74 = .ok (.ireturn, 1) := by decide +kernel
theorem dX4_toldOfLetter_75 : decode cX4_toldOfLetter 75 = .ok (.aload_n 0, 1) := by decide +kernel
theorem dX4_toldOfLetter_76 : decode cX4_toldOfLetter 76 = .ok (.getfield 38, 3) := by decide +kernel
theorem dX4_toldOfLetter_79 : decode cX4_toldOfLetter 79 = .ok (.iload_n 1, 1) := by decide +kernel
theorem dX4_toldOfLetter_80 : decode cX4_toldOfLetter 80 = .ok (.invokevirtual 138, 3) := by decide +kernel
theorem dX4_toldOfLetter_83 : decode cX4_toldOfLetter 83 = .ok (.ireturn, 1) := by decide +kernel
theorem dX4_toldOfLetter_84 : decode cX4_toldOfLetter 84 = .ok (.aload_n 0, 1) := by decide +kernel
theorem dX4_toldOfLetter_85 : decode cX4_toldOfLetter 85 = .ok (.getfield 38, 3) := by decide +kernel
theorem dX4_toldOfLetter_88 : decode cX4_toldOfLetter 88 = .ok (.iload_n 1, 1) := by decide +kernel
theorem dX4_toldOfLetter_89 : decode cX4_toldOfLetter 89 = .ok (.invokevirtual 141, 3) := by decide +kernel
theorem dX4_toldOfLetter_92 : decode cX4_toldOfLetter 92 = .ok (.ireturn, 1) := by decide +kernel
theorem dX4_toldOfLetter_93 : decode cX4_toldOfLetter 93 = .ok (.sipush (-1000), 3) := by decide +kernel
theorem dX4_toldOfLetter_96 : decode cX4_toldOfLetter 96 = .ok (.ireturn, 1) := by decide +kernel
theorem dX4_feed_0 : decode cX4_feed 0 = .ok (.iload_n 1, 1) := by decide +kernel
theorem dX4_feed_1 : decode cX4_feed 1 = .ok (.ifCond .lt 10, 3) := by decide +kernel
theorem dX4_feed_4 : decode cX4_feed 4 = .ok (.iload_n 1, 1) := by decide +kernel
theorem dX4_feed_5 : decode cX4_feed 5 = .ok (.sipush 255, 3) := by decide +kernel
theorem dX4_feed_8 : decode cX4_feed 8 = .ok (.if_icmp .le 6, 3) := by decide +kernel
theorem dX4_feed_11 : decode cX4_feed 11 = .ok (.bipush (-2), 2) := by decide +kernel
theorem dX4_feed_13 : decode cX4_feed 13 = .ok (.ireturn, 1) := by decide +kernel
theorem dX4_feed_14 : decode cX4_feed 14 = .ok (.aload_n 0, 1) := by decide +kernel
theorem dX4_feed_15 : decode cX4_feed 15 = .ok (.getfield 21, 3) := by decide +kernel
theorem dX4_feed_18 : decode cX4_feed 18 = .ok (.iload_n 1, 1) := by decide +kernel
theorem dX4_feed_19 : decode cX4_feed 19 = .ok (.invokevirtual 144, 3) := by decide +kernel
theorem dX4_feed_22 : decode cX4_feed 22 = .ok (.ifCond .eq 13, 3) := by decide +kernel
theorem dX4_feed_25 : decode cX4_feed 25 = .ok (.aload_n 0, 1) := by decide +kernel
theorem dX4_feed_26 : decode cX4_feed 26 = .ok (.getfield 21, 3) := by decide +kernel
theorem dX4_feed_29 : decode cX4_feed 29 = .ok (.getfield 147, 3) := by decide +kernel
theorem dX4_feed_32 : decode cX4_feed 32 = .ok (.goto 5, 3) := by decide +kernel
theorem dX4_feed_35 : decode cX4_feed 35 = .ok (.bipush (-4), 2) := by decide +kernel
theorem dX4_feed_37 : decode cX4_feed 37 = .ok (.ireturn, 1) := by decide +kernel
theorem dX4_text_0 : decode cX4_text 0 = .ok (.aload_n 0, 1) := by decide +kernel
theorem dX4_text_1 : decode cX4_text 1 = .ok (.getfield 10, 3) := by decide +kernel
theorem dX4_text_4 : decode cX4_text 4 = .ok (.invokevirtual 150, 3) := by decide +kernel
theorem dX4_text_7 : decode cX4_text 7 = .ok (.ifCond .ne 6, 3) := by decide +kernel
theorem dX4_text_10 : decode cX4_text 10 = .ok (.bipush (-4), 2) := by decide +kernel
theorem dX4_text_12 : decode cX4_text 12 = .ok (.ireturn, 1) := by decide +kernel
theorem dX4_text_13 : decode cX4_text 13 = .ok (.aload_n 0, 1) := by decide +kernel
theorem dX4_text_14 : decode cX4_text 14 = .ok (.getfield 21, 3) := by decide +kernel
theorem dX4_text_17 : decode cX4_text 17 = .ok (.invokevirtual 31, 3) := by decide +kernel
theorem dX4_text_20 : decode cX4_text 20 = .ok (.istore_n 1, 1) := by decide +kernel
theorem dX4_text_21 : decode cX4_text 21 = .ok (.iload_n 1, 1) := by decide +kernel
theorem dX4_text_22 : decode cX4_text 22 = .ok (.iconst (-1), 1) := by decide +kernel
theorem dX4_text_23 : decode cX4_text 23 = .ok (.if_icmp .ne 15, 3) := by decide +kernel
theorem dX4_text_26 : decode cX4_text 26 = .ok (.aload_n 0, 1) := by decide +kernel
theorem dX4_text_27 : decode cX4_text 27 = .ok (.getfield 10, 3) := by decide +kernel
theorem dX4_text_30 : decode cX4_text 30 = .ok (.getfield 154, 3) := by decide +kernel
theorem dX4_text_33 : decode cX4_text 33 = .ok (.iconst 1, 1) := by decide +kernel
theorem dX4_text_34 : decode cX4_text 34 = .ok (.isub, 1) := by decide +kernel
theorem dX4_text_35 : decode cX4_text 35 = .ok (.goto 7, 3) := by decide +kernel
theorem dX4_text_38 : decode cX4_text 38 = .ok (.bipush (-100), 2) := by decide +kernel
theorem dX4_text_40 : decode cX4_text 40 = .ok (.iload_n 1, 1) := by decide +kernel
theorem dX4_text_41 : decode cX4_text 41 = .ok (.isub, 1) := by decide +kernel
theorem dX4_text_42 : decode cX4_text 42 = .ok (.ireturn, 1) := by decide +kernel
theorem dX4_force_0 : decode cX4_force 0 = .ok (.aload_n 0, 1) := by decide +kernel
theorem dX4_force_1 : decode cX4_force 1 = .ok (.getfield 10, 3) := by decide +kernel
theorem dX4_force_4 : decode cX4_force 4 = .ok (.iload_n 1, 1) := by decide +kernel
theorem dX4_force_5 : decode cX4_force 5 = .ok (.invokevirtual 155, 3) := by decide +kernel
theorem dX4_force_8 : decode cX4_force 8 = .ok (.ifCond .ne 6, 3) := by decide +kernel
theorem dX4_force_11 : decode cX4_force 11 = .ok (.bipush (-2), 2) := by decide +kernel
theorem dX4_force_13 : decode cX4_force 13 = .ok (.ireturn, 1) := by decide +kernel
theorem dX4_force_14 : decode cX4_force 14 = .ok (.aload_n 0, 1) := by decide +kernel
theorem dX4_force_15 : decode cX4_force 15 = .ok (.getfield 38, 3) := by decide +kernel
theorem dX4_force_18 : decode cX4_force 18 = .ok (.getfield 158, 3) := by decide +kernel
theorem dX4_force_21 : decode cX4_force 21 = .ok (.istore_n 2, 1) := by decide +kernel
theorem dX4_force_22 : decode cX4_force 22 = .ok (.aload_n 0, 1) := by decide +kernel
theorem dX4_force_23 : decode cX4_force 23 = .ok (.getfield 38, 3) := by decide +kernel
theorem dX4_force_26 : decode cX4_force 26 = .ok (.iload_n 1, 1) := by decide +kernel
theorem dX4_force_27 : decode cX4_force 27 = .ok (.putfield 158, 3) := by decide +kernel
theorem dX4_force_30 : decode cX4_force 30 = .ok (.iload_n 2, 1) := by decide +kernel
theorem dX4_force_31 : decode cX4_force 31 = .ok (.ireturn, 1) := by decide +kernel
theorem dX4_send_0 : decode cX4_send 0 = .ok (.aload_n 0, 1) := by decide +kernel
theorem dX4_send_1 : decode cX4_send 1 = .ok (.getfield 38, 3) := by decide +kernel
theorem dX4_send_4 : decode cX4_send 4 = .ok (.iload_n 1, 1) := by decide +kernel
theorem dX4_send_5 : decode cX4_send 5 = .ok (.iload_n 2, 1) := by decide +kernel
theorem dX4_send_6 : decode cX4_send 6 = .ok (.invokevirtual 88, 3) := by decide +kernel
theorem dX4_send_9 : decode cX4_send 9 = .ok (.ifCond .eq 15, 3) := by decide +kernel
theorem dX4_send_12 : decode cX4_send 12 = .ok (.aload_n 0, 1) := by decide +kernel
theorem dX4_send_13 : decode cX4_send 13 = .ok (.getfield 38, 3) := by decide +kernel
theorem dX4_send_16 : decode cX4_send 16 = .ok (.iload_n 1, 1) := by decide +kernel
theorem dX4_send_17 : decode cX4_send 17 = .ok (.iload_n 2, 1) := by decide +kernel
theorem dX4_send_18 : decode cX4_send 18 = .ok (.invokevirtual 161, 3) := by decide +kernel
theorem dX4_send_21 : decode cX4_send 21 = .ok (.goto 5, 3) := by decide +kernel
theorem dX4_send_24 : decode cX4_send 24 = .ok (.bipush (-2), 2) := by decide +kernel
theorem dX4_send_26 : decode cX4_send 26 = .ok (.ireturn, 1) := by decide +kernel
theorem dX4_day_0 : decode cX4_day 0 = .ok (.aload_n 0, 1) := by decide +kernel
theorem dX4_day_1 : decode cX4_day 1 = .ok (.getfield 38, 3) := by decide +kernel
theorem dX4_day_4 : decode cX4_day 4 = .ok (.getfield 67, 3) := by decide +kernel
theorem dX4_day_7 : decode cX4_day 7 = .ok (.sipush 999, 3) := by decide +kernel
theorem dX4_day_10 : decode cX4_day 10 = .ok (.if_icmp .lt 8, 3) := by decide +kernel
theorem dX4_day_13 : decode cX4_day 13 = .ok (.bipush (-3), 2) := by decide +kernel
theorem dX4_day_15 : decode cX4_day 15 = .ok (.goto 10, 3) := by decide +kernel
theorem dX4_day_18 : decode cX4_day 18 = .ok (.aload_n 0, 1) := by decide +kernel
theorem dX4_day_19 : decode cX4_day 19 = .ok (.getfield 38, 3) := by decide +kernel
theorem dX4_day_22 : decode cX4_day 22 = .ok (.invokevirtual 164, 3) := by decide +kernel
theorem dX4_day_25 : decode cX4_day 25 = .ok (.ireturn, 1) := by decide +kernel
theorem dX4_run_0 : decode cX4_run 0 = .ok (.aload_n 0, 1) := by decide +kernel
theorem dX4_run_1 : decode cX4_run 1 = .ok (.getfield 38, 3) := by decide +kernel
theorem dX4_run_4 : decode cX4_run 4 = .ok (.iload_n 1, 1) := by decide +kernel
theorem dX4_run_5 : decode cX4_run 5 = .ok (.invokevirtual 98, 3) := by decide +kernel
theorem dX4_run_8 : decode cX4_run 8 = .ok (.ifCond .eq 22, 3) := by decide +kernel
theorem dX4_run_11 : decode cX4_run 11 = .ok (.iload_n 2, 1) := by decide +kernel
theorem dX4_run_12 : decode cX4_run 12 = .ok (.ifCond .lt 18, 3) := by decide +kernel
theorem dX4_run_15 : decode cX4_run 15 = .ok (.iload_n 2, 1) := by decide +kernel
theorem dX4_run_16 : decode cX4_run 16 = .ok (.bipush 40, 2) := by decide +kernel
theorem dX4_run_18 : decode cX4_run 18 = .ok (.if_icmp .gt 12, 3) := by decide +kernel
theorem dX4_run_21 : decode cX4_run 21 = .ok (.iload_n 3, 1) := by decide +kernel
theorem dX4_run_22 : decode cX4_run 22 = .ok (.ifCond .lt 8, 3) := by decide +kernel
theorem dX4_run_25 : decode cX4_run 25 = .ok (.iload_n 3, 1) := by decide +kernel
theorem dX4_run_26 : decode cX4_run 26 = .ok (.iconst 3, 1) := by decide +kernel
theorem dX4_run_27 : decode cX4_run 27 = .ok (.if_icmp .le 6, 3) := by decide +kernel
theorem dX4_run_30 : decode cX4_run 30 = .ok (.bipush (-2), 2) := by decide +kernel
theorem dX4_run_32 : decode cX4_run 32 = .ok (.ireturn, 1) := by decide +kernel
theorem dX4_run_33 : decode cX4_run 33 = .ok (.aload_n 0, 1) := by decide +kernel
theorem dX4_run_34 : decode cX4_run 34 = .ok (.getfield 42, 3) := by decide +kernel
theorem dX4_run_37 : decode cX4_run 37 = .ok (.aload_n 0, 1) := by decide +kernel
theorem dX4_run_38 : decode cX4_run 38 = .ok (.getfield 38, 3) := by decide +kernel
theorem dX4_run_41 : decode cX4_run 41 = .ok (.invokevirtual 167, 3) := by decide +kernel
theorem dX4_run_44 : decode cX4_run 44 = .ok (.aload_n 0, 1) := by decide +kernel
theorem dX4_run_45 : decode cX4_run 45 = .ok (.getfield 42, 3) := by decide +kernel
theorem dX4_run_48 : decode cX4_run 48 = .ok (.iload_n 2, 1) := by decide +kernel
theorem dX4_run_49 : decode cX4_run 49 = .ok (.invokevirtual 171, 3) := by decide +kernel
theorem dX4_run_52 : decode cX4_run 52 = .ok (.iload_n 3, 1) := by decide +kernel
theorem dX4_run_53 : decode cX4_run 53 = .ok (.tableswitch 54 0 2 #[27, 36, 45], 27) := by decide +kernel
theorem dX4_run_80 : decode cX4_run 80 = .ok (.aload_n 0, 1) := by decide +kernel
theorem dX4_run_81 : decode cX4_run 81 = .ok (.getfield 42, 3) := by decide +kernel
theorem dX4_run_84 : decode cX4_run 84 = .ok (.iload_n 1, 1) := by decide +kernel
theorem dX4_run_85 : decode cX4_run 85 = .ok (.invokevirtual 138, 3) := by decide +kernel
theorem dX4_run_88 : decode cX4_run 88 = .ok (.ireturn, 1) := by decide +kernel
theorem dX4_run_89 : decode cX4_run 89 = .ok (.aload_n 0, 1) := by decide +kernel
theorem dX4_run_90 : decode cX4_run 90 = .ok (.getfield 42, 3) := by decide +kernel
theorem dX4_run_93 : decode cX4_run 93 = .ok (.iload_n 1, 1) := by decide +kernel
theorem dX4_run_94 : decode cX4_run 94 = .ok (.invokevirtual 129, 3) := by decide +kernel
theorem dX4_run_97 : decode cX4_run 97 = .ok (.ireturn, 1) := by decide +kernel
theorem dX4_run_98 : decode cX4_run 98 = .ok (.aload_n 0, 1) := by decide +kernel
theorem dX4_run_99 : decode cX4_run 99 = .ok (.getfield 42, 3) := by decide +kernel
theorem dX4_run_102 : decode cX4_run 102 = .ok (.iload_n 1, 1) := by decide +kernel
theorem dX4_run_103 : decode cX4_run 103 = .ok (.invokevirtual 141, 3) := by decide +kernel
theorem dX4_run_106 : decode cX4_run 106 = .ok (.ireturn, 1) := by decide +kernel
theorem dX4_run_107 : decode cX4_run 107 = .ok (.aload_n 0, 1) := by decide +kernel
theorem dX4_run_108 : decode cX4_run 108 = .ok (.getfield 42, 3) := by decide +kernel
theorem dX4_run_111 : decode cX4_run 111 = .ok (.invokevirtual 175, 3) := by decide +kernel
theorem dX4_run_114 : decode cX4_run 114 = .ok (.ireturn, 1) := by decide +kernel
theorem dX4_comes_0 : decode cX4_comes 0 = .ok (.aload_n 0, 1) := by decide +kernel
theorem dX4_comes_1 : decode cX4_comes 1 = .ok (.getfield 38, 3) := by decide +kernel
theorem dX4_comes_4 : decode cX4_comes 4 = .ok (.iload_n 1, 1) := by decide +kernel
theorem dX4_comes_5 : decode cX4_comes 5 = .ok (.invokevirtual 98, 3) := by decide +kernel
theorem dX4_comes_8 : decode cX4_comes 8 = .ok (.ifCond .ne 6, 3) := by decide +kernel
theorem dX4_comes_11 : decode cX4_comes 11 = .ok (.bipush (-2), 2) := by decide +kernel
theorem dX4_comes_13 : decode cX4_comes 13 = .ok (.ireturn, 1) := by decide +kernel
theorem dX4_comes_14 : decode cX4_comes 14 = .ok (.aload_n 0, 1) := by decide +kernel
theorem dX4_comes_15 : decode cX4_comes 15 = .ok (.getfield 42, 3) := by decide +kernel
theorem dX4_comes_18 : decode cX4_comes 18 = .ok (.aload_n 0, 1) := by decide +kernel
theorem dX4_comes_19 : decode cX4_comes 19 = .ok (.getfield 38, 3) := by decide +kernel
theorem dX4_comes_22 : decode cX4_comes 22 = .ok (.invokevirtual 167, 3) := by decide +kernel
theorem dX4_comes_25 : decode cX4_comes 25 = .ok (.iconst 0, 1) := by decide +kernel
theorem dX4_comes_26 : decode cX4_comes 26 = .ok (.istore_n 2, 1) := by decide +kernel
theorem dX4_comes_27 : decode cX4_comes 27 = .ok (.iload_n 2, 1) := by decide +kernel
theorem dX4_comes_28 : decode cX4_comes 28 = .ok (.bipush 60, 2) := by decide +kernel
theorem dX4_comes_30 : decode cX4_comes 30 = .ok (.if_icmp .gt 31, 3) := by decide +kernel
theorem dX4_comes_33 : decode cX4_comes 33 = .ok (.aload_n 0, 1) := by decide +kernel
theorem dX4_comes_34 : decode cX4_comes 34 = .ok (.getfield 42, 3) := by decide +kernel
theorem dX4_comes_37 : decode cX4_comes 37 = .ok (.iload_n 1, 1) := by decide +kernel
theorem dX4_comes_38 : decode cX4_comes 38 = .ok (.invokevirtual 138, 3) := by decide +kernel
theorem dX4_comes_41 : decode cX4_comes 41 = .ok (.iconst (-1), 1) := by decide +kernel
theorem dX4_comes_42 : decode cX4_comes 42 = .ok (.if_icmp .ne 5, 3) := by decide +kernel
theorem dX4_comes_45 : decode cX4_comes 45 = .ok (.iload_n 2, 1) := by decide +kernel
theorem dX4_comes_46 : decode cX4_comes 46 = .ok (.ireturn, 1) := by decide +kernel
theorem dX4_comes_47 : decode cX4_comes 47 = .ok (.aload_n 0, 1) := by decide +kernel
theorem dX4_comes_48 : decode cX4_comes 48 = .ok (.getfield 42, 3) := by decide +kernel
theorem dX4_comes_51 : decode cX4_comes 51 = .ok (.iload_n 1, 1) := by decide +kernel
theorem dX4_comes_52 : decode cX4_comes 52 = .ok (.invokevirtual 178, 3) := by decide +kernel
theorem dX4_comes_55 : decode cX4_comes 55 = .ok (.iinc 2 1, 3) := by decide +kernel
theorem dX4_comes_58 : decode cX4_comes 58 = .ok (.goto (-31), 3) := by decide +kernel
theorem dX4_comes_61 : decode cX4_comes 61 = .ok (.iconst (-1), 1) := by decide +kernel
theorem dX4_comes_62 : decode cX4_comes 62 = .ok (.ireturn, 1) := by decide +kernel
theorem dX4_mistake_0 : decode cX4_mistake 0 = .ok (.iload_n 1, 1) := by decide +kernel
theorem dX4_mistake_1 : decode cX4_mistake 1 = .ok (.ifCond .lt 18, 3) := by decide +kernel
theorem dX4_mistake_4 : decode cX4_mistake 4 = .ok (.iload_n 1, 1) := by decide +kernel
theorem dX4_mistake_5 : decode cX4_mistake 5 = .ok (.bipush 40, 2) := by decide +kernel
theorem dX4_mistake_7 : decode cX4_mistake 7 = .ok (.if_icmp .gt 12, 3) := by decide +kernel
theorem dX4_mistake_10 : decode cX4_mistake 10 = .ok (.iload_n 2, 1) := by decide +kernel
theorem dX4_mistake_11 : decode cX4_mistake 11 = .ok (.ifCond .lt 8, 3) := by decide +kernel
theorem dX4_mistake_14 : decode cX4_mistake 14 = .ok (.iload_n 2, 1) := by decide +kernel
theorem dX4_mistake_15 : decode cX4_mistake 15 = .ok (.iconst 1, 1) := by decide +kernel
theorem dX4_mistake_16 : decode cX4_mistake 16 = .ok (.if_icmp .le 6, 3) := by decide +kernel
theorem dX4_mistake_19 : decode cX4_mistake 19 = .ok (.bipush (-2), 2) := by decide +kernel
theorem dX4_mistake_21 : decode cX4_mistake 21 = .ok (.ireturn, 1) := by decide +kernel
theorem dX4_mistake_22 : decode cX4_mistake 22 = .ok (.iconst 0, 1) := by decide +kernel
theorem dX4_mistake_23 : decode cX4_mistake 23 = .ok (.istore_n 3, 1) := by decide +kernel
theorem dX4_mistake_24 : decode cX4_mistake 24 = .ok (.iconst (-1), 1) := by decide +kernel
theorem dX4_mistake_25 : decode cX4_mistake 25 = .ok (.istore 4, 2) := by decide +kernel
theorem dX4_mistake_27 : decode cX4_mistake 27 = .ok (.iconst 0, 1) := by decide +kernel
theorem dX4_mistake_28 : decode cX4_mistake 28 = .ok (.istore 5, 2) := by decide +kernel
theorem dX4_mistake_30 : decode cX4_mistake 30 = .ok (.iload 5, 2) := by decide +kernel
theorem dX4_mistake_32 : decode cX4_mistake 32 = .ok (.bipush 8, 2) := by decide +kernel
theorem dX4_mistake_34 : decode cX4_mistake 34 = .ok (.if_icmp .ge 60, 3) := by decide +kernel
theorem dX4_mistake_37 : decode cX4_mistake 37 = .ok (.aload_n 0, 1) := by decide +kernel
theorem dX4_mistake_38 : decode cX4_mistake 38 = .ok (.getfield 42, 3) := by decide +kernel
theorem dX4_mistake_41 : decode cX4_mistake 41 = .ok (.aload_n 0, 1) := by decide +kernel
theorem dX4_mistake_42 : decode cX4_mistake 42 = .ok (.getfield 38, 3) := by decide +kernel
theorem dX4_mistake_45 : decode cX4_mistake 45 = .ok (.invokevirtual 167, 3) := by decide +kernel
theorem dX4_mistake_48 : decode cX4_mistake 48 = .ok (.aload_n 0, 1) := by decide +kernel
theorem dX4_mistake_49 : decode cX4_mistake 49 = .ok (.getfield 42, 3) := by decide +kernel
theorem dX4_mistake_52 : decode cX4_mistake 52 = .ok (.iload 5, 2) := by decide +kernel
theorem dX4_mistake_54 : decode cX4_mistake 54 = .ok (.invokevirtual 181, 3) := by decide +kernel
theorem dX4_mistake_57 : decode cX4_mistake 57 = .ok (.aload_n 0, 1) := by decide +kernel
theorem dX4_mistake_58 : decode cX4_mistake 58 = .ok (.getfield 42, 3) := by decide +kernel
theorem dX4_mistake_61 : decode cX4_mistake 61 = .ok (.iload_n 1, 1) := by decide +kernel
theorem dX4_mistake_62 : decode cX4_mistake 62 = .ok (.invokevirtual 171, 3) := by decide +kernel
theorem dX4_mistake_65 : decode cX4_mistake 65 = .ok (.aload_n 0, 1) := by decide +kernel
theorem dX4_mistake_66 : decode cX4_mistake 66 = .ok (.getfield 42, 3) := by decide +kernel
theorem dX4_mistake_69 : decode cX4_mistake 69 = .ok (.invokevirtual 175, 3) := by decide +kernel
theorem dX4_mistake_72 : decode cX4_mistake 72 = .ok (.istore 6, 2) := by decide +kernel
theorem dX4_mistake_74 : decode cX4_mistake 74 = .ok (.iload 6, 2) := by decide +kernel
theorem dX4_mistake_76 : decode cX4_mistake 76 = .ok (.iload 4, 2) := by decide +kernel
theorem dX4_mistake_78 : decode cX4_mistake 78 = .ok (.if_icmp .le 10, 3) := by decide +kernel
theorem dX4_mistake_81 : decode cX4_mistake 81 = .ok (.iload 6, 2) := by decide +kernel
theorem dX4_mistake_83 : decode cX4_mistake 83 = .ok (.istore 4, 2) := by decide +kernel
theorem dX4_mistake_85 : decode cX4_mistake 85 = .ok (.iload 5, 2) := by decide +kernel
theorem dX4_mistake_87 : decode cX4_mistake 87 = .ok (.istore_n 3, 1) := by decide +kernel
theorem dX4_mistake_88 : decode cX4_mistake 88 = .ok (.iinc 5 1, 3) := by decide +kernel
theorem dX4_mistake_91 : decode cX4_mistake 91 = .ok (.goto (-61), 3) := by decide +kernel
theorem dX4_mistake_94 : decode cX4_mistake 94 = .ok (.iload_n 2, 1) := by decide +kernel
theorem dX4_mistake_95 : decode cX4_mistake 95 = .ok (.ifCond .ne 7, 3) := by decide +kernel
theorem dX4_mistake_98 : decode cX4_mistake 98 = .ok (.iload_n 3, 1) := by decide +kernel
theorem dX4_mistake_99 : decode cX4_mistake 99 = .ok (.goto 5, 3) := by decide +kernel
theorem dX4_mistake_102 : decode cX4_mistake 102 = .ok (.iload 4, 2) := by decide +kernel
theorem dX4_mistake_104 : decode cX4_mistake 104 = .ok (.ireturn, 1) := by decide +kernel
theorem dX4_live_0 : decode cX4_live 0 = .ok (.iload_n 1, 1) := by decide +kernel
theorem dX4_live_1 : decode cX4_live 1 = .ok (.ifCond .lt 18, 3) := by decide +kernel
theorem dX4_live_4 : decode cX4_live 4 = .ok (.iload_n 1, 1) := by decide +kernel
theorem dX4_live_5 : decode cX4_live 5 = .ok (.bipush 20, 2) := by decide +kernel
theorem dX4_live_7 : decode cX4_live 7 = .ok (.if_icmp .gt 12, 3) := by decide +kernel
theorem dX4_live_10 : decode cX4_live 10 = .ok (.iload_n 2, 1) := by decide +kernel
theorem dX4_live_11 : decode cX4_live 11 = .ok (.ifCond .lt 8, 3) := by decide +kernel
theorem dX4_live_14 : decode cX4_live 14 = .ok (.iload_n 2, 1) := by decide +kernel
theorem dX4_live_15 : decode cX4_live 15 = .ok (.iconst 1, 1) := by decide +kernel
theorem dX4_live_16 : decode cX4_live 16 = .ok (.if_icmp .le 6, 3) := by decide +kernel
theorem dX4_live_19 : decode cX4_live 19 = .ok (.bipush (-2), 2) := by decide +kernel
theorem dX4_live_21 : decode cX4_live 21 = .ok (.ireturn, 1) := by decide +kernel
theorem dX4_live_22 : decode cX4_live 22 = .ok (.aload_n 0, 1) := by decide +kernel
theorem dX4_live_23 : decode cX4_live 23 = .ok (.invokevirtual 184, 3) := by decide +kernel
theorem dX4_live_26 : decode cX4_live 26 = .ok (.iconst 0, 1) := by decide +kernel
theorem dX4_live_27 : decode cX4_live 27 = .ok (.istore_n 3, 1) := by decide +kernel
theorem dX4_live_28 : decode cX4_live 28 = .ok (.iconst (-1), 1) := by decide +kernel
theorem dX4_live_29 : decode cX4_live 29 = .ok (.istore 4, 2) := by decide +kernel
theorem dX4_live_31 : decode cX4_live 31 = .ok (.iconst 1, 1) := by decide +kernel
theorem dX4_live_32 : decode cX4_live 32 = .ok (.istore 5, 2) := by decide +kernel
theorem dX4_live_34 : decode cX4_live 34 = .ok (.iconst 0, 1) := by decide +kernel
theorem dX4_live_35 : decode cX4_live 35 = .ok (.istore 6, 2) := by decide +kernel
theorem dX4_live_37 : decode cX4_live 37 = .ok (.iload 6, 2) := by decide +kernel
theorem dX4_live_39 : decode cX4_live 39 = .ok (.bipush 120, 2) := by decide +kernel
theorem dX4_live_41 : decode cX4_live 41 = .ok (.if_icmp .ge 68, 3) := by decide +kernel
theorem dX4_live_44 : decode cX4_live 44 = .ok (.iload 5, 2) := by decide +kernel
theorem dX4_live_46 : decode cX4_live 46 = .ok (.ifCond .eq 63, 3) := by decide +kernel
theorem dX4_live_49 : decode cX4_live 49 = .ok (.aload_n 0, 1) := by decide +kernel
theorem dX4_live_50 : decode cX4_live 50 = .ok (.getfield 42, 3) := by decide +kernel
theorem dX4_live_53 : decode cX4_live 53 = .ok (.aload_n 0, 1) := by decide +kernel
theorem dX4_live_54 : decode cX4_live 54 = .ok (.getfield 38, 3) := by decide +kernel
theorem dX4_live_57 : decode cX4_live 57 = .ok (.invokevirtual 167, 3) := by decide +kernel
theorem dX4_live_60 : decode cX4_live 60 = .ok (.aload_n 0, 1) := by decide +kernel
theorem dX4_live_61 : decode cX4_live 61 = .ok (.invokevirtual 187, 3) := by decide +kernel
theorem dX4_live_64 : decode cX4_live 64 = .ok (.aload_n 0, 1) := by decide +kernel
theorem dX4_live_65 : decode cX4_live 65 = .ok (.getfield 42, 3) := by decide +kernel
theorem dX4_live_68 : decode cX4_live 68 = .ok (.iload_n 1, 1) := by decide +kernel
theorem dX4_live_69 : decode cX4_live 69 = .ok (.invokevirtual 171, 3) := by decide +kernel
theorem dX4_live_72 : decode cX4_live 72 = .ok (.aload_n 0, 1) := by decide +kernel
theorem dX4_live_73 : decode cX4_live 73 = .ok (.getfield 42, 3) := by decide +kernel
theorem dX4_live_76 : decode cX4_live 76 = .ok (.invokevirtual 175, 3) := by decide +kernel
theorem dX4_live_79 : decode cX4_live 79 = .ok (.istore 7, 2) := by decide +kernel
theorem dX4_live_81 : decode cX4_live 81 = .ok (.iload 7, 2) := by decide +kernel
theorem dX4_live_83 : decode cX4_live 83 = .ok (.iload 4, 2) := by decide +kernel
theorem dX4_live_85 : decode cX4_live 85 = .ok (.if_icmp .le 12, 3) := by decide +kernel
theorem dX4_live_88 : decode cX4_live 88 = .ok (.iload 7, 2) := by decide +kernel
theorem dX4_live_90 : decode cX4_live 90 = .ok (.istore 4, 2) := by decide +kernel
theorem dX4_live_92 : decode cX4_live 92 = .ok (.aload_n 0, 1) := by decide +kernel
theorem dX4_live_93 : decode cX4_live 93 = .ok (.invokevirtual 190, 3) := by decide +kernel
theorem dX4_live_96 : decode cX4_live 96 = .ok (.istore_n 3, 1) := by decide +kernel
theorem dX4_live_97 : decode cX4_live 97 = .ok (.aload_n 0, 1) := by decide +kernel
theorem dX4_live_98 : decode cX4_live 98 = .ok (.invokevirtual 193, 3) := by decide +kernel
theorem dX4_live_101 : decode cX4_live 101 = .ok (.istore 5, 2) := by decide +kernel
theorem dX4_live_103 : decode cX4_live 103 = .ok (.iinc 6 1, 3) := by decide +kernel
theorem dX4_live_106 : decode cX4_live 106 = .ok (.goto (-69), 3) := by decide +kernel
theorem dX4_live_109 : decode cX4_live 109 = .ok (.iload_n 2, 1) := by decide +kernel
theorem dX4_live_110 : decode cX4_live 110 = .ok (.ifCond .ne 7, 3) := by decide +kernel
theorem dX4_live_113 : decode cX4_live 113 = .ok (.iload_n 3, 1) := by decide +kernel
theorem dX4_live_114 : decode cX4_live 114 = .ok (.goto 5, 3) := by decide +kernel
theorem dX4_live_117 : decode cX4_live 117 = .ok (.iload 4, 2) := by decide +kernel
theorem dX4_live_119 : decode cX4_live 119 = .ok (.ireturn, 1) := by decide +kernel
theorem dX4_hide_0 : decode cX4_hide 0 = .ok (.aload_n 0, 1) := by decide +kernel
theorem dX4_hide_1 : decode cX4_hide 1 = .ok (.getfield 38, 3) := by decide +kernel
theorem dX4_hide_4 : decode cX4_hide 4 = .ok (.iload_n 1, 1) := by decide +kernel
theorem dX4_hide_5 : decode cX4_hide 5 = .ok (.invokevirtual 98, 3) := by decide +kernel
theorem dX4_hide_8 : decode cX4_hide 8 = .ok (.ifCond .eq 35, 3) := by decide +kernel
theorem dX4_hide_11 : decode cX4_hide 11 = .ok (.aload_n 0, 1) := by decide +kernel
theorem dX4_hide_12 : decode cX4_hide 12 = .ok (.getfield 38, 3) := by decide +kernel
theorem dX4_hide_15 : decode cX4_hide 15 = .ok (.iload_n 2, 1) := by decide +kernel
theorem dX4_hide_16 : decode cX4_hide 16 = .ok (.invokevirtual 105, 3) := by decide +kernel
theorem dX4_hide_19 : decode cX4_hide 19 = .ok (.ifCond .eq 24, 3) := by decide +kernel
theorem dX4_hide_22 : decode cX4_hide 22 = .ok (.iload_n 3, 1) := by decide +kernel
theorem dX4_hide_23 : decode cX4_hide 23 = .ok (.ifCond .lt 20, 3) := by decide +kernel
theorem dX4_hide_26 : decode cX4_hide 26 = .ok (.iload_n 3, 1) := by decide +kernel
theorem dX4_hide_27 : decode cX4_hide 27 = .ok (.bipush 40, 2) := by decide +kernel
theorem dX4_hide_29 : decode cX4_hide 29 = .ok (.if_icmp .gt 14, 3) := by decide +kernel
theorem dX4_hide_32 : decode cX4_hide 32 = .ok (.iload 4, 2) := by decide +kernel
theorem dX4_hide_34 : decode cX4_hide 34 = .ok (.ifCond .lt 9, 3) := by decide +kernel
theorem dX4_hide_37 : decode cX4_hide 37 = .ok (.iload 4, 2) := by decide +kernel
theorem dX4_hide_39 : decode cX4_hide 39 = .ok (.iconst 1, 1) := by decide +kernel
theorem dX4_hide_40 : decode cX4_hide 40 = .ok (.if_icmp .le 6, 3) := by decide +kernel
theorem dX4_hide_43 : decode cX4_hide 43 = .ok (.bipush (-2), 2) := by decide +kernel
theorem dX4_hide_45 : decode cX4_hide 45 = .ok (.ireturn, 1) := by decide +kernel
theorem dX4_hide_46 : decode cX4_hide 46 = .ok (.iconst (-1), 1) := by decide +kernel
theorem dX4_hide_47 : decode cX4_hide 47 = .ok (.istore 5, 2) := by decide +kernel
theorem dX4_hide_49 : decode cX4_hide 49 = .ok (.iconst 0, 1) := by decide +kernel
theorem dX4_hide_50 : decode cX4_hide 50 = .ok (.istore 6, 2) := by decide +kernel
theorem dX4_hide_52 : decode cX4_hide 52 = .ok (.iload 6, 2) := by decide +kernel
theorem dX4_hide_54 : decode cX4_hide 54 = .ok (.iconst 1, 1) := by decide +kernel
theorem dX4_hide_55 : decode cX4_hide 55 = .ok (.aload_n 0, 1) := by decide +kernel
theorem dX4_hide_56 : decode cX4_hide 56 = .ok (.getfield 38, 3) := by decide +kernel
theorem dX4_hide_59 : decode cX4_hide 59 = .ok (.getfield 196, 3) := by decide +kernel
theorem dX4_hide_62 : decode cX4_hide 62 = .ok (.ishl, 1) := by decide +kernel
theorem dX4_hide_63 : decode cX4_hide 63 = .ok (.if_icmp .ge 71, 3) := by decide +kernel
theorem dX4_hide_66 : decode cX4_hide 66 = .ok (.iload 5, 2) := by decide +kernel
theorem dX4_hide_68 : decode cX4_hide 68 = .ok (.iconst (-1), 1) := by decide +kernel
theorem dX4_hide_69 : decode cX4_hide 69 = .ok (.if_icmp .eq 19, 3) := by decide +kernel
theorem dX4_hide_72 : decode cX4_hide 72 = .ok (.iload 6, 2) := by decide +kernel
theorem dX4_hide_74 : decode cX4_hide 74 = .ok (.invokestatic 199, 3) := by decide +kernel
theorem dX4_hide_77 : decode cX4_hide 77 = .ok (.iload 5, 2) := by decide +kernel
theorem dX4_hide_79 : decode cX4_hide 79 = .ok (.invokestatic 199, 3) := by decide +kernel
theorem dX4_hide_82 : decode cX4_hide 82 = .ok (.if_icmp .lt 6, 3) := by decide +kernel
theorem dX4_hide_85 : decode cX4_hide 85 = .ok (.goto 43, 3) := by decide +kernel
theorem dX4_hide_88 : decode cX4_hide 88 = .ok (.aload_n 0, 1) := by decide +kernel
theorem dX4_hide_89 : decode cX4_hide 89 = .ok (.getfield 42, 3) := by decide +kernel
theorem dX4_hide_92 : decode cX4_hide 92 = .ok (.aload_n 0, 1) := by decide +kernel
theorem dX4_hide_93 : decode cX4_hide 93 = .ok (.getfield 38, 3) := by decide +kernel
theorem dX4_hide_96 : decode cX4_hide 96 = .ok (.invokevirtual 167, 3) := by decide +kernel
theorem dX4_hide_99 : decode cX4_hide 99 = .ok (.aload_n 0, 1) := by decide +kernel
theorem dX4_hide_100 : decode cX4_hide 100 = .ok (.getfield 42, 3) := by decide +kernel
theorem dX4_hide_103 : decode cX4_hide 103 = .ok (.iload 6, 2) := by decide +kernel
theorem dX4_hide_105 : decode cX4_hide 105 = .ok (.putfield 204, 3) := by decide +kernel
theorem dX4_hide_108 : decode cX4_hide 108 = .ok (.aload_n 0, 1) := by decide +kernel
theorem dX4_hide_109 : decode cX4_hide 109 = .ok (.getfield 42, 3) := by decide +kernel
theorem dX4_hide_112 : decode cX4_hide 112 = .ok (.iload_n 1, 1) := by decide +kernel
theorem dX4_hide_113 : decode cX4_hide 113 = .ok (.iload_n 3, 1) := by decide +kernel
theorem dX4_hide_114 : decode cX4_hide 114 = .ok (.invokevirtual 207, 3) := by decide +kernel
theorem dX4_hide_117 : decode cX4_hide 117 = .ok (.iload_n 2, 1) := by decide +kernel
theorem dX4_hide_118 : decode cX4_hide 118 = .ok (.ishr, 1) := by decide +kernel
theorem dX4_hide_119 : decode cX4_hide 119 = .ok (.iconst 1, 1) := by decide +kernel
theorem dX4_hide_120 : decode cX4_hide 120 = .ok (.iand, 1) := by decide +kernel
theorem dX4_hide_121 : decode cX4_hide 121 = .ok (.ifCond .ne 7, 3) := by decide +kernel
theorem dX4_hide_124 : decode cX4_hide 124 = .ok (.iload 6, 2) := by decide +kernel
theorem dX4_hide_126 : decode cX4_hide 126 = .ok (.istore 5, 2) := by decide +kernel
theorem dX4_hide_128 : decode cX4_hide 128 = .ok (.iinc 6 1, 3) := by decide +kernel
theorem dX4_hide_131 : decode cX4_hide 131 = .ok (.goto (-79), 3) := by decide +kernel
theorem dX4_hide_134 : decode cX4_hide 134 = .ok (.iload 5, 2) := by decide +kernel
theorem dX4_hide_136 : decode cX4_hide 136 = .ok (.iconst (-1), 1) := by decide +kernel
theorem dX4_hide_137 : decode cX4_hide 137 = .ok (.if_icmp .eq 8, 3) := by decide +kernel
theorem dX4_hide_140 : decode cX4_hide 140 = .ok (.iload 4, 2) := by decide +kernel
theorem dX4_hide_142 : decode cX4_hide 142 = .ok (.ifCond .ne 8, 3) := by decide +kernel
theorem dX4_hide_145 : decode cX4_hide 145 = .ok (.iload 5, 2) := by decide +kernel
theorem dX4_hide_147 : decode cX4_hide 147 = .ok (.goto 8, 3) := by decide +kernel
theorem dX4_hide_150 : decode cX4_hide 150 = .ok (.iload 5, 2) := by decide +kernel
theorem dX4_hide_152 : decode cX4_hide 152 = .ok (.invokestatic 199, 3) := by decide +kernel
theorem dX4_hide_155 : decode cX4_hide 155 = .ok (.ireturn, 1) := by decide +kernel
theorem dX4_tell_0 : decode cX4_tell 0 = .ok (.aload_n 0, 1) := by decide +kernel
theorem dX4_tell_1 : decode cX4_tell 1 = .ok (.getfield 38, 3) := by decide +kernel
theorem dX4_tell_4 : decode cX4_tell 4 = .ok (.iload_n 1, 1) := by decide +kernel
theorem dX4_tell_5 : decode cX4_tell 5 = .ok (.invokevirtual 105, 3) := by decide +kernel
theorem dX4_tell_8 : decode cX4_tell 8 = .ok (.ifCond .eq 30, 3) := by decide +kernel
theorem dX4_tell_11 : decode cX4_tell 11 = .ok (.iload_n 2, 1) := by decide +kernel
theorem dX4_tell_12 : decode cX4_tell 12 = .ok (.ifCond .lt 26, 3) := by decide +kernel
theorem dX4_tell_15 : decode cX4_tell 15 = .ok (.iload_n 2, 1) := by decide +kernel
theorem dX4_tell_16 : decode cX4_tell 16 = .ok (.iconst 1, 1) := by decide +kernel
theorem dX4_tell_17 : decode cX4_tell 17 = .ok (.aload_n 0, 1) := by decide +kernel
theorem dX4_tell_18 : decode cX4_tell 18 = .ok (.getfield 38, 3) := by decide +kernel
theorem dX4_tell_21 : decode cX4_tell 21 = .ok (.getfield 196, 3) := by decide +kernel
theorem dX4_tell_24 : decode cX4_tell 24 = .ok (.ishl, 1) := by decide +kernel
theorem dX4_tell_25 : decode cX4_tell 25 = .ok (.if_icmp .ge 13, 3) := by decide +kernel
theorem dX4_tell_28 : decode cX4_tell 28 = .ok (.iload_n 3, 1) := by decide +kernel
theorem dX4_tell_29 : decode cX4_tell 29 = .ok (.ifCond .lt 9, 3) := by decide +kernel
theorem dX4_tell_32 : decode cX4_tell 32 = .ok (.iload_n 3, 1) := by decide +kernel
theorem dX4_tell_33 : decode cX4_tell 33 = .ok (.bipush 20, 2) := by decide +kernel
theorem dX4_tell_35 : decode cX4_tell 35 = .ok (.if_icmp .le 6, 3) := by decide +kernel
theorem dX4_tell_38 : decode cX4_tell 38 = .ok (.bipush (-2), 2) := by decide +kernel
theorem dX4_tell_40 : decode cX4_tell 40 = .ok (.ireturn, 1) := by decide +kernel
theorem dX4_tell_41 : decode cX4_tell 41 = .ok (.aload_n 0, 1) := by decide +kernel
theorem dX4_tell_42 : decode cX4_tell 42 = .ok (.getfield 38, 3) := by decide +kernel
theorem dX4_tell_45 : decode cX4_tell 45 = .ok (.invokevirtual 210, 3) := by decide +kernel
theorem dX4_tell_48 : decode cX4_tell 48 = .ok (.ifCond .ne 6, 3) := by decide +kernel
theorem dX4_tell_51 : decode cX4_tell 51 = .ok (.bipush (-4), 2) := by decide +kernel
theorem dX4_tell_53 : decode cX4_tell 53 = .ok (.ireturn, 1) := by decide +kernel
theorem dX4_tell_54 : decode cX4_tell 54 = .ok (.iconst 0, 1) := by decide +kernel
theorem dX4_tell_55 : decode cX4_tell 55 = .ok (.istore 4, 2) := by decide +kernel
theorem dX4_tell_57 : decode cX4_tell 57 = .ok (.iload 4, 2) := by decide +kernel
theorem dX4_tell_59 : decode cX4_tell 59 = .ok (.aload_n 0, 1) := by decide +kernel
theorem dX4_tell_60 : decode cX4_tell 60 = .ok (.getfield 38, 3) := by decide +kernel
theorem dX4_tell_63 : decode cX4_tell 63 = .ok (.getfield 196, 3) := by decide +kernel
theorem dX4_tell_66 : decode cX4_tell 66 = .ok (.if_icmp .ge 51, 3) := by decide +kernel
theorem dX4_tell_69 : decode cX4_tell 69 = .ok (.aload_n 0, 1) := by decide +kernel
theorem dX4_tell_70 : decode cX4_tell 70 = .ok (.getfield 42, 3) := by decide +kernel
theorem dX4_tell_73 : decode cX4_tell 73 = .ok (.aload_n 0, 1) := by decide +kernel
theorem dX4_tell_74 : decode cX4_tell 74 = .ok (.getfield 38, 3) := by decide +kernel
theorem dX4_tell_77 : decode cX4_tell 77 = .ok (.invokevirtual 167, 3) := by decide +kernel
theorem dX4_tell_80 : decode cX4_tell 80 = .ok (.iload 4, 2) := by decide +kernel
theorem dX4_tell_82 : decode cX4_tell 82 = .ok (.iload_n 1, 1) := by decide +kernel
theorem dX4_tell_83 : decode cX4_tell 83 = .ok (.if_icmp .eq 28, 3) := by decide +kernel
theorem dX4_tell_86 : decode cX4_tell 86 = .ok (.aload_n 0, 1) := by decide +kernel
theorem dX4_tell_87 : decode cX4_tell 87 = .ok (.getfield 42, 3) := by decide +kernel
theorem dX4_tell_90 : decode cX4_tell 90 = .ok (.aload_n 0, 1) := by decide +kernel
theorem dX4_tell_91 : decode cX4_tell 91 = .ok (.getfield 42, 3) := by decide +kernel
theorem dX4_tell_94 : decode cX4_tell 94 = .ok (.iload_n 1, 1) := by decide +kernel
theorem dX4_tell_95 : decode cX4_tell 95 = .ok (.iload 4, 2) := by decide +kernel
theorem dX4_tell_97 : decode cX4_tell 97 = .ok (.invokevirtual 161, 3) := by decide +kernel
theorem dX4_tell_100 : decode cX4_tell 100 = .ok (.iload_n 3, 1) := by decide +kernel
theorem dX4_tell_101 : decode cX4_tell 101 = .ok (.invokevirtual 207, 3) := by decide +kernel
theorem dX4_tell_104 : decode cX4_tell 104 = .ok (.iload_n 2, 1) := by decide +kernel
theorem dX4_tell_105 : decode cX4_tell 105 = .ok (.if_icmp .ne 6, 3) := by decide +kernel
theorem dX4_tell_108 : decode cX4_tell 108 = .ok (.iload 4, 2) := by decide +kernel
theorem dX4_tell_110 : decode cX4_tell 110 = .ok (.ireturn, 1) := by decide +kernel
theorem dX4_tell_111 : decode cX4_tell 111 = .ok (.iinc 4 1, 3) := by decide +kernel
theorem dX4_tell_114 : decode cX4_tell 114 = .ok (.goto (-57), 3) := by decide +kernel
theorem dX4_tell_117 : decode cX4_tell 117 = .ok (.iconst (-1), 1) := by decide +kernel
theorem dX4_tell_118 : decode cX4_tell 118 = .ok (.ireturn, 1) := by decide +kernel
theorem dX4_mean_0 : decode cX4_mean 0 = .ok (.iload_n 1, 1) := by decide +kernel
theorem dX4_mean_1 : decode cX4_mean 1 = .ok (.ifCond .lt 18, 3) := by decide +kernel
theorem dX4_mean_4 : decode cX4_mean 4 = .ok (.iload_n 1, 1) := by decide +kernel
theorem dX4_mean_5 : decode cX4_mean 5 = .ok (.iconst 1, 1) := by decide +kernel
theorem dX4_mean_6 : decode cX4_mean 6 = .ok (.if_icmp .gt 13, 3) := by decide +kernel
theorem dX4_mean_9 : decode cX4_mean 9 = .ok (.aload_n 0, 1) := by decide +kernel
theorem dX4_mean_10 : decode cX4_mean 10 = .ok (.getfield 38, 3) := by decide +kernel
theorem dX4_mean_13 : decode cX4_mean 13 = .ok (.getfield 211, 3) := by decide +kernel
theorem dX4_mean_16 : decode cX4_mean 16 = .ok (.ifCond .ne 7, 3) := by decide +kernel
theorem dX4_mean_19 : decode cX4_mean 19 = .ok (.ldc2_w 214, 3) := by decide +kernel
theorem dX4_mean_22 : decode cX4_mean 22 = .ok (.lreturn, 1) := by decide +kernel
theorem dX4_mean_23 : decode cX4_mean 23 = .ok (.iconst 0, 1) := by decide +kernel
theorem dX4_mean_24 : decode cX4_mean 24 = .ok (.istore_n 2, 1) := by decide +kernel
theorem dX4_mean_25 : decode cX4_mean 25 = .ok (.iconst 0, 1) := by decide +kernel
theorem dX4_mean_26 : decode cX4_mean 26 = .ok (.istore_n 3, 1) := by decide +kernel
theorem dX4_mean_27 : decode cX4_mean 27 = .ok (.iload_n 3, 1) := by decide +kernel
theorem dX4_mean_28 : decode cX4_mean 28 = .ok (.aload_n 0, 1) := by decide +kernel
theorem dX4_mean_29 : decode cX4_mean 29 = .ok (.getfield 38, 3) := by decide +kernel
theorem dX4_mean_32 : decode cX4_mean 32 = .ok (.getfield 211, 3) := by decide +kernel
theorem dX4_mean_35 : decode cX4_mean 35 = .ok (.if_icmp .ge 20, 3) := by decide +kernel
theorem dX4_mean_38 : decode cX4_mean 38 = .ok (.iload_n 2, 1) := by decide +kernel
theorem dX4_mean_39 : decode cX4_mean 39 = .ok (.aload_n 0, 1) := by decide +kernel
theorem dX4_mean_40 : decode cX4_mean 40 = .ok (.getfield 38, 3) := by decide +kernel
theorem dX4_mean_43 : decode cX4_mean 43 = .ok (.iload_n 3, 1) := by decide +kernel
theorem dX4_mean_44 : decode cX4_mean 44 = .ok (.invokevirtual 129, 3) := by decide +kernel
theorem dX4_mean_47 : decode cX4_mean 47 = .ok (.iadd, 1) := by decide +kernel
theorem dX4_mean_48 : decode cX4_mean 48 = .ok (.istore_n 2, 1) := by decide +kernel
theorem dX4_mean_49 : decode cX4_mean 49 = .ok (.iinc 3 1, 3) := by decide +kernel
theorem dX4_mean_52 : decode cX4_mean 52 = .ok (.goto (-25), 3) := by decide +kernel
theorem dX4_mean_55 : decode cX4_mean 55 = .ok (.iload_n 2, 1) := by decide +kernel
theorem dX4_mean_56 : decode cX4_mean 56 = .ok (.aload_n 0, 1) := by decide +kernel
theorem dX4_mean_57 : decode cX4_mean 57 = .ok (.getfield 38, 3) := by decide +kernel
theorem dX4_mean_60 : decode cX4_mean 60 = .ok (.getfield 211, 3) := by decide +kernel
theorem dX4_mean_63 : decode cX4_mean 63 = .ok (.iload_n 1, 1) := by decide +kernel
theorem dX4_mean_64 : decode cX4_mean 64 = .ok (.invokestatic 216, 3) := by decide +kernel
theorem dX4_mean_67 : decode cX4_mean 67 = .ok (.lreturn, 1) := by decide +kernel
theorem dX4_firstWay_0 : decode cX4_firstWay 0 = .ok (.iconst 0, 1) := by decide +kernel
theorem dX4_firstWay_1 : decode cX4_firstWay 1 = .ok (.istore_n 1, 1) := by decide +kernel
theorem dX4_firstWay_2 : decode cX4_firstWay 2 = .ok (.iconst 0, 1) := by decide +kernel
theorem dX4_firstWay_3 : decode cX4_firstWay 3 = .ok (.istore_n 2, 1) := by decide +kernel
theorem dX4_firstWay_4 : decode cX4_firstWay 4 = .ok (.iload_n 2, 1) := by decide +kernel
theorem dX4_firstWay_5 : decode cX4_firstWay 5 = .ok (.bipush 8, 2) := by decide +kernel
theorem dX4_firstWay_7 : decode cX4_firstWay 7 = .ok (.if_icmp .ge 40, 3) := by decide +kernel
theorem dX4_firstWay_10 : decode cX4_firstWay 10 = .ok (.aload_n 0, 1) := by decide +kernel
theorem dX4_firstWay_11 : decode cX4_firstWay 11 = .ok (.getfield 38, 3) := by decide +kernel
theorem dX4_firstWay_14 : decode cX4_firstWay 14 = .ok (.iload_n 2, 1) := by decide +kernel
theorem dX4_firstWay_15 : decode cX4_firstWay 15 = .ok (.invokevirtual 81, 3) := by decide +kernel
theorem dX4_firstWay_18 : decode cX4_firstWay 18 = .ok (.iconst (-1), 1) := by decide +kernel
theorem dX4_firstWay_19 : decode cX4_firstWay 19 = .ok (.if_icmp .eq 22, 3) := by decide +kernel
theorem dX4_firstWay_22 : decode cX4_firstWay 22 = .ok (.iload_n 1, 1) := by decide +kernel
theorem dX4_firstWay_23 : decode cX4_firstWay 23 = .ok (.aload_n 0, 1) := by decide +kernel
theorem dX4_firstWay_24 : decode cX4_firstWay 24 = .ok (.getfield 48, 3) := by decide +kernel
theorem dX4_firstWay_27 : decode cX4_firstWay 27 = .ok (.arraylength, 1) := by decide +kernel
theorem dX4_firstWay_28 : decode cX4_firstWay 28 = .ok (.if_icmp .ge 13, 3) := by decide +kernel
theorem dX4_firstWay_31 : decode cX4_firstWay 31 = .ok (.aload_n 0, 1) := by decide +kernel
theorem dX4_firstWay_32 : decode cX4_firstWay 32 = .ok (.getfield 48, 3) := by decide +kernel
theorem dX4_firstWay_35 : decode cX4_firstWay 35 = .ok (.iload_n 1, 1) := by decide +kernel
theorem dX4_firstWay_36 : decode cX4_firstWay 36 = .ok (.iload_n 2, 1) := by decide +kernel
theorem dX4_firstWay_37 : decode cX4_firstWay 37 = .ok (.iastore, 1) := by decide +kernel
theorem dX4_firstWay_38 : decode cX4_firstWay 38 = .ok (.iinc 1 1, 3) := by decide +kernel
theorem dX4_firstWay_41 : decode cX4_firstWay 41 = .ok (.iinc 2 1, 3) := by decide +kernel
theorem dX4_firstWay_44 : decode cX4_firstWay 44 = .ok (.goto (-40), 3) := by decide +kernel
theorem dX4_firstWay_47 : decode cX4_firstWay 47 = .ok (.return_, 1) := by decide +kernel
theorem dX4_nextWay_0 : decode cX4_nextWay 0 = .ok (.aload_n 0, 1) := by decide +kernel
theorem dX4_nextWay_1 : decode cX4_nextWay 1 = .ok (.getfield 38, 3) := by decide +kernel
theorem dX4_nextWay_4 : decode cX4_nextWay 4 = .ok (.getfield 196, 3) := by decide +kernel
theorem dX4_nextWay_7 : decode cX4_nextWay 7 = .ok (.aload_n 0, 1) := by decide +kernel
theorem dX4_nextWay_8 : decode cX4_nextWay 8 = .ok (.getfield 48, 3) := by decide +kernel
theorem dX4_nextWay_11 : decode cX4_nextWay 11 = .ok (.arraylength, 1) := by decide +kernel
theorem dX4_nextWay_12 : decode cX4_nextWay 12 = .ok (.invokestatic 220, 3) := by decide +kernel
theorem dX4_nextWay_15 : decode cX4_nextWay 15 = .ok (.istore_n 1, 1) := by decide +kernel
theorem dX4_nextWay_16 : decode cX4_nextWay 16 = .ok (.iload_n 1, 1) := by decide +kernel
theorem dX4_nextWay_17 : decode cX4_nextWay 17 = .ok (.iconst 2, 1) := by decide +kernel
theorem dX4_nextWay_18 : decode cX4_nextWay 18 = .ok (.isub, 1) := by decide +kernel
theorem dX4_nextWay_19 : decode cX4_nextWay 19 = .ok (.istore_n 2, 1) := by decide +kernel
theorem dX4_nextWay_20 : decode cX4_nextWay 20 = .ok (.iload_n 2, 1) := by decide +kernel
theorem dX4_nextWay_21 : decode cX4_nextWay 21 = .ok (.ifCond .lt 26, 3) := by decide +kernel
theorem dX4_nextWay_24 : decode cX4_nextWay 24 = .ok (.aload_n 0, 1) := by decide +kernel
theorem dX4_nextWay_25 : decode cX4_nextWay 25 = .ok (.getfield 48, 3) := by decide +kernel
theorem dX4_nextWay_28 : decode cX4_nextWay 28 = .ok (.iload_n 2, 1) := by decide +kernel
theorem dX4_nextWay_29 : decode cX4_nextWay 29 = .ok (.iaload, 1) := by decide +kernel
theorem dX4_nextWay_30 : decode cX4_nextWay 30 = .ok (.aload_n 0, 1) := by decide +kernel
theorem dX4_nextWay_31 : decode cX4_nextWay 31 = .ok (.getfield 48, 3) := by decide +kernel
theorem dX4_nextWay_34 : decode cX4_nextWay 34 = .ok (.iload_n 2, 1) := by decide +kernel
theorem dX4_nextWay_35 : decode cX4_nextWay 35 = .ok (.iconst 1, 1) := by decide +kernel
theorem dX4_nextWay_36 : decode cX4_nextWay 36 = .ok (.iadd, 1) := by decide +kernel
theorem dX4_nextWay_37 : decode cX4_nextWay 37 = .ok (.iaload, 1) := by decide +kernel
theorem dX4_nextWay_38 : decode cX4_nextWay 38 = .ok (.if_icmp .lt 9, 3) := by decide +kernel
theorem dX4_nextWay_41 : decode cX4_nextWay 41 = .ok (.iinc 2 (-1), 3) := by decide +kernel
theorem dX4_nextWay_44 : decode cX4_nextWay 44 = .ok (.goto (-24), 3) := by decide +kernel
theorem dX4_nextWay_47 : decode cX4_nextWay 47 = .ok (.iload_n 2, 1) := by decide +kernel
theorem dX4_nextWay_48 : decode cX4_nextWay 48 = .ok (.ifCond .ge 5, 3) := by decide +kernel
theorem dX4_nextWay_51 : decode cX4_nextWay 51 = .ok (.iconst 0, 1) := by decide +kernel
theorem dX4_nextWay_52 : decode cX4_nextWay 52 = .ok (.ireturn, 1) := by decide +kernel
theorem dX4_nextWay_53 : decode cX4_nextWay 53 = .ok (.iload_n 1, 1) := by decide +kernel
theorem dX4_nextWay_54 : decode cX4_nextWay 54 = .ok (.iconst 1, 1) := by decide +kernel
theorem dX4_nextWay_55 : decode cX4_nextWay 55 = .ok (.isub, 1) := by decide +kernel
theorem dX4_nextWay_56 : decode cX4_nextWay 56 = .ok (.istore_n 3, 1) := by decide +kernel
theorem dX4_nextWay_57 : decode cX4_nextWay 57 = .ok (.iload_n 3, 1) := by decide +kernel
theorem dX4_nextWay_58 : decode cX4_nextWay 58 = .ok (.iload_n 2, 1) := by decide +kernel
theorem dX4_nextWay_59 : decode cX4_nextWay 59 = .ok (.if_icmp .le 24, 3) := by decide +kernel
theorem dX4_nextWay_62 : decode cX4_nextWay 62 = .ok (.aload_n 0, 1) := by decide +kernel
theorem dX4_nextWay_63 : decode cX4_nextWay 63 = .ok (.getfield 48, 3) := by decide +kernel
theorem dX4_nextWay_66 : decode cX4_nextWay 66 = .ok (.iload_n 3, 1) := by decide +kernel
theorem dX4_nextWay_67 : decode cX4_nextWay 67 = .ok (.iaload, 1) := by decide +kernel
theorem dX4_nextWay_68 : decode cX4_nextWay 68 = .ok (.aload_n 0, 1) := by decide +kernel
theorem dX4_nextWay_69 : decode cX4_nextWay 69 = .ok (.getfield 48, 3) := by decide +kernel
theorem dX4_nextWay_72 : decode cX4_nextWay 72 = .ok (.iload_n 2, 1) := by decide +kernel
theorem dX4_nextWay_73 : decode cX4_nextWay 73 = .ok (.iaload, 1) := by decide +kernel
theorem dX4_nextWay_74 : decode cX4_nextWay 74 = .ok (.if_icmp .gt 9, 3) := by decide +kernel
theorem dX4_nextWay_77 : decode cX4_nextWay 77 = .ok (.iinc 3 (-1), 3) := by decide +kernel
theorem dX4_nextWay_80 : decode cX4_nextWay 80 = .ok (.goto (-23), 3) := by decide +kernel
theorem dX4_nextWay_83 : decode cX4_nextWay 83 = .ok (.aload_n 0, 1) := by decide +kernel
theorem dX4_nextWay_84 : decode cX4_nextWay 84 = .ok (.iload_n 2, 1) := by decide +kernel
theorem dX4_nextWay_85 : decode cX4_nextWay 85 = .ok (.iload_n 3, 1) := by decide +kernel
theorem dX4_nextWay_86 : decode cX4_nextWay 86 = .ok (.invokevirtual 225, 3) := by decide +kernel
theorem dX4_nextWay_89 : decode cX4_nextWay 89 = .ok (.iload_n 2, 1) := by decide +kernel
theorem dX4_nextWay_90 : decode cX4_nextWay 90 = .ok (.iconst 1, 1) := by decide +kernel
theorem dX4_nextWay_91 : decode cX4_nextWay 91 = .ok (.iadd, 1) := by decide +kernel
theorem dX4_nextWay_92 : decode cX4_nextWay 92 = .ok (.istore 4, 2) := by decide +kernel
theorem dX4_nextWay_94 : decode cX4_nextWay 94 = .ok (.iload_n 1, 1) := by decide +kernel
theorem dX4_nextWay_95 : decode cX4_nextWay 95 = .ok (.iconst 1, 1) := by decide +kernel
theorem dX4_nextWay_96 : decode cX4_nextWay 96 = .ok (.isub, 1) := by decide +kernel
theorem dX4_nextWay_97 : decode cX4_nextWay 97 = .ok (.istore 5, 2) := by decide +kernel
theorem dX4_nextWay_99 : decode cX4_nextWay 99 = .ok (.iload 4, 2) := by decide +kernel
theorem dX4_nextWay_101 : decode cX4_nextWay 101 = .ok (.iload 5, 2) := by decide +kernel
theorem dX4_nextWay_103 : decode cX4_nextWay 103 = .ok (.if_icmp .ge 20, 3) := by decide +kernel
theorem dX4_nextWay_106 : decode cX4_nextWay 106 = .ok (.aload_n 0, 1) := by decide +kernel
theorem dX4_nextWay_107 : decode cX4_nextWay 107 = .ok (.iload 4, 2) := by decide +kernel
theorem dX4_nextWay_109 : decode cX4_nextWay 109 = .ok (.iload 5, 2) := by decide +kernel
theorem dX4_nextWay_111 : decode cX4_nextWay 111 = .ok (.invokevirtual 225, 3) := by decide +kernel
theorem dX4_nextWay_114 : decode cX4_nextWay 114 = .ok (.iinc 4 1, 3) := by decide +kernel
theorem dX4_nextWay_117 : decode cX4_nextWay 117 = .ok (.iinc 5 (-1), 3) := by decide +kernel
theorem dX4_nextWay_120 : decode cX4_nextWay 120 = .ok (.goto (-21), 3) := by decide +kernel
theorem dX4_nextWay_123 : decode cX4_nextWay 123 = .ok (.iconst 1, 1) := by decide +kernel
theorem dX4_nextWay_124 : decode cX4_nextWay 124 = .ok (.ireturn, 1) := by decide +kernel
theorem dX4_exchange_0 : decode cX4_exchange 0 = .ok (.iload_n 1, 1) := by decide +kernel
theorem dX4_exchange_1 : decode cX4_exchange 1 = .ok (.ifCond .lt 51, 3) := by decide +kernel
theorem dX4_exchange_4 : decode cX4_exchange 4 = .ok (.iload_n 1, 1) := by decide +kernel
theorem dX4_exchange_5 : decode cX4_exchange 5 = .ok (.aload_n 0, 1) := by decide +kernel
theorem dX4_exchange_6 : decode cX4_exchange 6 = .ok (.getfield 48, 3) := by decide +kernel
theorem dX4_exchange_9 : decode cX4_exchange 9 = .ok (.arraylength, 1) := by decide +kernel
theorem dX4_exchange_10 : decode cX4_exchange 10 = .ok (.if_icmp .ge 42, 3) := by decide +kernel
theorem dX4_exchange_13 : decode cX4_exchange 13 = .ok (.iload_n 2, 1) := by decide +kernel
theorem dX4_exchange_14 : decode cX4_exchange 14 = .ok (.ifCond .lt 38, 3) := by decide +kernel
theorem dX4_exchange_17 : decode cX4_exchange 17 = .ok (.iload_n 2, 1) := by decide +kernel
theorem dX4_exchange_18 : decode cX4_exchange 18 = .ok (.aload_n 0, 1) := by decide +kernel
theorem dX4_exchange_19 : decode cX4_exchange 19 = .ok (.getfield 48, 3) := by decide +kernel
theorem dX4_exchange_22 : decode cX4_exchange 22 = .ok (.arraylength, 1) := by decide +kernel
theorem dX4_exchange_23 : decode cX4_exchange 23 = .ok (.if_icmp .ge 29, 3) := by decide +kernel
theorem dX4_exchange_26 : decode cX4_exchange 26 = .ok (.aload_n 0, 1) := by decide +kernel
theorem dX4_exchange_27 : decode cX4_exchange 27 = .ok (.getfield 48, 3) := by decide +kernel
theorem dX4_exchange_30 : decode cX4_exchange 30 = .ok (.iload_n 1, 1) := by decide +kernel
theorem dX4_exchange_31 : decode cX4_exchange 31 = .ok (.iaload, 1) := by decide +kernel
theorem dX4_exchange_32 : decode cX4_exchange 32 = .ok (.istore_n 3, 1) := by decide +kernel
theorem dX4_exchange_33 : decode cX4_exchange 33 = .ok (.aload_n 0, 1) := by decide +kernel
theorem dX4_exchange_34 : decode cX4_exchange 34 = .ok (.getfield 48, 3) := by decide +kernel
theorem dX4_exchange_37 : decode cX4_exchange 37 = .ok (.iload_n 1, 1) := by decide +kernel
theorem dX4_exchange_38 : decode cX4_exchange 38 = .ok (.aload_n 0, 1) := by decide +kernel
theorem dX4_exchange_39 : decode cX4_exchange 39 = .ok (.getfield 48, 3) := by decide +kernel
theorem dX4_exchange_42 : decode cX4_exchange 42 = .ok (.iload_n 2, 1) := by decide +kernel
theorem dX4_exchange_43 : decode cX4_exchange 43 = .ok (.iaload, 1) := by decide +kernel
theorem dX4_exchange_44 : decode cX4_exchange 44 = .ok (.iastore, 1) := by decide +kernel
theorem dX4_exchange_45 : decode cX4_exchange 45 = .ok (.aload_n 0, 1) := by decide +kernel
theorem dX4_exchange_46 : decode cX4_exchange 46 = .ok (.getfield 48, 3) := by decide +kernel
theorem dX4_exchange_49 : decode cX4_exchange 49 = .ok (.iload_n 2, 1) := by decide +kernel
theorem dX4_exchange_50 : decode cX4_exchange 50 = .ok (.iload_n 3, 1) := by decide +kernel
theorem dX4_exchange_51 : decode cX4_exchange 51 = .ok (.iastore, 1) := by decide +kernel
theorem dX4_exchange_52 : decode cX4_exchange 52 = .ok (.return_, 1) := by decide +kernel
theorem dX4_moveByWay_0 : decode cX4_moveByWay 0 = .ok (.iconst 0, 1) := by decide +kernel
theorem dX4_moveByWay_1 : decode cX4_moveByWay 1 = .ok (.istore_n 1, 1) := by decide +kernel
theorem dX4_moveByWay_2 : decode cX4_moveByWay 2 = .ok (.iload_n 1, 1) := by decide +kernel
theorem dX4_moveByWay_3 : decode cX4_moveByWay 3 = .ok (.aload_n 0, 1) := by decide +kernel
theorem dX4_moveByWay_4 : decode cX4_moveByWay 4 = .ok (.getfield 38, 3) := by decide +kernel
theorem dX4_moveByWay_7 : decode cX4_moveByWay 7 = .ok (.getfield 196, 3) := by decide +kernel
theorem dX4_moveByWay_10 : decode cX4_moveByWay 10 = .ok (.if_icmp .ge 32, 3) := by decide +kernel
theorem dX4_moveByWay_13 : decode cX4_moveByWay 13 = .ok (.iload_n 1, 1) := by decide +kernel
theorem dX4_moveByWay_14 : decode cX4_moveByWay 14 = .ok (.aload_n 0, 1) := by decide +kernel
theorem dX4_moveByWay_15 : decode cX4_moveByWay 15 = .ok (.getfield 48, 3) := by decide +kernel
theorem dX4_moveByWay_18 : decode cX4_moveByWay 18 = .ok (.arraylength, 1) := by decide +kernel
theorem dX4_moveByWay_19 : decode cX4_moveByWay 19 = .ok (.if_icmp .ge 23, 3) := by decide +kernel
theorem dX4_moveByWay_22 : decode cX4_moveByWay 22 = .ok (.aload_n 0, 1) := by decide +kernel
theorem dX4_moveByWay_23 : decode cX4_moveByWay 23 = .ok (.getfield 42, 3) := by decide +kernel
theorem dX4_moveByWay_26 : decode cX4_moveByWay 26 = .ok (.iload_n 1, 1) := by decide +kernel
theorem dX4_moveByWay_27 : decode cX4_moveByWay 27 = .ok (.aload_n 0, 1) := by decide +kernel
theorem dX4_moveByWay_28 : decode cX4_moveByWay 28 = .ok (.getfield 48, 3) := by decide +kernel
theorem dX4_moveByWay_31 : decode cX4_moveByWay 31 = .ok (.iload_n 1, 1) := by decide +kernel
theorem dX4_moveByWay_32 : decode cX4_moveByWay 32 = .ok (.iaload, 1) := by decide +kernel
theorem dX4_moveByWay_33 : decode cX4_moveByWay 33 = .ok (.invokevirtual 95, 3) := by decide +kernel
theorem dX4_moveByWay_36 : decode cX4_moveByWay 36 = .ok (.iinc 1 1, 3) := by decide +kernel
theorem dX4_moveByWay_39 : decode cX4_moveByWay 39 = .ok (.goto (-37), 3) := by decide +kernel
theorem dX4_moveByWay_42 : decode cX4_moveByWay 42 = .ok (.return_, 1) := by decide +kernel
theorem dX4_digitsOfWay_0 : decode cX4_digitsOfWay 0 = .ok (.iconst 0, 1) := by decide +kernel
theorem dX4_digitsOfWay_1 : decode cX4_digitsOfWay 1 = .ok (.istore_n 1, 1) := by decide +kernel
theorem dX4_digitsOfWay_2 : decode cX4_digitsOfWay 2 = .ok (.iconst 0, 1) := by decide +kernel
theorem dX4_digitsOfWay_3 : decode cX4_digitsOfWay 3 = .ok (.istore_n 2, 1) := by decide +kernel
theorem dX4_digitsOfWay_4 : decode cX4_digitsOfWay 4 = .ok (.iload_n 2, 1) := by decide +kernel
theorem dX4_digitsOfWay_5 : decode cX4_digitsOfWay 5 = .ok (.aload_n 0, 1) := by decide +kernel
theorem dX4_digitsOfWay_6 : decode cX4_digitsOfWay 6 = .ok (.getfield 38, 3) := by decide +kernel
theorem dX4_digitsOfWay_9 : decode cX4_digitsOfWay 9 = .ok (.getfield 196, 3) := by decide +kernel
theorem dX4_digitsOfWay_12 : decode cX4_digitsOfWay 12 = .ok (.if_icmp .ge 32, 3) := by decide +kernel
theorem dX4_digitsOfWay_15 : decode cX4_digitsOfWay 15 = .ok (.iload_n 2, 1) := by decide +kernel
theorem dX4_digitsOfWay_16 : decode cX4_digitsOfWay 16 = .ok (.aload_n 0, 1) := by decide +kernel
theorem dX4_digitsOfWay_17 : decode cX4_digitsOfWay 17 = .ok (.getfield 48, 3) := by decide +kernel
theorem dX4_digitsOfWay_20 : decode cX4_digitsOfWay 20 = .ok (.arraylength, 1) := by decide +kernel
theorem dX4_digitsOfWay_21 : decode cX4_digitsOfWay 21 = .ok (.if_icmp .ge 23, 3) := by decide +kernel
theorem dX4_digitsOfWay_24 : decode cX4_digitsOfWay 24 = .ok (.iload_n 1, 1) := by decide +kernel
theorem dX4_digitsOfWay_25 : decode cX4_digitsOfWay 25 = .ok (.bipush 10, 2) := by decide +kernel
theorem dX4_digitsOfWay_27 : decode cX4_digitsOfWay 27 = .ok (.imul, 1) := by decide +kernel
theorem dX4_digitsOfWay_28 : decode cX4_digitsOfWay 28 = .ok (.aload_n 0, 1) := by decide +kernel
theorem dX4_digitsOfWay_29 : decode cX4_digitsOfWay 29 = .ok (.getfield 48, 3) := by decide +kernel
theorem dX4_digitsOfWay_32 : decode cX4_digitsOfWay 32 = .ok (.iload_n 2, 1) := by decide +kernel
theorem dX4_digitsOfWay_33 : decode cX4_digitsOfWay 33 = .ok (.iaload, 1) := by decide +kernel
theorem dX4_digitsOfWay_34 : decode cX4_digitsOfWay 34 = .ok (.iadd, 1) := by decide +kernel
theorem dX4_digitsOfWay_35 : decode cX4_digitsOfWay 35 = .ok (.iconst 1, 1) := by decide +kernel
theorem dX4_digitsOfWay_36 : decode cX4_digitsOfWay 36 = .ok (.iadd, 1) := by decide +kernel
theorem dX4_digitsOfWay_37 : decode cX4_digitsOfWay 37 = .ok (.istore_n 1, 1) := by decide +kernel
theorem dX4_digitsOfWay_38 : decode cX4_digitsOfWay 38 = .ok (.iinc 2 1, 3) := by decide +kernel
theorem dX4_digitsOfWay_41 : decode cX4_digitsOfWay 41 = .ok (.goto (-37), 3) := by decide +kernel
theorem dX4_digitsOfWay_44 : decode cX4_digitsOfWay 44 = .ok (.iload_n 1, 1) := by decide +kernel
theorem dX4_digitsOfWay_45 : decode cX4_digitsOfWay 45 = .ok (.ireturn, 1) := by decide +kernel
theorem dX4_inLowestTerms_0 : decode cX4_inLowestTerms 0 = .ok (.iload_n 0, 1) := by decide +kernel
theorem dX4_inLowestTerms_1 : decode cX4_inLowestTerms 1 = .ok (.istore_n 3, 1) := by decide +kernel
theorem dX4_inLowestTerms_2 : decode cX4_inLowestTerms 2 = .ok (.iload_n 1, 1) := by decide +kernel
theorem dX4_inLowestTerms_3 : decode cX4_inLowestTerms 3 = .ok (.istore 4, 2) := by decide +kernel
theorem dX4_inLowestTerms_5 : decode cX4_inLowestTerms 5 = .ok (.iconst 0, 1) := by decide +kernel
theorem dX4_inLowestTerms_6 : decode cX4_inLowestTerms 6 = .ok (.istore 5, 2) := by decide +kernel
theorem dX4_inLowestTerms_8 : decode cX4_inLowestTerms 8 = .ok (.iload 5, 2) := by decide +kernel
theorem dX4_inLowestTerms_10 : decode cX4_inLowestTerms 10 = .ok (.bipush 64, 2) := by decide +kernel
theorem dX4_inLowestTerms_12 : decode cX4_inLowestTerms 12 = .ok (.if_icmp .ge 27, 3) := by decide +kernel
theorem dX4_inLowestTerms_15 : decode cX4_inLowestTerms 15 = .ok (.iload 4, 2) := by decide +kernel
theorem dX4_inLowestTerms_17 : decode cX4_inLowestTerms 17 = .ok (.ifCond .eq 22, 3) := by decide +kernel
theorem dX4_inLowestTerms_20 : decode cX4_inLowestTerms 20 = .ok (.iload_n 3, 1) := by decide +kernel
theorem dX4_inLowestTerms_21 : decode cX4_inLowestTerms 21 = .ok (.iload 4, 2) := by decide +kernel
theorem dX4_inLowestTerms_23 : decode cX4_inLowestTerms 23 = .ok (.irem, 1) := by decide +kernel
theorem dX4_inLowestTerms_24 : decode cX4_inLowestTerms 24 = .ok (.istore 6, 2) := by decide +kernel
theorem dX4_inLowestTerms_26 : decode cX4_inLowestTerms 26 = .ok (.iload 4, 2) := by decide +kernel
theorem dX4_inLowestTerms_28 : decode cX4_inLowestTerms 28 = .ok (.istore_n 3, 1) := by decide +kernel
theorem dX4_inLowestTerms_29 : decode cX4_inLowestTerms 29 = .ok (.iload 6, 2) := by decide +kernel
theorem dX4_inLowestTerms_31 : decode cX4_inLowestTerms 31 = .ok (.istore 4, 2) := by decide +kernel
theorem dX4_inLowestTerms_33 : decode cX4_inLowestTerms 33 = .ok (.iinc 5 1, 3) := by decide +kernel
