theorem dX0_init_0 : decode cX0_init 0 = .ok (.aload_n 0, 1) := by decide +kernel
theorem dX0_init_1 : decode cX0_init 1 = .ok (.invokespecial 1, 3) := by decide +kernel
theorem dX0_init_4 : decode cX0_init 4 = .ok (.aload_n 0, 1) := by decide +kernel
theorem dX0_init_5 : decode cX0_init 5 = .ok (.iconst (-1), 1) := by decide +kernel
theorem dX0_init_6 : decode cX0_init 6 = .ok (.putfield 9, 3) := by decide +kernel
theorem dX0_init_9 : decode cX0_init 9 = .ok (.aload_n 0, 1) := by decide +kernel
theorem dX0_init_10 : decode cX0_init 10 = .ok (.bipush 40, 2) := by decide +kernel
theorem dX0_init_12 : decode cX0_init 12 = .ok (.newarray .int, 2) := by decide +kernel
theorem dX0_init_14 : decode cX0_init 14 = .ok (.putfield 13, 3) := by decide +kernel
theorem dX0_init_17 : decode cX0_init 17 = .ok (.return_, 1) := by decide +kernel
theorem dX0_become_0 : decode cX0_become 0 = .ok (.aload_n 0, 1) := by decide +kernel
theorem dX0_become_1 : decode cX0_become 1 = .ok (.iload_n 1, 1) := by decide +kernel
theorem dX0_become_2 : decode cX0_become 2 = .ok (.putfield 9, 3) := by decide +kernel
theorem dX0_become_5 : decode cX0_become 5 = .ok (.aload_n 0, 1) := by decide +kernel
theorem dX0_become_6 : decode cX0_become 6 = .ok (.iconst 0, 1) := by decide +kernel
theorem dX0_become_7 : decode cX0_become 7 = .ok (.bipush 40, 2) := by decide +kernel
theorem dX0_become_9 : decode cX0_become 9 = .ok (.iload_n 2, 1) := by decide +kernel
theorem dX0_become_10 : decode cX0_become 10 = .ok (.invokestatic 17, 3) := by decide +kernel
theorem dX0_become_13 : decode cX0_become 13 = .ok (.invokestatic 23, 3) := by decide +kernel
theorem dX0_become_16 : decode cX0_become 16 = .ok (.putfield 26, 3) := by decide +kernel
theorem dX0_become_19 : decode cX0_become 19 = .ok (.iconst 0, 1) := by decide +kernel
theorem dX0_become_20 : decode cX0_become 20 = .ok (.istore_n 3, 1) := by decide +kernel
theorem dX0_become_21 : decode cX0_become 21 = .ok (.iload_n 3, 1) := by decide +kernel
theorem dX0_become_22 : decode cX0_become 22 = .ok (.aload_n 0, 1) := by decide +kernel
theorem dX0_become_23 : decode cX0_become 23 = .ok (.getfield 13, 3) := by decide +kernel
theorem dX0_become_26 : decode cX0_become 26 = .ok (.arraylength, 1) := by decide +kernel
theorem dX0_become_27 : decode cX0_become 27 = .ok (.if_icmp .ge 16, 3) := by decide +kernel
theorem dX0_become_30 : decode cX0_become 30 = .ok (.aload_n 0, 1) := by decide +kernel
theorem dX0_become_31 : decode cX0_become 31 = .ok (.getfield 13, 3) := by decide +kernel
theorem dX0_become_34 : decode cX0_become 34 = .ok (.iload_n 3, 1) := by decide +kernel
theorem dX0_become_35 : decode cX0_become 35 = .ok (.iconst 0, 1) := by decide +kernel
theorem dX0_become_36 : decode cX0_become 36 = .ok (.iastore, 1) := by decide +kernel
theorem dX0_become_37 : decode cX0_become 37 = .ok (.iinc 3 1, 3) := by decide +kernel
theorem dX0_become_40 : decode cX0_become 40 = .ok (.goto (-19), 3) := by decide +kernel
theorem dX0_become_43 : decode cX0_become 43 = .ok (.return_, 1) := by decide +kernel
theorem dX0_isMissing_0 : decode cX0_isMissing 0 = .ok (.aload_n 0, 1) := by decide +kernel
theorem dX0_isMissing_1 : decode cX0_isMissing 1 = .ok (.getfield 9, 3) := by decide +kernel
theorem dX0_isMissing_4 : decode cX0_isMissing 4 = .ok (.iconst (-1), 1) := by decide +kernel
theorem dX0_isMissing_5 : decode cX0_isMissing 5 = .ok (.if_icmp .ne 7, 3) := by decide +kernel
theorem dX0_isMissing_8 : decode cX0_isMissing 8 = .ok (.iconst 1, 1) := by decide +kernel
theorem dX0_isMissing_9 : decode cX0_isMissing 9 = .ok (.goto 4, 3) := by decide +kernel
theorem dX0_isMissing_12 : decode cX0_isMissing 12 = .ok (.iconst 0, 1) := by decide +kernel
theorem dX0_isMissing_13 : decode cX0_isMissing 13 = .ok (.ireturn, 1) := by decide +kernel
theorem dX0_has_0 : decode cX0_has 0 = .ok (.iload_n 1, 1) := by decide +kernel
theorem dX0_has_1 : decode cX0_has 1 = .ok (.ifCond .lt 21, 3) := by decide +kernel
theorem dX0_has_4 : decode cX0_has 4 = .ok (.iload_n 1, 1) := by decide +kernel
theorem dX0_has_5 : decode cX0_has 5 = .ok (.aload_n 0, 1) := by decide +kernel
theorem dX0_has_6 : decode cX0_has 6 = .ok (.getfield 26, 3) := by decide +kernel
theorem dX0_has_9 : decode cX0_has 9 = .ok (.if_icmp .ge 13, 3) := by decide +kernel
theorem dX0_has_12 : decode cX0_has 12 = .ok (.iload_n 1, 1) := by decide +kernel
theorem dX0_has_13 : decode cX0_has 13 = .ok (.bipush 40, 2) := by decide +kernel
theorem dX0_has_15 : decode cX0_has 15 = .ok (.if_icmp .ge 7, 3) := by decide +kernel
theorem dX0_has_18 : decode cX0_has 18 = .ok (.iconst 1, 1) := by decide +kernel
theorem dX0_has_19 : decode cX0_has 19 = .ok (.goto 4, 3) := by decide +kernel
theorem dX0_has_22 : decode cX0_has 22 = .ok (.iconst 0, 1) := by decide +kernel
theorem dX0_has_23 : decode cX0_has 23 = .ok (.ireturn, 1) := by decide +kernel
theorem dX0_hasRun_0 : decode cX0_hasRun 0 = .ok (.iload_n 1, 1) := by decide +kernel
theorem dX0_hasRun_1 : decode cX0_hasRun 1 = .ok (.ifCond .lt 29, 3) := by decide +kernel
theorem dX0_hasRun_4 : decode cX0_hasRun 4 = .ok (.iload_n 2, 1) := by decide +kernel
theorem dX0_hasRun_5 : decode cX0_hasRun 5 = .ok (.ifCond .lt 25, 3) := by decide +kernel
theorem dX0_hasRun_8 : decode cX0_hasRun 8 = .ok (.iload_n 1, 1) := by decide +kernel
theorem dX0_hasRun_9 : decode cX0_hasRun 9 = .ok (.aload_n 0, 1) := by decide +kernel
theorem dX0_hasRun_10 : decode cX0_hasRun 10 = .ok (.getfield 26, 3) := by decide +kernel
theorem dX0_hasRun_13 : decode cX0_hasRun 13 = .ok (.if_icmp .gt 17, 3) := by decide +kernel
theorem dX0_hasRun_16 : decode cX0_hasRun 16 = .ok (.iload_n 2, 1) := by decide +kernel
theorem dX0_hasRun_17 : decode cX0_hasRun 17 = .ok (.aload_n 0, 1) := by decide +kernel
theorem dX0_hasRun_18 : decode cX0_hasRun 18 = .ok (.getfield 26, 3) := by decide +kernel
theorem dX0_hasRun_21 : decode cX0_hasRun 21 = .ok (.iload_n 1, 1) := by decide +kernel
theorem dX0_hasRun_22 : decode cX0_hasRun 22 = .ok (.isub, 1) := by decide +kernel
theorem dX0_hasRun_23 : decode cX0_hasRun 23 = .ok (.if_icmp .gt 7, 3) := by decide +kernel
theorem dX0_hasRun_26 : decode cX0_hasRun 26 = .ok (.iconst 1, 1) := by decide +kernel
theorem dX0_hasRun_27 : decode cX0_hasRun 27 = .ok (.goto 4, 3) := by decide +kernel
theorem dX0_hasRun_30 : decode cX0_hasRun 30 = .ok (.iconst 0, 1) := by decide +kernel
theorem dX0_hasRun_31 : decode cX0_hasRun 31 = .ok (.ireturn, 1) := by decide +kernel
theorem dX0_item_0 : decode cX0_item 0 = .ok (.aload_n 0, 1) := by decide +kernel
theorem dX0_item_1 : decode cX0_item 1 = .ok (.iload_n 1, 1) := by decide +kernel
theorem dX0_item_2 : decode cX0_item 2 = .ok (.invokevirtual 29, 3) := by decide +kernel
theorem dX0_item_5 : decode cX0_item 5 = .ok (.ifCond .eq 12, 3) := by decide +kernel
theorem dX0_item_8 : decode cX0_item 8 = .ok (.aload_n 0, 1) := by decide +kernel
theorem dX0_item_9 : decode cX0_item 9 = .ok (.getfield 13, 3) := by decide +kernel
theorem dX0_item_12 : decode cX0_item 12 = .ok (.iload_n 1, 1) := by decide +kernel
theorem dX0_item_13 : decode cX0_item 13 = .ok (.iaload, 1) := by decide +kernel
theorem dX0_item_14 : decode cX0_item 14 = .ok (.goto 4, 3) := by decide +kernel
theorem dX0_item_17 : decode cX0_item 17 = .ok (.iconst 0, 1) := by decide +kernel
theorem dX0_item_18 : decode cX0_item 18 = .ok (.ireturn, 1) := by decide +kernel
theorem dX0_put_0 : decode cX0_put 0 = .ok (.aload_n 0, 1) := by decide +kernel
theorem dX0_put_1 : decode cX0_put 1 = .ok (.iload_n 1, 1) := by decide +kernel
theorem dX0_put_2 : decode cX0_put 2 = .ok (.invokevirtual 29, 3) := by decide +kernel
theorem dX0_put_5 : decode cX0_put 5 = .ok (.ifCond .eq 35, 3) := by decide +kernel
theorem dX0_put_8 : decode cX0_put 8 = .ok (.aload_n 0, 1) := by decide +kernel
theorem dX0_put_9 : decode cX0_put 9 = .ok (.getfield 13, 3) := by decide +kernel
theorem dX0_put_12 : decode cX0_put 12 = .ok (.iload_n 1, 1) := by decide +kernel
theorem dX0_put_13 : decode cX0_put 13 = .ok (.aload_n 0, 1) := by decide +kernel
theorem dX0_put_14 : decode cX0_put 14 = .ok (.getfield 9, 3) := by decide +kernel
theorem dX0_put_17 : decode cX0_put 17 = .ok (.ifCond .ne 8, 3) := by decide +kernel
theorem dX0_put_20 : decode cX0_put 20 = .ok (.iload_n 2, 1) := by decide +kernel
theorem dX0_put_21 : decode cX0_put 21 = .ok (.i2b, 1) := by decide +kernel
theorem dX0_put_22 : decode cX0_put 22 = .ok (.goto 17, 3) := by decide +kernel
theorem dX0_put_25 : decode cX0_put 25 = .ok (.aload_n 0, 1) := by decide +kernel
theorem dX0_put_26 : decode cX0_put 26 = .ok (.getfield 9, 3) := by decide +kernel
theorem dX0_put_29 : decode cX0_put 29 = .ok (.iconst 1, 1) := by decide +kernel
theorem dX0_put_30 : decode cX0_put 30 = .ok (.if_icmp .ne 8, 3) := by decide +kernel
theorem dX0_put_33 : decode cX0_put 33 = .ok (.iload_n 2, 1) := by decide +kernel
theorem dX0_put_34 : decode cX0_put 34 = .ok (.i2s, 1) := by decide +kernel
theorem dX0_put_35 : decode cX0_put 35 = .ok (.goto 4, 3) := by decide +kernel
theorem dX0_put_38 : decode cX0_put 38 = .ok (.iload_n 2, 1) := by decide +kernel
theorem dX0_put_39 : decode cX0_put 39 = .ok (.iastore, 1) := by decide +kernel
theorem dX0_put_40 : decode cX0_put 40 = .ok (.return_, 1) := by decide +kernel
theorem dX1_init_0 : decode cX1_init 0 = .ok (.aload_n 0, 1) := by decide +kernel
theorem dX1_init_1 : decode cX1_init 1 = .ok (.invokespecial 5, 3) := by decide +kernel
theorem dX1_init_4 : decode cX1_init 4 = .ok (.aload_n 0, 1) := by decide +kernel
theorem dX1_init_5 : decode cX1_init 5 = .ok (.sipush 160, 3) := by decide +kernel
theorem dX1_init_8 : decode cX1_init 8 = .ok (.newarray .int, 2) := by decide +kernel
theorem dX1_init_10 : decode cX1_init 10 = .ok (.putfield 11, 3) := by decide +kernel
theorem dX1_init_13 : decode cX1_init 13 = .ok (.aload_n 0, 1) := by decide +kernel
theorem dX1_init_14 : decode cX1_init 14 = .ok (.aload_n 1, 1) := by decide +kernel
theorem dX1_init_15 : decode cX1_init 15 = .ok (.putfield 15, 3) := by decide +kernel
theorem dX1_init_18 : decode cX1_init 18 = .ok (.return_, 1) := by decide +kernel
theorem dX1_add_0 : decode cX1_add 0 = .ok (.aload_n 0, 1) := by decide +kernel
theorem dX1_add_1 : decode cX1_add 1 = .ok (.getfield 19, 3) := by decide +kernel
theorem dX1_add_4 : decode cX1_add 4 = .ok (.ifCond .lt 13, 3) := by decide +kernel
theorem dX1_add_7 : decode cX1_add 7 = .ok (.aload_n 0, 1) := by decide +kernel
theorem dX1_add_8 : decode cX1_add 8 = .ok (.getfield 19, 3) := by decide +kernel
theorem dX1_add_11 : decode cX1_add 11 = .ok (.sipush 160, 3) := by decide +kernel
theorem dX1_add_14 : decode cX1_add 14 = .ok (.if_icmp .lt 5, 3) := by decide +kernel
theorem dX1_add_17 : decode cX1_add 17 = .ok (.iconst 0, 1) := by decide +kernel
theorem dX1_add_18 : decode cX1_add 18 = .ok (.ireturn, 1) := by decide +kernel
theorem dX1_add_19 : decode cX1_add 19 = .ok (.aload_n 0, 1) := by decide +kernel
theorem dX1_add_20 : decode cX1_add 20 = .ok (.getfield 11, 3) := by decide +kernel
theorem dX1_add_23 : decode cX1_add 23 = .ok (.aload_n 0, 1) := by decide +kernel
theorem dX1_add_24 : decode cX1_add 24 = .ok (.getfield 19, 3) := by decide +kernel
theorem dX1_add_27 : decode cX1_add 27 = .ok (.iload_n 1, 1) := by decide +kernel
theorem dX1_add_28 : decode cX1_add 28 = .ok (.iastore, 1) := by decide +kernel
theorem dX1_add_29 : decode cX1_add 29 = .ok (.aload_n 0, 1) := by decide +kernel
theorem dX1_add_30 : decode cX1_add 30 = .ok (.dup, 1) := by decide +kernel
theorem dX1_add_31 : decode cX1_add 31 = .ok (.getfield 19, 3) := by decide +kernel
theorem dX1_add_34 : decode cX1_add 34 = .ok (.iconst 1, 1) := by decide +kernel
theorem dX1_add_35 : decode cX1_add 35 = .ok (.iadd, 1) := by decide +kernel
theorem dX1_add_36 : decode cX1_add 36 = .ok (.putfield 19, 3) := by decide +kernel
theorem dX1_add_39 : decode cX1_add 39 = .ok (.iconst 1, 1) := by decide +kernel
theorem dX1_add_40 : decode cX1_add 40 = .ok (.ireturn, 1) := by decide +kernel
theorem dX1_addAll_0 : decode cX1_addAll 0 = .ok (.iconst 0, 1) := by decide +kernel
theorem dX1_addAll_1 : decode cX1_addAll 1 = .ok (.istore_n 2, 1) := by decide +kernel
theorem dX1_addAll_2 : decode cX1_addAll 2 = .ok (.iload_n 2, 1) := by decide +kernel
theorem dX1_addAll_3 : decode cX1_addAll 3 = .ok (.aload_n 1, 1) := by decide +kernel
theorem dX1_addAll_4 : decode cX1_addAll 4 = .ok (.invokevirtual 23, 3) := by decide +kernel
theorem dX1_addAll_7 : decode cX1_addAll 7 = .ok (.if_icmp .ge 19, 3) := by decide +kernel
theorem dX1_addAll_10 : decode cX1_addAll 10 = .ok (.aload_n 0, 1) := by decide +kernel
theorem dX1_addAll_11 : decode cX1_addAll 11 = .ok (.aload_n 1, 1) := by decide +kernel
theorem dX1_addAll_12 : decode cX1_addAll 12 = .ok (.iload_n 2, 1) := by decide +kernel
theorem dX1_addAll_13 : decode cX1_addAll 13 = .ok (.invokevirtual 29, 3) := by decide +kernel
theorem dX1_addAll_16 : decode cX1_addAll 16 = .ok (.invokevirtual 33, 3) := by decide +kernel
theorem dX1_addAll_19 : decode cX1_addAll 19 = .ok (.pop, 1) := by decide +kernel
theorem dX1_addAll_20 : decode cX1_addAll 20 = .ok (.iinc 2 1, 3) := by decide +kernel
theorem dX1_addAll_23 : decode cX1_addAll 23 = .ok (.goto (-21), 3) := by decide +kernel
theorem dX1_addAll_26 : decode cX1_addAll 26 = .ok (.return_, 1) := by decide +kernel
theorem dX1_read_0 : decode cX1_read 0 = .ok (.aload_n 0, 1) := by decide +kernel
theorem dX1_read_1 : decode cX1_read 1 = .ok (.iconst (-1), 1) := by decide +kernel
theorem dX1_read_2 : decode cX1_read 2 = .ok (.putfield 37, 3) := by decide +kernel
theorem dX1_read_5 : decode cX1_read 5 = .ok (.aload_n 0, 1) := by decide +kernel
theorem dX1_read_6 : decode cX1_read 6 = .ok (.iconst 0, 1) := by decide +kernel
theorem dX1_read_7 : decode cX1_read 7 = .ok (.putfield 40, 3) := by decide +kernel
theorem dX1_read_10 : decode cX1_read 10 = .ok (.aload_n 0, 1) := by decide +kernel
theorem dX1_read_11 : decode cX1_read 11 = .ok (.invokevirtual 43, 3) := by decide +kernel
theorem dX1_read_14 : decode cX1_read 14 = .ok (.aload_n 0, 1) := by decide +kernel
theorem dX1_read_15 : decode cX1_read 15 = .ok (.getfield 15, 3) := by decide +kernel
theorem dX1_read_18 : decode cX1_read 18 = .ok (.invokevirtual 46, 3) := by decide +kernel
theorem dX1_read_21 : decode cX1_read 21 = .ok (.iconst 0, 1) := by decide +kernel
theorem dX1_read_22 : decode cX1_read 22 = .ok (.istore_n 1, 1) := by decide +kernel
theorem dX1_read_23 : decode cX1_read 23 = .ok (.iload_n 1, 1) := by decide +kernel
theorem dX1_read_24 : decode cX1_read 24 = .ok (.iconst 3, 1) := by decide +kernel
theorem dX1_read_25 : decode cX1_read 25 = .ok (.if_icmp .ge 37, 3) := by decide +kernel
theorem dX1_read_28 : decode cX1_read 28 = .ok (.aload_n 0, 1) := by decide +kernel
theorem dX1_read_29 : decode cX1_read 29 = .ok (.sipush 262, 3) := by decide +kernel
theorem dX1_read_32 : decode cX1_read 32 = .ok (.iload_n 1, 1) := by decide +kernel
theorem dX1_read_33 : decode cX1_read 33 = .ok (.iadd, 1) := by decide +kernel
theorem dX1_read_34 : decode cX1_read 34 = .ok (.invokevirtual 51, 3) := by decide +kernel
theorem dX1_read_37 : decode cX1_read 37 = .ok (.aload_n 0, 1) := by decide +kernel
theorem dX1_read_38 : decode cX1_read 38 = .ok (.iconst 0, 1) := by decide +kernel
theorem dX1_read_39 : decode cX1_read 39 = .ok (.invokevirtual 55, 3) := by decide +kernel
theorem dX1_read_42 : decode cX1_read 42 = .ok (.aload_n 0, 1) := by decide +kernel
theorem dX1_read_43 : decode cX1_read 43 = .ok (.bipush 59, 2) := by decide +kernel
theorem dX1_read_45 : decode cX1_read 45 = .ok (.invokevirtual 51, 3) := by decide +kernel
theorem dX1_read_48 : decode cX1_read 48 = .ok (.aload_n 0, 1) := by decide +kernel
theorem dX1_read_49 : decode cX1_read 49 = .ok (.getfield 15, 3) := by decide +kernel
theorem dX1_read_52 : decode cX1_read 52 = .ok (.iload_n 1, 1) := by decide +kernel
theorem dX1_read_53 : decode cX1_read 53 = .ok (.invokevirtual 58, 3) := by decide +kernel
theorem dX1_read_56 : decode cX1_read 56 = .ok (.iinc 1 1, 3) := by decide +kernel
theorem dX1_read_59 : decode cX1_read 59 = .ok (.goto (-36), 3) := by decide +kernel
theorem dX1_read_62 : decode cX1_read 62 = .ok (.aload_n 0, 1) := by decide +kernel
theorem dX1_read_63 : decode cX1_read 63 = .ok (.iconst 0, 1) := by decide +kernel
theorem dX1_read_64 : decode cX1_read 64 = .ok (.invokevirtual 51, 3) := by decide +kernel
theorem dX1_read_67 : decode cX1_read 67 = .ok (.aload_n 0, 1) := by decide +kernel
theorem dX1_read_68 : decode cX1_read 68 = .ok (.getfield 37, 3) := by decide +kernel
theorem dX1_read_71 : decode cX1_read 71 = .ok (.iconst (-1), 1) := by decide +kernel
theorem dX1_read_72 : decode cX1_read 72 = .ok (.if_icmp .ne 10, 3) := by decide +kernel
theorem dX1_read_75 : decode cX1_read 75 = .ok (.aload_n 0, 1) := by decide +kernel
theorem dX1_read_76 : decode cX1_read 76 = .ok (.getfield 15, 3) := by decide +kernel
theorem dX1_read_79 : decode cX1_read 79 = .ok (.invokevirtual 61, 3) := by decide +kernel
theorem dX1_read_82 : decode cX1_read 82 = .ok (.aload_n 0, 1) := by decide +kernel
theorem dX1_read_83 : decode cX1_read 83 = .ok (.iconst 0, 1) := by decide +kernel
theorem dX1_read_84 : decode cX1_read 84 = .ok (.putfield 19, 3) := by decide +kernel
theorem dX1_read_87 : decode cX1_read 87 = .ok (.aload_n 0, 1) := by decide +kernel
theorem dX1_read_88 : decode cX1_read 88 = .ok (.getfield 37, 3) := by decide +kernel
theorem dX1_read_91 : decode cX1_read 91 = .ok (.ireturn, 1) := by decide +kernel
theorem dX1_readOr_0 : decode cX1_readOr 0 = .ok (.aload_n 0, 1) := by decide +kernel
theorem dX1_readOr_1 : decode cX1_readOr 1 = .ok (.iload_n 1, 1) := by decide +kernel
theorem dX1_readOr_2 : decode cX1_readOr 2 = .ok (.invokevirtual 64, 3) := by decide +kernel
theorem dX1_readOr_5 : decode cX1_readOr 5 = .ok (.iconst 0, 1) := by decide +kernel
theorem dX1_readOr_6 : decode cX1_readOr 6 = .ok (.istore_n 2, 1) := by decide +kernel
theorem dX1_readOr_7 : decode cX1_readOr 7 = .ok (.iload_n 2, 1) := by decide +kernel
theorem dX1_readOr_8 : decode cX1_readOr 8 = .ok (.sipush 160, 3) := by decide +kernel
theorem dX1_readOr_11 : decode cX1_readOr 11 = .ok (.if_icmp .ge 37, 3) := by decide +kernel
theorem dX1_readOr_14 : decode cX1_readOr 14 = .ok (.aload_n 0, 1) := by decide +kernel
theorem dX1_readOr_15 : decode cX1_readOr 15 = .ok (.getfield 67, 3) := by decide +kernel
theorem dX1_readOr_18 : decode cX1_readOr 18 = .ok (.sipush 265, 3) := by decide +kernel
theorem dX1_readOr_21 : decode cX1_readOr 21 = .ok (.if_icmp .ne 27, 3) := by decide +kernel
theorem dX1_readOr_24 : decode cX1_readOr 24 = .ok (.aload_n 0, 1) := by decide +kernel
theorem dX1_readOr_25 : decode cX1_readOr 25 = .ok (.invokevirtual 43, 3) := by decide +kernel
theorem dX1_readOr_28 : decode cX1_readOr 28 = .ok (.aload_n 0, 1) := by decide +kernel
theorem dX1_readOr_29 : decode cX1_readOr 29 = .ok (.iload_n 1, 1) := by decide +kernel
theorem dX1_readOr_30 : decode cX1_readOr 30 = .ok (.invokevirtual 64, 3) := by decide +kernel
theorem dX1_readOr_33 : decode cX1_readOr 33 = .ok (.aload_n 0, 1) := by decide +kernel
theorem dX1_readOr_34 : decode cX1_readOr 34 = .ok (.getfield 15, 3) := by decide +kernel
theorem dX1_readOr_37 : decode cX1_readOr 37 = .ok (.bipush (-11), 2) := by decide +kernel
theorem dX1_readOr_39 : decode cX1_readOr 39 = .ok (.invokevirtual 70, 3) := by decide +kernel
theorem dX1_readOr_42 : decode cX1_readOr 42 = .ok (.iinc 2 1, 3) := by decide +kernel
theorem dX1_readOr_45 : decode cX1_readOr 45 = .ok (.goto (-38), 3) := by decide +kernel
theorem dX1_readOr_48 : decode cX1_readOr 48 = .ok (.return_, 1) := by decide +kernel
theorem dX1_readAnd_0 : decode cX1_readAnd 0 = .ok (.aload_n 0, 1) := by decide +kernel
theorem dX1_readAnd_1 : decode cX1_readAnd 1 = .ok (.iload_n 1, 1) := by decide +kernel
theorem dX1_readAnd_2 : decode cX1_readAnd 2 = .ok (.invokevirtual 72, 3) := by decide +kernel
theorem dX1_readAnd_5 : decode cX1_readAnd 5 = .ok (.iconst 0, 1) := by decide +kernel
theorem dX1_readAnd_6 : decode cX1_readAnd 6 = .ok (.istore_n 2, 1) := by decide +kernel
theorem dX1_readAnd_7 : decode cX1_readAnd 7 = .ok (.iload_n 2, 1) := by decide +kernel
theorem dX1_readAnd_8 : decode cX1_readAnd 8 = .ok (.sipush 160, 3) := by decide +kernel
theorem dX1_readAnd_11 : decode cX1_readAnd 11 = .ok (.if_icmp .ge 37, 3) := by decide +kernel
theorem dX1_readAnd_14 : decode cX1_readAnd 14 = .ok (.aload_n 0, 1) := by decide +kernel
theorem dX1_readAnd_15 : decode cX1_readAnd 15 = .ok (.getfield 67, 3) := by decide +kernel
theorem dX1_readAnd_18 : decode cX1_readAnd 18 = .ok (.sipush 266, 3) := by decide +kernel
theorem dX1_readAnd_21 : decode cX1_readAnd 21 = .ok (.if_icmp .ne 27, 3) := by decide +kernel
theorem dX1_readAnd_24 : decode cX1_readAnd 24 = .ok (.aload_n 0, 1) := by decide +kernel
theorem dX1_readAnd_25 : decode cX1_readAnd 25 = .ok (.invokevirtual 43, 3) := by decide +kernel
theorem dX1_readAnd_28 : decode cX1_readAnd 28 = .ok (.aload_n 0, 1) := by decide +kernel
theorem dX1_readAnd_29 : decode cX1_readAnd 29 = .ok (.iload_n 1, 1) := by decide +kernel
theorem dX1_readAnd_30 : decode cX1_readAnd 30 = .ok (.invokevirtual 72, 3) := by decide +kernel
theorem dX1_readAnd_33 : decode cX1_readAnd 33 = .ok (.aload_n 0, 1) := by decide +kernel
theorem dX1_readAnd_34 : decode cX1_readAnd 34 = .ok (.getfield 15, 3) := by decide +kernel
theorem dX1_readAnd_37 : decode cX1_readAnd 37 = .ok (.bipush (-12), 2) := by decide +kernel
theorem dX1_readAnd_39 : decode cX1_readAnd 39 = .ok (.invokevirtual 70, 3) := by decide +kernel
theorem dX1_readAnd_42 : decode cX1_readAnd 42 = .ok (.iinc 2 1, 3) := by decide +kernel
theorem dX1_readAnd_45 : decode cX1_readAnd 45 = .ok (.goto (-38), 3) := by decide +kernel
theorem dX1_readAnd_48 : decode cX1_readAnd 48 = .ok (.return_, 1) := by decide +kernel
theorem dX1_readNot_0 : decode cX1_readNot 0 = .ok (.aload_n 0, 1) := by decide +kernel
theorem dX1_readNot_1 : decode cX1_readNot 1 = .ok (.getfield 67, 3) := by decide +kernel
theorem dX1_readNot_4 : decode cX1_readNot 4 = .ok (.sipush 267, 3) := by decide +kernel
theorem dX1_readNot_7 : decode cX1_readNot 7 = .ok (.if_icmp .ne 28, 3) := by decide +kernel
theorem dX1_readNot_10 : decode cX1_readNot 10 = .ok (.aload_n 0, 1) := by decide +kernel
theorem dX1_readNot_11 : decode cX1_readNot 11 = .ok (.iload_n 1, 1) := by decide +kernel
theorem dX1_readNot_12 : decode cX1_readNot 12 = .ok (.invokevirtual 75, 3) := by decide +kernel
theorem dX1_readNot_15 : decode cX1_readNot 15 = .ok (.ifCond .eq 19, 3) := by decide +kernel
theorem dX1_readNot_18 : decode cX1_readNot 18 = .ok (.aload_n 0, 1) := by decide +kernel
theorem dX1_readNot_19 : decode cX1_readNot 19 = .ok (.iload_n 1, 1) := by decide +kernel
theorem dX1_readNot_20 : decode cX1_readNot 20 = .ok (.iconst 1, 1) := by decide +kernel
theorem dX1_readNot_21 : decode cX1_readNot 21 = .ok (.iadd, 1) := by decide +kernel
theorem dX1_readNot_22 : decode cX1_readNot 22 = .ok (.invokevirtual 72, 3) := by decide +kernel
theorem dX1_readNot_25 : decode cX1_readNot 25 = .ok (.aload_n 0, 1) := by decide +kernel
theorem dX1_readNot_26 : decode cX1_readNot 26 = .ok (.getfield 15, 3) := by decide +kernel
theorem dX1_readNot_29 : decode cX1_readNot 29 = .ok (.bipush (-21), 2) := by decide +kernel
theorem dX1_readNot_31 : decode cX1_readNot 31 = .ok (.invokevirtual 70, 3) := by decide +kernel
theorem dX1_readNot_34 : decode cX1_readNot 34 = .ok (.return_, 1) := by decide +kernel
theorem dX1_readNot_35 : decode cX1_readNot 35 = .ok (.aload_n 0, 1) := by decide +kernel
theorem dX1_readNot_36 : decode cX1_readNot 36 = .ok (.iload_n 1, 1) := by decide +kernel
theorem dX1_readNot_37 : decode cX1_readNot 37 = .ok (.invokevirtual 78, 3) := by decide +kernel
theorem dX1_readNot_40 : decode cX1_readNot 40 = .ok (.aload_n 0, 1) := by decide +kernel
theorem dX1_readNot_41 : decode cX1_readNot 41 = .ok (.getfield 67, 3) := by decide +kernel
theorem dX1_readNot_44 : decode cX1_readNot 44 = .ok (.bipush 60, 2) := by decide +kernel
theorem dX1_readNot_46 : decode cX1_readNot 46 = .ok (.if_icmp .eq 12, 3) := by decide +kernel
theorem dX1_readNot_49 : decode cX1_readNot 49 = .ok (.aload_n 0, 1) := by decide +kernel
theorem dX1_readNot_50 : decode cX1_readNot 50 = .ok (.getfield 67, 3) := by decide +kernel
theorem dX1_readNot_53 : decode cX1_readNot 53 = .ok (.bipush 61, 2) := by decide +kernel
theorem dX1_readNot_55 : decode cX1_readNot 55 = .ok (.if_icmp .ne 37, 3) := by decide +kernel
theorem dX1_readNot_58 : decode cX1_readNot 58 = .ok (.aload_n 0, 1) := by decide +kernel
theorem dX1_readNot_59 : decode cX1_readNot 59 = .ok (.getfield 67, 3) := by decide +kernel
theorem dX1_readNot_62 : decode cX1_readNot 62 = .ok (.bipush 60, 2) := by decide +kernel
theorem dX1_readNot_64 : decode cX1_readNot 64 = .ok (.if_icmp .ne 8, 3) := by decide +kernel
theorem dX1_readNot_67 : decode cX1_readNot 67 = .ok (.bipush (-13), 2) := by decide +kernel
theorem dX1_readNot_69 : decode cX1_readNot 69 = .ok (.goto 5, 3) := by decide +kernel
theorem dX1_readNot_72 : decode cX1_readNot 72 = .ok (.bipush (-14), 2) := by decide +kernel
theorem dX1_readNot_74 : decode cX1_readNot 74 = .ok (.istore_n 2, 1) := by decide +kernel
theorem dX1_readNot_75 : decode cX1_readNot 75 = .ok (.aload_n 0, 1) := by decide +kernel
theorem dX1_readNot_76 : decode cX1_readNot 76 = .ok (.invokevirtual 43, 3) := by decide +kernel
theorem dX1_readNot_79 : decode cX1_readNot 79 = .ok (.aload_n 0, 1) := by decide +kernel
theorem dX1_readNot_80 : decode cX1_readNot 80 = .ok (.iload_n 1, 1) := by decide +kernel
theorem dX1_readNot_81 : decode cX1_readNot 81 = .ok (.invokevirtual 78, 3) := by decide +kernel
theorem dX1_readNot_84 : decode cX1_readNot 84 = .ok (.aload_n 0, 1) := by decide +kernel
theorem dX1_readNot_85 : decode cX1_readNot 85 = .ok (.getfield 15, 3) := by decide +kernel
theorem dX1_readNot_88 : decode cX1_readNot 88 = .ok (.iload_n 2, 1) := by decide +kernel
theorem dX1_readNot_89 : decode cX1_readNot 89 = .ok (.invokevirtual 70, 3) := by decide +kernel
theorem dX1_readNot_92 : decode cX1_readNot 92 = .ok (.return_, 1) := by decide +kernel
theorem dX1_readSum_0 : decode cX1_readSum 0 = .ok (.aload_n 0, 1) := by decide +kernel
theorem dX1_readSum_1 : decode cX1_readSum 1 = .ok (.iload_n 1, 1) := by decide +kernel
theorem dX1_readSum_2 : decode cX1_readSum 2 = .ok (.invokevirtual 81, 3) := by decide +kernel
theorem dX1_readSum_5 : decode cX1_readSum 5 = .ok (.iconst 0, 1) := by decide +kernel
theorem dX1_readSum_6 : decode cX1_readSum 6 = .ok (.istore_n 2, 1) := by decide +kernel
theorem dX1_readSum_7 : decode cX1_readSum 7 = .ok (.iload_n 2, 1) := by decide +kernel
theorem dX1_readSum_8 : decode cX1_readSum 8 = .ok (.sipush 160, 3) := by decide +kernel
theorem dX1_readSum_11 : decode cX1_readSum 11 = .ok (.if_icmp .ge 61, 3) := by decide +kernel
theorem dX1_readSum_14 : decode cX1_readSum 14 = .ok (.aload_n 0, 1) := by decide +kernel
theorem dX1_readSum_15 : decode cX1_readSum 15 = .ok (.getfield 67, 3) := by decide +kernel
theorem dX1_readSum_18 : decode cX1_readSum 18 = .ok (.bipush 43, 2) := by decide +kernel
theorem dX1_readSum_20 : decode cX1_readSum 20 = .ok (.if_icmp .eq 12, 3) := by decide +kernel
theorem dX1_readSum_23 : decode cX1_readSum 23 = .ok (.aload_n 0, 1) := by decide +kernel
theorem dX1_readSum_24 : decode cX1_readSum 24 = .ok (.getfield 67, 3) := by decide +kernel
theorem dX1_readSum_27 : decode cX1_readSum 27 = .ok (.bipush 45, 2) := by decide +kernel
theorem dX1_readSum_29 : decode cX1_readSum 29 = .ok (.if_icmp .ne 43, 3) := by decide +kernel
theorem dX1_readSum_32 : decode cX1_readSum 32 = .ok (.aload_n 0, 1) := by decide +kernel
theorem dX1_readSum_33 : decode cX1_readSum 33 = .ok (.getfield 67, 3) := by decide +kernel
theorem dX1_readSum_36 : decode cX1_readSum 36 = .ok (.bipush 43, 2) := by decide +kernel
theorem dX1_readSum_38 : decode cX1_readSum 38 = .ok (.if_icmp .ne 8, 3) := by decide +kernel
theorem dX1_readSum_41 : decode cX1_readSum 41 = .ok (.bipush (-15), 2) := by decide +kernel
theorem dX1_readSum_43 : decode cX1_readSum 43 = .ok (.goto 5, 3) := by decide +kernel
theorem dX1_readSum_46 : decode cX1_readSum 46 = .ok (.bipush (-16), 2) := by decide +kernel
theorem dX1_readSum_48 : decode cX1_readSum 48 = .ok (.istore_n 3, 1) := by decide +kernel
theorem dX1_readSum_49 : decode cX1_readSum 49 = .ok (.aload_n 0, 1) := by decide +kernel
theorem dX1_readSum_50 : decode cX1_readSum 50 = .ok (.invokevirtual 43, 3) := by decide +kernel
theorem dX1_readSum_53 : decode cX1_readSum 53 = .ok (.aload_n 0, 1) := by decide +kernel
theorem dX1_readSum_54 : decode cX1_readSum 54 = .ok (.iload_n 1, 1) := by decide +kernel
theorem dX1_readSum_55 : decode cX1_readSum 55 = .ok (.invokevirtual 81, 3) := by decide +kernel
theorem dX1_readSum_58 : decode cX1_readSum 58 = .ok (.aload_n 0, 1) := by decide +kernel
theorem dX1_readSum_59 : decode cX1_readSum 59 = .ok (.getfield 15, 3) := by decide +kernel
theorem dX1_readSum_62 : decode cX1_readSum 62 = .ok (.iload_n 3, 1) := by decide +kernel
theorem dX1_readSum_63 : decode cX1_readSum 63 = .ok (.invokevirtual 70, 3) := by decide +kernel
theorem dX1_readSum_66 : decode cX1_readSum 66 = .ok (.iinc 2 1, 3) := by decide +kernel
theorem dX1_readSum_69 : decode cX1_readSum 69 = .ok (.goto (-62), 3) := by decide +kernel
theorem dX1_readSum_72 : decode cX1_readSum 72 = .ok (.return_, 1) := by decide +kernel
theorem dX1_readTerm_0 : decode cX1_readTerm 0 = .ok (.aload_n 0, 1) := by decide +kernel
theorem dX1_readTerm_1 : decode cX1_readTerm 1 = .ok (.iload_n 1, 1) := by decide +kernel
theorem dX1_readTerm_2 : decode cX1_readTerm 2 = .ok (.invokevirtual 84, 3) := by decide +kernel
theorem dX1_readTerm_5 : decode cX1_readTerm 5 = .ok (.iconst 0, 1) := by decide +kernel
theorem dX1_readTerm_6 : decode cX1_readTerm 6 = .ok (.istore_n 2, 1) := by decide +kernel
theorem dX1_readTerm_7 : decode cX1_readTerm 7 = .ok (.iload_n 2, 1) := by decide +kernel
theorem dX1_readTerm_8 : decode cX1_readTerm 8 = .ok (.sipush 160, 3) := by decide +kernel
theorem dX1_readTerm_11 : decode cX1_readTerm 11 = .ok (.if_icmp .ge 36, 3) := by decide +kernel
theorem dX1_readTerm_14 : decode cX1_readTerm 14 = .ok (.aload_n 0, 1) := by decide +kernel
theorem dX1_readTerm_15 : decode cX1_readTerm 15 = .ok (.getfield 67, 3) := by decide +kernel
theorem dX1_readTerm_18 : decode cX1_readTerm 18 = .ok (.bipush 42, 2) := by decide +kernel
theorem dX1_readTerm_20 : decode cX1_readTerm 20 = .ok (.if_icmp .ne 27, 3) := by decide +kernel
theorem dX1_readTerm_23 : decode cX1_readTerm 23 = .ok (.aload_n 0, 1) := by decide +kernel
theorem dX1_readTerm_24 : decode cX1_readTerm 24 = .ok (.invokevirtual 43, 3) := by decide +kernel
theorem dX1_readTerm_27 : decode cX1_readTerm 27 = .ok (.aload_n 0, 1) := by decide +kernel
theorem dX1_readTerm_28 : decode cX1_readTerm 28 = .ok (.iload_n 1, 1) := by decide +kernel
theorem dX1_readTerm_29 : decode cX1_readTerm 29 = .ok (.invokevirtual 84, 3) := by decide +kernel
theorem dX1_readTerm_32 : decode cX1_readTerm 32 = .ok (.aload_n 0, 1) := by decide +kernel
theorem dX1_readTerm_33 : decode cX1_readTerm 33 = .ok (.getfield 15, 3) := by decide +kernel
theorem dX1_readTerm_36 : decode cX1_readTerm 36 = .ok (.bipush (-17), 2) := by decide +kernel
theorem dX1_readTerm_38 : decode cX1_readTerm 38 = .ok (.invokevirtual 70, 3) := by decide +kernel
theorem dX1_readTerm_41 : decode cX1_readTerm 41 = .ok (.iinc 2 1, 3) := by decide +kernel
theorem dX1_readTerm_44 : decode cX1_readTerm 44 = .ok (.goto (-37), 3) := by decide +kernel
theorem dX1_readTerm_47 : decode cX1_readTerm 47 = .ok (.return_, 1) := by decide +kernel
theorem dX1_readOne_0 : decode cX1_readOne 0 = .ok (.aload_n 0, 1) := by decide +kernel
theorem dX1_readOne_1 : decode cX1_readOne 1 = .ok (.getfield 67, 3) := by decide +kernel
theorem dX1_readOne_4 : decode cX1_readOne 4 = .ok (.iconst 1, 1) := by decide +kernel
theorem dX1_readOne_5 : decode cX1_readOne 5 = .ok (.if_icmp .ne 21, 3) := by decide +kernel
theorem dX1_readOne_8 : decode cX1_readOne 8 = .ok (.aload_n 0, 1) := by decide +kernel
theorem dX1_readOne_9 : decode cX1_readOne 9 = .ok (.getfield 15, 3) := by decide +kernel
theorem dX1_readOne_12 : decode cX1_readOne 12 = .ok (.aload_n 0, 1) := by decide +kernel
theorem dX1_readOne_13 : decode cX1_readOne 13 = .ok (.getfield 87, 3) := by decide +kernel
theorem dX1_readOne_16 : decode cX1_readOne 16 = .ok (.invokevirtual 70, 3) := by decide +kernel
theorem dX1_readOne_19 : decode cX1_readOne 19 = .ok (.aload_n 0, 1) := by decide +kernel
theorem dX1_readOne_20 : decode cX1_readOne 20 = .ok (.invokevirtual 43, 3) := by decide +kernel
theorem dX1_readOne_23 : decode cX1_readOne 23 = .ok (.goto 120, 3) := by decide +kernel
theorem dX1_readOne_26 : decode cX1_readOne 26 = .ok (.aload_n 0, 1) := by decide +kernel
theorem dX1_readOne_27 : decode cX1_readOne 27 = .ok (.getfield 67, 3) := by decide +kernel
theorem dX1_readOne_30 : decode cX1_readOne 30 = .ok (.sipush 256, 3) := by decide +kernel
theorem dX1_readOne_33 : decode cX1_readOne 33 = .ok (.if_icmp .lt 37, 3) := by decide +kernel
theorem dX1_readOne_36 : decode cX1_readOne 36 = .ok (.aload_n 0, 1) := by decide +kernel
theorem dX1_readOne_37 : decode cX1_readOne 37 = .ok (.getfield 67, 3) := by decide +kernel
theorem dX1_readOne_40 : decode cX1_readOne 40 = .ok (.sipush 262, 3) := by decide +kernel
theorem dX1_readOne_43 : decode cX1_readOne 43 = .ok (.if_icmp .ge 27, 3) := by decide +kernel
theorem dX1_readOne_46 : decode cX1_readOne 46 = .ok (.aload_n 0, 1) := by decide +kernel
theorem dX1_readOne_47 : decode cX1_readOne 47 = .ok (.getfield 15, 3) := by decide +kernel
theorem dX1_readOne_50 : decode cX1_readOne 50 = .ok (.iconst (-1), 1) := by decide +kernel
theorem dX1_readOne_51 : decode cX1_readOne 51 = .ok (.aload_n 0, 1) := by decide +kernel
theorem dX1_readOne_52 : decode cX1_readOne 52 = .ok (.getfield 67, 3) := by decide +kernel
theorem dX1_readOne_55 : decode cX1_readOne 55 = .ok (.sipush 256, 3) := by decide +kernel
theorem dX1_readOne_58 : decode cX1_readOne 58 = .ok (.isub, 1) := by decide +kernel
theorem dX1_readOne_59 : decode cX1_readOne 59 = .ok (.isub, 1) := by decide +kernel
theorem dX1_readOne_60 : decode cX1_readOne 60 = .ok (.invokevirtual 70, 3) := by decide +kernel
theorem dX1_readOne_63 : decode cX1_readOne 63 = .ok (.aload_n 0, 1) := by decide +kernel
theorem dX1_readOne_64 : decode cX1_readOne 64 = .ok (.invokevirtual 43, 3) := by decide +kernel
theorem dX1_readOne_67 : decode cX1_readOne 67 = .ok (.goto 76, 3) := by decide +kernel
theorem dX1_readOne_70 : decode cX1_readOne 70 = .ok (.aload_n 0, 1) := by decide +kernel
theorem dX1_readOne_71 : decode cX1_readOne 71 = .ok (.getfield 67, 3) := by decide +kernel
theorem dX1_readOne_74 : decode cX1_readOne 74 = .ok (.bipush 45, 2) := by decide +kernel
theorem dX1_readOne_76 : decode cX1_readOne 76 = .ok (.if_icmp .ne 30, 3) := by decide +kernel
theorem dX1_readOne_79 : decode cX1_readOne 79 = .ok (.aload_n 0, 1) := by decide +kernel
theorem dX1_readOne_80 : decode cX1_readOne 80 = .ok (.iload_n 1, 1) := by decide +kernel
theorem dX1_readOne_81 : decode cX1_readOne 81 = .ok (.invokevirtual 75, 3) := by decide +kernel
theorem dX1_readOne_84 : decode cX1_readOne 84 = .ok (.ifCond .eq 59, 3) := by decide +kernel
theorem dX1_readOne_87 : decode cX1_readOne 87 = .ok (.aload_n 0, 1) := by decide +kernel
theorem dX1_readOne_88 : decode cX1_readOne 88 = .ok (.iload_n 1, 1) := by decide +kernel
theorem dX1_readOne_89 : decode cX1_readOne 89 = .ok (.iconst 1, 1) := by decide +kernel
theorem dX1_readOne_90 : decode cX1_readOne 90 = .ok (.iadd, 1) := by decide +kernel
theorem dX1_readOne_91 : decode cX1_readOne 91 = .ok (.invokevirtual 84, 3) := by decide +kernel
theorem dX1_readOne_94 : decode cX1_readOne 94 = .ok (.aload_n 0, 1) := by decide +kernel
theorem dX1_readOne_95 : decode cX1_readOne 95 = .ok (.getfield 15, 3) := by decide +kernel
theorem dX1_readOne_98 : decode cX1_readOne 98 = .ok (.bipush (-22), 2) := by decide +kernel
theorem dX1_readOne_100 : decode cX1_readOne 100 = .ok (.invokevirtual 70, 3) := by decide +kernel
theorem dX1_readOne_103 : decode cX1_readOne 103 = .ok (.goto 40, 3) := by decide +kernel
theorem dX1_readOne_106 : decode cX1_readOne 106 = .ok (.aload_n 0, 1) := by decide +kernel
theorem dX1_readOne_107 : decode cX1_readOne 107 = .ok (.getfield 67, 3) := by decide +kernel
theorem dX1_readOne_110 : decode cX1_readOne 110 = .ok (.bipush 40, 2) := by decide +kernel
theorem dX1_readOne_112 : decode cX1_readOne 112 = .ok (.if_icmp .ne 27, 3) := by decide +kernel
theorem dX1_readOne_115 : decode cX1_readOne 115 = .ok (.aload_n 0, 1) := by decide +kernel
theorem dX1_readOne_116 : decode cX1_readOne 116 = .ok (.iload_n 1, 1) := by decide +kernel
theorem dX1_readOne_117 : decode cX1_readOne 117 = .ok (.invokevirtual 75, 3) := by decide +kernel
theorem dX1_readOne_120 : decode cX1_readOne 120 = .ok (.ifCond .eq 23, 3) := by decide +kernel
theorem dX1_readOne_123 : decode cX1_readOne 123 = .ok (.aload_n 0, 1) := by decide +kernel
theorem dX1_readOne_124 : decode cX1_readOne 124 = .ok (.iload_n 1, 1) := by decide +kernel
theorem dX1_readOne_125 : decode cX1_readOne 125 = .ok (.iconst 1, 1) := by decide +kernel
theorem dX1_readOne_126 : decode cX1_readOne 126 = .ok (.iadd, 1) := by decide +kernel
theorem dX1_readOne_127 : decode cX1_readOne 127 = .ok (.invokevirtual 55, 3) := by decide +kernel
theorem dX1_readOne_130 : decode cX1_readOne 130 = .ok (.aload_n 0, 1) := by decide +kernel
theorem dX1_readOne_131 : decode cX1_readOne 131 = .ok (.bipush 41, 2) := by decide +kernel
theorem dX1_readOne_133 : decode cX1_readOne 133 = .ok (.invokevirtual 51, 3) := by decide +kernel
theorem dX1_readOne_136 : decode cX1_readOne 136 = .ok (.goto 7, 3) := by decide +kernel
theorem dX1_readOne_139 : decode cX1_readOne 139 = .ok (.aload_n 0, 1) := by decide +kernel
theorem dX1_readOne_140 : decode cX1_readOne 140 = .ok (.invokevirtual 90, 3) := by decide +kernel
theorem dX1_readOne_143 : decode cX1_readOne 143 = .ok (.return_, 1) := by decide +kernel
theorem dX1_opens_0 : decode cX1_opens 0 = .ok (.iload_n 1, 1) := by decide +kernel
theorem dX1_opens_1 : decode cX1_opens 1 = .ok (.iconst 5, 1) := by decide +kernel
theorem dX1_opens_2 : decode cX1_opens 2 = .ok (.if_icmp .lt 9, 3) := by decide +kernel
theorem dX1_opens_5 : decode cX1_opens 5 = .ok (.aload_n 0, 1) := by decide +kernel
theorem dX1_opens_6 : decode cX1_opens 6 = .ok (.invokevirtual 90, 3) := by decide +kernel
theorem dX1_opens_9 : decode cX1_opens 9 = .ok (.iconst 0, 1) := by decide +kernel
theorem dX1_opens_10 : decode cX1_opens 10 = .ok (.ireturn, 1) := by decide +kernel
theorem dX1_opens_11 : decode cX1_opens 11 = .ok (.aload_n 0, 1) := by decide +kernel
theorem dX1_opens_12 : decode cX1_opens 12 = .ok (.invokevirtual 43, 3) := by decide +kernel
theorem dX1_opens_15 : decode cX1_opens 15 = .ok (.iconst 1, 1) := by decide +kernel
theorem dX1_opens_16 : decode cX1_opens 16 = .ok (.ireturn, 1) := by decide +kernel
theorem dX1_expect_0 : decode cX1_expect 0 = .ok (.aload_n 0, 1) := by decide +kernel
theorem dX1_expect_1 : decode cX1_expect 1 = .ok (.getfield 67, 3) := by decide +kernel
theorem dX1_expect_4 : decode cX1_expect 4 = .ok (.iload_n 1, 1) := by decide +kernel
theorem dX1_expect_5 : decode cX1_expect 5 = .ok (.if_icmp .eq 10, 3) := by decide +kernel
theorem dX1_expect_8 : decode cX1_expect 8 = .ok (.aload_n 0, 1) := by decide +kernel
theorem dX1_expect_9 : decode cX1_expect 9 = .ok (.invokevirtual 90, 3) := by decide +kernel
theorem dX1_expect_12 : decode cX1_expect 12 = .ok (.goto 14, 3) := by decide +kernel
theorem dX1_expect_15 : decode cX1_expect 15 = .ok (.aload_n 0, 1) := by decide +kernel
theorem dX1_expect_16 : decode cX1_expect 16 = .ok (.getfield 67, 3) := by decide +kernel
theorem dX1_expect_19 : decode cX1_expect 19 = .ok (.ifCond .eq 7, 3) := by decide +kernel
theorem dX1_expect_22 : decode cX1_expect 22 = .ok (.aload_n 0, 1) := by decide +kernel
theorem dX1_expect_23 : decode cX1_expect 23 = .ok (.invokevirtual 43, 3) := by decide +kernel
theorem dX1_expect_26 : decode cX1_expect 26 = .ok (.return_, 1) := by decide +kernel
theorem dX1_refuse_0 : decode cX1_refuse 0 = .ok (.aload_n 0, 1) := by decide +kernel
theorem dX1_refuse_1 : decode cX1_refuse 1 = .ok (.getfield 37, 3) := by decide +kernel
theorem dX1_refuse_4 : decode cX1_refuse 4 = .ok (.iconst (-1), 1) := by decide +kernel
theorem dX1_refuse_5 : decode cX1_refuse 5 = .ok (.if_icmp .ne 11, 3) := by decide +kernel
theorem dX1_refuse_8 : decode cX1_refuse 8 = .ok (.aload_n 0, 1) := by decide +kernel
theorem dX1_refuse_9 : decode cX1_refuse 9 = .ok (.aload_n 0, 1) := by decide +kernel
theorem dX1_refuse_10 : decode cX1_refuse 10 = .ok (.getfield 93, 3) := by decide +kernel
theorem dX1_refuse_13 : decode cX1_refuse 13 = .ok (.putfield 37, 3) := by decide +kernel
theorem dX1_refuse_16 : decode cX1_refuse 16 = .ok (.aload_n 0, 1) := by decide +kernel
theorem dX1_refuse_17 : decode cX1_refuse 17 = .ok (.iconst 2, 1) := by decide +kernel
theorem dX1_refuse_18 : decode cX1_refuse 18 = .ok (.putfield 67, 3) := by decide +kernel
theorem dX1_refuse_21 : decode cX1_refuse 21 = .ok (.return_, 1) := by decide +kernel
theorem dX1_advance_0 : decode cX1_advance 0 = .ok (.iconst 0, 1) := by decide +kernel
theorem dX1_advance_1 : decode cX1_advance 1 = .ok (.istore_n 1, 1) := by decide +kernel
theorem dX1_advance_2 : decode cX1_advance 2 = .ok (.iload_n 1, 1) := by decide +kernel
theorem dX1_advance_3 : decode cX1_advance 3 = .ok (.sipush 160, 3) := by decide +kernel
theorem dX1_advance_6 : decode cX1_advance 6 = .ok (.if_icmp .ge 33, 3) := by decide +kernel
theorem dX1_advance_9 : decode cX1_advance 9 = .ok (.aload_n 0, 1) := by decide +kernel
theorem dX1_advance_10 : decode cX1_advance 10 = .ok (.aload_n 0, 1) := by decide +kernel
theorem dX1_advance_11 : decode cX1_advance 11 = .ok (.getfield 40, 3) := by decide +kernel
theorem dX1_advance_14 : decode cX1_advance 14 = .ok (.invokevirtual 96, 3) := by decide +kernel
theorem dX1_advance_17 : decode cX1_advance 17 = .ok (.invokestatic 100, 3) := by decide +kernel
theorem dX1_advance_20 : decode cX1_advance 20 = .ok (.ifCond .eq 19, 3) := by decide +kernel
theorem dX1_advance_23 : decode cX1_advance 23 = .ok (.aload_n 0, 1) := by decide +kernel
theorem dX1_advance_24 : decode cX1_advance 24 = .ok (.dup, 1) := by decide +kernel
theorem dX1_advance_25 : decode cX1_advance 25 = .ok (.getfield 40, 3) := by decide +kernel
theorem dX1_advance_28 : decode cX1_advance 28 = .ok (.iconst 1, 1) := by decide +kernel
theorem dX1_advance_29 : decode cX1_advance 29 = .ok (.iadd, 1) := by decide +kernel
theorem dX1_advance_30 : decode cX1_advance 30 = .ok (.putfield 40, 3) := by decide +kernel
theorem dX1_advance_33 : decode cX1_advance 33 = .ok (.iinc 1 1, 3) := by decide +kernel
theorem dX1_advance_36 : decode cX1_advance 36 = .ok (.goto (-34), 3) := by decide +kernel
theorem dX1_advance_39 : decode cX1_advance 39 = .ok (.aload_n 0, 1) := by decide +kernel
theorem dX1_advance_40 : decode cX1_advance 40 = .ok (.aload_n 0, 1) := by decide +kernel
theorem dX1_advance_41 : decode cX1_advance 41 = .ok (.getfield 40, 3) := by decide +kernel
theorem dX1_advance_44 : decode cX1_advance 44 = .ok (.putfield 93, 3) := by decide +kernel
theorem dX1_advance_47 : decode cX1_advance 47 = .ok (.aload_n 0, 1) := by decide +kernel
theorem dX1_advance_48 : decode cX1_advance 48 = .ok (.aload_n 0, 1) := by decide +kernel
theorem dX1_advance_49 : decode cX1_advance 49 = .ok (.getfield 40, 3) := by decide +kernel
theorem dX1_advance_52 : decode cX1_advance 52 = .ok (.invokevirtual 96, 3) := by decide +kernel
theorem dX1_advance_55 : decode cX1_advance 55 = .ok (.istore_n 1, 1) := by decide +kernel
theorem dX1_advance_56 : decode cX1_advance 56 = .ok (.iload_n 1, 1) := by decide +kernel
theorem dX1_advance_57 : decode cX1_advance 57 = .ok (.iconst (-1), 1) := by decide +kernel
theorem dX1_advance_58 : decode cX1_advance 58 = .ok (.if_icmp .ne 11, 3) := by decide +kernel
theorem dX1_advance_61 : decode cX1_advance 61 = .ok (.aload_n 0, 1) := by decide +kernel
theorem dX1_advance_62 : decode cX1_advance 62 = .ok (.iconst 0, 1) := by decide +kernel
theorem dX1_advance_63 : decode cX1_advance 63 = .ok (.putfield 67, 3) := by decide +kernel
theorem dX1_advance_66 : decode cX1_advance 66 = .ok (.goto 57, 3) := by decide +kernel
theorem dX1_advance_69 : decode cX1_advance 69 = .ok (.iload_n 1, 1) := by decide +kernel
theorem dX1_advance_70 : decode cX1_advance 70 = .ok (.invokestatic 103, 3) := by decide +kernel
theorem dX1_advance_73 : decode cX1_advance 73 = .ok (.ifCond .eq 10, 3) := by decide +kernel
theorem dX1_advance_76 : decode cX1_advance 76 = .ok (.aload_n 0, 1) := by decide +kernel
theorem dX1_advance_77 : decode cX1_advance 77 = .ok (.invokevirtual 106, 3) := by decide +kernel
theorem dX1_advance_80 : decode cX1_advance 80 = .ok (.goto 43, 3) := by decide +kernel
theorem dX1_advance_83 : decode cX1_advance 83 = .ok (.iload_n 1, 1) := by decide +kernel
theorem dX1_advance_84 : decode cX1_advance 84 = .ok (.invokestatic 109, 3) := by decide +kernel
theorem dX1_advance_87 : decode cX1_advance 87 = .ok (.ifCond .eq 10, 3) := by decide +kernel
theorem dX1_advance_90 : decode cX1_advance 90 = .ok (.aload_n 0, 1) := by decide +kernel
theorem dX1_advance_91 : decode cX1_advance 91 = .ok (.invokevirtual 112, 3) := by decide +kernel
theorem dX1_advance_94 : decode cX1_advance 94 = .ok (.goto 29, 3) := by decide +kernel
theorem dX1_advance_97 : decode cX1_advance 97 = .ok (.aload_n 0, 1) := by decide +kernel
theorem dX1_advance_98 : decode cX1_advance 98 = .ok (.iload_n 1, 1) := by decide +kernel
theorem dX1_advance_99 : decode cX1_advance 99 = .ok (.invokestatic 115, 3) := by decide +kernel
theorem dX1_advance_102 : decode cX1_advance 102 = .ok (.ifCond .eq 7, 3) := by decide +kernel
theorem dX1_advance_105 : decode cX1_advance 105 = .ok (.iload_n 1, 1) := by decide +kernel
theorem dX1_advance_106 : decode cX1_advance 106 = .ok (.goto 4, 3) := by decide +kernel
theorem dX1_advance_109 : decode cX1_advance 109 = .ok (.iconst 2, 1) := by decide +kernel
theorem dX1_advance_110 : decode cX1_advance 110 = .ok (.putfield 67, 3) := by decide +kernel
theorem dX1_advance_113 : decode cX1_advance 113 = .ok (.aload_n 0, 1) := by decide +kernel
theorem dX1_advance_114 : decode cX1_advance 114 = .ok (.dup, 1) := by decide +kernel
theorem dX1_advance_115 : decode cX1_advance 115 = .ok (.getfield 40, 3) := by decide +kernel
theorem dX1_advance_118 : decode cX1_advance 118 = .ok (.iconst 1, 1) := by decide +kernel
theorem dX1_advance_119 : decode cX1_advance 119 = .ok (.iadd, 1) := by decide +kernel
theorem dX1_advance_120 : decode cX1_advance 120 = .ok (.putfield 40, 3) := by decide +kernel
theorem dX1_advance_123 : decode cX1_advance 123 = .ok (.return_, 1) := by decide +kernel
theorem dX1_readWord_0 : decode cX1_readWord 0 = .ok (.iconst 0, 1) := by decide +kernel
theorem dX1_readWord_1 : decode cX1_readWord 1 = .ok (.istore_n 1, 1) := by decide +kernel
theorem dX1_readWord_2 : decode cX1_readWord 2 = .ok (.iload_n 1, 1) := by decide +kernel
theorem dX1_readWord_3 : decode cX1_readWord 3 = .ok (.sipush 160, 3) := by decide +kernel
theorem dX1_readWord_6 : decode cX1_readWord 6 = .ok (.if_icmp .ge 33, 3) := by decide +kernel
theorem dX1_readWord_9 : decode cX1_readWord 9 = .ok (.aload_n 0, 1) := by decide +kernel
theorem dX1_readWord_10 : decode cX1_readWord 10 = .ok (.aload_n 0, 1) := by decide +kernel
theorem dX1_readWord_11 : decode cX1_readWord 11 = .ok (.getfield 40, 3) := by decide +kernel
theorem dX1_readWord_14 : decode cX1_readWord 14 = .ok (.invokevirtual 96, 3) := by decide +kernel
theorem dX1_readWord_17 : decode cX1_readWord 17 = .ok (.invokestatic 103, 3) := by decide +kernel
theorem dX1_readWord_20 : decode cX1_readWord 20 = .ok (.ifCond .eq 19, 3) := by decide +kernel
theorem dX1_readWord_23 : decode cX1_readWord 23 = .ok (.aload_n 0, 1) := by decide +kernel
theorem dX1_readWord_24 : decode cX1_readWord 24 = .ok (.dup, 1) := by decide +kernel
theorem dX1_readWord_25 : decode cX1_readWord 25 = .ok (.getfield 40, 3) := by decide +kernel
theorem dX1_readWord_28 : decode cX1_readWord 28 = .ok (.iconst 1, 1) := by decide +kernel
theorem dX1_readWord_29 : decode cX1_readWord 29 = .ok (.iadd, 1) := by decide +kernel
theorem dX1_readWord_30 : decode cX1_readWord 30 = .ok (.putfield 40, 3) := by decide +kernel
theorem dX1_readWord_33 : decode cX1_readWord 33 = .ok (.iinc 1 1, 3) := by decide +kernel
theorem dX1_readWord_36 : decode cX1_readWord 36 = .ok (.goto (-34), 3) := by decide +kernel
theorem dX1_readWord_39 : decode cX1_readWord 39 = .ok (.aload_n 0, 1) := by decide +kernel
theorem dX1_readWord_40 : decode cX1_readWord 40 = .ok (.iconst 2, 1) := by decide +kernel
theorem dX1_readWord_41 : decode cX1_readWord 41 = .ok (.putfield 67, 3) := by decide +kernel
theorem dX1_readWord_44 : decode cX1_readWord 44 = .ok (.iconst 0, 1) := by decide +kernel
theorem dX1_readWord_45 : decode cX1_readWord 45 = .ok (.istore_n 1, 1) := by decide +kernel
theorem dX1_readWord_46 : decode cX1_readWord 46 = .ok (.iload_n 1, 1) := by decide +kernel
theorem dX1_readWord_47 : decode cX1_readWord 47 = .ok (.bipush 12, 2) := by decide +kernel
theorem dX1_readWord_49 : decode cX1_readWord 49 = .ok (.if_icmp .ge 29, 3) := by decide +kernel
theorem dX1_readWord_52 : decode cX1_readWord 52 = .ok (.aload_n 0, 1) := by decide +kernel
theorem dX1_readWord_53 : decode cX1_readWord 53 = .ok (.iload_n 1, 1) := by decide +kernel
theorem dX1_readWord_54 : decode cX1_readWord 54 = .ok (.invokestatic 118, 3) := by decide +kernel
theorem dX1_readWord_57 : decode cX1_readWord 57 = .ok (.invokevirtual 122, 3) := by decide +kernel
theorem dX1_readWord_60 : decode cX1_readWord 60 = .ok (.ifCond .eq 12, 3) := by decide +kernel
theorem dX1_readWord_63 : decode cX1_readWord 63 = .ok (.aload_n 0, 1) := by decide +kernel
theorem dX1_readWord_64 : decode cX1_readWord 64 = .ok (.sipush 256, 3) := by decide +kernel
theorem dX1_readWord_67 : decode cX1_readWord 67 = .ok (.iload_n 1, 1) := by decide +kernel
theorem dX1_readWord_68 : decode cX1_readWord 68 = .ok (.iadd, 1) := by decide +kernel
theorem dX1_readWord_69 : decode cX1_readWord 69 = .ok (.putfield 67, 3) := by decide +kernel
theorem dX1_readWord_72 : decode cX1_readWord 72 = .ok (.iinc 1 1, 3) := by decide +kernel
theorem dX1_readWord_75 : decode cX1_readWord 75 = .ok (.goto (-29), 3) := by decide +kernel
theorem dX1_readWord_78 : decode cX1_readWord 78 = .ok (.return_, 1) := by decide +kernel
theorem dX1_readNumber_0 : decode cX1_readNumber 0 = .ok (.aload_n 0, 1) := by decide +kernel
theorem dX1_readNumber_1 : decode cX1_readNumber 1 = .ok (.iconst 0, 1) := by decide +kernel
theorem dX1_readNumber_2 : decode cX1_readNumber 2 = .ok (.putfield 87, 3) := by decide +kernel
theorem dX1_readNumber_5 : decode cX1_readNumber 5 = .ok (.iconst 0, 1) := by decide +kernel
theorem dX1_readNumber_6 : decode cX1_readNumber 6 = .ok (.istore_n 1, 1) := by decide +kernel
theorem dX1_readNumber_7 : decode cX1_readNumber 7 = .ok (.iload_n 1, 1) := by decide +kernel
theorem dX1_readNumber_8 : decode cX1_readNumber 8 = .ok (.sipush 160, 3) := by decide +kernel
theorem dX1_readNumber_11 : decode cX1_readNumber 11 = .ok (.if_icmp .ge 56, 3) := by decide +kernel
theorem dX1_readNumber_14 : decode cX1_readNumber 14 = .ok (.aload_n 0, 1) := by decide +kernel
theorem dX1_readNumber_15 : decode cX1_readNumber 15 = .ok (.aload_n 0, 1) := by decide +kernel
theorem dX1_readNumber_16 : decode cX1_readNumber 16 = .ok (.getfield 40, 3) := by decide +kernel
theorem dX1_readNumber_19 : decode cX1_readNumber 19 = .ok (.invokevirtual 96, 3) := by decide +kernel
theorem dX1_readNumber_22 : decode cX1_readNumber 22 = .ok (.invokestatic 109, 3) := by decide +kernel
theorem dX1_readNumber_25 : decode cX1_readNumber 25 = .ok (.ifCond .eq 42, 3) := by decide +kernel
theorem dX1_readNumber_28 : decode cX1_readNumber 28 = .ok (.aload_n 0, 1) := by decide +kernel
theorem dX1_readNumber_29 : decode cX1_readNumber 29 = .ok (.aload_n 0, 1) := by decide +kernel
theorem dX1_readNumber_30 : decode cX1_readNumber 30 = .ok (.getfield 87, 3) := by decide +kernel
theorem dX1_readNumber_33 : decode cX1_readNumber 33 = .ok (.bipush 10, 2) := by decide +kernel
theorem dX1_readNumber_35 : decode cX1_readNumber 35 = .ok (.imul, 1) := by decide +kernel
theorem dX1_readNumber_36 : decode cX1_readNumber 36 = .ok (.aload_n 0, 1) := by decide +kernel
theorem dX1_readNumber_37 : decode cX1_readNumber 37 = .ok (.aload_n 0, 1) := by decide +kernel
theorem dX1_readNumber_38 : decode cX1_readNumber 38 = .ok (.getfield 40, 3) := by decide +kernel
theorem dX1_readNumber_41 : decode cX1_readNumber 41 = .ok (.invokevirtual 96, 3) := by decide +kernel
theorem dX1_readNumber_44 : decode cX1_readNumber 44 = .ok (.iadd, 1) := by decide +kernel
theorem dX1_readNumber_45 : decode cX1_readNumber 45 = .ok (.bipush 48, 2) := by decide +kernel
theorem dX1_readNumber_47 : decode cX1_readNumber 47 = .ok (.isub, 1) := by decide +kernel
theorem dX1_readNumber_48 : decode cX1_readNumber 48 = .ok (.putfield 87, 3) := by decide +kernel
theorem dX1_readNumber_51 : decode cX1_readNumber 51 = .ok (.aload_n 0, 1) := by decide +kernel
theorem dX1_readNumber_52 : decode cX1_readNumber 52 = .ok (.dup, 1) := by decide +kernel
theorem dX1_readNumber_53 : decode cX1_readNumber 53 = .ok (.getfield 40, 3) := by decide +kernel
theorem dX1_readNumber_56 : decode cX1_readNumber 56 = .ok (.iconst 1, 1) := by decide +kernel
theorem dX1_readNumber_57 : decode cX1_readNumber 57 = .ok (.iadd, 1) := by decide +kernel
theorem dX1_readNumber_58 : decode cX1_readNumber 58 = .ok (.putfield 40, 3) := by decide +kernel
theorem dX1_readNumber_61 : decode cX1_readNumber 61 = .ok (.iinc 1 1, 3) := by decide +kernel
theorem dX1_readNumber_64 : decode cX1_readNumber 64 = .ok (.goto (-57), 3) := by decide +kernel
theorem dX1_readNumber_67 : decode cX1_readNumber 67 = .ok (.aload_n 0, 1) := by decide +kernel
theorem dX1_readNumber_68 : decode cX1_readNumber 68 = .ok (.aload_n 0, 1) := by decide +kernel
theorem dX1_readNumber_69 : decode cX1_readNumber 69 = .ok (.getfield 40, 3) := by decide +kernel
theorem dX1_readNumber_72 : decode cX1_readNumber 72 = .ok (.aload_n 0, 1) := by decide +kernel
theorem dX1_readNumber_73 : decode cX1_readNumber 73 = .ok (.getfield 93, 3) := by decide +kernel
theorem dX1_readNumber_76 : decode cX1_readNumber 76 = .ok (.isub, 1) := by decide +kernel
theorem dX1_readNumber_77 : decode cX1_readNumber 77 = .ok (.iconst 4, 1) := by decide +kernel
theorem dX1_readNumber_78 : decode cX1_readNumber 78 = .ok (.if_icmp .gt 7, 3) := by decide +kernel
theorem dX1_readNumber_81 : decode cX1_readNumber 81 = .ok (.iconst 1, 1) := by decide +kernel
theorem dX1_readNumber_82 : decode cX1_readNumber 82 = .ok (.goto 4, 3) := by decide +kernel
theorem dX1_readNumber_85 : decode cX1_readNumber 85 = .ok (.iconst 2, 1) := by decide +kernel
theorem dX1_readNumber_86 : decode cX1_readNumber 86 = .ok (.putfield 67, 3) := by decide +kernel
theorem dX1_readNumber_89 : decode cX1_readNumber 89 = .ok (.return_, 1) := by decide +kernel
theorem dX1_stands_0 : decode cX1_stands 0 = .ok (.aload_n 1, 1) := by decide +kernel
theorem dX1_stands_1 : decode cX1_stands 1 = .ok (.invokevirtual 23, 3) := by decide +kernel
theorem dX1_stands_4 : decode cX1_stands 4 = .ok (.aload_n 0, 1) := by decide +kernel
theorem dX1_stands_5 : decode cX1_stands 5 = .ok (.getfield 40, 3) := by decide +kernel
theorem dX1_stands_8 : decode cX1_stands 8 = .ok (.aload_n 0, 1) := by decide +kernel
theorem dX1_stands_9 : decode cX1_stands 9 = .ok (.getfield 93, 3) := by decide +kernel
theorem dX1_stands_12 : decode cX1_stands 12 = .ok (.isub, 1) := by decide +kernel
theorem dX1_stands_13 : decode cX1_stands 13 = .ok (.if_icmp .eq 5, 3) := by decide +kernel
theorem dX1_stands_16 : decode cX1_stands 16 = .ok (.iconst 0, 1) := by decide +kernel
theorem dX1_stands_17 : decode cX1_stands 17 = .ok (.ireturn, 1) := by decide +kernel
theorem dX1_stands_18 : decode cX1_stands 18 = .ok (.iconst 0, 1) := by decide +kernel
theorem dX1_stands_19 : decode cX1_stands 19 = .ok (.istore_n 2, 1) := by decide +kernel
theorem dX1_stands_20 : decode cX1_stands 20 = .ok (.iload_n 2, 1) := by decide +kernel
theorem dX1_stands_21 : decode cX1_stands 21 = .ok (.aload_n 1, 1) := by decide +kernel
theorem dX1_stands_22 : decode cX1_stands 22 = .ok (.invokevirtual 23, 3) := by decide +kernel
theorem dX1_stands_25 : decode cX1_stands 25 = .ok (.if_icmp .ge 29, 3) := by decide +kernel
theorem dX1_stands_28 : decode cX1_stands 28 = .ok (.aload_n 1, 1) := by decide +kernel
theorem dX1_stands_29 : decode cX1_stands 29 = .ok (.iload_n 2, 1) := by decide +kernel
theorem dX1_stands_30 : decode cX1_stands 30 = .ok (.invokevirtual 29, 3) := by decide +kernel
theorem dX1_stands_33 : decode cX1_stands 33 = .ok (.aload_n 0, 1) := by decide +kernel
theorem dX1_stands_34 : decode cX1_stands 34 = .ok (.aload_n 0, 1) := by decide +kernel
theorem dX1_stands_35 : decode cX1_stands 35 = .ok (.getfield 93, 3) := by decide +kernel
theorem dX1_stands_38 : decode cX1_stands 38 = .ok (.iload_n 2, 1) := by decide +kernel
theorem dX1_stands_39 : decode cX1_stands 39 = .ok (.iadd, 1) := by decide +kernel
theorem dX1_stands_40 : decode cX1_stands 40 = .ok (.invokevirtual 96, 3) := by decide +kernel
theorem dX1_stands_43 : decode cX1_stands 43 = .ok (.if_icmp .eq 5, 3) := by decide +kernel
theorem dX1_stands_46 : decode cX1_stands 46 = .ok (.iconst 0, 1) := by decide +kernel
theorem dX1_stands_47 : decode cX1_stands 47 = .ok (.ireturn, 1) := by decide +kernel
theorem dX1_stands_48 : decode cX1_stands 48 = .ok (.iinc 2 1, 3) := by decide +kernel
theorem dX1_stands_51 : decode cX1_stands 51 = .ok (.goto (-31), 3) := by decide +kernel
theorem dX1_stands_54 : decode cX1_stands 54 = .ok (.iconst 1, 1) := by decide +kernel
theorem dX1_stands_55 : decode cX1_stands 55 = .ok (.ireturn, 1) := by decide +kernel
theorem dX1_byteAt_0 : decode cX1_byteAt 0 = .ok (.iload_n 1, 1) := by decide +kernel
theorem dX1_byteAt_1 : decode cX1_byteAt 1 = .ok (.ifCond .lt 27, 3) := by decide +kernel
theorem dX1_byteAt_4 : decode cX1_byteAt 4 = .ok (.iload_n 1, 1) := by decide +kernel
theorem dX1_byteAt_5 : decode cX1_byteAt 5 = .ok (.aload_n 0, 1) := by decide +kernel
theorem dX1_byteAt_6 : decode cX1_byteAt 6 = .ok (.getfield 19, 3) := by decide +kernel
theorem dX1_byteAt_9 : decode cX1_byteAt 9 = .ok (.if_icmp .ge 19, 3) := by decide +kernel
theorem dX1_byteAt_12 : decode cX1_byteAt 12 = .ok (.iload_n 1, 1) := by decide +kernel
theorem dX1_byteAt_13 : decode cX1_byteAt 13 = .ok (.sipush 160, 3) := by decide +kernel
theorem dX1_byteAt_16 : decode cX1_byteAt 16 = .ok (.if_icmp .ge 12, 3) := by decide +kernel
theorem dX1_byteAt_19 : decode cX1_byteAt 19 = .ok (.aload_n 0, 1) := by decide +kernel
theorem dX1_byteAt_20 : decode cX1_byteAt 20 = .ok (.getfield 11, 3) := by decide +kernel
theorem dX1_byteAt_23 : decode cX1_byteAt 23 = .ok (.iload_n 1, 1) := by decide +kernel
theorem dX1_byteAt_24 : decode cX1_byteAt 24 = .ok (.iaload, 1) := by decide +kernel
theorem dX1_byteAt_25 : decode cX1_byteAt 25 = .ok (.goto 4, 3) := by decide +kernel
theorem dX1_byteAt_28 : decode cX1_byteAt 28 = .ok (.iconst (-1), 1) := by decide +kernel
theorem dX1_byteAt_29 : decode cX1_byteAt 29 = .ok (.ireturn, 1) := by decide +kernel
theorem dX1_word_0 : decode cX1_word 0 = .ok (.iload_n 0, 1) := by decide +kernel
theorem dX1_word_1 : decode cX1_word 1 = .ok (.tableswitch 92 0 10 #[59, 62, 65, 68, 71, 74, 77, 80, 83, 86, 89], 59) := by decide +kernel
theorem dX1_word_60 : decode cX1_word 60 = .ok (.ldc 126, 2) := by decide +kernel
theorem dX1_word_62 : decode cX1_word 62 = .ok (.areturn, 1) := by decide +kernel
theorem dX1_word_63 : decode cX1_word 63 = .ok (.ldc 128, 2) := by decide +kernel
theorem dX1_word_65 : decode cX1_word 65 = .ok (.areturn, 1) := by decide +kernel
theorem dX1_word_66 : decode cX1_word 66 = .ok (.ldc 130, 2) := by decide +kernel
theorem dX1_word_68 : decode cX1_word 68 = .ok (.areturn, 1) := by decide +kernel
theorem dX1_word_69 : decode cX1_word 69 = .ok (.ldc 131, 2) := by decide +kernel
theorem dX1_word_71 : decode cX1_word 71 = .ok (.areturn, 1) := by decide +kernel
theorem dX1_word_72 : decode cX1_word 72 = .ok (.ldc 133, 2) := by decide +kernel
theorem dX1_word_74 : decode cX1_word 74 = .ok (.areturn, 1) := by decide +kernel
theorem dX1_word_75 : decode cX1_word 75 = .ok (.ldc 135, 2) := by decide +kernel
theorem dX1_word_77 : decode cX1_word 77 = .ok (.areturn, 1) := by decide +kernel
theorem dX1_word_78 : decode cX1_word 78 = .ok (.ldc 137, 2) := by decide +kernel
theorem dX1_word_80 : decode cX1_word 80 = .ok (.areturn, 1) := by decide +kernel
theorem dX1_word_81 : decode cX1_word 81 = .ok (.ldc 139, 2) := by decide +kernel
theorem dX1_word_83 : decode cX1_word 83 = .ok (.areturn, 1) := by decide +kernel
theorem dX1_word_84 : decode cX1_word 84 = .ok (.ldc 141, 2) := by decide +kernel
theorem dX1_word_86 : decode cX1_word 86 = .ok (.areturn, 1) := by decide +kernel
theorem dX1_word_87 : decode cX1_word 87 = .ok (.ldc 143, 2) := by decide +kernel
theorem dX1_word_89 : decode cX1_word 89 = .ok (.areturn, 1) := by decide +kernel
theorem dX1_word_90 : decode cX1_word 90 = .ok (.ldc 145, 2) := by decide +kernel
theorem dX1_word_92 : decode cX1_word 92 = .ok (.areturn, 1) := by decide +kernel
theorem dX1_word_93 : decode cX1_word 93 = .ok (.ldc 147, 2) := by decide +kernel
theorem dX1_word_95 : decode cX1_word 95 = .ok (.areturn, 1) := by decide +kernel
theorem dX1_isBlank_0 : decode cX1_isBlank 0 = .ok (.iload_n 0, 1) := by decide +kernel
theorem dX1_isBlank_1 : decode cX1_isBlank 1 = .ok (.bipush 32, 2) := by decide +kernel
theorem dX1_isBlank_3 : decode cX1_isBlank 3 = .ok (.if_icmp .eq 9, 3) := by decide +kernel
theorem dX1_isBlank_6 : decode cX1_isBlank 6 = .ok (.iload_n 0, 1) := by decide +kernel
theorem dX1_isBlank_7 : decode cX1_isBlank 7 = .ok (.bipush 10, 2) := by decide +kernel
theorem dX1_isBlank_9 : decode cX1_isBlank 9 = .ok (.if_icmp .ne 7, 3) := by decide +kernel
theorem dX1_isBlank_12 : decode cX1_isBlank 12 = .ok (.iconst 1, 1) := by decide +kernel
theorem dX1_isBlank_13 : decode cX1_isBlank 13 = .ok (.goto 4, 3) := by decide +kernel
theorem dX1_isBlank_16 : decode cX1_isBlank 16 = .ok (.iconst 0, 1) := by decide +kernel
theorem dX1_isBlank_17 : decode cX1_isBlank 17 = .ok (.ireturn, 1) := by decide +kernel
theorem dX1_isWordByte_0 : decode cX1_isWordByte 0 = .ok (.iload_n 0, 1) := by decide +kernel
theorem dX1_isWordByte_1 : decode cX1_isWordByte 1 = .ok (.bipush 97, 2) := by decide +kernel
theorem dX1_isWordByte_3 : decode cX1_isWordByte 3 = .ok (.if_icmp .lt 13, 3) := by decide +kernel
theorem dX1_isWordByte_6 : decode cX1_isWordByte 6 = .ok (.iload_n 0, 1) := by decide +kernel
theorem dX1_isWordByte_7 : decode cX1_isWordByte 7 = .ok (.bipush 122, 2) := by decide +kernel
theorem dX1_isWordByte_9 : decode cX1_isWordByte 9 = .ok (.if_icmp .gt 7, 3) := by decide +kernel
theorem dX1_isWordByte_12 : decode cX1_isWordByte 12 = .ok (.iconst 1, 1) := by decide +kernel
theorem dX1_isWordByte_13 : decode cX1_isWordByte 13 = .ok (.goto 4, 3) := by decide +kernel
theorem dX1_isWordByte_16 : decode cX1_isWordByte 16 = .ok (.iconst 0, 1) := by decide +kernel
theorem dX1_isWordByte_17 : decode cX1_isWordByte 17 = .ok (.ireturn, 1) := by decide +kernel
theorem dX1_isDigit_0 : decode cX1_isDigit 0 = .ok (.iload_n 0, 1) := by decide +kernel
theorem dX1_isDigit_1 : decode cX1_isDigit 1 = .ok (.bipush 48, 2) := by decide +kernel
theorem dX1_isDigit_3 : decode cX1_isDigit 3 = .ok (.if_icmp .lt 13, 3) := by decide +kernel
theorem dX1_isDigit_6 : decode cX1_isDigit 6 = .ok (.iload_n 0, 1) := by decide +kernel
theorem dX1_isDigit_7 : decode cX1_isDigit 7 = .ok (.bipush 57, 2) := by decide +kernel
theorem dX1_isDigit_9 : decode cX1_isDigit 9 = .ok (.if_icmp .gt 7, 3) := by decide +kernel
theorem dX1_isDigit_12 : decode cX1_isDigit 12 = .ok (.iconst 1, 1) := by decide +kernel
theorem dX1_isDigit_13 : decode cX1_isDigit 13 = .ok (.goto 4, 3) := by decide +kernel
theorem dX1_isDigit_16 : decode cX1_isDigit 16 = .ok (.iconst 0, 1) := by decide +kernel
theorem dX1_isDigit_17 : decode cX1_isDigit 17 = .ok (.ireturn, 1) := by decide +kernel
theorem dX1_isSign_0 : decode cX1_isSign 0 = .ok (.iload_n 0, 1) := by decide +kernel
theorem dX1_isSign_1 : decode cX1_isSign 1 = .ok (.bipush 40, 2) := by decide +kernel
theorem dX1_isSign_3 : decode cX1_isSign 3 = .ok (.if_icmp .eq 45, 3) := by decide +kernel
theorem dX1_isSign_6 : decode cX1_isSign 6 = .ok (.iload_n 0, 1) := by decide +kernel
theorem dX1_isSign_7 : decode cX1_isSign 7 = .ok (.bipush 41, 2) := by decide +kernel
theorem dX1_isSign_9 : decode cX1_isSign 9 = .ok (.if_icmp .eq 39, 3) := by decide +kernel
theorem dX1_isSign_12 : decode cX1_isSign 12 = .ok (.iload_n 0, 1) := by decide +kernel
theorem dX1_isSign_13 : decode cX1_isSign 13 = .ok (.bipush 59, 2) := by decide +kernel
theorem dX1_isSign_15 : decode cX1_isSign 15 = .ok (.if_icmp .eq 33, 3) := by decide +kernel
theorem dX1_isSign_18 : decode cX1_isSign 18 = .ok (.iload_n 0, 1) := by decide +kernel
theorem dX1_isSign_19 : decode cX1_isSign 19 = .ok (.bipush 43, 2) := by decide +kernel
theorem dX1_isSign_21 : decode cX1_isSign 21 = .ok (.if_icmp .eq 27, 3) := by decide +kernel
theorem dX1_isSign_24 : decode cX1_isSign 24 = .ok (.iload_n 0, 1) := by decide +kernel
theorem dX1_isSign_25 : decode cX1_isSign 25 = .ok (.bipush 45, 2) := by decide +kernel
theorem dX1_isSign_27 : decode cX1_isSign 27 = .ok (.if_icmp .eq 21, 3) := by decide +kernel
theorem dX1_isSign_30 : decode cX1_isSign 30 = .ok (.iload_n 0, 1) := by decide +kernel
theorem dX1_isSign_31 : decode cX1_isSign 31 = .ok (.bipush 42, 2) := by decide +kernel
theorem dX1_isSign_33 : decode cX1_isSign 33 = .ok (.if_icmp .eq 15, 3) := by decide +kernel
theorem dX1_isSign_36 : decode cX1_isSign 36 = .ok (.iload_n 0, 1) := by decide +kernel
theorem dX1_isSign_37 : decode cX1_isSign 37 = .ok (.bipush 60, 2) := by decide +kernel
theorem dX1_isSign_39 : decode cX1_isSign 39 = .ok (.if_icmp .eq 9, 3) := by decide +kernel
theorem dX1_isSign_42 : decode cX1_isSign 42 = .ok (.iload_n 0, 1) := by decide +kernel
theorem dX1_isSign_43 : decode cX1_isSign 43 = .ok (.bipush 61, 2) := by decide +kernel
theorem dX1_isSign_45 : decode cX1_isSign 45 = .ok (.if_icmp .ne 7, 3) := by decide +kernel
theorem dX1_isSign_48 : decode cX1_isSign 48 = .ok (.iconst 1, 1) := by decide +kernel
theorem dX1_isSign_49 : decode cX1_isSign 49 = .ok (.goto 4, 3) := by decide +kernel
theorem dX1_isSign_52 : decode cX1_isSign 52 = .ok (.iconst 0, 1) := by decide +kernel
theorem dX1_isSign_53 : decode cX1_isSign 53 = .ok (.ireturn, 1) := by decide +kernel
theorem dX2_init_0 : decode cX2_init 0 = .ok (.aload_n 0, 1) := by decide +kernel
theorem dX2_init_1 : decode cX2_init 1 = .ok (.invokespecial 1, 3) := by decide +kernel
theorem dX2_init_4 : decode cX2_init 4 = .ok (.aload_n 0, 1) := by decide +kernel
theorem dX2_init_5 : decode cX2_init 5 = .ok (.sipush 960, 3) := by decide +kernel
theorem dX2_init_8 : decode cX2_init 8 = .ok (.newarray .int, 2) := by decide +kernel
theorem dX2_init_10 : decode cX2_init 10 = .ok (.putfield 11, 3) := by decide +kernel
theorem dX2_init_13 : decode cX2_init 13 = .ok (.aload_n 0, 1) := by decide +kernel
theorem dX2_init_14 : decode cX2_init 14 = .ok (.bipush 19, 2) := by decide +kernel
theorem dX2_init_16 : decode cX2_init 16 = .ok (.newarray .int, 2) := by decide +kernel
theorem dX2_init_18 : decode cX2_init 18 = .ok (.putfield 15, 3) := by decide +kernel
theorem dX2_init_21 : decode cX2_init 21 = .ok (.aload_n 0, 1) := by decide +kernel
theorem dX2_init_22 : decode cX2_init 22 = .ok (.bipush 64, 2) := by decide +kernel
theorem dX2_init_24 : decode cX2_init 24 = .ok (.newarray .int, 2) := by decide +kernel
theorem dX2_init_26 : decode cX2_init 26 = .ok (.putfield 18, 3) := by decide +kernel
theorem dX2_init_29 : decode cX2_init 29 = .ok (.return_, 1) := by decide +kernel
theorem dX2_hasRoom_0 : decode cX2_hasRoom 0 = .ok (.aload_n 0, 1) := by decide +kernel
theorem dX2_hasRoom_1 : decode cX2_hasRoom 1 = .ok (.getfield 21, 3) := by decide +kernel
theorem dX2_hasRoom_4 : decode cX2_hasRoom 4 = .ok (.bipush 6, 2) := by decide +kernel
theorem dX2_hasRoom_6 : decode cX2_hasRoom 6 = .ok (.if_icmp .ge 7, 3) := by decide +kernel
theorem dX2_hasRoom_9 : decode cX2_hasRoom 9 = .ok (.iconst 1, 1) := by decide +kernel
theorem dX2_hasRoom_10 : decode cX2_hasRoom 10 = .ok (.goto 4, 3) := by decide +kernel
theorem dX2_hasRoom_13 : decode cX2_hasRoom 13 = .ok (.iconst 0, 1) := by decide +kernel
theorem dX2_hasRoom_14 : decode cX2_hasRoom 14 = .ok (.ireturn, 1) := by decide +kernel
theorem dX2_isText_0 : decode cX2_isText 0 = .ok (.iload_n 1, 1) := by decide +kernel
theorem dX2_isText_1 : decode cX2_isText 1 = .ok (.ifCond .lt 21, 3) := by decide +kernel
theorem dX2_isText_4 : decode cX2_isText 4 = .ok (.iload_n 1, 1) := by decide +kernel
theorem dX2_isText_5 : decode cX2_isText 5 = .ok (.aload_n 0, 1) := by decide +kernel
theorem dX2_isText_6 : decode cX2_isText 6 = .ok (.getfield 21, 3) := by decide +kernel
theorem dX2_isText_9 : decode cX2_isText 9 = .ok (.if_icmp .ge 13, 3) := by decide +kernel
theorem dX2_isText_12 : decode cX2_isText 12 = .ok (.iload_n 1, 1) := by decide +kernel
theorem dX2_isText_13 : decode cX2_isText 13 = .ok (.bipush 6, 2) := by decide +kernel
theorem dX2_isText_15 : decode cX2_isText 15 = .ok (.if_icmp .ge 7, 3) := by decide +kernel
theorem dX2_isText_18 : decode cX2_isText 18 = .ok (.iconst 1, 1) := by decide +kernel
theorem dX2_isText_19 : decode cX2_isText 19 = .ok (.goto 4, 3) := by decide +kernel
theorem dX2_isText_22 : decode cX2_isText 22 = .ok (.iconst 0, 1) := by decide +kernel
theorem dX2_isText_23 : decode cX2_isText 23 = .ok (.ireturn, 1) := by decide +kernel
theorem dX2_begin_0 : decode cX2_begin 0 = .ok (.aload_n 0, 1) := by decide +kernel
theorem dX2_begin_1 : decode cX2_begin 1 = .ok (.aload_n 0, 1) := by decide +kernel
theorem dX2_begin_2 : decode cX2_begin 2 = .ok (.invokevirtual 25, 3) := by decide +kernel
theorem dX2_begin_5 : decode cX2_begin 5 = .ok (.ifCond .eq 17, 3) := by decide +kernel
theorem dX2_begin_8 : decode cX2_begin 8 = .ok (.aload_n 0, 1) := by decide +kernel
theorem dX2_begin_9 : decode cX2_begin 9 = .ok (.getfield 15, 3) := by decide +kernel
theorem dX2_begin_12 : decode cX2_begin 12 = .ok (.aload_n 0, 1) := by decide +kernel
theorem dX2_begin_13 : decode cX2_begin 13 = .ok (.getfield 21, 3) := by decide +kernel
theorem dX2_begin_16 : decode cX2_begin 16 = .ok (.iconst 3, 1) := by decide +kernel
theorem dX2_begin_17 : decode cX2_begin 17 = .ok (.imul, 1) := by decide +kernel
theorem dX2_begin_18 : decode cX2_begin 18 = .ok (.iaload, 1) := by decide +kernel
theorem dX2_begin_19 : decode cX2_begin 19 = .ok (.goto 8, 3) := by decide +kernel
theorem dX2_begin_22 : decode cX2_begin 22 = .ok (.aload_n 0, 1) := by decide +kernel
theorem dX2_begin_23 : decode cX2_begin 23 = .ok (.getfield 11, 3) := by decide +kernel
theorem dX2_begin_26 : decode cX2_begin 26 = .ok (.arraylength, 1) := by decide +kernel
theorem dX2_begin_27 : decode cX2_begin 27 = .ok (.putfield 29, 3) := by decide +kernel
theorem dX2_begin_30 : decode cX2_begin 30 = .ok (.return_, 1) := by decide +kernel
theorem dX2_add_0 : decode cX2_add 0 = .ok (.aload_n 0, 1) := by decide +kernel
theorem dX2_add_1 : decode cX2_add 1 = .ok (.getfield 29, 3) := by decide +kernel
theorem dX2_add_4 : decode cX2_add 4 = .ok (.ifCond .lt 35, 3) := by decide +kernel
theorem dX2_add_7 : decode cX2_add 7 = .ok (.aload_n 0, 1) := by decide +kernel
theorem dX2_add_8 : decode cX2_add 8 = .ok (.getfield 29, 3) := by decide +kernel
theorem dX2_add_11 : decode cX2_add 11 = .ok (.aload_n 0, 1) := by decide +kernel
theorem dX2_add_12 : decode cX2_add 12 = .ok (.getfield 11, 3) := by decide +kernel
theorem dX2_add_15 : decode cX2_add 15 = .ok (.arraylength, 1) := by decide +kernel
theorem dX2_add_16 : decode cX2_add 16 = .ok (.if_icmp .ge 23, 3) := by decide +kernel
theorem dX2_add_19 : decode cX2_add 19 = .ok (.aload_n 0, 1) := by decide +kernel
theorem dX2_add_20 : decode cX2_add 20 = .ok (.getfield 11, 3) := by decide +kernel
theorem dX2_add_23 : decode cX2_add 23 = .ok (.aload_n 0, 1) := by decide +kernel
theorem dX2_add_24 : decode cX2_add 24 = .ok (.getfield 29, 3) := by decide +kernel
theorem dX2_add_27 : decode cX2_add 27 = .ok (.iload_n 1, 1) := by decide +kernel
theorem dX2_add_28 : decode cX2_add 28 = .ok (.iastore, 1) := by decide +kernel
theorem dX2_add_29 : decode cX2_add 29 = .ok (.aload_n 0, 1) := by decide +kernel
theorem dX2_add_30 : decode cX2_add 30 = .ok (.dup, 1) := by decide +kernel
theorem dX2_add_31 : decode cX2_add 31 = .ok (.getfield 29, 3) := by decide +kernel
theorem dX2_add_34 : decode cX2_add 34 = .ok (.iconst 1, 1) := by decide +kernel
theorem dX2_add_35 : decode cX2_add 35 = .ok (.iadd, 1) := by decide +kernel
theorem dX2_add_36 : decode cX2_add 36 = .ok (.putfield 29, 3) := by decide +kernel
theorem dX2_add_39 : decode cX2_add 39 = .ok (.return_, 1) := by decide +kernel
theorem dX2_endPart_0 : decode cX2_endPart 0 = .ok (.aload_n 0, 1) := by decide +kernel
theorem dX2_endPart_1 : decode cX2_endPart 1 = .ok (.getfield 21, 3) := by decide +kernel
theorem dX2_endPart_4 : decode cX2_endPart 4 = .ok (.iconst 3, 1) := by decide +kernel
theorem dX2_endPart_5 : decode cX2_endPart 5 = .ok (.imul, 1) := by decide +kernel
theorem dX2_endPart_6 : decode cX2_endPart 6 = .ok (.iload_n 1, 1) := by decide +kernel
theorem dX2_endPart_7 : decode cX2_endPart 7 = .ok (.iadd, 1) := by decide +kernel
theorem dX2_endPart_8 : decode cX2_endPart 8 = .ok (.iconst 1, 1) := by decide +kernel
theorem dX2_endPart_9 : decode cX2_endPart 9 = .ok (.iadd, 1) := by decide +kernel
theorem dX2_endPart_10 : decode cX2_endPart 10 = .ok (.istore_n 2, 1) := by decide +kernel
theorem dX2_endPart_11 : decode cX2_endPart 11 = .ok (.iload_n 2, 1) := by decide +kernel
theorem dX2_endPart_12 : decode cX2_endPart 12 = .ok (.ifCond .lt 22, 3) := by decide +kernel
theorem dX2_endPart_15 : decode cX2_endPart 15 = .ok (.iload_n 2, 1) := by decide +kernel
theorem dX2_endPart_16 : decode cX2_endPart 16 = .ok (.aload_n 0, 1) := by decide +kernel
theorem dX2_endPart_17 : decode cX2_endPart 17 = .ok (.getfield 15, 3) := by decide +kernel
theorem dX2_endPart_20 : decode cX2_endPart 20 = .ok (.arraylength, 1) := by decide +kernel
theorem dX2_endPart_21 : decode cX2_endPart 21 = .ok (.if_icmp .ge 13, 3) := by decide +kernel
theorem dX2_endPart_24 : decode cX2_endPart 24 = .ok (.aload_n 0, 1) := by decide +kernel
theorem dX2_endPart_25 : decode cX2_endPart 25 = .ok (.getfield 15, 3) := by decide +kernel
theorem dX2_endPart_28 : decode cX2_endPart 28 = .ok (.iload_n 2, 1) := by decide +kernel
theorem dX2_endPart_29 : decode cX2_endPart 29 = .ok (.aload_n 0, 1) := by decide +kernel
theorem dX2_endPart_30 : decode cX2_endPart 30 = .ok (.getfield 29, 3) := by decide +kernel
theorem dX2_endPart_33 : decode cX2_endPart 33 = .ok (.iastore, 1) := by decide +kernel
theorem dX2_endPart_34 : decode cX2_endPart 34 = .ok (.return_, 1) := by decide +kernel
theorem dX2_keep_0 : decode cX2_keep 0 = .ok (.aload_n 0, 1) := by decide +kernel
theorem dX2_keep_1 : decode cX2_keep 1 = .ok (.invokevirtual 25, 3) := by decide +kernel
theorem dX2_keep_4 : decode cX2_keep 4 = .ok (.ifCond .eq 13, 3) := by decide +kernel
theorem dX2_keep_7 : decode cX2_keep 7 = .ok (.aload_n 0, 1) := by decide +kernel
theorem dX2_keep_8 : decode cX2_keep 8 = .ok (.dup, 1) := by decide +kernel
theorem dX2_keep_9 : decode cX2_keep 9 = .ok (.getfield 21, 3) := by decide +kernel
theorem dX2_keep_12 : decode cX2_keep 12 = .ok (.iconst 1, 1) := by decide +kernel
theorem dX2_keep_13 : decode cX2_keep 13 = .ok (.iadd, 1) := by decide +kernel
theorem dX2_keep_14 : decode cX2_keep 14 = .ok (.putfield 21, 3) := by decide +kernel
theorem dX2_keep_17 : decode cX2_keep 17 = .ok (.return_, 1) := by decide +kernel
theorem dX2_value_0 : decode cX2_value 0 = .ok (.iload_n 1, 1) := by decide +kernel
theorem dX2_value_1 : decode cX2_value 1 = .ok (.iconst 3, 1) := by decide +kernel
theorem dX2_value_2 : decode cX2_value 2 = .ok (.imul, 1) := by decide +kernel
theorem dX2_value_3 : decode cX2_value 3 = .ok (.iload_n 2, 1) := by decide +kernel
theorem dX2_value_4 : decode cX2_value 4 = .ok (.iadd, 1) := by decide +kernel
theorem dX2_value_5 : decode cX2_value 5 = .ok (.istore_n 3, 1) := by decide +kernel
theorem dX2_value_6 : decode cX2_value 6 = .ok (.aload_n 0, 1) := by decide +kernel
theorem dX2_value_7 : decode cX2_value 7 = .ok (.iload_n 1, 1) := by decide +kernel
theorem dX2_value_8 : decode cX2_value 8 = .ok (.invokevirtual 32, 3) := by decide +kernel
theorem dX2_value_11 : decode cX2_value 11 = .ok (.ifCond .eq 18, 3) := by decide +kernel
theorem dX2_value_14 : decode cX2_value 14 = .ok (.iload_n 3, 1) := by decide +kernel
theorem dX2_value_15 : decode cX2_value 15 = .ok (.ifCond .lt 14, 3) := by decide +kernel
theorem dX2_value_18 : decode cX2_value 18 = .ok (.iload_n 3, 1) := by decide +kernel
theorem dX2_value_19 : decode cX2_value 19 = .ok (.iconst 1, 1) := by decide +kernel
theorem dX2_value_20 : decode cX2_value 20 = .ok (.iadd, 1) := by decide +kernel
theorem dX2_value_21 : decode cX2_value 21 = .ok (.aload_n 0, 1) := by decide +kernel
theorem dX2_value_22 : decode cX2_value 22 = .ok (.getfield 15, 3) := by decide +kernel
theorem dX2_value_25 : decode cX2_value 25 = .ok (.arraylength, 1) := by decide +kernel
theorem dX2_value_26 : decode cX2_value 26 = .ok (.if_icmp .lt 5, 3) := by decide +kernel
theorem dX2_value_29 : decode cX2_value 29 = .ok (.iconst 0, 1) := by decide +kernel
theorem dX2_value_30 : decode cX2_value 30 = .ok (.ireturn, 1) := by decide +kernel
theorem dX2_value_31 : decode cX2_value 31 = .ok (.iconst 0, 1) := by decide +kernel
theorem dX2_value_32 : decode cX2_value 32 = .ok (.istore 4, 2) := by decide +kernel
theorem dX2_value_34 : decode cX2_value 34 = .ok (.iconst 0, 1) := by decide +kernel
theorem dX2_value_35 : decode cX2_value 35 = .ok (.aload_n 0, 1) := by decide +kernel
theorem dX2_value_36 : decode cX2_value 36 = .ok (.getfield 15, 3) := by decide +kernel
theorem dX2_value_39 : decode cX2_value 39 = .ok (.iload_n 3, 1) := by decide +kernel
theorem dX2_value_40 : decode cX2_value 40 = .ok (.iaload, 1) := by decide +kernel
theorem dX2_value_41 : decode cX2_value 41 = .ok (.invokestatic 36, 3) := by decide +kernel
theorem dX2_value_44 : decode cX2_value 44 = .ok (.istore 5, 2) := by decide +kernel
theorem dX2_value_46 : decode cX2_value 46 = .ok (.iload 5, 2) := by decide +kernel
theorem dX2_value_48 : decode cX2_value 48 = .ok (.aload_n 0, 1) := by decide +kernel
theorem dX2_value_49 : decode cX2_value 49 = .ok (.getfield 15, 3) := by decide +kernel
theorem dX2_value_52 : decode cX2_value 52 = .ok (.iload_n 3, 1) := by decide +kernel
theorem dX2_value_53 : decode cX2_value 53 = .ok (.iconst 1, 1) := by decide +kernel
theorem dX2_value_54 : decode cX2_value 54 = .ok (.iadd, 1) := by decide +kernel
theorem dX2_value_55 : decode cX2_value 55 = .ok (.iaload, 1) := by decide +kernel
theorem dX2_value_56 : decode cX2_value 56 = .ok (.if_icmp .ge 163, 3) := by decide +kernel
theorem dX2_value_59 : decode cX2_value 59 = .ok (.iload 5, 2) := by decide +kernel
theorem dX2_value_61 : decode cX2_value 61 = .ok (.aload_n 0, 1) := by decide +kernel
theorem dX2_value_62 : decode cX2_value 62 = .ok (.getfield 11, 3) := by decide +kernel
theorem dX2_value_65 : decode cX2_value 65 = .ok (.arraylength, 1) := by decide +kernel
theorem dX2_value_66 : decode cX2_value 66 = .ok (.if_icmp .ge 153, 3) := by decide +kernel
theorem dX2_value_69 : decode cX2_value 69 = .ok (.aload_n 0, 1) := by decide +kernel
theorem dX2_value_70 : decode cX2_value 70 = .ok (.getfield 11, 3) := by decide +kernel
theorem dX2_value_73 : decode cX2_value 73 = .ok (.iload 5, 2) := by decide +kernel
theorem dX2_value_75 : decode cX2_value 75 = .ok (.iaload, 1) := by decide +kernel
theorem dX2_value_76 : decode cX2_value 76 = .ok (.istore 6, 2) := by decide +kernel
theorem dX2_value_78 : decode cX2_value 78 = .ok (.iload 6, 2) := by decide +kernel
theorem dX2_value_80 : decode cX2_value 80 = .ok (.bipush (-11), 2) := by decide +kernel
theorem dX2_value_82 : decode cX2_value 82 = .ok (.if_icmp .le 7, 3) := by decide +kernel
theorem dX2_value_85 : decode cX2_value 85 = .ok (.iconst 0, 1) := by decide +kernel
theorem dX2_value_86 : decode cX2_value 86 = .ok (.goto 15, 3) := by decide +kernel
theorem dX2_value_89 : decode cX2_value 89 = .ok (.iload 6, 2) := by decide +kernel
theorem dX2_value_91 : decode cX2_value 91 = .ok (.bipush (-21), 2) := by decide +kernel
theorem dX2_value_93 : decode cX2_value 93 = .ok (.if_icmp .le 7, 3) := by decide +kernel
theorem dX2_value_96 : decode cX2_value 96 = .ok (.iconst 2, 1) := by decide +kernel
theorem dX2_value_97 : decode cX2_value 97 = .ok (.goto 4, 3) := by decide +kernel
theorem dX2_value_100 : decode cX2_value 100 = .ok (.iconst 1, 1) := by decide +kernel
theorem dX2_value_101 : decode cX2_value 101 = .ok (.istore 7, 2) := by decide +kernel
theorem dX2_value_103 : decode cX2_value 103 = .ok (.iload 4, 2) := by decide +kernel
theorem dX2_value_105 : decode cX2_value 105 = .ok (.iload 7, 2) := by decide +kernel
theorem dX2_value_107 : decode cX2_value 107 = .ok (.if_icmp .lt 13, 3) := by decide +kernel
theorem dX2_value_110 : decode cX2_value 110 = .ok (.iload 4, 2) := by decide +kernel
theorem dX2_value_112 : decode cX2_value 112 = .ok (.aload_n 0, 1) := by decide +kernel
theorem dX2_value_113 : decode cX2_value 113 = .ok (.getfield 18, 3) := by decide +kernel
theorem dX2_value_116 : decode cX2_value 116 = .ok (.arraylength, 1) := by decide +kernel
theorem dX2_value_117 : decode cX2_value 117 = .ok (.if_icmp .lt 5, 3) := by decide +kernel
theorem dX2_value_120 : decode cX2_value 120 = .ok (.iconst 0, 1) := by decide +kernel
theorem dX2_value_121 : decode cX2_value 121 = .ok (.ireturn, 1) := by decide +kernel
theorem dX2_value_122 : decode cX2_value 122 = .ok (.iload 7, 2) := by decide +kernel
theorem dX2_value_124 : decode cX2_value 124 = .ok (.ifCond .le 15, 3) := by decide +kernel
theorem dX2_value_127 : decode cX2_value 127 = .ok (.aload_n 0, 1) := by decide +kernel
theorem dX2_value_128 : decode cX2_value 128 = .ok (.getfield 18, 3) := by decide +kernel
theorem dX2_value_131 : decode cX2_value 131 = .ok (.iload 4, 2) := by decide +kernel
theorem dX2_value_133 : decode cX2_value 133 = .ok (.iconst 1, 1) := by decide +kernel
theorem dX2_value_134 : decode cX2_value 134 = .ok (.isub, 1) := by decide +kernel
theorem dX2_value_135 : decode cX2_value 135 = .ok (.iaload, 1) := by decide +kernel
theorem dX2_value_136 : decode cX2_value 136 = .ok (.goto 4, 3) := by decide +kernel
theorem dX2_value_139 : decode cX2_value 139 = .ok (.iconst 0, 1) := by decide +kernel
theorem dX2_value_140 : decode cX2_value 140 = .ok (.istore 8, 2) := by decide +kernel
theorem dX2_value_142 : decode cX2_value 142 = .ok (.iload 7, 2) := by decide +kernel
theorem dX2_value_144 : decode cX2_value 144 = .ok (.iconst 1, 1) := by decide +kernel
theorem dX2_value_145 : decode cX2_value 145 = .ok (.if_icmp .le 15, 3) := by decide +kernel
theorem dX2_value_148 : decode cX2_value 148 = .ok (.aload_n 0, 1) := by decide +kernel
theorem dX2_value_149 : decode cX2_value 149 = .ok (.getfield 18, 3) := by decide +kernel
theorem dX2_value_152 : decode cX2_value 152 = .ok (.iload 4, 2) := by decide +kernel
theorem dX2_value_154 : decode cX2_value 154 = .ok (.iconst 2, 1) := by decide +kernel
theorem dX2_value_155 : decode cX2_value 155 = .ok (.isub, 1) := by decide +kernel
theorem dX2_value_156 : decode cX2_value 156 = .ok (.iaload, 1) := by decide +kernel
theorem dX2_value_157 : decode cX2_value 157 = .ok (.goto 4, 3) := by decide +kernel
theorem dX2_value_160 : decode cX2_value 160 = .ok (.iconst 0, 1) := by decide +kernel
theorem dX2_value_161 : decode cX2_value 161 = .ok (.istore 9, 2) := by decide +kernel
theorem dX2_value_163 : decode cX2_value 163 = .ok (.iload 4, 2) := by decide +kernel
theorem dX2_value_165 : decode cX2_value 165 = .ok (.iload 7, 2) := by decide +kernel
theorem dX2_value_167 : decode cX2_value 167 = .ok (.isub, 1) := by decide +kernel
theorem dX2_value_168 : decode cX2_value 168 = .ok (.istore 4, 2) := by decide +kernel
theorem dX2_value_170 : decode cX2_value 170 = .ok (.aload_n 0, 1) := by decide +kernel
theorem dX2_value_171 : decode cX2_value 171 = .ok (.getfield 18, 3) := by decide +kernel
theorem dX2_value_174 : decode cX2_value 174 = .ok (.iload 4, 2) := by decide +kernel
theorem dX2_value_176 : decode cX2_value 176 = .ok (.iload 6, 2) := by decide +kernel
theorem dX2_value_178 : decode cX2_value 178 = .ok (.ifCond .lt 8, 3) := by decide +kernel
theorem dX2_value_181 : decode cX2_value 181 = .ok (.iload 6, 2) := by decide +kernel
theorem dX2_value_183 : decode cX2_value 183 = .ok (.goto 26, 3) := by decide +kernel
theorem dX2_value_186 : decode cX2_value 186 = .ok (.iload 7, 2) := by decide +kernel
theorem dX2_value_188 : decode cX2_value 188 = .ok (.ifCond .ne 12, 3) := by decide +kernel
theorem dX2_value_191 : decode cX2_value 191 = .ok (.aload_n 0, 1) := by decide +kernel
theorem dX2_value_192 : decode cX2_value 192 = .ok (.iload 6, 2) := by decide +kernel
theorem dX2_value_194 : decode cX2_value 194 = .ok (.invokevirtual 42, 3) := by decide +kernel
theorem dX2_value_197 : decode cX2_value 197 = .ok (.goto 12, 3) := by decide +kernel
theorem dX2_value_200 : decode cX2_value 200 = .ok (.iload 6, 2) := by decide +kernel
theorem dX2_value_202 : decode cX2_value 202 = .ok (.iload 9, 2) := by decide +kernel
theorem dX2_value_204 : decode cX2_value 204 = .ok (.iload 8, 2) := by decide +kernel
theorem dX2_value_206 : decode cX2_value 206 = .ok (.invokestatic 46, 3) := by decide +kernel
theorem dX2_value_209 : decode cX2_value 209 = .ok (.iastore, 1) := by decide +kernel
theorem dX2_value_210 : decode cX2_value 210 = .ok (.iinc 4 1, 3) := by decide +kernel
theorem dX2_value_213 : decode cX2_value 213 = .ok (.iinc 5 1, 3) := by decide +kernel
theorem dX2_value_216 : decode cX2_value 216 = .ok (.goto (-170), 3) := by decide +kernel
theorem dX2_value_219 : decode cX2_value 219 = .ok (.iload 4, 2) := by decide +kernel
theorem dX2_value_221 : decode cX2_value 221 = .ok (.ifCond .le 12, 3) := by decide +kernel
theorem dX2_value_224 : decode cX2_value 224 = .ok (.aload_n 0, 1) := by decide +kernel
theorem dX2_value_225 : decode cX2_value 225 = .ok (.getfield 18, 3) := by decide +kernel
theorem dX2_value_228 : decode cX2_value 228 = .ok (.iconst 0, 1) := by decide +kernel
theorem dX2_value_229 : decode cX2_value 229 = .ok (.iaload, 1) := by decide +kernel
theorem dX2_value_230 : decode cX2_value 230 = .ok (.goto 4, 3) := by decide +kernel
theorem dX2_value_233 : decode cX2_value 233 = .ok (.iconst 0, 1) := by decide +kernel
theorem dX2_value_234 : decode cX2_value 234 = .ok (.ireturn, 1) := by decide +kernel
theorem dX2_named_0 : decode cX2_named 0 = .ok (.iconst (-1), 1) := by decide +kernel
theorem dX2_named_1 : decode cX2_named 1 = .ok (.iload_n 1, 1) := by decide +kernel
theorem dX2_named_2 : decode cX2_named 2 = .ok (.isub, 1) := by decide +kernel
theorem dX2_named_3 : decode cX2_named 3 = .ok (.tableswitch 58 0 4 #[33, 38, 43, 48, 53], 33) := by decide +kernel
theorem dX2_named_36 : decode cX2_named 36 = .ok (.aload_n 0, 1) := by decide +kernel
theorem dX2_named_37 : decode cX2_named 37 = .ok (.getfield 50, 3) := by decide +kernel
theorem dX2_named_40 : decode cX2_named 40 = .ok (.ireturn, 1) := by decide +kernel
theorem dX2_named_41 : decode cX2_named 41 = .ok (.aload_n 0, 1) := by decide +kernel
theorem dX2_named_42 : decode cX2_named 42 = .ok (.getfield 53, 3) := by decide +kernel
theorem dX2_named_45 : decode cX2_named 45 = .ok (.ireturn, 1) := by decide +kernel
theorem dX2_named_46 : decode cX2_named 46 = .ok (.aload_n 0, 1) := by decide +kernel
theorem dX2_named_47 : decode cX2_named 47 = .ok (.getfield 56, 3) := by decide +kernel
theorem dX2_named_50 : decode cX2_named 50 = .ok (.ireturn, 1) := by decide +kernel
theorem dX2_named_51 : decode cX2_named 51 = .ok (.aload_n 0, 1) := by decide +kernel
theorem dX2_named_52 : decode cX2_named 52 = .ok (.getfield 59, 3) := by decide +kernel
theorem dX2_named_55 : decode cX2_named 55 = .ok (.ireturn, 1) := by decide +kernel
theorem dX2_named_56 : decode cX2_named 56 = .ok (.aload_n 0, 1) := by decide +kernel
theorem dX2_named_57 : decode cX2_named 57 = .ok (.getfield 62, 3) := by decide +kernel
theorem dX2_named_60 : decode cX2_named 60 = .ok (.ireturn, 1) := by decide +kernel
theorem dX2_named_61 : decode cX2_named 61 = .ok (.aload_n 0, 1) := by decide +kernel
theorem dX2_named_62 : decode cX2_named 62 = .ok (.getfield 65, 3) := by decide +kernel
theorem dX2_named_65 : decode cX2_named 65 = .ok (.ireturn, 1) := by decide +kernel
theorem dX2_joined_0 : decode cX2_joined 0 = .ok (.iload_n 0, 1) := by decide +kernel
theorem dX2_joined_1 : decode cX2_joined 1 = .ok (.tableswitch 131 (-21) (-11) #[121, 131, 131, 131, 117, 113, 109, 98, 87, 73, 59], 59) := by decide +kernel
theorem dX2_joined_60 : decode cX2_joined 60 = .ok (.iload_n 1, 1) := by decide +kernel
theorem dX2_joined_61 : decode cX2_joined 61 = .ok (.ifCond .ne 7, 3) := by decide +kernel
theorem dX2_joined_64 : decode cX2_joined 64 = .ok (.iload_n 2, 1) := by decide +kernel
theorem dX2_joined_65 : decode cX2_joined 65 = .ok (.ifCond .eq 7, 3) := by decide +kernel
theorem dX2_joined_68 : decode cX2_joined 68 = .ok (.iconst 1, 1) := by decide +kernel
theorem dX2_joined_69 : decode cX2_joined 69 = .ok (.goto 4, 3) := by decide +kernel
theorem dX2_joined_72 : decode cX2_joined 72 = .ok (.iconst 0, 1) := by decide +kernel
theorem dX2_joined_73 : decode cX2_joined 73 = .ok (.ireturn, 1) := by decide +kernel
theorem dX2_joined_74 : decode cX2_joined 74 = .ok (.iload_n 1, 1) := by decide +kernel
theorem dX2_joined_75 : decode cX2_joined 75 = .ok (.ifCond .eq 11, 3) := by decide +kernel
theorem dX2_joined_78 : decode cX2_joined 78 = .ok (.iload_n 2, 1) := by decide +kernel
theorem dX2_joined_79 : decode cX2_joined 79 = .ok (.ifCond .eq 7, 3) := by decide +kernel
theorem dX2_joined_82 : decode cX2_joined 82 = .ok (.iconst 1, 1) := by decide +kernel
theorem dX2_joined_83 : decode cX2_joined 83 = .ok (.goto 4, 3) := by decide +kernel
theorem dX2_joined_86 : decode cX2_joined 86 = .ok (.iconst 0, 1) := by decide +kernel
theorem dX2_joined_87 : decode cX2_joined 87 = .ok (.ireturn, 1) := by decide +kernel
theorem dX2_joined_88 : decode cX2_joined 88 = .ok (.iload_n 1, 1) := by decide +kernel
theorem dX2_joined_89 : decode cX2_joined 89 = .ok (.iload_n 2, 1) := by decide +kernel
theorem dX2_joined_90 : decode cX2_joined 90 = .ok (.if_icmp .ge 7, 3) := by decide +kernel
theorem dX2_joined_93 : decode cX2_joined 93 = .ok (.iconst 1, 1) := by decide +kernel
theorem dX2_joined_94 : decode cX2_joined 94 = .ok (.goto 4, 3) := by decide +kernel
theorem dX2_joined_97 : decode cX2_joined 97 = .ok (.iconst 0, 1) := by decide +kernel
theorem dX2_joined_98 : decode cX2_joined 98 = .ok (.ireturn, 1) := by decide +kernel
theorem dX2_joined_99 : decode cX2_joined 99 = .ok (.iload_n 1, 1) := by decide +kernel
theorem dX2_joined_100 : decode cX2_joined 100 = .ok (.iload_n 2, 1) := by decide +kernel
theorem dX2_joined_101 : decode cX2_joined 101 = .ok (.if_icmp .ne 7, 3) := by decide +kernel
theorem dX2_joined_104 : decode cX2_joined 104 = .ok (.iconst 1, 1) := by decide +kernel
theorem dX2_joined_105 : decode cX2_joined 105 = .ok (.goto 4, 3) := by decide +kernel
theorem dX2_joined_108 : decode cX2_joined 108 = .ok (.iconst 0, 1) := by decide +kernel
theorem dX2_joined_109 : decode cX2_joined 109 = .ok (.ireturn, 1) := by decide +kernel
theorem dX2_joined_110 : decode cX2_joined 110 = .ok (.iload_n 1, 1) := by decide +kernel
theorem dX2_joined_111 : decode cX2_joined 111 = .ok (.iload_n 2, 1) := by decide +kernel
theorem dX2_joined_112 : decode cX2_joined 112 = .ok (.iadd, 1) := by decide +kernel
theorem dX2_joined_113 : decode cX2_joined 113 = .ok (.ireturn, 1) := by decide +kernel
theorem dX2_joined_114 : decode cX2_joined 114 = .ok (.iload_n 1, 1) := by decide +kernel
theorem dX2_joined_115 : decode cX2_joined 115 = .ok (.iload_n 2, 1) := by decide +kernel
theorem dX2_joined_116 : decode cX2_joined 116 = .ok (.isub, 1) := by decide +kernel
theorem dX2_joined_117 : decode cX2_joined 117 = .ok (.ireturn, 1) := by decide +kernel
theorem dX2_joined_118 : decode cX2_joined 118 = .ok (.iload_n 1, 1) := by decide +kernel
theorem dX2_joined_119 : decode cX2_joined 119 = .ok (.iload_n 2, 1) := by decide +kernel
theorem dX2_joined_120 : decode cX2_joined 120 = .ok (.imul, 1) := by decide +kernel
theorem dX2_joined_121 : decode cX2_joined 121 = .ok (.ireturn, 1) := by decide +kernel
theorem dX2_joined_122 : decode cX2_joined 122 = .ok (.iload_n 2, 1) := by decide +kernel
theorem dX2_joined_123 : decode cX2_joined 123 = .ok (.ifCond .ne 7, 3) := by decide +kernel
theorem dX2_joined_126 : decode cX2_joined 126 = .ok (.iconst 1, 1) := by decide +kernel
theorem dX2_joined_127 : decode cX2_joined 127 = .ok (.goto 4, 3) := by decide +kernel
theorem dX2_joined_130 : decode cX2_joined 130 = .ok (.iconst 0, 1) := by decide +kernel
theorem dX2_joined_131 : decode cX2_joined 131 = .ok (.ireturn, 1) := by decide +kernel
theorem dX2_joined_132 : decode cX2_joined 132 = .ok (.iload_n 2, 1) := by decide +kernel
theorem dX2_joined_133 : decode cX2_joined 133 = .ok (.ineg, 1) := by decide +kernel
theorem dX2_joined_134 : decode cX2_joined 134 = .ok (.ireturn, 1) := by decide +kernel
theorem dX3_init_0 : decode cX3_init 0 = .ok (.aload_n 0, 1) := by decide +kernel
theorem dX3_init_1 : decode cX3_init 1 = .ok (.invokespecial 3, 3) := by decide +kernel
theorem dX3_init_4 : decode cX3_init 4 = .ok (.aload_n 0, 1) := by decide +kernel
theorem dX3_init_5 : decode cX3_init 5 = .ok (.iconst 1, 1) := by decide +kernel
theorem dX3_init_6 : decode cX3_init 6 = .ok (.putfield 9, 3) := by decide +kernel
theorem dX3_init_9 : decode cX3_init 9 = .ok (.aload_n 0, 1) := by decide +kernel
theorem dX3_init_10 : decode cX3_init 10 = .ok (.iconst 5, 1) := by decide +kernel
theorem dX3_init_11 : decode cX3_init 11 = .ok (.newarray .int, 2) := by decide +kernel
theorem dX3_init_13 : decode cX3_init 13 = .ok (.putfield 15, 3) := by decide +kernel
theorem dX3_init_16 : decode cX3_init 16 = .ok (.aload_n 0, 1) := by decide +kernel
theorem dX3_init_17 : decode cX3_init 17 = .ok (.iconst 5, 1) := by decide +kernel
theorem dX3_init_18 : decode cX3_init 18 = .ok (.newarray .int, 2) := by decide +kernel
theorem dX3_init_20 : decode cX3_init 20 = .ok (.putfield 19, 3) := by decide +kernel
theorem dX3_init_23 : decode cX3_init 23 = .ok (.aload_n 0, 1) := by decide +kernel
theorem dX3_init_24 : decode cX3_init 24 = .ok (.iconst 5, 1) := by decide +kernel
theorem dX3_init_25 : decode cX3_init 25 = .ok (.newarray .int, 2) := by decide +kernel
theorem dX3_init_27 : decode cX3_init 27 = .ok (.putfield 22, 3) := by decide +kernel
theorem dX3_init_30 : decode cX3_init 30 = .ok (.aload_n 0, 1) := by decide +kernel
theorem dX3_init_31 : decode cX3_init 31 = .ok (.bipush 8, 2) := by decide +kernel
theorem dX3_init_33 : decode cX3_init 33 = .ok (.newarray .int, 2) := by decide +kernel
theorem dX3_init_35 : decode cX3_init 35 = .ok (.putfield 25, 3) := by decide +kernel
theorem dX3_init_38 : decode cX3_init 38 = .ok (.aload_n 0, 1) := by decide +kernel
theorem dX3_init_39 : decode cX3_init 39 = .ok (.bipush 8, 2) := by decide +kernel
theorem dX3_init_41 : decode cX3_init 41 = .ok (.newarray .int, 2) := by decide +kernel
theorem dX3_init_43 : decode cX3_init 43 = .ok (.putfield 28, 3) := by decide +kernel
theorem dX3_init_46 : decode cX3_init 46 = .ok (.aload_n 0, 1) := by decide +kernel
theorem dX3_init_47 : decode cX3_init 47 = .ok (.bipush 8, 2) := by decide +kernel
theorem dX3_init_49 : decode cX3_init 49 = .ok (.newarray .int, 2) := by decide +kernel
theorem dX3_init_51 : decode cX3_init 51 = .ok (.putfield 31, 3) := by decide +kernel
theorem dX3_init_54 : decode cX3_init 54 = .ok (.aload_n 0, 1) := by decide +kernel
theorem dX3_init_55 : decode cX3_init 55 = .ok (.bipush 8, 2) := by decide +kernel
theorem dX3_init_57 : decode cX3_init 57 = .ok (.newarray .int, 2) := by decide +kernel
theorem dX3_init_59 : decode cX3_init 59 = .ok (.putfield 34, 3) := by decide +kernel
theorem dX3_init_62 : decode cX3_init 62 = .ok (.aload_n 0, 1) := by decide +kernel
theorem dX3_init_63 : decode cX3_init 63 = .ok (.bipush 8, 2) := by decide +kernel
theorem dX3_init_65 : decode cX3_init 65 = .ok (.newarray .int, 2) := by decide +kernel
theorem dX3_init_67 : decode cX3_init 67 = .ok (.putfield 37, 3) := by decide +kernel
theorem dX3_init_70 : decode cX3_init 70 = .ok (.aload_n 0, 1) := by decide +kernel
theorem dX3_init_71 : decode cX3_init 71 = .ok (.aload_n 1, 1) := by decide +kernel
theorem dX3_init_72 : decode cX3_init 72 = .ok (.putfield 40, 3) := by decide +kernel
theorem dX3_init_75 : decode cX3_init 75 = .ok (.return_, 1) := by decide +kernel
theorem dX3_takeOver_0 : decode cX3_takeOver 0 = .ok (.aload_n 0, 1) := by decide +kernel
theorem dX3_takeOver_1 : decode cX3_takeOver 1 = .ok (.aload_n 1, 1) := by decide +kernel
theorem dX3_takeOver_2 : decode cX3_takeOver 2 = .ok (.getfield 44, 3) := by decide +kernel
theorem dX3_takeOver_5 : decode cX3_takeOver 5 = .ok (.putfield 44, 3) := by decide +kernel
theorem dX3_takeOver_8 : decode cX3_takeOver 8 = .ok (.aload_n 0, 1) := by decide +kernel
theorem dX3_takeOver_9 : decode cX3_takeOver 9 = .ok (.aload_n 1, 1) := by decide +kernel
theorem dX3_takeOver_10 : decode cX3_takeOver 10 = .ok (.getfield 9, 3) := by decide +kernel
theorem dX3_takeOver_13 : decode cX3_takeOver 13 = .ok (.putfield 9, 3) := by decide +kernel
theorem dX3_takeOver_16 : decode cX3_takeOver 16 = .ok (.aload_n 0, 1) := by decide +kernel
theorem dX3_takeOver_17 : decode cX3_takeOver 17 = .ok (.aload_n 1, 1) := by decide +kernel
theorem dX3_takeOver_18 : decode cX3_takeOver 18 = .ok (.getfield 47, 3) := by decide +kernel
theorem dX3_takeOver_21 : decode cX3_takeOver 21 = .ok (.putfield 47, 3) := by decide +kernel
theorem dX3_takeOver_24 : decode cX3_takeOver 24 = .ok (.aload_n 0, 1) := by decide +kernel
theorem dX3_takeOver_25 : decode cX3_takeOver 25 = .ok (.aload_n 1, 1) := by decide +kernel
theorem dX3_takeOver_26 : decode cX3_takeOver 26 = .ok (.getfield 50, 3) := by decide +kernel
theorem dX3_takeOver_29 : decode cX3_takeOver 29 = .ok (.putfield 50, 3) := by decide +kernel
theorem dX3_takeOver_32 : decode cX3_takeOver 32 = .ok (.aload_n 0, 1) := by decide +kernel
theorem dX3_takeOver_33 : decode cX3_takeOver 33 = .ok (.aload_n 1, 1) := by decide +kernel
theorem dX3_takeOver_34 : decode cX3_takeOver 34 = .ok (.getfield 53, 3) := by decide +kernel
theorem dX3_takeOver_37 : decode cX3_takeOver 37 = .ok (.putfield 53, 3) := by decide +kernel
theorem dX3_takeOver_40 : decode cX3_takeOver 40 = .ok (.aload_n 0, 1) := by decide +kernel
theorem dX3_takeOver_41 : decode cX3_takeOver 41 = .ok (.iconst 0, 1) := by decide +kernel
theorem dX3_takeOver_42 : decode cX3_takeOver 42 = .ok (.putfield 56, 3) := by decide +kernel
theorem dX3_takeOver_45 : decode cX3_takeOver 45 = .ok (.iconst 0, 1) := by decide +kernel
theorem dX3_takeOver_46 : decode cX3_takeOver 46 = .ok (.istore_n 2, 1) := by decide +kernel
theorem dX3_takeOver_47 : decode cX3_takeOver 47 = .ok (.iload_n 2, 1) := by decide +kernel
theorem dX3_takeOver_48 : decode cX3_takeOver 48 = .ok (.iconst 5, 1) := by decide +kernel
theorem dX3_takeOver_49 : decode cX3_takeOver 49 = .ok (.if_icmp .ge 45, 3) := by decide +kernel
theorem dX3_takeOver_52 : decode cX3_takeOver 52 = .ok (.aload_n 0, 1) := by decide +kernel
theorem dX3_takeOver_53 : decode cX3_takeOver 53 = .ok (.getfield 15, 3) := by decide +kernel
theorem dX3_takeOver_56 : decode cX3_takeOver 56 = .ok (.iload_n 2, 1) := by decide +kernel
theorem dX3_takeOver_57 : decode cX3_takeOver 57 = .ok (.aload_n 1, 1) := by decide +kernel
theorem dX3_takeOver_58 : decode cX3_takeOver 58 = .ok (.getfield 15, 3) := by decide +kernel
theorem dX3_takeOver_61 : decode cX3_takeOver 61 = .ok (.iload_n 2, 1) := by decide +kernel
theorem dX3_takeOver_62 : decode cX3_takeOver 62 = .ok (.iaload, 1) := by decide +kernel
theorem dX3_takeOver_63 : decode cX3_takeOver 63 = .ok (.iastore, 1) := by decide +kernel
theorem dX3_takeOver_64 : decode cX3_takeOver 64 = .ok (.aload_n 0, 1) := by decide +kernel
theorem dX3_takeOver_65 : decode cX3_takeOver 65 = .ok (.getfield 19, 3) := by decide +kernel
theorem dX3_takeOver_68 : decode cX3_takeOver 68 = .ok (.iload_n 2, 1) := by decide +kernel
theorem dX3_takeOver_69 : decode cX3_takeOver 69 = .ok (.aload_n 1, 1) := by decide +kernel
theorem dX3_takeOver_70 : decode cX3_takeOver 70 = .ok (.getfield 19, 3) := by decide +kernel
theorem dX3_takeOver_73 : decode cX3_takeOver 73 = .ok (.iload_n 2, 1) := by decide +kernel
theorem dX3_takeOver_74 : decode cX3_takeOver 74 = .ok (.iaload, 1) := by decide +kernel
theorem dX3_takeOver_75 : decode cX3_takeOver 75 = .ok (.iastore, 1) := by decide +kernel
theorem dX3_takeOver_76 : decode cX3_takeOver 76 = .ok (.aload_n 0, 1) := by decide +kernel
theorem dX3_takeOver_77 : decode cX3_takeOver 77 = .ok (.getfield 22, 3) := by decide +kernel
theorem dX3_takeOver_80 : decode cX3_takeOver 80 = .ok (.iload_n 2, 1) := by decide +kernel
theorem dX3_takeOver_81 : decode cX3_takeOver 81 = .ok (.aload_n 1, 1) := by decide +kernel
theorem dX3_takeOver_82 : decode cX3_takeOver 82 = .ok (.getfield 22, 3) := by decide +kernel
theorem dX3_takeOver_85 : decode cX3_takeOver 85 = .ok (.iload_n 2, 1) := by decide +kernel
theorem dX3_takeOver_86 : decode cX3_takeOver 86 = .ok (.iaload, 1) := by decide +kernel
theorem dX3_takeOver_87 : decode cX3_takeOver 87 = .ok (.iastore, 1) := by decide +kernel
theorem dX3_takeOver_88 : decode cX3_takeOver 88 = .ok (.iinc 2 1, 3) := by decide +kernel
theorem dX3_takeOver_91 : decode cX3_takeOver 91 = .ok (.goto (-44), 3) := by decide +kernel
theorem dX3_takeOver_94 : decode cX3_takeOver 94 = .ok (.iconst 0, 1) := by decide +kernel
theorem dX3_takeOver_95 : decode cX3_takeOver 95 = .ok (.istore_n 2, 1) := by decide +kernel
theorem dX3_takeOver_96 : decode cX3_takeOver 96 = .ok (.iload_n 2, 1) := by decide +kernel
theorem dX3_takeOver_97 : decode cX3_takeOver 97 = .ok (.bipush 8, 2) := by decide +kernel
theorem dX3_takeOver_99 : decode cX3_takeOver 99 = .ok (.if_icmp .ge 69, 3) := by decide +kernel
theorem dX3_takeOver_102 : decode cX3_takeOver 102 = .ok (.aload_n 0, 1) := by decide +kernel
theorem dX3_takeOver_103 : decode cX3_takeOver 103 = .ok (.getfield 25, 3) := by decide +kernel
theorem dX3_takeOver_106 : decode cX3_takeOver 106 = .ok (.iload_n 2, 1) := by decide +kernel
theorem dX3_takeOver_107 : decode cX3_takeOver 107 = .ok (.aload_n 1, 1) := by decide +kernel
theorem dX3_takeOver_108 : decode cX3_takeOver 108 = .ok (.getfield 25, 3) := by decide +kernel
theorem dX3_takeOver_111 : decode cX3_takeOver 111 = .ok (.iload_n 2, 1) := by decide +kernel
theorem dX3_takeOver_112 : decode cX3_takeOver 112 = .ok (.iaload, 1) := by decide +kernel
theorem dX3_takeOver_113 : decode cX3_takeOver 113 = .ok (.iastore, 1) := by decide +kernel
theorem dX3_takeOver_114 : decode cX3_takeOver 114 = .ok (.aload_n 0, 1) := by decide +kernel
theorem dX3_takeOver_115 : decode cX3_takeOver 115 = .ok (.getfield 28, 3) := by decide +kernel
theorem dX3_takeOver_118 : decode cX3_takeOver 118 = .ok (.iload_n 2, 1) := by decide +kernel
theorem dX3_takeOver_119 : decode cX3_takeOver 119 = .ok (.aload_n 1, 1) := by decide +kernel
theorem dX3_takeOver_120 : decode cX3_takeOver 120 = .ok (.getfield 28, 3) := by decide +kernel
theorem dX3_takeOver_123 : decode cX3_takeOver 123 = .ok (.iload_n 2, 1) := by decide +kernel
theorem dX3_takeOver_124 : decode cX3_takeOver 124 = .ok (.iaload, 1) := by decide +kernel
theorem dX3_takeOver_125 : decode cX3_takeOver 125 = .ok (.iastore, 1) := by decide +kernel
theorem dX3_takeOver_126 : decode cX3_takeOver 126 = .ok (.aload_n 0, 1) := by decide +kernel
theorem dX3_takeOver_127 : decode cX3_takeOver 127 = .ok (.getfield 31, 3) := by decide +kernel
theorem dX3_takeOver_130 : decode cX3_takeOver 130 = .ok (.iload_n 2, 1) := by decide +kernel
theorem dX3_takeOver_131 : decode cX3_takeOver 131 = .ok (.aload_n 1, 1) := by decide +kernel
theorem dX3_takeOver_132 : decode cX3_takeOver 132 = .ok (.getfield 31, 3) := by decide +kernel
theorem dX3_takeOver_135 : decode cX3_takeOver 135 = .ok (.iload_n 2, 1) := by decide +kernel
theorem dX3_takeOver_136 : decode cX3_takeOver 136 = .ok (.iaload, 1) := by decide +kernel
theorem dX3_takeOver_137 : decode cX3_takeOver 137 = .ok (.iastore, 1) := by decide +kernel
theorem dX3_takeOver_138 : decode cX3_takeOver 138 = .ok (.aload_n 0, 1) := by decide +kernel
theorem dX3_takeOver_139 : decode cX3_takeOver 139 = .ok (.getfield 34, 3) := by decide +kernel
theorem dX3_takeOver_142 : decode cX3_takeOver 142 = .ok (.iload_n 2, 1) := by decide +kernel
theorem dX3_takeOver_143 : decode cX3_takeOver 143 = .ok (.aload_n 1, 1) := by decide +kernel
theorem dX3_takeOver_144 : decode cX3_takeOver 144 = .ok (.getfield 34, 3) := by decide +kernel
theorem dX3_takeOver_147 : decode cX3_takeOver 147 = .ok (.iload_n 2, 1) := by decide +kernel
theorem dX3_takeOver_148 : decode cX3_takeOver 148 = .ok (.iaload, 1) := by decide +kernel
theorem dX3_takeOver_149 : decode cX3_takeOver 149 = .ok (.iastore, 1) := by decide +kernel
theorem dX3_takeOver_150 : decode cX3_takeOver 150 = .ok (.aload_n 0, 1) := by decide +kernel
theorem dX3_takeOver_151 : decode cX3_takeOver 151 = .ok (.getfield 37, 3) := by decide +kernel
theorem dX3_takeOver_154 : decode cX3_takeOver 154 = .ok (.iload_n 2, 1) := by decide +kernel
theorem dX3_takeOver_155 : decode cX3_takeOver 155 = .ok (.aload_n 1, 1) := by decide +kernel
theorem dX3_takeOver_156 : decode cX3_takeOver 156 = .ok (.getfield 37, 3) := by decide +kernel
theorem dX3_takeOver_159 : decode cX3_takeOver 159 = .ok (.iload_n 2, 1) := by decide +kernel
theorem dX3_takeOver_160 : decode cX3_takeOver 160 = .ok (.iaload, 1) := by decide +kernel
theorem dX3_takeOver_161 : decode cX3_takeOver 161 = .ok (.iastore, 1) := by decide +kernel
theorem dX3_takeOver_162 : decode cX3_takeOver 162 = .ok (.iinc 2 1, 3) := by decide +kernel
theorem dX3_takeOver_165 : decode cX3_takeOver 165 = .ok (.goto (-69), 3) := by decide +kernel
theorem dX3_takeOver_168 : decode cX3_takeOver 168 = .ok (.return_, 1) := by decide +kernel
theorem dX3_isOne_0 : decode cX3_isOne 0 = .ok (.iload_n 1, 1) := by decide +kernel
theorem dX3_isOne_1 : decode cX3_isOne 1 = .ok (.ifCond .lt 20, 3) := by decide +kernel
theorem dX3_isOne_4 : decode cX3_isOne 4 = .ok (.iload_n 1, 1) := by decide +kernel
theorem dX3_isOne_5 : decode cX3_isOne 5 = .ok (.aload_n 0, 1) := by decide +kernel
theorem dX3_isOne_6 : decode cX3_isOne 6 = .ok (.getfield 50, 3) := by decide +kernel
theorem dX3_isOne_9 : decode cX3_isOne 9 = .ok (.if_icmp .ge 12, 3) := by decide +kernel
theorem dX3_isOne_12 : decode cX3_isOne 12 = .ok (.iload_n 1, 1) := by decide +kernel
theorem dX3_isOne_13 : decode cX3_isOne 13 = .ok (.iconst 5, 1) := by decide +kernel
theorem dX3_isOne_14 : decode cX3_isOne 14 = .ok (.if_icmp .ge 7, 3) := by decide +kernel
theorem dX3_isOne_17 : decode cX3_isOne 17 = .ok (.iconst 1, 1) := by decide +kernel
theorem dX3_isOne_18 : decode cX3_isOne 18 = .ok (.goto 4, 3) := by decide +kernel
theorem dX3_isOne_21 : decode cX3_isOne 21 = .ok (.iconst 0, 1) := by decide +kernel
theorem dX3_isOne_22 : decode cX3_isOne 22 = .ok (.ireturn, 1) := by decide +kernel
theorem dX3_areTwo_0 : decode cX3_areTwo 0 = .ok (.aload_n 0, 1) := by decide +kernel
theorem dX3_areTwo_1 : decode cX3_areTwo 1 = .ok (.iload_n 1, 1) := by decide +kernel
theorem dX3_areTwo_2 : decode cX3_areTwo 2 = .ok (.invokevirtual 59, 3) := by decide +kernel
theorem dX3_areTwo_5 : decode cX3_areTwo 5 = .ok (.ifCond .eq 20, 3) := by decide +kernel
theorem dX3_areTwo_8 : decode cX3_areTwo 8 = .ok (.aload_n 0, 1) := by decide +kernel
theorem dX3_areTwo_9 : decode cX3_areTwo 9 = .ok (.iload_n 2, 1) := by decide +kernel
theorem dX3_areTwo_10 : decode cX3_areTwo 10 = .ok (.invokevirtual 59, 3) := by decide +kernel
theorem dX3_areTwo_13 : decode cX3_areTwo 13 = .ok (.ifCond .eq 12, 3) := by decide +kernel
theorem dX3_areTwo_16 : decode cX3_areTwo 16 = .ok (.iload_n 1, 1) := by decide +kernel
theorem dX3_areTwo_17 : decode cX3_areTwo 17 = .ok (.iload_n 2, 1) := by decide +kernel
theorem dX3_areTwo_18 : decode cX3_areTwo 18 = .ok (.if_icmp .eq 7, 3) := by decide +kernel
theorem dX3_areTwo_21 : decode cX3_areTwo 21 = .ok (.iconst 1, 1) := by decide +kernel
theorem dX3_areTwo_22 : decode cX3_areTwo 22 = .ok (.goto 4, 3) := by decide +kernel
theorem dX3_areTwo_25 : decode cX3_areTwo 25 = .ok (.iconst 0, 1) := by decide +kernel
theorem dX3_areTwo_26 : decode cX3_areTwo 26 = .ok (.ireturn, 1) := by decide +kernel
theorem dX3_isLetter_0 : decode cX3_isLetter 0 = .ok (.iload_n 1, 1) := by decide +kernel
theorem dX3_isLetter_1 : decode cX3_isLetter 1 = .ok (.ifCond .lt 21, 3) := by decide +kernel
theorem dX3_isLetter_4 : decode cX3_isLetter 4 = .ok (.iload_n 1, 1) := by decide +kernel
theorem dX3_isLetter_5 : decode cX3_isLetter 5 = .ok (.aload_n 0, 1) := by decide +kernel
theorem dX3_isLetter_6 : decode cX3_isLetter 6 = .ok (.getfield 53, 3) := by decide +kernel
theorem dX3_isLetter_9 : decode cX3_isLetter 9 = .ok (.if_icmp .ge 13, 3) := by decide +kernel
theorem dX3_isLetter_12 : decode cX3_isLetter 12 = .ok (.iload_n 1, 1) := by decide +kernel
theorem dX3_isLetter_13 : decode cX3_isLetter 13 = .ok (.bipush 8, 2) := by decide +kernel
theorem dX3_isLetter_15 : decode cX3_isLetter 15 = .ok (.if_icmp .ge 7, 3) := by decide +kernel
theorem dX3_isLetter_18 : decode cX3_isLetter 18 = .ok (.iconst 1, 1) := by decide +kernel
theorem dX3_isLetter_19 : decode cX3_isLetter 19 = .ok (.goto 4, 3) := by decide +kernel
theorem dX3_isLetter_22 : decode cX3_isLetter 22 = .ok (.iconst 0, 1) := by decide +kernel
theorem dX3_isLetter_23 : decode cX3_isLetter 23 = .ok (.ireturn, 1) := by decide +kernel
theorem dX3_hasRoom_0 : decode cX3_hasRoom 0 = .ok (.aload_n 0, 1) := by decide +kernel
theorem dX3_hasRoom_1 : decode cX3_hasRoom 1 = .ok (.getfield 53, 3) := by decide +kernel
theorem dX3_hasRoom_4 : decode cX3_hasRoom 4 = .ok (.bipush 8, 2) := by decide +kernel
theorem dX3_hasRoom_6 : decode cX3_hasRoom 6 = .ok (.if_icmp .ge 7, 3) := by decide +kernel
theorem dX3_hasRoom_9 : decode cX3_hasRoom 9 = .ok (.iconst 1, 1) := by decide +kernel
theorem dX3_hasRoom_10 : decode cX3_hasRoom 10 = .ok (.goto 4, 3) := by decide +kernel
theorem dX3_hasRoom_13 : decode cX3_hasRoom 13 = .ok (.iconst 0, 1) := by decide +kernel
theorem dX3_hasRoom_14 : decode cX3_hasRoom 14 = .ok (.ireturn, 1) := by decide +kernel
theorem dX3_kindOf_0 : decode cX3_kindOf 0 = .ok (.aload_n 0, 1) := by decide +kernel
theorem dX3_kindOf_1 : decode cX3_kindOf 1 = .ok (.iload_n 1, 1) := by decide +kernel
theorem dX3_kindOf_2 : decode cX3_kindOf 2 = .ok (.invokevirtual 59, 3) := by decide +kernel
theorem dX3_kindOf_5 : decode cX3_kindOf 5 = .ok (.ifCond .eq 12, 3) := by decide +kernel
theorem dX3_kindOf_8 : decode cX3_kindOf 8 = .ok (.aload_n 0, 1) := by decide +kernel
theorem dX3_kindOf_9 : decode cX3_kindOf 9 = .ok (.getfield 15, 3) := by decide +kernel
theorem dX3_kindOf_12 : decode cX3_kindOf 12 = .ok (.iload_n 1, 1) := by decide +kernel
theorem dX3_kindOf_13 : decode cX3_kindOf 13 = .ok (.iaload, 1) := by decide +kernel
theorem dX3_kindOf_14 : decode cX3_kindOf 14 = .ok (.goto 4, 3) := by decide +kernel
theorem dX3_kindOf_17 : decode cX3_kindOf 17 = .ok (.iconst (-1), 1) := by decide +kernel
theorem dX3_kindOf_18 : decode cX3_kindOf 18 = .ok (.ireturn, 1) := by decide +kernel
theorem dX3_numberOf_0 : decode cX3_numberOf 0 = .ok (.aload_n 0, 1) := by decide +kernel
theorem dX3_numberOf_1 : decode cX3_numberOf 1 = .ok (.iload_n 1, 1) := by decide +kernel
theorem dX3_numberOf_2 : decode cX3_numberOf 2 = .ok (.invokevirtual 59, 3) := by decide +kernel
theorem dX3_numberOf_5 : decode cX3_numberOf 5 = .ok (.ifCond .eq 12, 3) := by decide +kernel
theorem dX3_numberOf_8 : decode cX3_numberOf 8 = .ok (.aload_n 0, 1) := by decide +kernel
theorem dX3_numberOf_9 : decode cX3_numberOf 9 = .ok (.getfield 19, 3) := by decide +kernel
theorem dX3_numberOf_12 : decode cX3_numberOf 12 = .ok (.iload_n 1, 1) := by decide +kernel
theorem dX3_numberOf_13 : decode cX3_numberOf 13 = .ok (.iaload, 1) := by decide +kernel
theorem dX3_numberOf_14 : decode cX3_numberOf 14 = .ok (.goto 4, 3) := by decide +kernel
theorem dX3_numberOf_17 : decode cX3_numberOf 17 = .ok (.iconst (-1), 1) := by decide +kernel
theorem dX3_numberOf_18 : decode cX3_numberOf 18 = .ok (.ireturn, 1) := by decide +kernel
theorem dX3_houseOf_0 : decode cX3_houseOf 0 = .ok (.aload_n 0, 1) := by decide +kernel
theorem dX3_houseOf_1 : decode cX3_houseOf 1 = .ok (.iload_n 1, 1) := by decide +kernel
theorem dX3_houseOf_2 : decode cX3_houseOf 2 = .ok (.invokevirtual 59, 3) := by decide +kernel
theorem dX3_houseOf_5 : decode cX3_houseOf 5 = .ok (.ifCond .eq 12, 3) := by decide +kernel
theorem dX3_houseOf_8 : decode cX3_houseOf 8 = .ok (.aload_n 0, 1) := by decide +kernel
theorem dX3_houseOf_9 : decode cX3_houseOf 9 = .ok (.getfield 22, 3) := by decide +kernel
theorem dX3_houseOf_12 : decode cX3_houseOf 12 = .ok (.iload_n 1, 1) := by decide +kernel
theorem dX3_houseOf_13 : decode cX3_houseOf 13 = .ok (.iaload, 1) := by decide +kernel
theorem dX3_houseOf_14 : decode cX3_houseOf 14 = .ok (.goto 4, 3) := by decide +kernel
theorem dX3_houseOf_17 : decode cX3_houseOf 17 = .ok (.iconst (-1), 1) := by decide +kernel
theorem dX3_houseOf_18 : decode cX3_houseOf 18 = .ok (.ireturn, 1) := by decide +kernel
theorem dX3_fromWhom_0 : decode cX3_fromWhom 0 = .ok (.aload_n 0, 1) := by decide +kernel
theorem dX3_fromWhom_1 : decode cX3_fromWhom 1 = .ok (.iload_n 1, 1) := by decide +kernel
theorem dX3_fromWhom_2 : decode cX3_fromWhom 2 = .ok (.invokevirtual 63, 3) := by decide +kernel
theorem dX3_fromWhom_5 : decode cX3_fromWhom 5 = .ok (.ifCond .eq 12, 3) := by decide +kernel
theorem dX3_fromWhom_8 : decode cX3_fromWhom 8 = .ok (.aload_n 0, 1) := by decide +kernel
theorem dX3_fromWhom_9 : decode cX3_fromWhom 9 = .ok (.getfield 25, 3) := by decide +kernel
theorem dX3_fromWhom_12 : decode cX3_fromWhom 12 = .ok (.iload_n 1, 1) := by decide +kernel
theorem dX3_fromWhom_13 : decode cX3_fromWhom 13 = .ok (.iaload, 1) := by decide +kernel
theorem dX3_fromWhom_14 : decode cX3_fromWhom 14 = .ok (.goto 4, 3) := by decide +kernel
theorem dX3_fromWhom_17 : decode cX3_fromWhom 17 = .ok (.iconst (-1), 1) := by decide +kernel
theorem dX3_fromWhom_18 : decode cX3_fromWhom 18 = .ok (.ireturn, 1) := by decide +kernel
theorem dX3_toWhom_0 : decode cX3_toWhom 0 = .ok (.aload_n 0, 1) := by decide +kernel
theorem dX3_toWhom_1 : decode cX3_toWhom 1 = .ok (.iload_n 1, 1) := by decide +kernel
theorem dX3_toWhom_2 : decode cX3_toWhom 2 = .ok (.invokevirtual 63, 3) := by decide +kernel
theorem dX3_toWhom_5 : decode cX3_toWhom 5 = .ok (.ifCond .eq 12, 3) := by decide +kernel
theorem dX3_toWhom_8 : decode cX3_toWhom 8 = .ok (.aload_n 0, 1) := by decide +kernel
theorem dX3_toWhom_9 : decode cX3_toWhom 9 = .ok (.getfield 28, 3) := by decide +kernel
theorem dX3_toWhom_12 : decode cX3_toWhom 12 = .ok (.iload_n 1, 1) := by decide +kernel
theorem dX3_toWhom_13 : decode cX3_toWhom 13 = .ok (.iaload, 1) := by decide +kernel
theorem dX3_toWhom_14 : decode cX3_toWhom 14 = .ok (.goto 4, 3) := by decide +kernel
theorem dX3_toWhom_17 : decode cX3_toWhom 17 = .ok (.iconst (-1), 1) := by decide +kernel
theorem dX3_toWhom_18 : decode cX3_toWhom 18 = .ok (.ireturn, 1) := by decide +kernel
theorem dX3_whereIs_0 : decode cX3_whereIs 0 = .ok (.aload_n 0, 1) := by decide +kernel
theorem dX3_whereIs_1 : decode cX3_whereIs 1 = .ok (.iload_n 1, 1) := by decide +kernel
theorem dX3_whereIs_2 : decode cX3_whereIs 2 = .ok (.invokevirtual 63, 3) := by decide +kernel
theorem dX3_whereIs_5 : decode cX3_whereIs 5 = .ok (.ifCond .eq 12, 3) := by decide +kernel
theorem dX3_whereIs_8 : decode cX3_whereIs 8 = .ok (.aload_n 0, 1) := by decide +kernel
theorem dX3_whereIs_9 : decode cX3_whereIs 9 = .ok (.getfield 31, 3) := by decide +kernel
theorem dX3_whereIs_12 : decode cX3_whereIs 12 = .ok (.iload_n 1, 1) := by decide +kernel
theorem dX3_whereIs_13 : decode cX3_whereIs 13 = .ok (.iaload, 1) := by decide +kernel
theorem dX3_whereIs_14 : decode cX3_whereIs 14 = .ok (.goto 4, 3) := by decide +kernel
theorem dX3_whereIs_17 : decode cX3_whereIs 17 = .ok (.iconst (-1), 1) := by decide +kernel
theorem dX3_whereIs_18 : decode cX3_whereIs 18 = .ok (.ireturn, 1) := by decide +kernel
theorem dX3_toneOf_0 : decode cX3_toneOf 0 = .ok (.aload_n 0, 1) := by decide +kernel
theorem dX3_toneOf_1 : decode cX3_toneOf 1 = .ok (.iload_n 1, 1) := by decide +kernel
theorem dX3_toneOf_2 : decode cX3_toneOf 2 = .ok (.invokevirtual 63, 3) := by decide +kernel
theorem dX3_toneOf_5 : decode cX3_toneOf 5 = .ok (.ifCond .eq 12, 3) := by decide +kernel
theorem dX3_toneOf_8 : decode cX3_toneOf 8 = .ok (.aload_n 0, 1) := by decide +kernel
theorem dX3_toneOf_9 : decode cX3_toneOf 9 = .ok (.getfield 34, 3) := by decide +kernel
theorem dX3_toneOf_12 : decode cX3_toneOf 12 = .ok (.iload_n 1, 1) := by decide +kernel
theorem dX3_toneOf_13 : decode cX3_toneOf 13 = .ok (.iaload, 1) := by decide +kernel
theorem dX3_toneOf_14 : decode cX3_toneOf 14 = .ok (.goto 4, 3) := by decide +kernel
theorem dX3_toneOf_17 : decode cX3_toneOf 17 = .ok (.iconst 0, 1) := by decide +kernel
theorem dX3_toneOf_18 : decode cX3_toneOf 18 = .ok (.ireturn, 1) := by decide +kernel
theorem dX3_readBy_0 : decode cX3_readBy 0 = .ok (.aload_n 0, 1) := by decide +kernel
theorem dX3_readBy_1 : decode cX3_readBy 1 = .ok (.iload_n 1, 1) := by decide +kernel
theorem dX3_readBy_2 : decode cX3_readBy 2 = .ok (.invokevirtual 63, 3) := by decide +kernel
theorem dX3_readBy_5 : decode cX3_readBy 5 = .ok (.ifCond .eq 12, 3) := by decide +kernel
theorem dX3_readBy_8 : decode cX3_readBy 8 = .ok (.aload_n 0, 1) := by decide +kernel
theorem dX3_readBy_9 : decode cX3_readBy 9 = .ok (.getfield 37, 3) := by decide +kernel
theorem dX3_readBy_12 : decode cX3_readBy 12 = .ok (.iload_n 1, 1) := by decide +kernel
theorem dX3_readBy_13 : decode cX3_readBy 13 = .ok (.iaload, 1) := by decide +kernel
theorem dX3_readBy_14 : decode cX3_readBy 14 = .ok (.goto 4, 3) := by decide +kernel
theorem dX3_readBy_17 : decode cX3_readBy 17 = .ok (.iconst 0, 1) := by decide +kernel
theorem dX3_readBy_18 : decode cX3_readBy 18 = .ok (.ireturn, 1) := by decide +kernel
theorem dX3_changeKind_0 : decode cX3_changeKind 0 = .ok (.aload_n 0, 1) := by decide +kernel
theorem dX3_changeKind_1 : decode cX3_changeKind 1 = .ok (.iload_n 1, 1) := by decide +kernel
theorem dX3_changeKind_2 : decode cX3_changeKind 2 = .ok (.invokevirtual 59, 3) := by decide +kernel
theorem dX3_changeKind_5 : decode cX3_changeKind 5 = .ok (.ifCond .eq 10, 3) := by decide +kernel
theorem dX3_changeKind_8 : decode cX3_changeKind 8 = .ok (.aload_n 0, 1) := by decide +kernel
theorem dX3_changeKind_9 : decode cX3_changeKind 9 = .ok (.getfield 15, 3) := by decide +kernel
theorem dX3_changeKind_12 : decode cX3_changeKind 12 = .ok (.iload_n 1, 1) := by decide +kernel
theorem dX3_changeKind_13 : decode cX3_changeKind 13 = .ok (.iload_n 2, 1) := by decide +kernel
theorem dX3_changeKind_14 : decode cX3_changeKind 14 = .ok (.iastore, 1) := by decide +kernel
theorem dX3_changeKind_15 : decode cX3_changeKind 15 = .ok (.return_, 1) := by decide +kernel
theorem dX3_changeNumber_0 : decode cX3_changeNumber 0 = .ok (.aload_n 0, 1) := by decide +kernel
theorem dX3_changeNumber_1 : decode cX3_changeNumber 1 = .ok (.iload_n 1, 1) := by decide +kernel
theorem dX3_changeNumber_2 : decode cX3_changeNumber 2 = .ok (.invokevirtual 59, 3) := by decide +kernel
theorem dX3_changeNumber_5 : decode cX3_changeNumber 5 = .ok (.ifCond .eq 10, 3) := by decide +kernel
theorem dX3_changeNumber_8 : decode cX3_changeNumber 8 = .ok (.aload_n 0, 1) := by decide +kernel
theorem dX3_changeNumber_9 : decode cX3_changeNumber 9 = .ok (.getfield 19, 3) := by decide +kernel
theorem dX3_changeNumber_12 : decode cX3_changeNumber 12 = .ok (.iload_n 1, 1) := by decide +kernel
theorem dX3_changeNumber_13 : decode cX3_changeNumber 13 = .ok (.iload_n 2, 1) := by decide +kernel
theorem dX3_changeNumber_14 : decode cX3_changeNumber 14 = .ok (.iastore, 1) := by decide +kernel
theorem dX3_changeNumber_15 : decode cX3_changeNumber 15 = .ok (.return_, 1) := by decide +kernel
theorem dX3_changeTone_0 : decode cX3_changeTone 0 = .ok (.aload_n 0, 1) := by decide +kernel
theorem dX3_changeTone_1 : decode cX3_changeTone 1 = .ok (.iload_n 1, 1) := by decide +kernel
theorem dX3_changeTone_2 : decode cX3_changeTone 2 = .ok (.invokevirtual 63, 3) := by decide +kernel
theorem dX3_changeTone_5 : decode cX3_changeTone 5 = .ok (.ifCond .eq 10, 3) := by decide +kernel
theorem dX3_changeTone_8 : decode cX3_changeTone 8 = .ok (.aload_n 0, 1) := by decide +kernel
theorem dX3_changeTone_9 : decode cX3_changeTone 9 = .ok (.getfield 34, 3) := by decide +kernel
theorem dX3_changeTone_12 : decode cX3_changeTone 12 = .ok (.iload_n 1, 1) := by decide +kernel
theorem dX3_changeTone_13 : decode cX3_changeTone 13 = .ok (.iload_n 2, 1) := by decide +kernel
theorem dX3_changeTone_14 : decode cX3_changeTone 14 = .ok (.iastore, 1) := by decide +kernel
theorem dX3_changeTone_15 : decode cX3_changeTone 15 = .ok (.return_, 1) := by decide +kernel
theorem dX3_moveTo_0 : decode cX3_moveTo 0 = .ok (.aload_n 0, 1) := by decide +kernel
theorem dX3_moveTo_1 : decode cX3_moveTo 1 = .ok (.iload_n 1, 1) := by decide +kernel
theorem dX3_moveTo_2 : decode cX3_moveTo 2 = .ok (.invokevirtual 59, 3) := by decide +kernel
theorem dX3_moveTo_5 : decode cX3_moveTo 5 = .ok (.ifCond .eq 10, 3) := by decide +kernel
theorem dX3_moveTo_8 : decode cX3_moveTo 8 = .ok (.aload_n 0, 1) := by decide +kernel
theorem dX3_moveTo_9 : decode cX3_moveTo 9 = .ok (.getfield 22, 3) := by decide +kernel
theorem dX3_moveTo_12 : decode cX3_moveTo 12 = .ok (.iload_n 1, 1) := by decide +kernel
theorem dX3_moveTo_13 : decode cX3_moveTo 13 = .ok (.iload_n 2, 1) := by decide +kernel
theorem dX3_moveTo_14 : decode cX3_moveTo 14 = .ok (.iastore, 1) := by decide +kernel
theorem dX3_moveTo_15 : decode cX3_moveTo 15 = .ok (.return_, 1) := by decide +kernel
theorem dX3_livesIn_0 : decode cX3_livesIn 0 = .ok (.iconst 0, 1) := by decide +kernel
theorem dX3_livesIn_1 : decode cX3_livesIn 1 = .ok (.istore_n 2, 1) := by decide +kernel
theorem dX3_livesIn_2 : decode cX3_livesIn 2 = .ok (.iload_n 2, 1) := by decide +kernel
theorem dX3_livesIn_3 : decode cX3_livesIn 3 = .ok (.aload_n 0, 1) := by decide +kernel
theorem dX3_livesIn_4 : decode cX3_livesIn 4 = .ok (.getfield 50, 3) := by decide +kernel
theorem dX3_livesIn_7 : decode cX3_livesIn 7 = .ok (.if_icmp .ge 26, 3) := by decide +kernel
theorem dX3_livesIn_10 : decode cX3_livesIn 10 = .ok (.iload_n 2, 1) := by decide +kernel
theorem dX3_livesIn_11 : decode cX3_livesIn 11 = .ok (.iconst 5, 1) := by decide +kernel
theorem dX3_livesIn_12 : decode cX3_livesIn 12 = .ok (.if_icmp .ge 21, 3) := by decide +kernel
theorem dX3_livesIn_15 : decode cX3_livesIn 15 = .ok (.aload_n 0, 1) := by decide +kernel
theorem dX3_livesIn_16 : decode cX3_livesIn 16 = .ok (.getfield 22, 3) := by decide +kernel
theorem dX3_livesIn_19 : decode cX3_livesIn 19 = .ok (.iload_n 2, 1) := by decide +kernel
theorem dX3_livesIn_20 : decode cX3_livesIn 20 = .ok (.iaload, 1) := by decide +kernel
theorem dX3_livesIn_21 : decode cX3_livesIn 21 = .ok (.iload_n 1, 1) := by decide +kernel
theorem dX3_livesIn_22 : decode cX3_livesIn 22 = .ok (.if_icmp .ne 5, 3) := by decide +kernel
theorem dX3_livesIn_25 : decode cX3_livesIn 25 = .ok (.iload_n 2, 1) := by decide +kernel
theorem dX3_livesIn_26 : decode cX3_livesIn 26 = .ok (.ireturn, 1) := by decide +kernel
theorem dX3_livesIn_27 : decode cX3_livesIn 27 = .ok (.iinc 2 1, 3) := by decide +kernel
theorem dX3_livesIn_30 : decode cX3_livesIn 30 = .ok (.goto (-28), 3) := by decide +kernel
theorem dX3_livesIn_33 : decode cX3_livesIn 33 = .ok (.iconst (-1), 1) := by decide +kernel
theorem dX3_livesIn_34 : decode cX3_livesIn 34 = .ok (.ireturn, 1) := by decide +kernel
theorem dX3_known_0 : decode cX3_known 0 = .ok (.iconst 0, 1) := by decide +kernel
theorem dX3_known_1 : decode cX3_known 1 = .ok (.istore_n 2, 1) := by decide +kernel
theorem dX3_known_2 : decode cX3_known 2 = .ok (.iconst 0, 1) := by decide +kernel
theorem dX3_known_3 : decode cX3_known 3 = .ok (.istore_n 3, 1) := by decide +kernel
theorem dX3_known_4 : decode cX3_known 4 = .ok (.iload_n 3, 1) := by decide +kernel
theorem dX3_known_5 : decode cX3_known 5 = .ok (.aload_n 0, 1) := by decide +kernel
theorem dX3_known_6 : decode cX3_known 6 = .ok (.getfield 53, 3) := by decide +kernel
theorem dX3_known_9 : decode cX3_known 9 = .ok (.if_icmp .ge 34, 3) := by decide +kernel
theorem dX3_known_12 : decode cX3_known 12 = .ok (.iload_n 3, 1) := by decide +kernel
theorem dX3_known_13 : decode cX3_known 13 = .ok (.bipush 8, 2) := by decide +kernel
theorem dX3_known_15 : decode cX3_known 15 = .ok (.if_icmp .ge 28, 3) := by decide +kernel
theorem dX3_known_18 : decode cX3_known 18 = .ok (.aload_n 0, 1) := by decide +kernel
theorem dX3_known_19 : decode cX3_known 19 = .ok (.getfield 37, 3) := by decide +kernel
theorem dX3_known_22 : decode cX3_known 22 = .ok (.iload_n 3, 1) := by decide +kernel
theorem dX3_known_23 : decode cX3_known 23 = .ok (.iaload, 1) := by decide +kernel
theorem dX3_known_24 : decode cX3_known 24 = .ok (.iload_n 1, 1) := by decide +kernel
theorem dX3_known_25 : decode cX3_known 25 = .ok (.ishr, 1) := by decide +kernel
theorem dX3_known_26 : decode cX3_known 26 = .ok (.iconst 1, 1) := by decide +kernel
theorem dX3_known_27 : decode cX3_known 27 = .ok (.iand, 1) := by decide +kernel
theorem dX3_known_28 : decode cX3_known 28 = .ok (.ifCond .eq 9, 3) := by decide +kernel
theorem dX3_known_31 : decode cX3_known 31 = .ok (.iload_n 2, 1) := by decide +kernel
theorem dX3_known_32 : decode cX3_known 32 = .ok (.iconst 1, 1) := by decide +kernel
theorem dX3_known_33 : decode cX3_known 33 = .ok (.iload_n 3, 1) := by decide +kernel
theorem dX3_known_34 : decode cX3_known 34 = .ok (.ishl, 1) := by decide +kernel
theorem dX3_known_35 : decode cX3_known 35 = .ok (.ior, 1) := by decide +kernel
theorem dX3_known_36 : decode cX3_known 36 = .ok (.istore_n 2, 1) := by decide +kernel
theorem dX3_known_37 : decode cX3_known 37 = .ok (.iinc 3 1, 3) := by decide +kernel
theorem dX3_known_40 : decode cX3_known 40 = .ok (.goto (-36), 3) := by decide +kernel
theorem dX3_known_43 : decode cX3_known 43 = .ok (.iload_n 2, 1) := by decide +kernel
theorem dX3_known_44 : decode cX3_known 44 = .ok (.ireturn, 1) := by decide +kernel
theorem dX3_homes_0 : decode cX3_homes 0 = .ok (.iconst 0, 1) := by decide +kernel
theorem dX3_homes_1 : decode cX3_homes 1 = .ok (.istore_n 1, 1) := by decide +kernel
theorem dX3_homes_2 : decode cX3_homes 2 = .ok (.iconst 0, 1) := by decide +kernel
theorem dX3_homes_3 : decode cX3_homes 3 = .ok (.istore_n 2, 1) := by decide +kernel
theorem dX3_homes_4 : decode cX3_homes 4 = .ok (.iload_n 2, 1) := by decide +kernel
theorem dX3_homes_5 : decode cX3_homes 5 = .ok (.aload_n 0, 1) := by decide +kernel
theorem dX3_homes_6 : decode cX3_homes 6 = .ok (.getfield 53, 3) := by decide +kernel
theorem dX3_homes_9 : decode cX3_homes 9 = .ok (.if_icmp .ge 28, 3) := by decide +kernel
theorem dX3_homes_12 : decode cX3_homes 12 = .ok (.iload_n 2, 1) := by decide +kernel
theorem dX3_homes_13 : decode cX3_homes 13 = .ok (.bipush 8, 2) := by decide +kernel
theorem dX3_homes_15 : decode cX3_homes 15 = .ok (.if_icmp .ge 22, 3) := by decide +kernel
theorem dX3_homes_18 : decode cX3_homes 18 = .ok (.aload_n 0, 1) := by decide +kernel
theorem dX3_homes_19 : decode cX3_homes 19 = .ok (.getfield 31, 3) := by decide +kernel
theorem dX3_homes_22 : decode cX3_homes 22 = .ok (.iload_n 2, 1) := by decide +kernel
theorem dX3_homes_23 : decode cX3_homes 23 = .ok (.iaload, 1) := by decide +kernel
theorem dX3_homes_24 : decode cX3_homes 24 = .ok (.iconst (-1), 1) := by decide +kernel
theorem dX3_homes_25 : decode cX3_homes 25 = .ok (.if_icmp .ne 6, 3) := by decide +kernel
theorem dX3_homes_28 : decode cX3_homes 28 = .ok (.iinc 1 1, 3) := by decide +kernel
theorem dX3_homes_31 : decode cX3_homes 31 = .ok (.iinc 2 1, 3) := by decide +kernel
theorem dX3_homes_34 : decode cX3_homes 34 = .ok (.goto (-30), 3) := by decide +kernel
theorem dX3_homes_37 : decode cX3_homes 37 = .ok (.iload_n 1, 1) := by decide +kernel
theorem dX3_homes_38 : decode cX3_homes 38 = .ok (.ireturn, 1) := by decide +kernel
theorem dX3_comesToLive_0 : decode cX3_comesToLive 0 = .ok (.aload_n 0, 1) := by decide +kernel
theorem dX3_comesToLive_1 : decode cX3_comesToLive 1 = .ok (.getfield 50, 3) := by decide +kernel
theorem dX3_comesToLive_4 : decode cX3_comesToLive 4 = .ok (.istore 4, 2) := by decide +kernel
theorem dX3_comesToLive_6 : decode cX3_comesToLive 6 = .ok (.iload 4, 2) := by decide +kernel
theorem dX3_comesToLive_8 : decode cX3_comesToLive 8 = .ok (.ifCond .lt 9, 3) := by decide +kernel
theorem dX3_comesToLive_11 : decode cX3_comesToLive 11 = .ok (.iload 4, 2) := by decide +kernel
theorem dX3_comesToLive_13 : decode cX3_comesToLive 13 = .ok (.iconst 5, 1) := by decide +kernel
theorem dX3_comesToLive_14 : decode cX3_comesToLive 14 = .ok (.if_icmp .lt 6, 3) := by decide +kernel
theorem dX3_comesToLive_17 : decode cX3_comesToLive 17 = .ok (.bipush (-4), 2) := by decide +kernel
theorem dX3_comesToLive_19 : decode cX3_comesToLive 19 = .ok (.ireturn, 1) := by decide +kernel
theorem dX3_comesToLive_20 : decode cX3_comesToLive 20 = .ok (.aload_n 0, 1) := by decide +kernel
theorem dX3_comesToLive_21 : decode cX3_comesToLive 21 = .ok (.getfield 15, 3) := by decide +kernel
theorem dX3_comesToLive_24 : decode cX3_comesToLive 24 = .ok (.iload 4, 2) := by decide +kernel
theorem dX3_comesToLive_26 : decode cX3_comesToLive 26 = .ok (.iload_n 1, 1) := by decide +kernel
theorem dX3_comesToLive_27 : decode cX3_comesToLive 27 = .ok (.iastore, 1) := by decide +kernel
theorem dX3_comesToLive_28 : decode cX3_comesToLive 28 = .ok (.aload_n 0, 1) := by decide +kernel
theorem dX3_comesToLive_29 : decode cX3_comesToLive 29 = .ok (.getfield 19, 3) := by decide +kernel
theorem dX3_comesToLive_32 : decode cX3_comesToLive 32 = .ok (.iload 4, 2) := by decide +kernel
theorem dX3_comesToLive_34 : decode cX3_comesToLive 34 = .ok (.iload_n 2, 1) := by decide +kernel
theorem dX3_comesToLive_35 : decode cX3_comesToLive 35 = .ok (.iastore, 1) := by decide +kernel
theorem dX3_comesToLive_36 : decode cX3_comesToLive 36 = .ok (.aload_n 0, 1) := by decide +kernel
theorem dX3_comesToLive_37 : decode cX3_comesToLive 37 = .ok (.getfield 22, 3) := by decide +kernel
theorem dX3_comesToLive_40 : decode cX3_comesToLive 40 = .ok (.iload 4, 2) := by decide +kernel
theorem dX3_comesToLive_42 : decode cX3_comesToLive 42 = .ok (.iload_n 3, 1) := by decide +kernel
theorem dX3_comesToLive_43 : decode cX3_comesToLive 43 = .ok (.iastore, 1) := by decide +kernel
theorem dX3_comesToLive_44 : decode cX3_comesToLive 44 = .ok (.aload_n 0, 1) := by decide +kernel
theorem dX3_comesToLive_45 : decode cX3_comesToLive 45 = .ok (.dup, 1) := by decide +kernel
theorem dX3_comesToLive_46 : decode cX3_comesToLive 46 = .ok (.getfield 50, 3) := by decide +kernel
theorem dX3_comesToLive_49 : decode cX3_comesToLive 49 = .ok (.iconst 1, 1) := by decide +kernel
theorem dX3_comesToLive_50 : decode cX3_comesToLive 50 = .ok (.iadd, 1) := by decide +kernel
theorem dX3_comesToLive_51 : decode cX3_comesToLive 51 = .ok (.putfield 50, 3) := by decide +kernel
theorem dX3_comesToLive_54 : decode cX3_comesToLive 54 = .ok (.iload 4, 2) := by decide +kernel
theorem dX3_comesToLive_56 : decode cX3_comesToLive 56 = .ok (.ireturn, 1) := by decide +kernel
theorem dX3_post_0 : decode cX3_post 0 = .ok (.aload_n 0, 1) := by decide +kernel
theorem dX3_post_1 : decode cX3_post 1 = .ok (.getfield 53, 3) := by decide +kernel
theorem dX3_post_4 : decode cX3_post 4 = .ok (.istore_n 3, 1) := by decide +kernel
theorem dX3_post_5 : decode cX3_post 5 = .ok (.iload_n 3, 1) := by decide +kernel
theorem dX3_post_6 : decode cX3_post 6 = .ok (.ifCond .lt 9, 3) := by decide +kernel
theorem dX3_post_9 : decode cX3_post 9 = .ok (.iload_n 3, 1) := by decide +kernel
theorem dX3_post_10 : decode cX3_post 10 = .ok (.bipush 8, 2) := by decide +kernel
theorem dX3_post_12 : decode cX3_post 12 = .ok (.if_icmp .lt 6, 3) := by decide +kernel
theorem dX3_post_15 : decode cX3_post 15 = .ok (.bipush (-4), 2) := by decide +kernel
theorem dX3_post_17 : decode cX3_post 17 = .ok (.ireturn, 1) := by decide +kernel
theorem dX3_post_18 : decode cX3_post 18 = .ok (.aload_n 0, 1) := by decide +kernel
theorem dX3_post_19 : decode cX3_post 19 = .ok (.getfield 25, 3) := by decide +kernel
theorem dX3_post_22 : decode cX3_post 22 = .ok (.iload_n 3, 1) := by decide +kernel
theorem dX3_post_23 : decode cX3_post 23 = .ok (.iload_n 1, 1) := by decide +kernel
theorem dX3_post_24 : decode cX3_post 24 = .ok (.iastore, 1) := by decide +kernel
theorem dX3_post_25 : decode cX3_post 25 = .ok (.aload_n 0, 1) := by decide +kernel
