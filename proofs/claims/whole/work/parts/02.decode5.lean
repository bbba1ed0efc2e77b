theorem dX5_homeBySlip_55 : decode cX5_homeBySlip 55 = .ok (.iconst 2, 1) := by decide +kernel
theorem dX5_homeBySlip_56 : decode cX5_homeBySlip 56 = .ok (.iadd, 1) := by decide +kernel
theorem dX5_homeBySlip_57 : decode cX5_homeBySlip 57 = .ok (.iaload, 1) := by decide +kernel
theorem dX5_homeBySlip_58 : decode cX5_homeBySlip 58 = .ok (.imul, 1) := by decide +kernel
theorem dX5_homeBySlip_59 : decode cX5_homeBySlip 59 = .ok (.iconst 2, 1) := by decide +kernel
theorem dX5_homeBySlip_60 : decode cX5_homeBySlip 60 = .ok (.iadd, 1) := by decide +kernel
theorem dX5_homeBySlip_61 : decode cX5_homeBySlip 61 = .ok (.iaload, 1) := by decide +kernel
theorem dX5_homeBySlip_62 : decode cX5_homeBySlip 62 = .ok (.iload_n 1, 1) := by decide +kernel
theorem dX5_homeBySlip_63 : decode cX5_homeBySlip 63 = .ok (.iadd, 1) := by decide +kernel
theorem dX5_homeBySlip_64 : decode cX5_homeBySlip 64 = .ok (.bipush 8, 2) := by decide +kernel
theorem dX5_homeBySlip_66 : decode cX5_homeBySlip 66 = .ok (.irem, 1) := by decide +kernel
theorem dX5_homeBySlip_67 : decode cX5_homeBySlip 67 = .ok (.iastore, 1) := by decide +kernel
theorem dX5_homeBySlip_68 : decode cX5_homeBySlip 68 = .ok (.iinc 3 1, 3) := by decide +kernel
theorem dX5_homeBySlip_71 : decode cX5_homeBySlip 71 = .ok (.goto (-65), 3) := by decide +kernel
theorem dX5_homeBySlip_74 : decode cX5_homeBySlip 74 = .ok (.aload_n 0, 1) := by decide +kernel
theorem dX5_homeBySlip_75 : decode cX5_homeBySlip 75 = .ok (.iload_n 2, 1) := by decide +kernel
theorem dX5_homeBySlip_76 : decode cX5_homeBySlip 76 = .ok (.invokevirtual 285, 3) := by decide +kernel
theorem dX5_homeBySlip_79 : decode cX5_homeBySlip 79 = .ok (.aload_n 0, 1) := by decide +kernel
theorem dX5_homeBySlip_80 : decode cX5_homeBySlip 80 = .ok (.invokevirtual 288, 3) := by decide +kernel
theorem dX5_homeBySlip_83 : decode cX5_homeBySlip 83 = .ok (.istore_n 3, 1) := by decide +kernel
theorem dX5_homeBySlip_84 : decode cX5_homeBySlip 84 = .ok (.aload_n 0, 1) := by decide +kernel
theorem dX5_homeBySlip_85 : decode cX5_homeBySlip 85 = .ok (.invokevirtual 291, 3) := by decide +kernel
theorem dX5_homeBySlip_88 : decode cX5_homeBySlip 88 = .ok (.iload_n 3, 1) := by decide +kernel
theorem dX5_homeBySlip_89 : decode cX5_homeBySlip 89 = .ok (.ireturn, 1) := by decide +kernel
theorem dX5_mistake_0 : decode cX5_mistake 0 = .ok (.iload_n 1, 1) := by decide +kernel
theorem dX5_mistake_1 : decode cX5_mistake 1 = .ok (.i2l, 1) := by decide +kernel
theorem dX5_mistake_2 : decode cX5_mistake 2 = .ok (.lconst 0, 1) := by decide +kernel
theorem dX5_mistake_3 : decode cX5_mistake 3 = .ok (.ldc2_w 294, 3) := by decide +kernel
theorem dX5_mistake_6 : decode cX5_mistake 6 = .ok (.invokestatic 76, 3) := by decide +kernel
theorem dX5_mistake_9 : decode cX5_mistake 9 = .ok (.ifCond .eq 13, 3) := by decide +kernel
theorem dX5_mistake_12 : decode cX5_mistake 12 = .ok (.iload_n 2, 1) := by decide +kernel
theorem dX5_mistake_13 : decode cX5_mistake 13 = .ok (.i2l, 1) := by decide +kernel
theorem dX5_mistake_14 : decode cX5_mistake 14 = .ok (.lconst 0, 1) := by decide +kernel
theorem dX5_mistake_15 : decode cX5_mistake 15 = .ok (.lconst 1, 1) := by decide +kernel
theorem dX5_mistake_16 : decode cX5_mistake 16 = .ok (.invokestatic 76, 3) := by decide +kernel
theorem dX5_mistake_19 : decode cX5_mistake 19 = .ok (.ifCond .ne 6, 3) := by decide +kernel
theorem dX5_mistake_22 : decode cX5_mistake 22 = .ok (.bipush (-2), 2) := by decide +kernel
theorem dX5_mistake_24 : decode cX5_mistake 24 = .ok (.ireturn, 1) := by decide +kernel
theorem dX5_mistake_25 : decode cX5_mistake 25 = .ok (.iconst 0, 1) := by decide +kernel
theorem dX5_mistake_26 : decode cX5_mistake 26 = .ok (.istore_n 3, 1) := by decide +kernel
theorem dX5_mistake_27 : decode cX5_mistake 27 = .ok (.iconst (-1), 1) := by decide +kernel
theorem dX5_mistake_28 : decode cX5_mistake 28 = .ok (.istore 4, 2) := by decide +kernel
theorem dX5_mistake_30 : decode cX5_mistake 30 = .ok (.iconst 0, 1) := by decide +kernel
theorem dX5_mistake_31 : decode cX5_mistake 31 = .ok (.istore 5, 2) := by decide +kernel
theorem dX5_mistake_33 : decode cX5_mistake 33 = .ok (.iload 5, 2) := by decide +kernel
theorem dX5_mistake_35 : decode cX5_mistake 35 = .ok (.bipush 8, 2) := by decide +kernel
theorem dX5_mistake_37 : decode cX5_mistake 37 = .ok (.if_icmp .ge 32, 3) := by decide +kernel
theorem dX5_mistake_40 : decode cX5_mistake 40 = .ok (.aload_n 0, 1) := by decide +kernel
theorem dX5_mistake_41 : decode cX5_mistake 41 = .ok (.iload 5, 2) := by decide +kernel
theorem dX5_mistake_43 : decode cX5_mistake 43 = .ok (.iload_n 1, 1) := by decide +kernel
theorem dX5_mistake_44 : decode cX5_mistake 44 = .ok (.invokevirtual 296, 3) := by decide +kernel
theorem dX5_mistake_47 : decode cX5_mistake 47 = .ok (.istore 6, 2) := by decide +kernel
theorem dX5_mistake_49 : decode cX5_mistake 49 = .ok (.iload 6, 2) := by decide +kernel
theorem dX5_mistake_51 : decode cX5_mistake 51 = .ok (.iload 4, 2) := by decide +kernel
theorem dX5_mistake_53 : decode cX5_mistake 53 = .ok (.if_icmp .le 10, 3) := by decide +kernel
theorem dX5_mistake_56 : decode cX5_mistake 56 = .ok (.iload 5, 2) := by decide +kernel
theorem dX5_mistake_58 : decode cX5_mistake 58 = .ok (.istore_n 3, 1) := by decide +kernel
theorem dX5_mistake_59 : decode cX5_mistake 59 = .ok (.iload 6, 2) := by decide +kernel
theorem dX5_mistake_61 : decode cX5_mistake 61 = .ok (.istore 4, 2) := by decide +kernel
theorem dX5_mistake_63 : decode cX5_mistake 63 = .ok (.iinc 5 1, 3) := by decide +kernel
theorem dX5_mistake_66 : decode cX5_mistake 66 = .ok (.goto (-33), 3) := by decide +kernel
theorem dX5_mistake_69 : decode cX5_mistake 69 = .ok (.iload_n 2, 1) := by decide +kernel
theorem dX5_mistake_70 : decode cX5_mistake 70 = .ok (.ifCond .ne 7, 3) := by decide +kernel
theorem dX5_mistake_73 : decode cX5_mistake 73 = .ok (.iload_n 3, 1) := by decide +kernel
theorem dX5_mistake_74 : decode cX5_mistake 74 = .ok (.goto 5, 3) := by decide +kernel
theorem dX5_mistake_77 : decode cX5_mistake 77 = .ok (.iload 4, 2) := by decide +kernel
theorem dX5_mistake_79 : decode cX5_mistake 79 = .ok (.ireturn, 1) := by decide +kernel
theorem dX5_wayOf_0 : decode cX5_wayOf 0 = .ok (.iconst 0, 1) := by decide +kernel
theorem dX5_wayOf_1 : decode cX5_wayOf 1 = .ok (.istore_n 2, 1) := by decide +kernel
theorem dX5_wayOf_2 : decode cX5_wayOf 2 = .ok (.iconst 0, 1) := by decide +kernel
theorem dX5_wayOf_3 : decode cX5_wayOf 3 = .ok (.istore_n 3, 1) := by decide +kernel
theorem dX5_wayOf_4 : decode cX5_wayOf 4 = .ok (.iload_n 1, 1) := by decide +kernel
theorem dX5_wayOf_5 : decode cX5_wayOf 5 = .ok (.istore 4, 2) := by decide +kernel
theorem dX5_wayOf_7 : decode cX5_wayOf 7 = .ok (.aload_n 0, 1) := by decide +kernel
theorem dX5_wayOf_8 : decode cX5_wayOf 8 = .ok (.getfield 73, 3) := by decide +kernel
theorem dX5_wayOf_11 : decode cX5_wayOf 11 = .ok (.iconst 1, 1) := by decide +kernel
theorem dX5_wayOf_12 : decode cX5_wayOf 12 = .ok (.isub, 1) := by decide +kernel
theorem dX5_wayOf_13 : decode cX5_wayOf 13 = .ok (.istore 5, 2) := by decide +kernel
theorem dX5_wayOf_15 : decode cX5_wayOf 15 = .ok (.iload 5, 2) := by decide +kernel
theorem dX5_wayOf_17 : decode cX5_wayOf 17 = .ok (.ifCond .lt 37, 3) := by decide +kernel
theorem dX5_wayOf_20 : decode cX5_wayOf 20 = .ok (.aload_n 0, 1) := by decide +kernel
theorem dX5_wayOf_21 : decode cX5_wayOf 21 = .ok (.getfield 38, 3) := by decide +kernel
theorem dX5_wayOf_24 : decode cX5_wayOf 24 = .ok (.iload 5, 2) := by decide +kernel
theorem dX5_wayOf_26 : decode cX5_wayOf 26 = .ok (.aload_n 0, 1) := by decide +kernel
theorem dX5_wayOf_27 : decode cX5_wayOf 27 = .ok (.getfield 35, 3) := by decide +kernel
theorem dX5_wayOf_30 : decode cX5_wayOf 30 = .ok (.iload 4, 2) := by decide +kernel
theorem dX5_wayOf_32 : decode cX5_wayOf 32 = .ok (.aload_n 0, 1) := by decide +kernel
theorem dX5_wayOf_33 : decode cX5_wayOf 33 = .ok (.getfield 73, 3) := by decide +kernel
theorem dX5_wayOf_36 : decode cX5_wayOf 36 = .ok (.irem, 1) := by decide +kernel
theorem dX5_wayOf_37 : decode cX5_wayOf 37 = .ok (.iaload, 1) := by decide +kernel
theorem dX5_wayOf_38 : decode cX5_wayOf 38 = .ok (.iastore, 1) := by decide +kernel
theorem dX5_wayOf_39 : decode cX5_wayOf 39 = .ok (.iload 4, 2) := by decide +kernel
theorem dX5_wayOf_41 : decode cX5_wayOf 41 = .ok (.aload_n 0, 1) := by decide +kernel
theorem dX5_wayOf_42 : decode cX5_wayOf 42 = .ok (.getfield 73, 3) := by decide +kernel
theorem dX5_wayOf_45 : decode cX5_wayOf 45 = .ok (.idiv, 1) := by decide +kernel
theorem dX5_wayOf_46 : decode cX5_wayOf 46 = .ok (.istore 4, 2) := by decide +kernel
theorem dX5_wayOf_48 : decode cX5_wayOf 48 = .ok (.iinc 5 (-1), 3) := by decide +kernel
theorem dX5_wayOf_51 : decode cX5_wayOf 51 = .ok (.goto (-36), 3) := by decide +kernel
theorem dX5_wayOf_54 : decode cX5_wayOf 54 = .ok (.iconst 0, 1) := by decide +kernel
theorem dX5_wayOf_55 : decode cX5_wayOf 55 = .ok (.istore 5, 2) := by decide +kernel
theorem dX5_wayOf_57 : decode cX5_wayOf 57 = .ok (.iload 5, 2) := by decide +kernel
theorem dX5_wayOf_59 : decode cX5_wayOf 59 = .ok (.aload_n 0, 1) := by decide +kernel
theorem dX5_wayOf_60 : decode cX5_wayOf 60 = .ok (.getfield 73, 3) := by decide +kernel
theorem dX5_wayOf_63 : decode cX5_wayOf 63 = .ok (.if_icmp .ge 36, 3) := by decide +kernel
theorem dX5_wayOf_66 : decode cX5_wayOf 66 = .ok (.iload_n 3, 1) := by decide +kernel
theorem dX5_wayOf_67 : decode cX5_wayOf 67 = .ok (.iconst 1, 1) := by decide +kernel
theorem dX5_wayOf_68 : decode cX5_wayOf 68 = .ok (.aload_n 0, 1) := by decide +kernel
theorem dX5_wayOf_69 : decode cX5_wayOf 69 = .ok (.getfield 38, 3) := by decide +kernel
theorem dX5_wayOf_72 : decode cX5_wayOf 72 = .ok (.iload 5, 2) := by decide +kernel
theorem dX5_wayOf_74 : decode cX5_wayOf 74 = .ok (.iaload, 1) := by decide +kernel
theorem dX5_wayOf_75 : decode cX5_wayOf 75 = .ok (.ishl, 1) := by decide +kernel
theorem dX5_wayOf_76 : decode cX5_wayOf 76 = .ok (.ior, 1) := by decide +kernel
theorem dX5_wayOf_77 : decode cX5_wayOf 77 = .ok (.istore_n 3, 1) := by decide +kernel
theorem dX5_wayOf_78 : decode cX5_wayOf 78 = .ok (.bipush 10, 2) := by decide +kernel
theorem dX5_wayOf_80 : decode cX5_wayOf 80 = .ok (.iload_n 2, 1) := by decide +kernel
theorem dX5_wayOf_81 : decode cX5_wayOf 81 = .ok (.imul, 1) := by decide +kernel
theorem dX5_wayOf_82 : decode cX5_wayOf 82 = .ok (.aload_n 0, 1) := by decide +kernel
theorem dX5_wayOf_83 : decode cX5_wayOf 83 = .ok (.getfield 38, 3) := by decide +kernel
theorem dX5_wayOf_86 : decode cX5_wayOf 86 = .ok (.iload 5, 2) := by decide +kernel
theorem dX5_wayOf_88 : decode cX5_wayOf 88 = .ok (.iaload, 1) := by decide +kernel
theorem dX5_wayOf_89 : decode cX5_wayOf 89 = .ok (.iadd, 1) := by decide +kernel
theorem dX5_wayOf_90 : decode cX5_wayOf 90 = .ok (.iconst 1, 1) := by decide +kernel
theorem dX5_wayOf_91 : decode cX5_wayOf 91 = .ok (.iadd, 1) := by decide +kernel
theorem dX5_wayOf_92 : decode cX5_wayOf 92 = .ok (.istore_n 2, 1) := by decide +kernel
theorem dX5_wayOf_93 : decode cX5_wayOf 93 = .ok (.iinc 5 1, 3) := by decide +kernel
theorem dX5_wayOf_96 : decode cX5_wayOf 96 = .ok (.goto (-39), 3) := by decide +kernel
theorem dX5_wayOf_99 : decode cX5_wayOf 99 = .ok (.iload_n 3, 1) := by decide +kernel
theorem dX5_wayOf_100 : decode cX5_wayOf 100 = .ok (.invokestatic 246, 3) := by decide +kernel
theorem dX5_wayOf_103 : decode cX5_wayOf 103 = .ok (.aload_n 0, 1) := by decide +kernel
theorem dX5_wayOf_104 : decode cX5_wayOf 104 = .ok (.getfield 73, 3) := by decide +kernel
theorem dX5_wayOf_107 : decode cX5_wayOf 107 = .ok (.if_icmp .ne 7, 3) := by decide +kernel
theorem dX5_wayOf_110 : decode cX5_wayOf 110 = .ok (.iload_n 2, 1) := by decide +kernel
theorem dX5_wayOf_111 : decode cX5_wayOf 111 = .ok (.goto 4, 3) := by decide +kernel
theorem dX5_wayOf_114 : decode cX5_wayOf 114 = .ok (.iconst (-1), 1) := by decide +kernel
theorem dX5_wayOf_115 : decode cX5_wayOf 115 = .ok (.ireturn, 1) := by decide +kernel
theorem dX5_live_0 : decode cX5_live 0 = .ok (.iload_n 1, 1) := by decide +kernel
theorem dX5_live_1 : decode cX5_live 1 = .ok (.i2l, 1) := by decide +kernel
theorem dX5_live_2 : decode cX5_live 2 = .ok (.lconst 0, 1) := by decide +kernel
theorem dX5_live_3 : decode cX5_live 3 = .ok (.ldc2_w 299, 3) := by decide +kernel
theorem dX5_live_6 : decode cX5_live 6 = .ok (.invokestatic 76, 3) := by decide +kernel
theorem dX5_live_9 : decode cX5_live 9 = .ok (.ifCond .eq 13, 3) := by decide +kernel
theorem dX5_live_12 : decode cX5_live 12 = .ok (.iload_n 2, 1) := by decide +kernel
theorem dX5_live_13 : decode cX5_live 13 = .ok (.i2l, 1) := by decide +kernel
theorem dX5_live_14 : decode cX5_live 14 = .ok (.lconst 0, 1) := by decide +kernel
theorem dX5_live_15 : decode cX5_live 15 = .ok (.lconst 1, 1) := by decide +kernel
theorem dX5_live_16 : decode cX5_live 16 = .ok (.invokestatic 76, 3) := by decide +kernel
theorem dX5_live_19 : decode cX5_live 19 = .ok (.ifCond .ne 6, 3) := by decide +kernel
theorem dX5_live_22 : decode cX5_live 22 = .ok (.bipush (-2), 2) := by decide +kernel
theorem dX5_live_24 : decode cX5_live 24 = .ok (.ireturn, 1) := by decide +kernel
theorem dX5_live_25 : decode cX5_live 25 = .ok (.iconst 0, 1) := by decide +kernel
theorem dX5_live_26 : decode cX5_live 26 = .ok (.istore_n 3, 1) := by decide +kernel
theorem dX5_live_27 : decode cX5_live 27 = .ok (.iconst 0, 1) := by decide +kernel
theorem dX5_live_28 : decode cX5_live 28 = .ok (.istore 4, 2) := by decide +kernel
theorem dX5_live_30 : decode cX5_live 30 = .ok (.iload 4, 2) := by decide +kernel
theorem dX5_live_32 : decode cX5_live 32 = .ok (.bipush 8, 2) := by decide +kernel
theorem dX5_live_34 : decode cX5_live 34 = .ok (.if_icmp .ge 30, 3) := by decide +kernel
theorem dX5_live_37 : decode cX5_live 37 = .ok (.aload_n 0, 1) := by decide +kernel
theorem dX5_live_38 : decode cX5_live 38 = .ok (.iload 4, 2) := by decide +kernel
theorem dX5_live_40 : decode cX5_live 40 = .ok (.invokevirtual 120, 3) := by decide +kernel
theorem dX5_live_43 : decode cX5_live 43 = .ok (.iconst (-1), 1) := by decide +kernel
theorem dX5_live_44 : decode cX5_live 44 = .ok (.if_icmp .eq 14, 3) := by decide +kernel
theorem dX5_live_47 : decode cX5_live 47 = .ok (.aload_n 0, 1) := by decide +kernel
theorem dX5_live_48 : decode cX5_live 48 = .ok (.getfield 35, 3) := by decide +kernel
theorem dX5_live_51 : decode cX5_live 51 = .ok (.iload_n 3, 1) := by decide +kernel
theorem dX5_live_52 : decode cX5_live 52 = .ok (.iload 4, 2) := by decide +kernel
theorem dX5_live_54 : decode cX5_live 54 = .ok (.iastore, 1) := by decide +kernel
theorem dX5_live_55 : decode cX5_live 55 = .ok (.iinc 3 1, 3) := by decide +kernel
theorem dX5_live_58 : decode cX5_live 58 = .ok (.iinc 4 1, 3) := by decide +kernel
theorem dX5_live_61 : decode cX5_live 61 = .ok (.goto (-31), 3) := by decide +kernel
theorem dX5_live_64 : decode cX5_live 64 = .ok (.iconst 0, 1) := by decide +kernel
theorem dX5_live_65 : decode cX5_live 65 = .ok (.istore 4, 2) := by decide +kernel
theorem dX5_live_67 : decode cX5_live 67 = .ok (.iload 4, 2) := by decide +kernel
theorem dX5_live_69 : decode cX5_live 69 = .ok (.bipush 15, 2) := by decide +kernel
theorem dX5_live_71 : decode cX5_live 71 = .ok (.if_icmp .ge 23, 3) := by decide +kernel
theorem dX5_live_74 : decode cX5_live 74 = .ok (.aload_n 0, 1) := by decide +kernel
theorem dX5_live_75 : decode cX5_live 75 = .ok (.getfield 41, 3) := by decide +kernel
theorem dX5_live_78 : decode cX5_live 78 = .ok (.iload 4, 2) := by decide +kernel
theorem dX5_live_80 : decode cX5_live 80 = .ok (.aload_n 0, 1) := by decide +kernel
theorem dX5_live_81 : decode cX5_live 81 = .ok (.getfield 26, 3) := by decide +kernel
theorem dX5_live_84 : decode cX5_live 84 = .ok (.iload 4, 2) := by decide +kernel
theorem dX5_live_86 : decode cX5_live 86 = .ok (.iaload, 1) := by decide +kernel
theorem dX5_live_87 : decode cX5_live 87 = .ok (.iastore, 1) := by decide +kernel
theorem dX5_live_88 : decode cX5_live 88 = .ok (.iinc 4 1, 3) := by decide +kernel
theorem dX5_live_91 : decode cX5_live 91 = .ok (.goto (-24), 3) := by decide +kernel
theorem dX5_live_94 : decode cX5_live 94 = .ok (.iconst 1, 1) := by decide +kernel
theorem dX5_live_95 : decode cX5_live 95 = .ok (.istore 4, 2) := by decide +kernel
theorem dX5_live_97 : decode cX5_live 97 = .ok (.iconst 0, 1) := by decide +kernel
theorem dX5_live_98 : decode cX5_live 98 = .ok (.istore 5, 2) := by decide +kernel
theorem dX5_live_100 : decode cX5_live 100 = .ok (.iload 5, 2) := by decide +kernel
theorem dX5_live_102 : decode cX5_live 102 = .ok (.aload_n 0, 1) := by decide +kernel
theorem dX5_live_103 : decode cX5_live 103 = .ok (.getfield 73, 3) := by decide +kernel
theorem dX5_live_106 : decode cX5_live 106 = .ok (.if_icmp .ge 18, 3) := by decide +kernel
theorem dX5_live_109 : decode cX5_live 109 = .ok (.iload 4, 2) := by decide +kernel
theorem dX5_live_111 : decode cX5_live 111 = .ok (.aload_n 0, 1) := by decide +kernel
theorem dX5_live_112 : decode cX5_live 112 = .ok (.getfield 73, 3) := by decide +kernel
theorem dX5_live_115 : decode cX5_live 115 = .ok (.imul, 1) := by decide +kernel
theorem dX5_live_116 : decode cX5_live 116 = .ok (.istore 4, 2) := by decide +kernel
theorem dX5_live_118 : decode cX5_live 118 = .ok (.iinc 5 1, 3) := by decide +kernel
theorem dX5_live_121 : decode cX5_live 121 = .ok (.goto (-21), 3) := by decide +kernel
theorem dX5_live_124 : decode cX5_live 124 = .ok (.iconst 0, 1) := by decide +kernel
theorem dX5_live_125 : decode cX5_live 125 = .ok (.istore 5, 2) := by decide +kernel
theorem dX5_live_127 : decode cX5_live 127 = .ok (.iconst (-1), 1) := by decide +kernel
theorem dX5_live_128 : decode cX5_live 128 = .ok (.istore 6, 2) := by decide +kernel
theorem dX5_live_130 : decode cX5_live 130 = .ok (.iconst 0, 1) := by decide +kernel
theorem dX5_live_131 : decode cX5_live 131 = .ok (.istore 7, 2) := by decide +kernel
theorem dX5_live_133 : decode cX5_live 133 = .ok (.iload 7, 2) := by decide +kernel
theorem dX5_live_135 : decode cX5_live 135 = .ok (.iload 4, 2) := by decide +kernel
theorem dX5_live_137 : decode cX5_live 137 = .ok (.if_icmp .ge 81, 3) := by decide +kernel
theorem dX5_live_140 : decode cX5_live 140 = .ok (.aload_n 0, 1) := by decide +kernel
theorem dX5_live_141 : decode cX5_live 141 = .ok (.iload 7, 2) := by decide +kernel
theorem dX5_live_143 : decode cX5_live 143 = .ok (.invokevirtual 301, 3) := by decide +kernel
theorem dX5_live_146 : decode cX5_live 146 = .ok (.istore 8, 2) := by decide +kernel
theorem dX5_live_148 : decode cX5_live 148 = .ok (.iload 8, 2) := by decide +kernel
theorem dX5_live_150 : decode cX5_live 150 = .ok (.iconst (-1), 1) := by decide +kernel
theorem dX5_live_151 : decode cX5_live 151 = .ok (.if_icmp .eq 61, 3) := by decide +kernel
theorem dX5_live_154 : decode cX5_live 154 = .ok (.iconst 0, 1) := by decide +kernel
theorem dX5_live_155 : decode cX5_live 155 = .ok (.istore 9, 2) := by decide +kernel
theorem dX5_live_157 : decode cX5_live 157 = .ok (.iload 9, 2) := by decide +kernel
theorem dX5_live_159 : decode cX5_live 159 = .ok (.aload_n 0, 1) := by decide +kernel
theorem dX5_live_160 : decode cX5_live 160 = .ok (.getfield 73, 3) := by decide +kernel
theorem dX5_live_163 : decode cX5_live 163 = .ok (.if_icmp .ge 27, 3) := by decide +kernel
theorem dX5_live_166 : decode cX5_live 166 = .ok (.aload_n 0, 1) := by decide +kernel
theorem dX5_live_167 : decode cX5_live 167 = .ok (.getfield 26, 3) := by decide +kernel
theorem dX5_live_170 : decode cX5_live 170 = .ok (.iconst 3, 1) := by decide +kernel
theorem dX5_live_171 : decode cX5_live 171 = .ok (.iload 9, 2) := by decide +kernel
theorem dX5_live_173 : decode cX5_live 173 = .ok (.imul, 1) := by decide +kernel
theorem dX5_live_174 : decode cX5_live 174 = .ok (.iconst 2, 1) := by decide +kernel
theorem dX5_live_175 : decode cX5_live 175 = .ok (.iadd, 1) := by decide +kernel
theorem dX5_live_176 : decode cX5_live 176 = .ok (.aload_n 0, 1) := by decide +kernel
theorem dX5_live_177 : decode cX5_live 177 = .ok (.getfield 38, 3) := by decide +kernel
theorem dX5_live_180 : decode cX5_live 180 = .ok (.iload 9, 2) := by decide +kernel
theorem dX5_live_182 : decode cX5_live 182 = .ok (.iaload, 1) := by decide +kernel
theorem dX5_live_183 : decode cX5_live 183 = .ok (.iastore, 1) := by decide +kernel
theorem dX5_live_184 : decode cX5_live 184 = .ok (.iinc 9 1, 3) := by decide +kernel
theorem dX5_live_187 : decode cX5_live 187 = .ok (.goto (-30), 3) := by decide +kernel
theorem dX5_live_190 : decode cX5_live 190 = .ok (.aload_n 0, 1) := by decide +kernel
theorem dX5_live_191 : decode cX5_live 191 = .ok (.iload_n 1, 1) := by decide +kernel
theorem dX5_live_192 : decode cX5_live 192 = .ok (.invokevirtual 304, 3) := by decide +kernel
theorem dX5_live_195 : decode cX5_live 195 = .ok (.istore 9, 2) := by decide +kernel
theorem dX5_live_197 : decode cX5_live 197 = .ok (.iload 9, 2) := by decide +kernel
theorem dX5_live_199 : decode cX5_live 199 = .ok (.iload 6, 2) := by decide +kernel
theorem dX5_live_201 : decode cX5_live 201 = .ok (.if_icmp .le 11, 3) := by decide +kernel
theorem dX5_live_204 : decode cX5_live 204 = .ok (.iload 8, 2) := by decide +kernel
theorem dX5_live_206 : decode cX5_live 206 = .ok (.istore 5, 2) := by decide +kernel
theorem dX5_live_208 : decode cX5_live 208 = .ok (.iload 9, 2) := by decide +kernel
theorem dX5_live_210 : decode cX5_live 210 = .ok (.istore 6, 2) := by decide +kernel
theorem dX5_live_212 : decode cX5_live 212 = .ok (.iinc 7 1, 3) := by decide +kernel
theorem dX5_live_215 : decode cX5_live 215 = .ok (.goto (-82), 3) := by decide +kernel
theorem dX5_live_218 : decode cX5_live 218 = .ok (.iconst 0, 1) := by decide +kernel
theorem dX5_live_219 : decode cX5_live 219 = .ok (.istore 7, 2) := by decide +kernel
theorem dX5_live_221 : decode cX5_live 221 = .ok (.iload 7, 2) := by decide +kernel
theorem dX5_live_223 : decode cX5_live 223 = .ok (.bipush 15, 2) := by decide +kernel
theorem dX5_live_225 : decode cX5_live 225 = .ok (.if_icmp .ge 23, 3) := by decide +kernel
theorem dX5_live_228 : decode cX5_live 228 = .ok (.aload_n 0, 1) := by decide +kernel
theorem dX5_live_229 : decode cX5_live 229 = .ok (.getfield 26, 3) := by decide +kernel
theorem dX5_live_232 : decode cX5_live 232 = .ok (.iload 7, 2) := by decide +kernel
theorem dX5_live_234 : decode cX5_live 234 = .ok (.aload_n 0, 1) := by decide +kernel
theorem dX5_live_235 : decode cX5_live 235 = .ok (.getfield 41, 3) := by decide +kernel
theorem dX5_live_238 : decode cX5_live 238 = .ok (.iload 7, 2) := by decide +kernel
theorem dX5_live_240 : decode cX5_live 240 = .ok (.iaload, 1) := by decide +kernel
theorem dX5_live_241 : decode cX5_live 241 = .ok (.iastore, 1) := by decide +kernel
theorem dX5_live_242 : decode cX5_live 242 = .ok (.iinc 7 1, 3) := by decide +kernel
theorem dX5_live_245 : decode cX5_live 245 = .ok (.goto (-24), 3) := by decide +kernel
theorem dX5_live_248 : decode cX5_live 248 = .ok (.iload_n 2, 1) := by decide +kernel
theorem dX5_live_249 : decode cX5_live 249 = .ok (.ifCond .ne 8, 3) := by decide +kernel
theorem dX5_live_252 : decode cX5_live 252 = .ok (.iload 5, 2) := by decide +kernel
theorem dX5_live_254 : decode cX5_live 254 = .ok (.goto 5, 3) := by decide +kernel
theorem dX5_live_257 : decode cX5_live 257 = .ok (.iload 6, 2) := by decide +kernel
theorem dX5_live_259 : decode cX5_live 259 = .ok (.ireturn, 1) := by decide +kernel
theorem dX5_hide_0 : decode cX5_hide 0 = .ok (.aload_n 0, 1) := by decide +kernel
theorem dX5_hide_1 : decode cX5_hide 1 = .ok (.iload_n 1, 1) := by decide +kernel
theorem dX5_hide_2 : decode cX5_hide 2 = .ok (.invokevirtual 87, 3) := by decide +kernel
theorem dX5_hide_5 : decode cX5_hide 5 = .ok (.ifCond .eq 34, 3) := by decide +kernel
theorem dX5_hide_8 : decode cX5_hide 8 = .ok (.aload_n 0, 1) := by decide +kernel
theorem dX5_hide_9 : decode cX5_hide 9 = .ok (.iload_n 2, 1) := by decide +kernel
theorem dX5_hide_10 : decode cX5_hide 10 = .ok (.invokevirtual 83, 3) := by decide +kernel
theorem dX5_hide_13 : decode cX5_hide 13 = .ok (.ifCond .eq 26, 3) := by decide +kernel
theorem dX5_hide_16 : decode cX5_hide 16 = .ok (.iload_n 3, 1) := by decide +kernel
theorem dX5_hide_17 : decode cX5_hide 17 = .ok (.i2l, 1) := by decide +kernel
theorem dX5_hide_18 : decode cX5_hide 18 = .ok (.lconst 0, 1) := by decide +kernel
theorem dX5_hide_19 : decode cX5_hide 19 = .ok (.ldc2_w 294, 3) := by decide +kernel
theorem dX5_hide_22 : decode cX5_hide 22 = .ok (.invokestatic 76, 3) := by decide +kernel
theorem dX5_hide_25 : decode cX5_hide 25 = .ok (.ifCond .eq 14, 3) := by decide +kernel
theorem dX5_hide_28 : decode cX5_hide 28 = .ok (.iload 4, 2) := by decide +kernel
theorem dX5_hide_30 : decode cX5_hide 30 = .ok (.i2l, 1) := by decide +kernel
theorem dX5_hide_31 : decode cX5_hide 31 = .ok (.lconst 0, 1) := by decide +kernel
theorem dX5_hide_32 : decode cX5_hide 32 = .ok (.lconst 1, 1) := by decide +kernel
theorem dX5_hide_33 : decode cX5_hide 33 = .ok (.invokestatic 76, 3) := by decide +kernel
theorem dX5_hide_36 : decode cX5_hide 36 = .ok (.ifCond .ne 6, 3) := by decide +kernel
theorem dX5_hide_39 : decode cX5_hide 39 = .ok (.bipush (-2), 2) := by decide +kernel
theorem dX5_hide_41 : decode cX5_hide 41 = .ok (.ireturn, 1) := by decide +kernel
theorem dX5_hide_42 : decode cX5_hide 42 = .ok (.iconst (-1), 1) := by decide +kernel
theorem dX5_hide_43 : decode cX5_hide 43 = .ok (.istore 5, 2) := by decide +kernel
theorem dX5_hide_45 : decode cX5_hide 45 = .ok (.iconst 0, 1) := by decide +kernel
theorem dX5_hide_46 : decode cX5_hide 46 = .ok (.istore 6, 2) := by decide +kernel
theorem dX5_hide_48 : decode cX5_hide 48 = .ok (.iload 6, 2) := by decide +kernel
theorem dX5_hide_50 : decode cX5_hide 50 = .ok (.iconst 1, 1) := by decide +kernel
theorem dX5_hide_51 : decode cX5_hide 51 = .ok (.aload_n 0, 1) := by decide +kernel
theorem dX5_hide_52 : decode cX5_hide 52 = .ok (.getfield 73, 3) := by decide +kernel
theorem dX5_hide_55 : decode cX5_hide 55 = .ok (.ishl, 1) := by decide +kernel
theorem dX5_hide_56 : decode cX5_hide 56 = .ok (.if_icmp .ge 57, 3) := by decide +kernel
theorem dX5_hide_59 : decode cX5_hide 59 = .ok (.iload 5, 2) := by decide +kernel
theorem dX5_hide_61 : decode cX5_hide 61 = .ok (.iconst (-1), 1) := by decide +kernel
theorem dX5_hide_62 : decode cX5_hide 62 = .ok (.if_icmp .eq 16, 3) := by decide +kernel
theorem dX5_hide_65 : decode cX5_hide 65 = .ok (.iload 6, 2) := by decide +kernel
theorem dX5_hide_67 : decode cX5_hide 67 = .ok (.invokestatic 246, 3) := by decide +kernel
theorem dX5_hide_70 : decode cX5_hide 70 = .ok (.iload 5, 2) := by decide +kernel
theorem dX5_hide_72 : decode cX5_hide 72 = .ok (.invokestatic 246, 3) := by decide +kernel
theorem dX5_hide_75 : decode cX5_hide 75 = .ok (.if_icmp .ge 32, 3) := by decide +kernel
theorem dX5_hide_78 : decode cX5_hide 78 = .ok (.aload_n 0, 1) := by decide +kernel
theorem dX5_hide_79 : decode cX5_hide 79 = .ok (.iload 6, 2) := by decide +kernel
theorem dX5_hide_81 : decode cX5_hide 81 = .ok (.putfield 253, 3) := by decide +kernel
theorem dX5_hide_84 : decode cX5_hide 84 = .ok (.aload_n 0, 1) := by decide +kernel
theorem dX5_hide_85 : decode cX5_hide 85 = .ok (.iload_n 1, 1) := by decide +kernel
theorem dX5_hide_86 : decode cX5_hide 86 = .ok (.iload_n 3, 1) := by decide +kernel
theorem dX5_hide_87 : decode cX5_hide 87 = .ok (.iconst 2, 1) := by decide +kernel
theorem dX5_hide_88 : decode cX5_hide 88 = .ok (.invokevirtual 307, 3) := by decide +kernel
theorem dX5_hide_91 : decode cX5_hide 91 = .ok (.iload_n 2, 1) := by decide +kernel
theorem dX5_hide_92 : decode cX5_hide 92 = .ok (.ishr, 1) := by decide +kernel
theorem dX5_hide_93 : decode cX5_hide 93 = .ok (.iconst 1, 1) := by decide +kernel
theorem dX5_hide_94 : decode cX5_hide 94 = .ok (.iand, 1) := by decide +kernel
theorem dX5_hide_95 : decode cX5_hide 95 = .ok (.ifCond .ne 8, 3) := by decide +kernel
theorem dX5_hide_98 : decode cX5_hide 98 = .ok (.iload 6, 2) := by decide +kernel
theorem dX5_hide_100 : decode cX5_hide 100 = .ok (.goto 5, 3) := by decide +kernel
theorem dX5_hide_103 : decode cX5_hide 103 = .ok (.iload 5, 2) := by decide +kernel
theorem dX5_hide_105 : decode cX5_hide 105 = .ok (.istore 5, 2) := by decide +kernel
theorem dX5_hide_107 : decode cX5_hide 107 = .ok (.iinc 6 1, 3) := by decide +kernel
theorem dX5_hide_110 : decode cX5_hide 110 = .ok (.goto (-62), 3) := by decide +kernel
theorem dX5_hide_113 : decode cX5_hide 113 = .ok (.aload_n 0, 1) := by decide +kernel
theorem dX5_hide_114 : decode cX5_hide 114 = .ok (.iconst 0, 1) := by decide +kernel
theorem dX5_hide_115 : decode cX5_hide 115 = .ok (.putfield 253, 3) := by decide +kernel
theorem dX5_hide_118 : decode cX5_hide 118 = .ok (.iload 4, 2) := by decide +kernel
theorem dX5_hide_120 : decode cX5_hide 120 = .ok (.ifCond .eq 9, 3) := by decide +kernel
theorem dX5_hide_123 : decode cX5_hide 123 = .ok (.iload 5, 2) := by decide +kernel
theorem dX5_hide_125 : decode cX5_hide 125 = .ok (.iconst (-1), 1) := by decide +kernel
theorem dX5_hide_126 : decode cX5_hide 126 = .ok (.if_icmp .ne 8, 3) := by decide +kernel
theorem dX5_hide_129 : decode cX5_hide 129 = .ok (.iload 5, 2) := by decide +kernel
theorem dX5_hide_131 : decode cX5_hide 131 = .ok (.goto 8, 3) := by decide +kernel
theorem dX5_hide_134 : decode cX5_hide 134 = .ok (.iload 5, 2) := by decide +kernel
theorem dX5_hide_136 : decode cX5_hide 136 = .ok (.invokestatic 246, 3) := by decide +kernel
theorem dX5_hide_139 : decode cX5_hide 139 = .ok (.ireturn, 1) := by decide +kernel
theorem dX5_tell_0 : decode cX5_tell 0 = .ok (.aload_n 0, 1) := by decide +kernel
theorem dX5_tell_1 : decode cX5_tell 1 = .ok (.iload_n 1, 1) := by decide +kernel
theorem dX5_tell_2 : decode cX5_tell 2 = .ok (.invokevirtual 83, 3) := by decide +kernel
theorem dX5_tell_5 : decode cX5_tell 5 = .ok (.ifCond .eq 33, 3) := by decide +kernel
theorem dX5_tell_8 : decode cX5_tell 8 = .ok (.iload_n 2, 1) := by decide +kernel
theorem dX5_tell_9 : decode cX5_tell 9 = .ok (.i2l, 1) := by decide +kernel
theorem dX5_tell_10 : decode cX5_tell 10 = .ok (.lconst 0, 1) := by decide +kernel
theorem dX5_tell_11 : decode cX5_tell 11 = .ok (.iconst 1, 1) := by decide +kernel
theorem dX5_tell_12 : decode cX5_tell 12 = .ok (.aload_n 0, 1) := by decide +kernel
theorem dX5_tell_13 : decode cX5_tell 13 = .ok (.getfield 73, 3) := by decide +kernel
theorem dX5_tell_16 : decode cX5_tell 16 = .ok (.ishl, 1) := by decide +kernel
theorem dX5_tell_17 : decode cX5_tell 17 = .ok (.iconst 1, 1) := by decide +kernel
theorem dX5_tell_18 : decode cX5_tell 18 = .ok (.isub, 1) := by decide +kernel
theorem dX5_tell_19 : decode cX5_tell 19 = .ok (.i2l, 1) := by decide +kernel
theorem dX5_tell_20 : decode cX5_tell 20 = .ok (.invokestatic 76, 3) := by decide +kernel
theorem dX5_tell_23 : decode cX5_tell 23 = .ok (.ifCond .eq 15, 3) := by decide +kernel
theorem dX5_tell_26 : decode cX5_tell 26 = .ok (.iload_n 3, 1) := by decide +kernel
theorem dX5_tell_27 : decode cX5_tell 27 = .ok (.i2l, 1) := by decide +kernel
theorem dX5_tell_28 : decode cX5_tell 28 = .ok (.lconst 0, 1) := by decide +kernel
theorem dX5_tell_29 : decode cX5_tell 29 = .ok (.ldc2_w 299, 3) := by decide +kernel
theorem dX5_tell_32 : decode cX5_tell 32 = .ok (.invokestatic 76, 3) := by decide +kernel
theorem dX5_tell_35 : decode cX5_tell 35 = .ok (.ifCond .ne 6, 3) := by decide +kernel
theorem dX5_tell_38 : decode cX5_tell 38 = .ok (.bipush (-2), 2) := by decide +kernel
theorem dX5_tell_40 : decode cX5_tell 40 = .ok (.ireturn, 1) := by decide +kernel
theorem dX5_tell_41 : decode cX5_tell 41 = .ok (.aload_n 0, 1) := by decide +kernel
theorem dX5_tell_42 : decode cX5_tell 42 = .ok (.getfield 80, 3) := by decide +kernel
theorem dX5_tell_45 : decode cX5_tell 45 = .ok (.bipush 8, 2) := by decide +kernel
theorem dX5_tell_47 : decode cX5_tell 47 = .ok (.if_icmp .ne 6, 3) := by decide +kernel
theorem dX5_tell_50 : decode cX5_tell 50 = .ok (.bipush (-4), 2) := by decide +kernel
theorem dX5_tell_52 : decode cX5_tell 52 = .ok (.ireturn, 1) := by decide +kernel
theorem dX5_tell_53 : decode cX5_tell 53 = .ok (.iconst (-1), 1) := by decide +kernel
theorem dX5_tell_54 : decode cX5_tell 54 = .ok (.istore 4, 2) := by decide +kernel
theorem dX5_tell_56 : decode cX5_tell 56 = .ok (.aload_n 0, 1) := by decide +kernel
theorem dX5_tell_57 : decode cX5_tell 57 = .ok (.getfield 73, 3) := by decide +kernel
theorem dX5_tell_60 : decode cX5_tell 60 = .ok (.iconst 1, 1) := by decide +kernel
theorem dX5_tell_61 : decode cX5_tell 61 = .ok (.isub, 1) := by decide +kernel
theorem dX5_tell_62 : decode cX5_tell 62 = .ok (.istore 5, 2) := by decide +kernel
theorem dX5_tell_64 : decode cX5_tell 64 = .ok (.iload 5, 2) := by decide +kernel
theorem dX5_tell_66 : decode cX5_tell 66 = .ok (.ifCond .lt 57, 3) := by decide +kernel
theorem dX5_tell_69 : decode cX5_tell 69 = .ok (.iload 5, 2) := by decide +kernel
theorem dX5_tell_71 : decode cX5_tell 71 = .ok (.iload_n 1, 1) := by decide +kernel
theorem dX5_tell_72 : decode cX5_tell 72 = .ok (.if_icmp .eq 45, 3) := by decide +kernel
theorem dX5_tell_75 : decode cX5_tell 75 = .ok (.aload_n 0, 1) := by decide +kernel
theorem dX5_tell_76 : decode cX5_tell 76 = .ok (.iload_n 1, 1) := by decide +kernel
theorem dX5_tell_77 : decode cX5_tell 77 = .ok (.iload 5, 2) := by decide +kernel
theorem dX5_tell_79 : decode cX5_tell 79 = .ok (.invokevirtual 268, 3) := by decide +kernel
theorem dX5_tell_82 : decode cX5_tell 82 = .ok (.aload_n 0, 1) := by decide +kernel
theorem dX5_tell_83 : decode cX5_tell 83 = .ok (.aload_n 0, 1) := by decide +kernel
theorem dX5_tell_84 : decode cX5_tell 84 = .ok (.getfield 80, 3) := by decide +kernel
theorem dX5_tell_87 : decode cX5_tell 87 = .ok (.iconst 1, 1) := by decide +kernel
theorem dX5_tell_88 : decode cX5_tell 88 = .ok (.isub, 1) := by decide +kernel
theorem dX5_tell_89 : decode cX5_tell 89 = .ok (.iload_n 3, 1) := by decide +kernel
theorem dX5_tell_90 : decode cX5_tell 90 = .ok (.iconst 2, 1) := by decide +kernel
theorem dX5_tell_91 : decode cX5_tell 91 = .ok (.invokevirtual 307, 3) := by decide +kernel
theorem dX5_tell_94 : decode cX5_tell 94 = .ok (.iload_n 2, 1) := by decide +kernel
theorem dX5_tell_95 : decode cX5_tell 95 = .ok (.if_icmp .ne 8, 3) := by decide +kernel
theorem dX5_tell_98 : decode cX5_tell 98 = .ok (.iload 5, 2) := by decide +kernel
theorem dX5_tell_100 : decode cX5_tell 100 = .ok (.goto 5, 3) := by decide +kernel
theorem dX5_tell_103 : decode cX5_tell 103 = .ok (.iload 4, 2) := by decide +kernel
theorem dX5_tell_105 : decode cX5_tell 105 = .ok (.istore 4, 2) := by decide +kernel
theorem dX5_tell_107 : decode cX5_tell 107 = .ok (.aload_n 0, 1) := by decide +kernel
theorem dX5_tell_108 : decode cX5_tell 108 = .ok (.dup, 1) := by decide +kernel
theorem dX5_tell_109 : decode cX5_tell 109 = .ok (.getfield 80, 3) := by decide +kernel
theorem dX5_tell_112 : decode cX5_tell 112 = .ok (.iconst 1, 1) := by decide +kernel
theorem dX5_tell_113 : decode cX5_tell 113 = .ok (.isub, 1) := by decide +kernel
theorem dX5_tell_114 : decode cX5_tell 114 = .ok (.putfield 80, 3) := by decide +kernel
theorem dX5_tell_117 : decode cX5_tell 117 = .ok (.iinc 5 (-1), 3) := by decide +kernel
theorem dX5_tell_120 : decode cX5_tell 120 = .ok (.goto (-56), 3) := by decide +kernel
theorem dX5_tell_123 : decode cX5_tell 123 = .ok (.iload 4, 2) := by decide +kernel
theorem dX5_tell_125 : decode cX5_tell 125 = .ok (.ireturn, 1) := by decide +kernel
theorem dX5_lowest_0 : decode cX5_lowest 0 = .ok (.lload_n 0, 1) := by decide +kernel
theorem dX5_lowest_1 : decode cX5_lowest 1 = .ok (.lstore 5, 2) := by decide +kernel
theorem dX5_lowest_3 : decode cX5_lowest 3 = .ok (.lload_n 2, 1) := by decide +kernel
theorem dX5_lowest_4 : decode cX5_lowest 4 = .ok (.lstore 7, 2) := by decide +kernel
theorem dX5_lowest_6 : decode cX5_lowest 6 = .ok (.lload 7, 2) := by decide +kernel
theorem dX5_lowest_8 : decode cX5_lowest 8 = .ok (.lconst 0, 1) := by decide +kernel
theorem dX5_lowest_9 : decode cX5_lowest 9 = .ok (.lcmp, 1) := by decide +kernel
theorem dX5_lowest_10 : decode cX5_lowest 10 = .ok (.ifCond .eq 21, 3) := by decide +kernel
theorem dX5_lowest_13 : decode cX5_lowest 13 = .ok (.lload 5, 2) := by decide +kernel
theorem dX5_lowest_15 : decode cX5_lowest 15 = .ok (.lload 7, 2) := by decide +kernel
theorem dX5_lowest_17 : decode cX5_lowest 17 = .ok (.lrem, 1) := by decide +kernel
theorem dX5_lowest_18 : decode cX5_lowest 18 = .ok (.lstore 9, 2) := by decide +kernel
theorem dX5_lowest_20 : decode cX5_lowest 20 = .ok (.lload 7, 2) := by decide +kernel
theorem dX5_lowest_22 : decode cX5_lowest 22 = .ok (.lstore 5, 2) := by decide +kernel
theorem dX5_lowest_24 : decode cX5_lowest 24 = .ok (.lload 9, 2) := by decide +kernel
theorem dX5_lowest_26 : decode cX5_lowest 26 = .ok (.lstore 7, 2) := by decide +kernel
theorem dX5_lowest_28 : decode cX5_lowest 28 = .ok (.goto (-22), 3) := by decide +kernel
theorem dX5_lowest_31 : decode cX5_lowest 31 = .ok (.iload 4, 2) := by decide +kernel
theorem dX5_lowest_33 : decode cX5_lowest 33 = .ok (.ifCond .ne 10, 3) := by decide +kernel
theorem dX5_lowest_36 : decode cX5_lowest 36 = .ok (.lload_n 0, 1) := by decide +kernel
theorem dX5_lowest_37 : decode cX5_lowest 37 = .ok (.lload 5, 2) := by decide +kernel
theorem dX5_lowest_39 : decode cX5_lowest 39 = .ok (.ldiv, 1) := by decide +kernel
theorem dX5_lowest_40 : decode cX5_lowest 40 = .ok (.goto 7, 3) := by decide +kernel
theorem dX5_lowest_43 : decode cX5_lowest 43 = .ok (.lload_n 2, 1) := by decide +kernel
theorem dX5_lowest_44 : decode cX5_lowest 44 = .ok (.lload 5, 2) := by decide +kernel
theorem dX5_lowest_46 : decode cX5_lowest 46 = .ok (.ldiv, 1) := by decide +kernel
theorem dX5_lowest_47 : decode cX5_lowest 47 = .ok (.lreturn, 1) := by decide +kernel
theorem dX5_mean_0 : decode cX5_mean 0 = .ok (.iload_n 1, 1) := by decide +kernel
theorem dX5_mean_1 : decode cX5_mean 1 = .ok (.i2l, 1) := by decide +kernel
theorem dX5_mean_2 : decode cX5_mean 2 = .ok (.lconst 0, 1) := by decide +kernel
theorem dX5_mean_3 : decode cX5_mean 3 = .ok (.lconst 1, 1) := by decide +kernel
theorem dX5_mean_4 : decode cX5_mean 4 = .ok (.invokestatic 76, 3) := by decide +kernel
theorem dX5_mean_7 : decode cX5_mean 7 = .ok (.ifCond .eq 10, 3) := by decide +kernel
theorem dX5_mean_10 : decode cX5_mean 10 = .ok (.aload_n 0, 1) := by decide +kernel
theorem dX5_mean_11 : decode cX5_mean 11 = .ok (.getfield 80, 3) := by decide +kernel
theorem dX5_mean_14 : decode cX5_mean 14 = .ok (.ifCond .ne 7, 3) := by decide +kernel
theorem dX5_mean_17 : decode cX5_mean 17 = .ok (.ldc2_w 310, 3) := by decide +kernel
theorem dX5_mean_20 : decode cX5_mean 20 = .ok (.lreturn, 1) := by decide +kernel
theorem dX5_mean_21 : decode cX5_mean 21 = .ok (.iconst 0, 1) := by decide +kernel
theorem dX5_mean_22 : decode cX5_mean 22 = .ok (.istore_n 2, 1) := by decide +kernel
theorem dX5_mean_23 : decode cX5_mean 23 = .ok (.iconst 0, 1) := by decide +kernel
theorem dX5_mean_24 : decode cX5_mean 24 = .ok (.istore_n 3, 1) := by decide +kernel
theorem dX5_mean_25 : decode cX5_mean 25 = .ok (.iload_n 3, 1) := by decide +kernel
theorem dX5_mean_26 : decode cX5_mean 26 = .ok (.aload_n 0, 1) := by decide +kernel
theorem dX5_mean_27 : decode cX5_mean 27 = .ok (.getfield 80, 3) := by decide +kernel
theorem dX5_mean_30 : decode cX5_mean 30 = .ok (.if_icmp .ge 20, 3) := by decide +kernel
theorem dX5_mean_33 : decode cX5_mean 33 = .ok (.iload_n 2, 1) := by decide +kernel
theorem dX5_mean_34 : decode cX5_mean 34 = .ok (.aload_n 0, 1) := by decide +kernel
theorem dX5_mean_35 : decode cX5_mean 35 = .ok (.getfield 29, 3) := by decide +kernel
theorem dX5_mean_38 : decode cX5_mean 38 = .ok (.iconst 5, 1) := by decide +kernel
theorem dX5_mean_39 : decode cX5_mean 39 = .ok (.iload_n 3, 1) := by decide +kernel
theorem dX5_mean_40 : decode cX5_mean 40 = .ok (.imul, 1) := by decide +kernel
theorem dX5_mean_41 : decode cX5_mean 41 = .ok (.iaload, 1) := by decide +kernel
theorem dX5_mean_42 : decode cX5_mean 42 = .ok (.iadd, 1) := by decide +kernel
theorem dX5_mean_43 : decode cX5_mean 43 = .ok (.istore_n 2, 1) := by decide +kernel
theorem dX5_mean_44 : decode cX5_mean 44 = .ok (.iinc 3 1, 3) := by decide +kernel
theorem dX5_mean_47 : decode cX5_mean 47 = .ok (.goto (-22), 3) := by decide +kernel
theorem dX5_mean_50 : decode cX5_mean 50 = .ok (.iload_n 2, 1) := by decide +kernel
theorem dX5_mean_51 : decode cX5_mean 51 = .ok (.i2l, 1) := by decide +kernel
theorem dX5_mean_52 : decode cX5_mean 52 = .ok (.aload_n 0, 1) := by decide +kernel
theorem dX5_mean_53 : decode cX5_mean 53 = .ok (.getfield 80, 3) := by decide +kernel
theorem dX5_mean_56 : decode cX5_mean 56 = .ok (.i2l, 1) := by decide +kernel
theorem dX5_mean_57 : decode cX5_mean 57 = .ok (.iload_n 1, 1) := by decide +kernel
theorem dX5_mean_58 : decode cX5_mean 58 = .ok (.invokestatic 312, 3) := by decide +kernel
theorem dX5_mean_61 : decode cX5_mean 61 = .ok (.lreturn, 1) := by decide +kernel
theorem dX5_firstOther_0 : decode cX5_firstOther 0 = .ok (.aload_n 0, 1) := by decide +kernel
theorem dX5_firstOther_1 : decode cX5_firstOther 1 = .ok (.invokevirtual 282, 3) := by decide +kernel
theorem dX5_firstOther_4 : decode cX5_firstOther 4 = .ok (.iconst (-1), 1) := by decide +kernel
theorem dX5_firstOther_5 : decode cX5_firstOther 5 = .ok (.istore_n 3, 1) := by decide +kernel
theorem dX5_firstOther_6 : decode cX5_firstOther 6 = .ok (.iconst 0, 1) := by decide +kernel
theorem dX5_firstOther_7 : decode cX5_firstOther 7 = .ok (.istore 4, 2) := by decide +kernel
theorem dX5_firstOther_9 : decode cX5_firstOther 9 = .ok (.iload 4, 2) := by decide +kernel
theorem dX5_firstOther_11 : decode cX5_firstOther 11 = .ok (.aload_n 0, 1) := by decide +kernel
theorem dX5_firstOther_12 : decode cX5_firstOther 12 = .ok (.getfield 60, 3) := by decide +kernel
theorem dX5_firstOther_15 : decode cX5_firstOther 15 = .ok (.iload_n 1, 1) := by decide +kernel
theorem dX5_firstOther_16 : decode cX5_firstOther 16 = .ok (.iaload, 1) := by decide +kernel
theorem dX5_firstOther_17 : decode cX5_firstOther 17 = .ok (.if_icmp .ge 50, 3) := by decide +kernel
theorem dX5_firstOther_20 : decode cX5_firstOther 20 = .ok (.iload_n 3, 1) := by decide +kernel
theorem dX5_firstOther_21 : decode cX5_firstOther 21 = .ok (.iconst (-1), 1) := by decide +kernel
theorem dX5_firstOther_22 : decode cX5_firstOther 22 = .ok (.if_icmp .ne 45, 3) := by decide +kernel
theorem dX5_firstOther_25 : decode cX5_firstOther 25 = .ok (.aload_n 0, 1) := by decide +kernel
theorem dX5_firstOther_26 : decode cX5_firstOther 26 = .ok (.invokevirtual 279, 3) := by decide +kernel
theorem dX5_firstOther_29 : decode cX5_firstOther 29 = .ok (.aload_n 0, 1) := by decide +kernel
theorem dX5_firstOther_30 : decode cX5_firstOther 30 = .ok (.getfield 29, 3) := by decide +kernel
theorem dX5_firstOther_33 : decode cX5_firstOther 33 = .ok (.iconst 5, 1) := by decide +kernel
theorem dX5_firstOther_34 : decode cX5_firstOther 34 = .ok (.iload_n 2, 1) := by decide +kernel
theorem dX5_firstOther_35 : decode cX5_firstOther 35 = .ok (.imul, 1) := by decide +kernel
theorem dX5_firstOther_36 : decode cX5_firstOther 36 = .ok (.iconst 3, 1) := by decide +kernel
theorem dX5_firstOther_37 : decode cX5_firstOther 37 = .ok (.iadd, 1) := by decide +kernel
theorem dX5_firstOther_38 : decode cX5_firstOther 38 = .ok (.iaload, 1) := by decide +kernel
theorem dX5_firstOther_39 : decode cX5_firstOther 39 = .ok (.aload_n 0, 1) := by decide +kernel
theorem dX5_firstOther_40 : decode cX5_firstOther 40 = .ok (.getfield 63, 3) := by decide +kernel
theorem dX5_firstOther_43 : decode cX5_firstOther 43 = .ok (.bipush 40, 2) := by decide +kernel
theorem dX5_firstOther_45 : decode cX5_firstOther 45 = .ok (.iload_n 1, 1) := by decide +kernel
theorem dX5_firstOther_46 : decode cX5_firstOther 46 = .ok (.imul, 1) := by decide +kernel
theorem dX5_firstOther_47 : decode cX5_firstOther 47 = .ok (.iload 4, 2) := by decide +kernel
theorem dX5_firstOther_49 : decode cX5_firstOther 49 = .ok (.iadd, 1) := by decide +kernel
theorem dX5_firstOther_50 : decode cX5_firstOther 50 = .ok (.iaload, 1) := by decide +kernel
theorem dX5_firstOther_51 : decode cX5_firstOther 51 = .ok (.if_icmp .ne 7, 3) := by decide +kernel
theorem dX5_firstOther_54 : decode cX5_firstOther 54 = .ok (.iconst (-1), 1) := by decide +kernel
theorem dX5_firstOther_55 : decode cX5_firstOther 55 = .ok (.goto 5, 3) := by decide +kernel
theorem dX5_firstOther_58 : decode cX5_firstOther 58 = .ok (.iload 4, 2) := by decide +kernel
theorem dX5_firstOther_60 : decode cX5_firstOther 60 = .ok (.istore_n 3, 1) := by decide +kernel
theorem dX5_firstOther_61 : decode cX5_firstOther 61 = .ok (.iinc 4 1, 3) := by decide +kernel
theorem dX5_firstOther_64 : decode cX5_firstOther 64 = .ok (.goto (-55), 3) := by decide +kernel
theorem dX5_firstOther_67 : decode cX5_firstOther 67 = .ok (.aload_n 0, 1) := by decide +kernel
theorem dX5_firstOther_68 : decode cX5_firstOther 68 = .ok (.invokevirtual 291, 3) := by decide +kernel
theorem dX5_firstOther_71 : decode cX5_firstOther 71 = .ok (.iload_n 3, 1) := by decide +kernel
theorem dX5_firstOther_72 : decode cX5_firstOther 72 = .ok (.ireturn, 1) := by decide +kernel
theorem dX5_likeSet_0 : decode cX5_likeSet 0 = .ok (.iconst 0, 1) := by decide +kernel
theorem dX5_likeSet_1 : decode cX5_likeSet 1 = .ok (.istore_n 2, 1) := by decide +kernel
theorem dX5_likeSet_2 : decode cX5_likeSet 2 = .ok (.iconst 0, 1) := by decide +kernel
theorem dX5_likeSet_3 : decode cX5_likeSet 3 = .ok (.istore_n 3, 1) := by decide +kernel
theorem dX5_likeSet_4 : decode cX5_likeSet 4 = .ok (.iload_n 3, 1) := by decide +kernel
theorem dX5_likeSet_5 : decode cX5_likeSet 5 = .ok (.aload_n 0, 1) := by decide +kernel
theorem dX5_likeSet_6 : decode cX5_likeSet 6 = .ok (.getfield 80, 3) := by decide +kernel
theorem dX5_likeSet_9 : decode cX5_likeSet 9 = .ok (.if_icmp .ge 29, 3) := by decide +kernel
theorem dX5_likeSet_12 : decode cX5_likeSet 12 = .ok (.iload_n 2, 1) := by decide +kernel
theorem dX5_likeSet_13 : decode cX5_likeSet 13 = .ok (.aload_n 0, 1) := by decide +kernel
theorem dX5_likeSet_14 : decode cX5_likeSet 14 = .ok (.iload_n 1, 1) := by decide +kernel
theorem dX5_likeSet_15 : decode cX5_likeSet 15 = .ok (.iload_n 3, 1) := by decide +kernel
theorem dX5_likeSet_16 : decode cX5_likeSet 16 = .ok (.invokevirtual 316, 3) := by decide +kernel
theorem dX5_likeSet_19 : decode cX5_likeSet 19 = .ok (.iconst (-1), 1) := by decide +kernel
theorem dX5_likeSet_20 : decode cX5_likeSet 20 = .ok (.if_icmp .ne 7, 3) := by decide +kernel
theorem dX5_likeSet_23 : decode cX5_likeSet 23 = .ok (.iconst 1, 1) := by decide +kernel
theorem dX5_likeSet_24 : decode cX5_likeSet 24 = .ok (.goto 4, 3) := by decide +kernel
theorem dX5_likeSet_27 : decode cX5_likeSet 27 = .ok (.iconst 0, 1) := by decide +kernel
theorem dX5_likeSet_28 : decode cX5_likeSet 28 = .ok (.iload_n 3, 1) := by decide +kernel
theorem dX5_likeSet_29 : decode cX5_likeSet 29 = .ok (.ishl, 1) := by decide +kernel
theorem dX5_likeSet_30 : decode cX5_likeSet 30 = .ok (.ior, 1) := by decide +kernel
theorem dX5_likeSet_31 : decode cX5_likeSet 31 = .ok (.istore_n 2, 1) := by decide +kernel
theorem dX5_likeSet_32 : decode cX5_likeSet 32 = .ok (.iinc 3 1, 3) := by decide +kernel
theorem dX5_likeSet_35 : decode cX5_likeSet 35 = .ok (.goto (-31), 3) := by decide +kernel
theorem dX5_likeSet_38 : decode cX5_likeSet 38 = .ok (.iload_n 2, 1) := by decide +kernel
theorem dX5_likeSet_39 : decode cX5_likeSet 39 = .ok (.ireturn, 1) := by decide +kernel
theorem dX5_tells_0 : decode cX5_tells 0 = .ok (.iload_n 1, 1) := by decide +kernel
theorem dX5_tells_1 : decode cX5_tells 1 = .ok (.invokestatic 319, 3) := by decide +kernel
theorem dX5_tells_4 : decode cX5_tells 4 = .ok (.ifCond .eq 32, 3) := by decide +kernel
theorem dX5_tells_7 : decode cX5_tells 7 = .ok (.aload_n 0, 1) := by decide +kernel
theorem dX5_tells_8 : decode cX5_tells 8 = .ok (.iload_n 2, 1) := by decide +kernel
theorem dX5_tells_9 : decode cX5_tells 9 = .ok (.invokevirtual 87, 3) := by decide +kernel
theorem dX5_tells_12 : decode cX5_tells 12 = .ok (.ifCond .eq 24, 3) := by decide +kernel
theorem dX5_tells_15 : decode cX5_tells 15 = .ok (.aload_n 0, 1) := by decide +kernel
theorem dX5_tells_16 : decode cX5_tells 16 = .ok (.iload_n 3, 1) := by decide +kernel
theorem dX5_tells_17 : decode cX5_tells 17 = .ok (.invokevirtual 83, 3) := by decide +kernel
theorem dX5_tells_20 : decode cX5_tells 20 = .ok (.ifCond .eq 16, 3) := by decide +kernel
theorem dX5_tells_23 : decode cX5_tells 23 = .ok (.iload 4, 2) := by decide +kernel
theorem dX5_tells_25 : decode cX5_tells 25 = .ok (.i2l, 1) := by decide +kernel
theorem dX5_tells_26 : decode cX5_tells 26 = .ok (.lconst 0, 1) := by decide +kernel
theorem dX5_tells_27 : decode cX5_tells 27 = .ok (.ldc2_w 322, 3) := by decide +kernel
theorem dX5_tells_30 : decode cX5_tells 30 = .ok (.invokestatic 76, 3) := by decide +kernel
theorem dX5_tells_33 : decode cX5_tells 33 = .ok (.ifCond .ne 6, 3) := by decide +kernel
theorem dX5_tells_36 : decode cX5_tells 36 = .ok (.bipush (-2), 2) := by decide +kernel
theorem dX5_tells_38 : decode cX5_tells 38 = .ok (.ireturn, 1) := by decide +kernel
theorem dX5_tells_39 : decode cX5_tells 39 = .ok (.aload_n 0, 1) := by decide +kernel
theorem dX5_tells_40 : decode cX5_tells 40 = .ok (.getfield 53, 3) := by decide +kernel
theorem dX5_tells_43 : decode cX5_tells 43 = .ok (.iload_n 1, 1) := by decide +kernel
theorem dX5_tells_44 : decode cX5_tells 44 = .ok (.baload, 1) := by decide +kernel
theorem dX5_tells_45 : decode cX5_tells 45 = .ok (.ifCond .ne 6, 3) := by decide +kernel
theorem dX5_tells_48 : decode cX5_tells 48 = .ok (.bipush (-11), 2) := by decide +kernel
theorem dX5_tells_50 : decode cX5_tells 50 = .ok (.ireturn, 1) := by decide +kernel
theorem dX5_tells_51 : decode cX5_tells 51 = .ok (.aload_n 0, 1) := by decide +kernel
theorem dX5_tells_52 : decode cX5_tells 52 = .ok (.getfield 60, 3) := by decide +kernel
theorem dX5_tells_55 : decode cX5_tells 55 = .ok (.iload_n 1, 1) := by decide +kernel
theorem dX5_tells_56 : decode cX5_tells 56 = .ok (.iaload, 1) := by decide +kernel
theorem dX5_tells_57 : decode cX5_tells 57 = .ok (.bipush 20, 2) := by decide +kernel
theorem dX5_tells_59 : decode cX5_tells 59 = .ok (.if_icmp .le 6, 3) := by decide +kernel
theorem dX5_tells_62 : decode cX5_tells 62 = .ok (.bipush (-2), 2) := by decide +kernel
theorem dX5_tells_64 : decode cX5_tells 64 = .ok (.ireturn, 1) := by decide +kernel
theorem dX5_tells_65 : decode cX5_tells 65 = .ok (.iload 4, 2) := by decide +kernel
theorem dX5_tells_67 : decode cX5_tells 67 = .ok (.ifCond .eq 10, 3) := by decide +kernel
theorem dX5_tells_70 : decode cX5_tells 70 = .ok (.iload 4, 2) := by decide +kernel
theorem dX5_tells_72 : decode cX5_tells 72 = .ok (.bipush 6, 2) := by decide +kernel
theorem dX5_tells_74 : decode cX5_tells 74 = .ok (.if_icmp .ne 23, 3) := by decide +kernel
theorem dX5_tells_77 : decode cX5_tells 77 = .ok (.iload 4, 2) := by decide +kernel
theorem dX5_tells_79 : decode cX5_tells 79 = .ok (.ifCond .ne 12, 3) := by decide +kernel
theorem dX5_tells_82 : decode cX5_tells 82 = .ok (.aload_n 0, 1) := by decide +kernel
theorem dX5_tells_83 : decode cX5_tells 83 = .ok (.iload_n 1, 1) := by decide +kernel
theorem dX5_tells_84 : decode cX5_tells 84 = .ok (.iload_n 2, 1) := by decide +kernel
theorem dX5_tells_85 : decode cX5_tells 85 = .ok (.invokevirtual 316, 3) := by decide +kernel
theorem dX5_tells_88 : decode cX5_tells 88 = .ok (.goto 8, 3) := by decide +kernel
theorem dX5_tells_91 : decode cX5_tells 91 = .ok (.aload_n 0, 1) := by decide +kernel
theorem dX5_tells_92 : decode cX5_tells 92 = .ok (.iload_n 1, 1) := by decide +kernel
theorem dX5_tells_93 : decode cX5_tells 93 = .ok (.invokevirtual 324, 3) := by decide +kernel
theorem dX5_tells_96 : decode cX5_tells 96 = .ok (.ireturn, 1) := by decide +kernel
theorem dX5_tells_97 : decode cX5_tells 97 = .ok (.iload 4, 2) := by decide +kernel
theorem dX5_tells_99 : decode cX5_tells 99 = .ok (.iconst 1, 1) := by decide +kernel
theorem dX5_tells_100 : decode cX5_tells 100 = .ok (.if_icmp .ne 7, 3) := by decide +kernel
theorem dX5_tells_103 : decode cX5_tells 103 = .ok (.iconst 4, 1) := by decide +kernel
theorem dX5_tells_104 : decode cX5_tells 104 = .ok (.goto 24, 3) := by decide +kernel
theorem dX5_tells_107 : decode cX5_tells 107 = .ok (.iload 4, 2) := by decide +kernel
theorem dX5_tells_109 : decode cX5_tells 109 = .ok (.iconst 2, 1) := by decide +kernel
theorem dX5_tells_110 : decode cX5_tells 110 = .ok (.if_icmp .ne 7, 3) := by decide +kernel
theorem dX5_tells_113 : decode cX5_tells 113 = .ok (.iconst 2, 1) := by decide +kernel
theorem dX5_tells_114 : decode cX5_tells 114 = .ok (.goto 14, 3) := by decide +kernel
theorem dX5_tells_117 : decode cX5_tells 117 = .ok (.iload 4, 2) := by decide +kernel
theorem dX5_tells_119 : decode cX5_tells 119 = .ok (.iconst 5, 1) := by decide +kernel
theorem dX5_tells_120 : decode cX5_tells 120 = .ok (.if_icmp .ne 7, 3) := by decide +kernel
theorem dX5_tells_123 : decode cX5_tells 123 = .ok (.iconst 5, 1) := by decide +kernel
theorem dX5_tells_124 : decode cX5_tells 124 = .ok (.goto 4, 3) := by decide +kernel
theorem dX5_tells_127 : decode cX5_tells 127 = .ok (.iconst 0, 1) := by decide +kernel
theorem dX5_tells_128 : decode cX5_tells 128 = .ok (.istore 5, 2) := by decide +kernel
theorem dX5_tells_130 : decode cX5_tells 130 = .ok (.iload 5, 2) := by decide +kernel
theorem dX5_tells_132 : decode cX5_tells 132 = .ok (.iconst 5, 1) := by decide +kernel
theorem dX5_tells_133 : decode cX5_tells 133 = .ok (.if_icmp .ne 10, 3) := by decide +kernel
theorem dX5_tells_136 : decode cX5_tells 136 = .ok (.aload_n 0, 1) := by decide +kernel
theorem dX5_tells_137 : decode cX5_tells 137 = .ok (.getfield 111, 3) := by decide +kernel
theorem dX5_tells_140 : decode cX5_tells 140 = .ok (.goto 10, 3) := by decide +kernel
theorem dX5_tells_143 : decode cX5_tells 143 = .ok (.aload_n 0, 1) := by decide +kernel
theorem dX5_tells_144 : decode cX5_tells 144 = .ok (.iload_n 3, 1) := by decide +kernel
theorem dX5_tells_145 : decode cX5_tells 145 = .ok (.iload 5, 2) := by decide +kernel
theorem dX5_tells_147 : decode cX5_tells 147 = .ok (.invokevirtual 100, 3) := by decide +kernel
theorem dX5_tells_150 : decode cX5_tells 150 = .ok (.istore 6, 2) := by decide +kernel
theorem dX5_tells_152 : decode cX5_tells 152 = .ok (.iload 5, 2) := by decide +kernel
theorem dX5_tells_154 : decode cX5_tells 154 = .ok (.iconst 5, 1) := by decide +kernel
theorem dX5_tells_155 : decode cX5_tells 155 = .ok (.if_icmp .ne 12, 3) := by decide +kernel
theorem dX5_tells_158 : decode cX5_tells 158 = .ok (.aload_n 0, 1) := by decide +kernel
theorem dX5_tells_159 : decode cX5_tells 159 = .ok (.getfield 70, 3) := by decide +kernel
theorem dX5_tells_162 : decode cX5_tells 162 = .ok (.iconst 1, 1) := by decide +kernel
theorem dX5_tells_163 : decode cX5_tells 163 = .ok (.isub, 1) := by decide +kernel
theorem dX5_tells_164 : decode cX5_tells 164 = .ok (.goto 26, 3) := by decide +kernel
theorem dX5_tells_167 : decode cX5_tells 167 = .ok (.iload 5, 2) := by decide +kernel
theorem dX5_tells_169 : decode cX5_tells 169 = .ok (.iconst 4, 1) := by decide +kernel
theorem dX5_tells_170 : decode cX5_tells 170 = .ok (.if_icmp .ne 7, 3) := by decide +kernel
theorem dX5_tells_173 : decode cX5_tells 173 = .ok (.iconst 5, 1) := by decide +kernel
theorem dX5_tells_174 : decode cX5_tells 174 = .ok (.goto 16, 3) := by decide +kernel
theorem dX5_tells_177 : decode cX5_tells 177 = .ok (.iload 5, 2) := by decide +kernel
theorem dX5_tells_179 : decode cX5_tells 179 = .ok (.iconst 2, 1) := by decide +kernel
theorem dX5_tells_180 : decode cX5_tells 180 = .ok (.if_icmp .ne 8, 3) := by decide +kernel
theorem dX5_tells_183 : decode cX5_tells 183 = .ok (.bipush 9, 2) := by decide +kernel
theorem dX5_tells_185 : decode cX5_tells 185 = .ok (.goto 5, 3) := by decide +kernel
theorem dX5_tells_188 : decode cX5_tells 188 = .ok (.bipush 99, 2) := by decide +kernel
theorem dX5_tells_190 : decode cX5_tells 190 = .ok (.istore 7, 2) := by decide +kernel
theorem dX5_tells_192 : decode cX5_tells 192 = .ok (.iconst 0, 1) := by decide +kernel
theorem dX5_tells_193 : decode cX5_tells 193 = .ok (.istore 8, 2) := by decide +kernel
theorem dX5_tells_195 : decode cX5_tells 195 = .ok (.iconst 0, 1) := by decide +kernel
theorem dX5_tells_196 : decode cX5_tells 196 = .ok (.istore 9, 2) := by decide +kernel
theorem dX5_tells_198 : decode cX5_tells 198 = .ok (.iconst (-1), 1) := by decide +kernel
theorem dX5_tells_199 : decode cX5_tells 199 = .ok (.istore 10, 2) := by decide +kernel
theorem dX5_tells_201 : decode cX5_tells 201 = .ok (.iload 7, 2) := by decide +kernel
theorem dX5_tells_203 : decode cX5_tells 203 = .ok (.istore 11, 2) := by decide +kernel
theorem dX5_tells_205 : decode cX5_tells 205 = .ok (.iload 11, 2) := by decide +kernel
theorem dX5_tells_207 : decode cX5_tells 207 = .ok (.ifCond .lt 55, 3) := by decide +kernel
theorem dX5_tells_210 : decode cX5_tells 210 = .ok (.aload_n 0, 1) := by decide +kernel
theorem dX5_tells_211 : decode cX5_tells 211 = .ok (.iload 5, 2) := by decide +kernel
theorem dX5_tells_213 : decode cX5_tells 213 = .ok (.iload_n 3, 1) := by decide +kernel
theorem dX5_tells_214 : decode cX5_tells 214 = .ok (.iload 11, 2) := by decide +kernel
theorem dX5_tells_216 : decode cX5_tells 216 = .ok (.invokevirtual 104, 3) := by decide +kernel
theorem dX5_tells_219 : decode cX5_tells 219 = .ok (.aload_n 0, 1) := by decide +kernel
theorem dX5_tells_220 : decode cX5_tells 220 = .ok (.iload_n 1, 1) := by decide +kernel
theorem dX5_tells_221 : decode cX5_tells 221 = .ok (.iload_n 2, 1) := by decide +kernel
theorem dX5_tells_222 : decode cX5_tells 222 = .ok (.invokevirtual 316, 3) := by decide +kernel
theorem dX5_tells_225 : decode cX5_tells 225 = .ok (.iconst (-1), 1) := by decide +kernel
theorem dX5_tells_226 : decode cX5_tells 226 = .ok (.if_icmp .ne 30, 3) := by decide +kernel
theorem dX5_tells_229 : decode cX5_tells 229 = .ok (.iload 8, 2) := by decide +kernel
theorem dX5_tells_231 : decode cX5_tells 231 = .ok (.iload 11, 2) := by decide +kernel
theorem dX5_tells_233 : decode cX5_tells 233 = .ok (.bipush 10, 2) := by decide +kernel
theorem dX5_tells_235 : decode cX5_tells 235 = .ok (.if_icmp .ge 10, 3) := by decide +kernel
theorem dX5_tells_238 : decode cX5_tells 238 = .ok (.iconst 1, 1) := by decide +kernel
theorem dX5_tells_239 : decode cX5_tells 239 = .ok (.iload 11, 2) := by decide +kernel
theorem dX5_tells_241 : decode cX5_tells 241 = .ok (.ishl, 1) := by decide +kernel
theorem dX5_tells_242 : decode cX5_tells 242 = .ok (.goto 4, 3) := by decide +kernel
theorem dX5_tells_245 : decode cX5_tells 245 = .ok (.iconst 0, 1) := by decide +kernel
theorem dX5_tells_246 : decode cX5_tells 246 = .ok (.ior, 1) := by decide +kernel
theorem dX5_tells_247 : decode cX5_tells 247 = .ok (.istore 8, 2) := by decide +kernel
theorem dX5_tells_249 : decode cX5_tells 249 = .ok (.iinc 9 1, 3) := by decide +kernel
theorem dX5_tells_252 : decode cX5_tells 252 = .ok (.iload 11, 2) := by decide +kernel
theorem dX5_tells_254 : decode cX5_tells 254 = .ok (.istore 10, 2) := by decide +kernel
theorem dX5_tells_256 : decode cX5_tells 256 = .ok (.iinc 11 (-1), 3) := by decide +kernel
theorem dX5_tells_259 : decode cX5_tells 259 = .ok (.goto (-54), 3) := by decide +kernel
theorem dX5_tells_262 : decode cX5_tells 262 = .ok (.aload_n 0, 1) := by decide +kernel
theorem dX5_tells_263 : decode cX5_tells 263 = .ok (.iload 5, 2) := by decide +kernel
theorem dX5_tells_265 : decode cX5_tells 265 = .ok (.iload_n 3, 1) := by decide +kernel
theorem dX5_tells_266 : decode cX5_tells 266 = .ok (.iload 6, 2) := by decide +kernel
theorem dX5_tells_268 : decode cX5_tells 268 = .ok (.invokevirtual 104, 3) := by decide +kernel
theorem dX5_tells_271 : decode cX5_tells 271 = .ok (.iload 4, 2) := by decide +kernel
theorem dX5_tells_273 : decode cX5_tells 273 = .ok (.iconst 3, 1) := by decide +kernel
theorem dX5_tells_274 : decode cX5_tells 274 = .ok (.if_icmp .ne 8, 3) := by decide +kernel
theorem dX5_tells_277 : decode cX5_tells 277 = .ok (.iload 9, 2) := by decide +kernel
theorem dX5_tells_279 : decode cX5_tells 279 = .ok (.goto 16, 3) := by decide +kernel
theorem dX5_tells_282 : decode cX5_tells 282 = .ok (.iload 4, 2) := by decide +kernel
theorem dX5_tells_284 : decode cX5_tells 284 = .ok (.iconst 4, 1) := by decide +kernel
theorem dX5_tells_285 : decode cX5_tells 285 = .ok (.if_icmp .ne 8, 3) := by decide +kernel
theorem dX5_tells_288 : decode cX5_tells 288 = .ok (.iload 10, 2) := by decide +kernel
theorem dX5_tells_290 : decode cX5_tells 290 = .ok (.goto 5, 3) := by decide +kernel
theorem dX5_tells_293 : decode cX5_tells 293 = .ok (.iload 8, 2) := by decide +kernel
theorem dX5_tells_295 : decode cX5_tells 295 = .ok (.ireturn, 1) := by decide +kernel
theorem dX5_film_0 : decode cX5_film 0 = .ok (.iload_n 1, 1) := by decide +kernel
theorem dX5_film_1 : decode cX5_film 1 = .ok (.invokestatic 319, 3) := by decide +kernel
theorem dX5_film_4 : decode cX5_film 4 = .ok (.ifCond .eq 23, 3) := by decide +kernel
theorem dX5_film_7 : decode cX5_film 7 = .ok (.aload_n 0, 1) := by decide +kernel
theorem dX5_film_8 : decode cX5_film 8 = .ok (.iload_n 2, 1) := by decide +kernel
theorem dX5_film_9 : decode cX5_film 9 = .ok (.invokevirtual 87, 3) := by decide +kernel
theorem dX5_film_12 : decode cX5_film 12 = .ok (.ifCond .eq 15, 3) := by decide +kernel
theorem dX5_film_15 : decode cX5_film 15 = .ok (.iload_n 3, 1) := by decide +kernel
theorem dX5_film_16 : decode cX5_film 16 = .ok (.i2l, 1) := by decide +kernel
theorem dX5_film_17 : decode cX5_film 17 = .ok (.lconst 0, 1) := by decide +kernel
theorem dX5_film_18 : decode cX5_film 18 = .ok (.ldc2_w 299, 3) := by decide +kernel
theorem dX5_film_21 : decode cX5_film 21 = .ok (.invokestatic 76, 3) := by decide +kernel
theorem dX5_film_24 : decode cX5_film 24 = .ok (.ifCond .ne 6, 3) := by decide +kernel
theorem dX5_film_27 : decode cX5_film 27 = .ok (.bipush (-2), 2) := by decide +kernel
theorem dX5_film_29 : decode cX5_film 29 = .ok (.ireturn, 1) := by decide +kernel
theorem dX5_film_30 : decode cX5_film 30 = .ok (.aload_n 0, 1) := by decide +kernel
theorem dX5_film_31 : decode cX5_film 31 = .ok (.iload_n 1, 1) := by decide +kernel
theorem dX5_film_32 : decode cX5_film 32 = .ok (.iconst 0, 1) := by decide +kernel
theorem dX5_film_33 : decode cX5_film 33 = .ok (.iload_n 3, 1) := by decide +kernel
theorem dX5_film_34 : decode cX5_film 34 = .ok (.invokevirtual 327, 3) := by decide +kernel
theorem dX5_film_37 : decode cX5_film 37 = .ok (.pop, 1) := by decide +kernel
theorem dX5_film_38 : decode cX5_film 38 = .ok (.aload_n 0, 1) := by decide +kernel
theorem dX5_film_39 : decode cX5_film 39 = .ok (.invokevirtual 282, 3) := by decide +kernel
theorem dX5_film_42 : decode cX5_film 42 = .ok (.iconst 0, 1) := by decide +kernel
theorem dX5_film_43 : decode cX5_film 43 = .ok (.istore 4, 2) := by decide +kernel
theorem dX5_film_45 : decode cX5_film 45 = .ok (.iload 4, 2) := by decide +kernel
theorem dX5_film_47 : decode cX5_film 47 = .ok (.iload_n 3, 1) := by decide +kernel
theorem dX5_film_48 : decode cX5_film 48 = .ok (.if_icmp .ge 35, 3) := by decide +kernel
theorem dX5_film_51 : decode cX5_film 51 = .ok (.aload_n 0, 1) := by decide +kernel
theorem dX5_film_52 : decode cX5_film 52 = .ok (.invokevirtual 279, 3) := by decide +kernel
theorem dX5_film_55 : decode cX5_film 55 = .ok (.aload_n 0, 1) := by decide +kernel
theorem dX5_film_56 : decode cX5_film 56 = .ok (.getfield 63, 3) := by decide +kernel
theorem dX5_film_59 : decode cX5_film 59 = .ok (.bipush 40, 2) := by decide +kernel
theorem dX5_film_61 : decode cX5_film 61 = .ok (.iload_n 1, 1) := by decide +kernel
theorem dX5_film_62 : decode cX5_film 62 = .ok (.imul, 1) := by decide +kernel
theorem dX5_film_63 : decode cX5_film 63 = .ok (.iload 4, 2) := by decide +kernel
theorem dX5_film_65 : decode cX5_film 65 = .ok (.iadd, 1) := by decide +kernel
theorem dX5_film_66 : decode cX5_film 66 = .ok (.aload_n 0, 1) := by decide +kernel
theorem dX5_film_67 : decode cX5_film 67 = .ok (.getfield 29, 3) := by decide +kernel
theorem dX5_film_70 : decode cX5_film 70 = .ok (.iconst 5, 1) := by decide +kernel
theorem dX5_film_71 : decode cX5_film 71 = .ok (.iload_n 2, 1) := by decide +kernel
theorem dX5_film_72 : decode cX5_film 72 = .ok (.imul, 1) := by decide +kernel
theorem dX5_film_73 : decode cX5_film 73 = .ok (.iconst 3, 1) := by decide +kernel
theorem dX5_film_74 : decode cX5_film 74 = .ok (.iadd, 1) := by decide +kernel
theorem dX5_film_75 : decode cX5_film 75 = .ok (.iaload, 1) := by decide +kernel
theorem dX5_film_76 : decode cX5_film 76 = .ok (.iastore, 1) := by decide +kernel
theorem dX5_film_77 : decode cX5_film 77 = .ok (.iinc 4 1, 3) := by decide +kernel
theorem dX5_film_80 : decode cX5_film 80 = .ok (.goto (-35), 3) := by decide +kernel
theorem dX5_film_83 : decode cX5_film 83 = .ok (.aload_n 0, 1) := by decide +kernel
theorem dX5_film_84 : decode cX5_film 84 = .ok (.invokevirtual 291, 3) := by decide +kernel
theorem dX5_film_87 : decode cX5_film 87 = .ok (.iload_n 3, 1) := by decide +kernel
theorem dX5_film_88 : decode cX5_film 88 = .ok (.ireturn, 1) := by decide +kernel
theorem dX5_homeDrawn_0 : decode cX5_homeDrawn 0 = .ok (.aload_n 0, 1) := by decide +kernel
theorem dX5_homeDrawn_1 : decode cX5_homeDrawn 1 = .ok (.invokevirtual 282, 3) := by decide +kernel
theorem dX5_homeDrawn_4 : decode cX5_homeDrawn 4 = .ok (.iload_n 1, 1) := by decide +kernel
theorem dX5_homeDrawn_5 : decode cX5_homeDrawn 5 = .ok (.istore_n 3, 1) := by decide +kernel
theorem dX5_homeDrawn_6 : decode cX5_homeDrawn 6 = .ok (.iconst 0, 1) := by decide +kernel
theorem dX5_homeDrawn_7 : decode cX5_homeDrawn 7 = .ok (.istore 4, 2) := by decide +kernel
theorem dX5_homeDrawn_9 : decode cX5_homeDrawn 9 = .ok (.iload 4, 2) := by decide +kernel
theorem dX5_homeDrawn_11 : decode cX5_homeDrawn 11 = .ok (.iload_n 2, 1) := by decide +kernel
theorem dX5_homeDrawn_12 : decode cX5_homeDrawn 12 = .ok (.if_icmp .ge 79, 3) := by decide +kernel
theorem dX5_homeDrawn_15 : decode cX5_homeDrawn 15 = .ok (.iload_n 3, 1) := by decide +kernel
theorem dX5_homeDrawn_16 : decode cX5_homeDrawn 16 = .ok (.ldc_w 330, 3) := by decide +kernel
theorem dX5_homeDrawn_19 : decode cX5_homeDrawn 19 = .ok (.imul, 1) := by decide +kernel
theorem dX5_homeDrawn_20 : decode cX5_homeDrawn 20 = .ok (.sipush 12345, 3) := by decide +kernel
theorem dX5_homeDrawn_23 : decode cX5_homeDrawn 23 = .ok (.iadd, 1) := by decide +kernel
theorem dX5_homeDrawn_24 : decode cX5_homeDrawn 24 = .ok (.istore_n 3, 1) := by decide +kernel
theorem dX5_homeDrawn_25 : decode cX5_homeDrawn 25 = .ok (.iload_n 3, 1) := by decide +kernel
theorem dX5_homeDrawn_26 : decode cX5_homeDrawn 26 = .ok (.bipush 9, 2) := by decide +kernel
theorem dX5_homeDrawn_28 : decode cX5_homeDrawn 28 = .ok (.iushr, 1) := by decide +kernel
theorem dX5_homeDrawn_29 : decode cX5_homeDrawn 29 = .ok (.bipush 8, 2) := by decide +kernel
theorem dX5_homeDrawn_31 : decode cX5_homeDrawn 31 = .ok (.irem, 1) := by decide +kernel
theorem dX5_homeDrawn_32 : decode cX5_homeDrawn 32 = .ok (.istore 5, 2) := by decide +kernel
theorem dX5_homeDrawn_34 : decode cX5_homeDrawn 34 = .ok (.iload_n 3, 1) := by decide +kernel
theorem dX5_homeDrawn_35 : decode cX5_homeDrawn 35 = .ok (.ldc_w 330, 3) := by decide +kernel
theorem dX5_homeDrawn_38 : decode cX5_homeDrawn 38 = .ok (.imul, 1) := by decide +kernel
theorem dX5_homeDrawn_39 : decode cX5_homeDrawn 39 = .ok (.sipush 12345, 3) := by decide +kernel
theorem dX5_homeDrawn_42 : decode cX5_homeDrawn 42 = .ok (.iadd, 1) := by decide +kernel
theorem dX5_homeDrawn_43 : decode cX5_homeDrawn 43 = .ok (.istore_n 3, 1) := by decide +kernel
theorem dX5_homeDrawn_44 : decode cX5_homeDrawn 44 = .ok (.iload_n 3, 1) := by decide +kernel
theorem dX5_homeDrawn_45 : decode cX5_homeDrawn 45 = .ok (.bipush 9, 2) := by decide +kernel
theorem dX5_homeDrawn_47 : decode cX5_homeDrawn 47 = .ok (.iushr, 1) := by decide +kernel
theorem dX5_homeDrawn_48 : decode cX5_homeDrawn 48 = .ok (.bipush 8, 2) := by decide +kernel
theorem dX5_homeDrawn_50 : decode cX5_homeDrawn 50 = .ok (.irem, 1) := by decide +kernel
theorem dX5_homeDrawn_51 : decode cX5_homeDrawn 51 = .ok (.istore 6, 2) := by decide +kernel
theorem dX5_homeDrawn_53 : decode cX5_homeDrawn 53 = .ok (.aload_n 0, 1) := by decide +kernel
theorem dX5_homeDrawn_54 : decode cX5_homeDrawn 54 = .ok (.iload 5, 2) := by decide +kernel
theorem dX5_homeDrawn_56 : decode cX5_homeDrawn 56 = .ok (.iload 6, 2) := by decide +kernel
theorem dX5_homeDrawn_58 : decode cX5_homeDrawn 58 = .ok (.invokevirtual 123, 3) := by decide +kernel
theorem dX5_homeDrawn_61 : decode cX5_homeDrawn 61 = .ok (.ifCond .eq 20, 3) := by decide +kernel
theorem dX5_homeDrawn_64 : decode cX5_homeDrawn 64 = .ok (.aload_n 0, 1) := by decide +kernel
theorem dX5_homeDrawn_65 : decode cX5_homeDrawn 65 = .ok (.getfield 80, 3) := by decide +kernel
theorem dX5_homeDrawn_68 : decode cX5_homeDrawn 68 = .ok (.bipush 8, 2) := by decide +kernel
theorem dX5_homeDrawn_70 : decode cX5_homeDrawn 70 = .ok (.if_icmp .ge 11, 3) := by decide +kernel
theorem dX5_homeDrawn_73 : decode cX5_homeDrawn 73 = .ok (.aload_n 0, 1) := by decide +kernel
theorem dX5_homeDrawn_74 : decode cX5_homeDrawn 74 = .ok (.iload 5, 2) := by decide +kernel
theorem dX5_homeDrawn_76 : decode cX5_homeDrawn 76 = .ok (.iload 6, 2) := by decide +kernel
theorem dX5_homeDrawn_78 : decode cX5_homeDrawn 78 = .ok (.invokevirtual 268, 3) := by decide +kernel
theorem dX5_homeDrawn_81 : decode cX5_homeDrawn 81 = .ok (.aload_n 0, 1) := by decide +kernel
theorem dX5_homeDrawn_82 : decode cX5_homeDrawn 82 = .ok (.invokevirtual 279, 3) := by decide +kernel
theorem dX5_homeDrawn_85 : decode cX5_homeDrawn 85 = .ok (.iinc 4 1, 3) := by decide +kernel
theorem dX5_homeDrawn_88 : decode cX5_homeDrawn 88 = .ok (.goto (-79), 3) := by decide +kernel
theorem dX5_homeDrawn_91 : decode cX5_homeDrawn 91 = .ok (.aload_n 0, 1) := by decide +kernel
theorem dX5_homeDrawn_92 : decode cX5_homeDrawn 92 = .ok (.invokevirtual 288, 3) := by decide +kernel
theorem dX5_homeDrawn_95 : decode cX5_homeDrawn 95 = .ok (.istore 4, 2) := by decide +kernel
theorem dX5_homeDrawn_97 : decode cX5_homeDrawn 97 = .ok (.aload_n 0, 1) := by decide +kernel
theorem dX5_homeDrawn_98 : decode cX5_homeDrawn 98 = .ok (.invokevirtual 291, 3) := by decide +kernel
theorem dX5_homeDrawn_101 : decode cX5_homeDrawn 101 = .ok (.iload 4, 2) := by decide +kernel
theorem dX5_homeDrawn_103 : decode cX5_homeDrawn 103 = .ok (.ireturn, 1) := by decide +kernel
theorem dX5_drawn_0 : decode cX5_drawn 0 = .ok (.iload_n 2, 1) := by decide +kernel
theorem dX5_drawn_1 : decode cX5_drawn 1 = .ok (.i2l, 1) := by decide +kernel
theorem dX5_drawn_2 : decode cX5_drawn 2 = .ok (.lconst 0, 1) := by decide +kernel
theorem dX5_drawn_3 : decode cX5_drawn 3 = .ok (.ldc2_w 294, 3) := by decide +kernel
theorem dX5_drawn_6 : decode cX5_drawn 6 = .ok (.invokestatic 76, 3) := by decide +kernel
theorem dX5_drawn_9 : decode cX5_drawn 9 = .ok (.ifCond .eq 12, 3) := by decide +kernel
theorem dX5_drawn_12 : decode cX5_drawn 12 = .ok (.aload_n 0, 1) := by decide +kernel
theorem dX5_drawn_13 : decode cX5_drawn 13 = .ok (.iload_n 1, 1) := by decide +kernel
theorem dX5_drawn_14 : decode cX5_drawn 14 = .ok (.iload_n 2, 1) := by decide +kernel
theorem dX5_drawn_15 : decode cX5_drawn 15 = .ok (.invokevirtual 331, 3) := by decide +kernel
theorem dX5_drawn_18 : decode cX5_drawn 18 = .ok (.goto 5, 3) := by decide +kernel
theorem dX5_drawn_21 : decode cX5_drawn 21 = .ok (.bipush (-2), 2) := by decide +kernel
theorem dX5_drawn_23 : decode cX5_drawn 23 = .ok (.ireturn, 1) := by decide +kernel
theorem dX5_chance_0 : decode cX5_chance 0 = .ok (.iload_n 2, 1) := by decide +kernel
theorem dX5_chance_1 : decode cX5_chance 1 = .ok (.i2l, 1) := by decide +kernel
theorem dX5_chance_2 : decode cX5_chance 2 = .ok (.lconst 1, 1) := by decide +kernel
theorem dX5_chance_3 : decode cX5_chance 3 = .ok (.ldc2_w 299, 3) := by decide +kernel
theorem dX5_chance_6 : decode cX5_chance 6 = .ok (.invokestatic 76, 3) := by decide +kernel
theorem dX5_chance_9 : decode cX5_chance 9 = .ok (.ifCond .eq 26, 3) := by decide +kernel
theorem dX5_chance_12 : decode cX5_chance 12 = .ok (.iload_n 3, 1) := by decide +kernel
theorem dX5_chance_13 : decode cX5_chance 13 = .ok (.i2l, 1) := by decide +kernel
theorem dX5_chance_14 : decode cX5_chance 14 = .ok (.lconst 0, 1) := by decide +kernel
theorem dX5_chance_15 : decode cX5_chance 15 = .ok (.ldc2_w 334, 3) := by decide +kernel
theorem dX5_chance_18 : decode cX5_chance 18 = .ok (.invokestatic 76, 3) := by decide +kernel
theorem dX5_chance_21 : decode cX5_chance 21 = .ok (.ifCond .eq 14, 3) := by decide +kernel
theorem dX5_chance_24 : decode cX5_chance 24 = .ok (.iload 4, 2) := by decide +kernel
theorem dX5_chance_26 : decode cX5_chance 26 = .ok (.i2l, 1) := by decide +kernel
theorem dX5_chance_27 : decode cX5_chance 27 = .ok (.lconst 0, 1) := by decide +kernel
theorem dX5_chance_28 : decode cX5_chance 28 = .ok (.lconst 1, 1) := by decide +kernel
theorem dX5_chance_29 : decode cX5_chance 29 = .ok (.invokestatic 76, 3) := by decide +kernel
theorem dX5_chance_32 : decode cX5_chance 32 = .ok (.ifCond .ne 7, 3) := by decide +kernel
theorem dX5_chance_35 : decode cX5_chance 35 = .ok (.ldc2_w 310, 3) := by decide +kernel
theorem dX5_chance_38 : decode cX5_chance 38 = .ok (.lreturn, 1) := by decide +kernel
theorem dX5_chance_39 : decode cX5_chance 39 = .ok (.lconst 0, 1) := by decide +kernel
theorem dX5_chance_40 : decode cX5_chance 40 = .ok (.lstore 5, 2) := by decide +kernel
theorem dX5_chance_42 : decode cX5_chance 42 = .ok (.iconst 0, 1) := by decide +kernel
theorem dX5_chance_43 : decode cX5_chance 43 = .ok (.istore 7, 2) := by decide +kernel
theorem dX5_chance_45 : decode cX5_chance 45 = .ok (.iload 7, 2) := by decide +kernel
theorem dX5_chance_47 : decode cX5_chance 47 = .ok (.iload_n 2, 1) := by decide +kernel
theorem dX5_chance_48 : decode cX5_chance 48 = .ok (.if_icmp .ge 33, 3) := by decide +kernel
theorem dX5_chance_51 : decode cX5_chance 51 = .ok (.lload 5, 2) := by decide +kernel
theorem dX5_chance_53 : decode cX5_chance 53 = .ok (.aload_n 0, 1) := by decide +kernel
theorem dX5_chance_54 : decode cX5_chance 54 = .ok (.iload_n 1, 1) := by decide +kernel
theorem dX5_chance_55 : decode cX5_chance 55 = .ok (.iload 7, 2) := by decide +kernel
theorem dX5_chance_57 : decode cX5_chance 57 = .ok (.iadd, 1) := by decide +kernel
theorem dX5_chance_58 : decode cX5_chance 58 = .ok (.bipush 10, 2) := by decide +kernel
theorem dX5_chance_60 : decode cX5_chance 60 = .ok (.invokevirtual 331, 3) := by decide +kernel
theorem dX5_chance_63 : decode cX5_chance 63 = .ok (.iload_n 3, 1) := by decide +kernel
theorem dX5_chance_64 : decode cX5_chance 64 = .ok (.if_icmp .lt 7, 3) := by decide +kernel
theorem dX5_chance_67 : decode cX5_chance 67 = .ok (.lconst 1, 1) := by decide +kernel
theorem dX5_chance_68 : decode cX5_chance 68 = .ok (.goto 4, 3) := by decide +kernel
theorem dX5_chance_71 : decode cX5_chance 71 = .ok (.lconst 0, 1) := by decide +kernel
theorem dX5_chance_72 : decode cX5_chance 72 = .ok (.ladd, 1) := by decide +kernel
theorem dX5_chance_73 : decode cX5_chance 73 = .ok (.lstore 5, 2) := by decide +kernel
theorem dX5_chance_75 : decode cX5_chance 75 = .ok (.iinc 7 1, 3) := by decide +kernel
theorem dX5_chance_78 : decode cX5_chance 78 = .ok (.goto (-33), 3) := by decide +kernel
theorem dX5_chance_81 : decode cX5_chance 81 = .ok (.lload 5, 2) := by decide +kernel
theorem dX5_chance_83 : decode cX5_chance 83 = .ok (.iload_n 2, 1) := by decide +kernel
theorem dX5_chance_84 : decode cX5_chance 84 = .ok (.i2l, 1) := by decide +kernel
theorem dX5_chance_85 : decode cX5_chance 85 = .ok (.iload 4, 2) := by decide +kernel
theorem dX5_chance_87 : decode cX5_chance 87 = .ok (.invokestatic 312, 3) := by decide +kernel
theorem dX5_chance_90 : decode cX5_chance 90 = .ok (.lreturn, 1) := by decide +kernel
theorem dX5_image_0 : decode cX5_image 0 = .ok (.iconst 0, 1) := by decide +kernel
theorem dX5_image_1 : decode cX5_image 1 = .ok (.istore_n 1, 1) := by decide +kernel
theorem dX5_image_2 : decode cX5_image 2 = .ok (.iload_n 1, 1) := by decide +kernel
theorem dX5_image_3 : decode cX5_image 3 = .ok (.bipush 15, 2) := by decide +kernel
theorem dX5_image_5 : decode cX5_image 5 = .ok (.if_icmp .ge 21, 3) := by decide +kernel
theorem dX5_image_8 : decode cX5_image 8 = .ok (.aload_n 0, 1) := by decide +kernel
theorem dX5_image_9 : decode cX5_image 9 = .ok (.getfield 44, 3) := by decide +kernel
theorem dX5_image_12 : decode cX5_image 12 = .ok (.iload_n 1, 1) := by decide +kernel
theorem dX5_image_13 : decode cX5_image 13 = .ok (.aload_n 0, 1) := by decide +kernel
theorem dX5_image_14 : decode cX5_image 14 = .ok (.getfield 26, 3) := by decide +kernel
theorem dX5_image_17 : decode cX5_image 17 = .ok (.iload_n 1, 1) := by decide +kernel
theorem dX5_image_18 : decode cX5_image 18 = .ok (.iaload, 1) := by decide +kernel
theorem dX5_image_19 : decode cX5_image 19 = .ok (.iastore, 1) := by decide +kernel
theorem dX5_image_20 : decode cX5_image 20 = .ok (.iinc 1 1, 3) := by decide +kernel
theorem dX5_image_23 : decode cX5_image 23 = .ok (.goto (-21), 3) := by decide +kernel
theorem dX5_image_26 : decode cX5_image 26 = .ok (.iconst 0, 1) := by decide +kernel
theorem dX5_image_27 : decode cX5_image 27 = .ok (.istore_n 1, 1) := by decide +kernel
theorem dX5_image_28 : decode cX5_image 28 = .ok (.iload_n 1, 1) := by decide +kernel
theorem dX5_image_29 : decode cX5_image 29 = .ok (.bipush 40, 2) := by decide +kernel
theorem dX5_image_31 : decode cX5_image 31 = .ok (.if_icmp .ge 21, 3) := by decide +kernel
theorem dX5_image_34 : decode cX5_image 34 = .ok (.aload_n 0, 1) := by decide +kernel
theorem dX5_image_35 : decode cX5_image 35 = .ok (.getfield 47, 3) := by decide +kernel
theorem dX5_image_38 : decode cX5_image 38 = .ok (.iload_n 1, 1) := by decide +kernel
theorem dX5_image_39 : decode cX5_image 39 = .ok (.aload_n 0, 1) := by decide +kernel
theorem dX5_image_40 : decode cX5_image 40 = .ok (.getfield 29, 3) := by decide +kernel
theorem dX5_image_43 : decode cX5_image 43 = .ok (.iload_n 1, 1) := by decide +kernel
theorem dX5_image_44 : decode cX5_image 44 = .ok (.iaload, 1) := by decide +kernel
theorem dX5_image_45 : decode cX5_image 45 = .ok (.iastore, 1) := by decide +kernel
theorem dX5_image_46 : decode cX5_image 46 = .ok (.iinc 1 1, 3) := by decide +kernel
theorem dX5_image_49 : decode cX5_image 49 = .ok (.goto (-21), 3) := by decide +kernel
theorem dX5_image_52 : decode cX5_image 52 = .ok (.aload_n 0, 1) := by decide +kernel
theorem dX5_image_53 : decode cX5_image 53 = .ok (.aload_n 0, 1) := by decide +kernel
theorem dX5_image_54 : decode cX5_image 54 = .ok (.getfield 73, 3) := by decide +kernel
theorem dX5_image_57 : decode cX5_image 57 = .ok (.putfield 50, 3) := by decide +kernel
theorem dX5_image_60 : decode cX5_image 60 = .ok (.aload_n 0, 1) := by decide +kernel
theorem dX5_image_61 : decode cX5_image 61 = .ok (.aload_n 0, 1) := by decide +kernel
theorem dX5_image_62 : decode cX5_image 62 = .ok (.getfield 80, 3) := by decide +kernel
theorem dX5_image_65 : decode cX5_image 65 = .ok (.putfield 336, 3) := by decide +kernel
theorem dX5_image_68 : decode cX5_image 68 = .ok (.aload_n 0, 1) := by decide +kernel
theorem dX5_image_69 : decode cX5_image 69 = .ok (.aload_n 0, 1) := by decide +kernel
theorem dX5_image_70 : decode cX5_image 70 = .ok (.getfield 108, 3) := by decide +kernel
theorem dX5_image_73 : decode cX5_image 73 = .ok (.putfield 339, 3) := by decide +kernel
theorem dX5_image_76 : decode cX5_image 76 = .ok (.aload_n 0, 1) := by decide +kernel
theorem dX5_image_77 : decode cX5_image 77 = .ok (.aload_n 0, 1) := by decide +kernel
theorem dX5_image_78 : decode cX5_image 78 = .ok (.getfield 23, 3) := by decide +kernel
theorem dX5_image_81 : decode cX5_image 81 = .ok (.putfield 342, 3) := by decide +kernel
theorem dX5_image_84 : decode cX5_image 84 = .ok (.aload_n 0, 1) := by decide +kernel
theorem dX5_image_85 : decode cX5_image 85 = .ok (.aload_n 0, 1) := by decide +kernel
theorem dX5_image_86 : decode cX5_image 86 = .ok (.getfield 111, 3) := by decide +kernel
theorem dX5_image_89 : decode cX5_image 89 = .ok (.putfield 345, 3) := by decide +kernel
theorem dX5_image_92 : decode cX5_image 92 = .ok (.aload_n 0, 1) := by decide +kernel
theorem dX5_image_93 : decode cX5_image 93 = .ok (.getfield 73, 3) := by decide +kernel
theorem dX5_image_96 : decode cX5_image 96 = .ok (.ireturn, 1) := by decide +kernel
theorem dX5_back_0 : decode cX5_back 0 = .ok (.aload_n 0, 1) := by decide +kernel
theorem dX5_back_1 : decode cX5_back 1 = .ok (.getfield 50, 3) := by decide +kernel
theorem dX5_back_4 : decode cX5_back 4 = .ok (.iconst (-1), 1) := by decide +kernel
theorem dX5_back_5 : decode cX5_back 5 = .ok (.if_icmp .ne 6, 3) := by decide +kernel
theorem dX5_back_8 : decode cX5_back 8 = .ok (.bipush (-3), 2) := by decide +kernel
theorem dX5_back_10 : decode cX5_back 10 = .ok (.ireturn, 1) := by decide +kernel
theorem dX5_back_11 : decode cX5_back 11 = .ok (.iconst 0, 1) := by decide +kernel
theorem dX5_back_12 : decode cX5_back 12 = .ok (.istore_n 1, 1) := by decide +kernel
theorem dX5_back_13 : decode cX5_back 13 = .ok (.iload_n 1, 1) := by decide +kernel
theorem dX5_back_14 : decode cX5_back 14 = .ok (.bipush 15, 2) := by decide +kernel
theorem dX5_back_16 : decode cX5_back 16 = .ok (.if_icmp .ge 21, 3) := by decide +kernel
theorem dX5_back_19 : decode cX5_back 19 = .ok (.aload_n 0, 1) := by decide +kernel
theorem dX5_back_20 : decode cX5_back 20 = .ok (.getfield 26, 3) := by decide +kernel
theorem dX5_back_23 : decode cX5_back 23 = .ok (.iload_n 1, 1) := by decide +kernel
theorem dX5_back_24 : decode cX5_back 24 = .ok (.aload_n 0, 1) := by decide +kernel
theorem dX5_back_25 : decode cX5_back 25 = .ok (.getfield 44, 3) := by decide +kernel
theorem dX5_back_28 : decode cX5_back 28 = .ok (.iload_n 1, 1) := by decide +kernel
theorem dX5_back_29 : decode cX5_back 29 = .ok (.iaload, 1) := by decide +kernel
theorem dX5_back_30 : decode cX5_back 30 = .ok (.iastore, 1) := by decide +kernel
theorem dX5_back_31 : decode cX5_back 31 = .ok (.iinc 1 1, 3) := by decide +kernel
theorem dX5_back_34 : decode cX5_back 34 = .ok (.goto (-21), 3) := by decide +kernel
theorem dX5_back_37 : decode cX5_back 37 = .ok (.iconst 0, 1) := by decide +kernel
theorem dX5_back_38 : decode cX5_back 38 = .ok (.istore_n 1, 1) := by decide +kernel
theorem dX5_back_39 : decode cX5_back 39 = .ok (.iload_n 1, 1) := by decide +kernel
theorem dX5_back_40 : decode cX5_back 40 = .ok (.bipush 40, 2) := by decide +kernel
theorem dX5_back_42 : decode cX5_back 42 = .ok (.if_icmp .ge 21, 3) := by decide +kernel
theorem dX5_back_45 : decode cX5_back 45 = .ok (.aload_n 0, 1) := by decide +kernel
theorem dX5_back_46 : decode cX5_back 46 = .ok (.getfield 29, 3) := by decide +kernel
theorem dX5_back_49 : decode cX5_back 49 = .ok (.iload_n 1, 1) := by decide +kernel
theorem dX5_back_50 : decode cX5_back 50 = .ok (.aload_n 0, 1) := by decide +kernel
theorem dX5_back_51 : decode cX5_back 51 = .ok (.getfield 47, 3) := by decide +kernel
theorem dX5_back_54 : decode cX5_back 54 = .ok (.iload_n 1, 1) := by decide +kernel
theorem dX5_back_55 : decode cX5_back 55 = .ok (.iaload, 1) := by decide +kernel
theorem dX5_back_56 : decode cX5_back 56 = .ok (.iastore, 1) := by decide +kernel
theorem dX5_back_57 : decode cX5_back 57 = .ok (.iinc 1 1, 3) := by decide +kernel
theorem dX5_back_60 : decode cX5_back 60 = .ok (.goto (-21), 3) := by decide +kernel
theorem dX5_back_63 : decode cX5_back 63 = .ok (.aload_n 0, 1) := by decide +kernel
theorem dX5_back_64 : decode cX5_back 64 = .ok (.aload_n 0, 1) := by decide +kernel
theorem dX5_back_65 : decode cX5_back 65 = .ok (.getfield 50, 3) := by decide +kernel
theorem dX5_back_68 : decode cX5_back 68 = .ok (.putfield 73, 3) := by decide +kernel
theorem dX5_back_71 : decode cX5_back 71 = .ok (.aload_n 0, 1) := by decide +kernel
theorem dX5_back_72 : decode cX5_back 72 = .ok (.aload_n 0, 1) := by decide +kernel
theorem dX5_back_73 : decode cX5_back 73 = .ok (.getfield 336, 3) := by decide +kernel
theorem dX5_back_76 : decode cX5_back 76 = .ok (.putfield 80, 3) := by decide +kernel
theorem dX5_back_79 : decode cX5_back 79 = .ok (.aload_n 0, 1) := by decide +kernel
theorem dX5_back_80 : decode cX5_back 80 = .ok (.aload_n 0, 1) := by decide +kernel
theorem dX5_back_81 : decode cX5_back 81 = .ok (.getfield 339, 3) := by decide +kernel
theorem dX5_back_84 : decode cX5_back 84 = .ok (.putfield 108, 3) := by decide +kernel
theorem dX5_back_87 : decode cX5_back 87 = .ok (.aload_n 0, 1) := by decide +kernel
theorem dX5_back_88 : decode cX5_back 88 = .ok (.aload_n 0, 1) := by decide +kernel
theorem dX5_back_89 : decode cX5_back 89 = .ok (.getfield 342, 3) := by decide +kernel
theorem dX5_back_92 : decode cX5_back 92 = .ok (.putfield 23, 3) := by decide +kernel
theorem dX5_back_95 : decode cX5_back 95 = .ok (.aload_n 0, 1) := by decide +kernel
theorem dX5_back_96 : decode cX5_back 96 = .ok (.aload_n 0, 1) := by decide +kernel
theorem dX5_back_97 : decode cX5_back 97 = .ok (.getfield 345, 3) := by decide +kernel
theorem dX5_back_100 : decode cX5_back 100 = .ok (.putfield 111, 3) := by decide +kernel
theorem dX5_back_103 : decode cX5_back 103 = .ok (.aload_n 0, 1) := by decide +kernel
theorem dX5_back_104 : decode cX5_back 104 = .ok (.getfield 73, 3) := by decide +kernel
theorem dX5_back_107 : decode cX5_back 107 = .ok (.ireturn, 1) := by decide +kernel
theorem dX5_count_0 : decode cX5_count 0 = .ok (.iload_n 1, 1) := by decide +kernel
theorem dX5_count_1 : decode cX5_count 1 = .ok (.i2l, 1) := by decide +kernel
theorem dX5_count_2 : decode cX5_count 2 = .ok (.lconst 0, 1) := by decide +kernel
theorem dX5_count_3 : decode cX5_count 3 = .ok (.ldc2_w 114, 3) := by decide +kernel
theorem dX5_count_6 : decode cX5_count 6 = .ok (.invokestatic 76, 3) := by decide +kernel
theorem dX5_count_9 : decode cX5_count 9 = .ok (.ifCond .ne 6, 3) := by decide +kernel
theorem dX5_count_12 : decode cX5_count 12 = .ok (.bipush (-2), 2) := by decide +kernel
theorem dX5_count_14 : decode cX5_count 14 = .ok (.ireturn, 1) := by decide +kernel
theorem dX5_count_15 : decode cX5_count 15 = .ok (.iload_n 1, 1) := by decide +kernel
theorem dX5_count_16 : decode cX5_count 16 = .ok (.ifCond .ne 10, 3) := by decide +kernel
theorem dX5_count_19 : decode cX5_count 19 = .ok (.aload_n 0, 1) := by decide +kernel
theorem dX5_count_20 : decode cX5_count 20 = .ok (.getfield 73, 3) := by decide +kernel
theorem dX5_count_23 : decode cX5_count 23 = .ok (.goto 55, 3) := by decide +kernel
theorem dX5_count_26 : decode cX5_count 26 = .ok (.iload_n 1, 1) := by decide +kernel
theorem dX5_count_27 : decode cX5_count 27 = .ok (.iconst 1, 1) := by decide +kernel
theorem dX5_count_28 : decode cX5_count 28 = .ok (.if_icmp .ne 10, 3) := by decide +kernel
theorem dX5_count_31 : decode cX5_count 31 = .ok (.aload_n 0, 1) := by decide +kernel
theorem dX5_count_32 : decode cX5_count 32 = .ok (.getfield 80, 3) := by decide +kernel
theorem dX5_count_35 : decode cX5_count 35 = .ok (.goto 43, 3) := by decide +kernel
theorem dX5_count_38 : decode cX5_count 38 = .ok (.iload_n 1, 1) := by decide +kernel
theorem dX5_count_39 : decode cX5_count 39 = .ok (.iconst 2, 1) := by decide +kernel
theorem dX5_count_40 : decode cX5_count 40 = .ok (.if_icmp .ne 10, 3) := by decide +kernel
theorem dX5_count_43 : decode cX5_count 43 = .ok (.aload_n 0, 1) := by decide +kernel
theorem dX5_count_44 : decode cX5_count 44 = .ok (.invokevirtual 288, 3) := by decide +kernel
theorem dX5_count_47 : decode cX5_count 47 = .ok (.goto 31, 3) := by decide +kernel
theorem dX5_count_50 : decode cX5_count 50 = .ok (.iload_n 1, 1) := by decide +kernel
theorem dX5_count_51 : decode cX5_count 51 = .ok (.iconst 3, 1) := by decide +kernel
theorem dX5_count_52 : decode cX5_count 52 = .ok (.if_icmp .ne 10, 3) := by decide +kernel
theorem dX5_count_55 : decode cX5_count 55 = .ok (.aload_n 0, 1) := by decide +kernel
theorem dX5_count_56 : decode cX5_count 56 = .ok (.getfield 70, 3) := by decide +kernel
theorem dX5_count_59 : decode cX5_count 59 = .ok (.goto 19, 3) := by decide +kernel
theorem dX5_count_62 : decode cX5_count 62 = .ok (.iload_n 1, 1) := by decide +kernel
theorem dX5_count_63 : decode cX5_count 63 = .ok (.iconst 4, 1) := by decide +kernel
theorem dX5_count_64 : decode cX5_count 64 = .ok (.if_icmp .ne 10, 3) := by decide +kernel
theorem dX5_count_67 : decode cX5_count 67 = .ok (.aload_n 0, 1) := by decide +kernel
theorem dX5_count_68 : decode cX5_count 68 = .ok (.getfield 133, 3) := by decide +kernel
theorem dX5_count_71 : decode cX5_count 71 = .ok (.goto 7, 3) := by decide +kernel
theorem dX5_count_74 : decode cX5_count 74 = .ok (.aload_n 0, 1) := by decide +kernel
theorem dX5_count_75 : decode cX5_count 75 = .ok (.getfield 111, 3) := by decide +kernel
theorem dX5_count_78 : decode cX5_count 78 = .ok (.ireturn, 1) := by decide +kernel
theorem dX5_isSheet_0 : decode cX5_isSheet 0 = .ok (.iload_n 0, 1) := by decide +kernel
theorem dX5_isSheet_1 : decode cX5_isSheet 1 = .ok (.i2l, 1) := by decide +kernel
theorem dX5_isSheet_2 : decode cX5_isSheet 2 = .ok (.lconst 0, 1) := by decide +kernel
theorem dX5_isSheet_3 : decode cX5_isSheet 3 = .ok (.ldc2_w 90, 3) := by decide +kernel
theorem dX5_isSheet_6 : decode cX5_isSheet 6 = .ok (.invokestatic 76, 3) := by decide +kernel
theorem dX5_isSheet_9 : decode cX5_isSheet 9 = .ok (.ireturn, 1) := by decide +kernel
theorem dX5_sheet_0 : decode cX5_sheet 0 = .ok (.iload_n 1, 1) := by decide +kernel
theorem dX5_sheet_1 : decode cX5_sheet 1 = .ok (.invokestatic 319, 3) := by decide +kernel
theorem dX5_sheet_4 : decode cX5_sheet 4 = .ok (.ifCond .eq 27, 3) := by decide +kernel
theorem dX5_sheet_7 : decode cX5_sheet 7 = .ok (.iload_n 2, 1) := by decide +kernel
theorem dX5_sheet_8 : decode cX5_sheet 8 = .ok (.i2l, 1) := by decide +kernel
theorem dX5_sheet_9 : decode cX5_sheet 9 = .ok (.ldc2_w 348, 3) := by decide +kernel
theorem dX5_sheet_12 : decode cX5_sheet 12 = .ok (.ldc2_w 350, 3) := by decide +kernel
theorem dX5_sheet_15 : decode cX5_sheet 15 = .ok (.invokestatic 76, 3) := by decide +kernel
theorem dX5_sheet_18 : decode cX5_sheet 18 = .ok (.ifCond .eq 13, 3) := by decide +kernel
theorem dX5_sheet_21 : decode cX5_sheet 21 = .ok (.iload_n 2, 1) := by decide +kernel
theorem dX5_sheet_22 : decode cX5_sheet 22 = .ok (.ifCond .lt 12, 3) := by decide +kernel
theorem dX5_sheet_25 : decode cX5_sheet 25 = .ok (.iload_n 3, 1) := by decide +kernel
theorem dX5_sheet_26 : decode cX5_sheet 26 = .ok (.bipush 40, 2) := by decide +kernel
theorem dX5_sheet_28 : decode cX5_sheet 28 = .ok (.if_icmp .le 6, 3) := by decide +kernel
theorem dX5_sheet_31 : decode cX5_sheet 31 = .ok (.bipush (-2), 2) := by decide +kernel
theorem dX5_sheet_33 : decode cX5_sheet 33 = .ok (.ireturn, 1) := by decide +kernel
theorem dX5_sheet_34 : decode cX5_sheet 34 = .ok (.iload_n 2, 1) := by decide +kernel
theorem dX5_sheet_35 : decode cX5_sheet 35 = .ok (.ifCond .lt 10, 3) := by decide +kernel
theorem dX5_sheet_38 : decode cX5_sheet 38 = .ok (.iload_n 3, 1) := by decide +kernel
theorem dX5_sheet_39 : decode cX5_sheet 39 = .ok (.ifCond .ge 6, 3) := by decide +kernel
theorem dX5_sheet_42 : decode cX5_sheet 42 = .ok (.bipush (-14), 2) := by decide +kernel
theorem dX5_sheet_44 : decode cX5_sheet 44 = .ok (.ireturn, 1) := by decide +kernel
theorem dX5_sheet_45 : decode cX5_sheet 45 = .ok (.aload_n 0, 1) := by decide +kernel
theorem dX5_sheet_46 : decode cX5_sheet 46 = .ok (.getfield 53, 3) := by decide +kernel
theorem dX5_sheet_49 : decode cX5_sheet 49 = .ok (.iload_n 1, 1) := by decide +kernel
theorem dX5_sheet_50 : decode cX5_sheet 50 = .ok (.iload_n 2, 1) := by decide +kernel
theorem dX5_sheet_51 : decode cX5_sheet 51 = .ok (.ifCond .lt 7, 3) := by decide +kernel
theorem dX5_sheet_54 : decode cX5_sheet 54 = .ok (.iconst 1, 1) := by decide +kernel
theorem dX5_sheet_55 : decode cX5_sheet 55 = .ok (.goto 4, 3) := by decide +kernel
theorem dX5_sheet_58 : decode cX5_sheet 58 = .ok (.iconst 0, 1) := by decide +kernel
theorem dX5_sheet_59 : decode cX5_sheet 59 = .ok (.bastore, 1) := by decide +kernel
theorem dX5_sheet_60 : decode cX5_sheet 60 = .ok (.aload_n 0, 1) := by decide +kernel
theorem dX5_sheet_61 : decode cX5_sheet 61 = .ok (.getfield 57, 3) := by decide +kernel
theorem dX5_sheet_64 : decode cX5_sheet 64 = .ok (.iload_n 1, 1) := by decide +kernel
theorem dX5_sheet_65 : decode cX5_sheet 65 = .ok (.iload_n 2, 1) := by decide +kernel
theorem dX5_sheet_66 : decode cX5_sheet 66 = .ok (.iastore, 1) := by decide +kernel
theorem dX5_sheet_67 : decode cX5_sheet 67 = .ok (.aload_n 0, 1) := by decide +kernel
theorem dX5_sheet_68 : decode cX5_sheet 68 = .ok (.getfield 60, 3) := by decide +kernel
theorem dX5_sheet_71 : decode cX5_sheet 71 = .ok (.iload_n 1, 1) := by decide +kernel
theorem dX5_sheet_72 : decode cX5_sheet 72 = .ok (.iload_n 3, 1) := by decide +kernel
theorem dX5_sheet_73 : decode cX5_sheet 73 = .ok (.iastore, 1) := by decide +kernel
theorem dX5_sheet_74 : decode cX5_sheet 74 = .ok (.iconst 0, 1) := by decide +kernel
theorem dX5_sheet_75 : decode cX5_sheet 75 = .ok (.istore 4, 2) := by decide +kernel
theorem dX5_sheet_77 : decode cX5_sheet 77 = .ok (.iload 4, 2) := by decide +kernel
theorem dX5_sheet_79 : decode cX5_sheet 79 = .ok (.iload_n 3, 1) := by decide +kernel
theorem dX5_sheet_80 : decode cX5_sheet 80 = .ok (.if_icmp .ge 26, 3) := by decide +kernel
theorem dX5_sheet_83 : decode cX5_sheet 83 = .ok (.iload_n 2, 1) := by decide +kernel
theorem dX5_sheet_84 : decode cX5_sheet 84 = .ok (.ifCond .lt 22, 3) := by decide +kernel
theorem dX5_sheet_87 : decode cX5_sheet 87 = .ok (.aload_n 0, 1) := by decide +kernel
theorem dX5_sheet_88 : decode cX5_sheet 88 = .ok (.getfield 63, 3) := by decide +kernel
theorem dX5_sheet_91 : decode cX5_sheet 91 = .ok (.bipush 40, 2) := by decide +kernel
theorem dX5_sheet_93 : decode cX5_sheet 93 = .ok (.iload_n 1, 1) := by decide +kernel
theorem dX5_sheet_94 : decode cX5_sheet 94 = .ok (.imul, 1) := by decide +kernel
theorem dX5_sheet_95 : decode cX5_sheet 95 = .ok (.iload 4, 2) := by decide +kernel
theorem dX5_sheet_97 : decode cX5_sheet 97 = .ok (.iadd, 1) := by decide +kernel
theorem dX5_sheet_98 : decode cX5_sheet 98 = .ok (.iconst 0, 1) := by decide +kernel
theorem dX5_sheet_99 : decode cX5_sheet 99 = .ok (.iastore, 1) := by decide +kernel
theorem dX5_sheet_100 : decode cX5_sheet 100 = .ok (.iinc 4 1, 3) := by decide +kernel
theorem dX5_sheet_103 : decode cX5_sheet 103 = .ok (.goto (-26), 3) := by decide +kernel
theorem dX5_sheet_106 : decode cX5_sheet 106 = .ok (.iconst 1, 1) := by decide +kernel
theorem dX5_sheet_107 : decode cX5_sheet 107 = .ok (.ireturn, 1) := by decide +kernel
theorem dX5_cell_0 : decode cX5_cell 0 = .ok (.iload_n 1, 1) := by decide +kernel
theorem dX5_cell_1 : decode cX5_cell 1 = .ok (.invokestatic 319, 3) := by decide +kernel
theorem dX5_cell_4 : decode cX5_cell 4 = .ok (.ifCond .ne 6, 3) := by decide +kernel
theorem dX5_cell_7 : decode cX5_cell 7 = .ok (.bipush (-2), 2) := by decide +kernel
theorem dX5_cell_9 : decode cX5_cell 9 = .ok (.ireturn, 1) := by decide +kernel
theorem dX5_cell_10 : decode cX5_cell 10 = .ok (.aload_n 0, 1) := by decide +kernel
theorem dX5_cell_11 : decode cX5_cell 11 = .ok (.getfield 53, 3) := by decide +kernel
theorem dX5_cell_14 : decode cX5_cell 14 = .ok (.iload_n 1, 1) := by decide +kernel
theorem dX5_cell_15 : decode cX5_cell 15 = .ok (.baload, 1) := by decide +kernel
theorem dX5_cell_16 : decode cX5_cell 16 = .ok (.ifCond .ne 6, 3) := by decide +kernel
theorem dX5_cell_19 : decode cX5_cell 19 = .ok (.bipush (-11), 2) := by decide +kernel
theorem dX5_cell_21 : decode cX5_cell 21 = .ok (.ireturn, 1) := by decide +kernel
theorem dX5_cell_22 : decode cX5_cell 22 = .ok (.iload_n 2, 1) := by decide +kernel
theorem dX5_cell_23 : decode cX5_cell 23 = .ok (.i2l, 1) := by decide +kernel
theorem dX5_cell_24 : decode cX5_cell 24 = .ok (.lconst 0, 1) := by decide +kernel
theorem dX5_cell_25 : decode cX5_cell 25 = .ok (.aload_n 0, 1) := by decide +kernel
theorem dX5_cell_26 : decode cX5_cell 26 = .ok (.getfield 60, 3) := by decide +kernel
theorem dX5_cell_29 : decode cX5_cell 29 = .ok (.iload_n 1, 1) := by decide +kernel
theorem dX5_cell_30 : decode cX5_cell 30 = .ok (.iaload, 1) := by decide +kernel
theorem dX5_cell_31 : decode cX5_cell 31 = .ok (.iconst 1, 1) := by decide +kernel
theorem dX5_cell_32 : decode cX5_cell 32 = .ok (.isub, 1) := by decide +kernel
theorem dX5_cell_33 : decode cX5_cell 33 = .ok (.i2l, 1) := by decide +kernel
theorem dX5_cell_34 : decode cX5_cell 34 = .ok (.invokestatic 76, 3) := by decide +kernel
theorem dX5_cell_37 : decode cX5_cell 37 = .ok (.ifCond .ne 6, 3) := by decide +kernel
theorem dX5_cell_40 : decode cX5_cell 40 = .ok (.bipush (-12), 2) := by decide +kernel
theorem dX5_cell_42 : decode cX5_cell 42 = .ok (.ireturn, 1) := by decide +kernel
theorem dX5_cell_43 : decode cX5_cell 43 = .ok (.aload_n 0, 1) := by decide +kernel
theorem dX5_cell_44 : decode cX5_cell 44 = .ok (.getfield 63, 3) := by decide +kernel
theorem dX5_cell_47 : decode cX5_cell 47 = .ok (.bipush 40, 2) := by decide +kernel
theorem dX5_cell_49 : decode cX5_cell 49 = .ok (.iload_n 1, 1) := by decide +kernel
theorem dX5_cell_50 : decode cX5_cell 50 = .ok (.imul, 1) := by decide +kernel
theorem dX5_cell_51 : decode cX5_cell 51 = .ok (.iload_n 2, 1) := by decide +kernel
theorem dX5_cell_52 : decode cX5_cell 52 = .ok (.iadd, 1) := by decide +kernel
theorem dX5_cell_53 : decode cX5_cell 53 = .ok (.aload_n 0, 1) := by decide +kernel
theorem dX5_cell_54 : decode cX5_cell 54 = .ok (.getfield 57, 3) := by decide +kernel
theorem dX5_cell_57 : decode cX5_cell 57 = .ok (.iload_n 1, 1) := by decide +kernel
theorem dX5_cell_58 : decode cX5_cell 58 = .ok (.iaload, 1) := by decide +kernel
theorem dX5_cell_59 : decode cX5_cell 59 = .ok (.ifCond .ne 8, 3) := by decide +kernel
theorem dX5_cell_62 : decode cX5_cell 62 = .ok (.iload_n 3, 1) := by decide +kernel
theorem dX5_cell_63 : decode cX5_cell 63 = .ok (.i2b, 1) := by decide +kernel
theorem dX5_cell_64 : decode cX5_cell 64 = .ok (.goto 19, 3) := by decide +kernel
theorem dX5_cell_67 : decode cX5_cell 67 = .ok (.aload_n 0, 1) := by decide +kernel
theorem dX5_cell_68 : decode cX5_cell 68 = .ok (.getfield 57, 3) := by decide +kernel
theorem dX5_cell_71 : decode cX5_cell 71 = .ok (.iload_n 1, 1) := by decide +kernel
theorem dX5_cell_72 : decode cX5_cell 72 = .ok (.iaload, 1) := by decide +kernel
theorem dX5_cell_73 : decode cX5_cell 73 = .ok (.iconst 1, 1) := by decide +kernel
theorem dX5_cell_74 : decode cX5_cell 74 = .ok (.if_icmp .ne 8, 3) := by decide +kernel
theorem dX5_cell_77 : decode cX5_cell 77 = .ok (.iload_n 3, 1) := by decide +kernel
theorem dX5_cell_78 : decode cX5_cell 78 = .ok (.i2s, 1) := by decide +kernel
theorem dX5_cell_79 : decode cX5_cell 79 = .ok (.goto 4, 3) := by decide +kernel
theorem dX5_cell_82 : decode cX5_cell 82 = .ok (.iload_n 3, 1) := by decide +kernel
theorem dX5_cell_83 : decode cX5_cell 83 = .ok (.iastore, 1) := by decide +kernel
theorem dX5_cell_84 : decode cX5_cell 84 = .ok (.iconst 1, 1) := by decide +kernel
theorem dX5_cell_85 : decode cX5_cell 85 = .ok (.ireturn, 1) := by decide +kernel
theorem dX5_copy_0 : decode cX5_copy 0 = .ok (.iload_n 1, 1) := by decide +kernel
theorem dX5_copy_1 : decode cX5_copy 1 = .ok (.invokestatic 319, 3) := by decide +kernel
theorem dX5_copy_4 : decode cX5_copy 4 = .ok (.ifCond .eq 10, 3) := by decide +kernel
theorem dX5_copy_7 : decode cX5_copy 7 = .ok (.iload_n 3, 1) := by decide +kernel
theorem dX5_copy_8 : decode cX5_copy 8 = .ok (.invokestatic 319, 3) := by decide +kernel
theorem dX5_copy_11 : decode cX5_copy 11 = .ok (.ifCond .ne 6, 3) := by decide +kernel
theorem dX5_copy_14 : decode cX5_copy 14 = .ok (.bipush (-2), 2) := by decide +kernel
theorem dX5_copy_16 : decode cX5_copy 16 = .ok (.ireturn, 1) := by decide +kernel
theorem dX5_copy_17 : decode cX5_copy 17 = .ok (.aload_n 0, 1) := by decide +kernel
theorem dX5_copy_18 : decode cX5_copy 18 = .ok (.getfield 53, 3) := by decide +kernel
theorem dX5_copy_21 : decode cX5_copy 21 = .ok (.iload_n 1, 1) := by decide +kernel
theorem dX5_copy_22 : decode cX5_copy 22 = .ok (.baload, 1) := by decide +kernel
theorem dX5_copy_23 : decode cX5_copy 23 = .ok (.ifCond .eq 12, 3) := by decide +kernel
theorem dX5_copy_26 : decode cX5_copy 26 = .ok (.aload_n 0, 1) := by decide +kernel
theorem dX5_copy_27 : decode cX5_copy 27 = .ok (.getfield 53, 3) := by decide +kernel
theorem dX5_copy_30 : decode cX5_copy 30 = .ok (.iload_n 3, 1) := by decide +kernel
theorem dX5_copy_31 : decode cX5_copy 31 = .ok (.baload, 1) := by decide +kernel
theorem dX5_copy_32 : decode cX5_copy 32 = .ok (.ifCond .ne 6, 3) := by decide +kernel
theorem dX5_copy_35 : decode cX5_copy 35 = .ok (.bipush (-11), 2) := by decide +kernel
theorem dX5_copy_37 : decode cX5_copy 37 = .ok (.ireturn, 1) := by decide +kernel
theorem dX5_copy_38 : decode cX5_copy 38 = .ok (.aload_n 0, 1) := by decide +kernel
theorem dX5_copy_39 : decode cX5_copy 39 = .ok (.getfield 57, 3) := by decide +kernel
theorem dX5_copy_42 : decode cX5_copy 42 = .ok (.iload_n 1, 1) := by decide +kernel
theorem dX5_copy_43 : decode cX5_copy 43 = .ok (.iaload, 1) := by decide +kernel
theorem dX5_copy_44 : decode cX5_copy 44 = .ok (.aload_n 0, 1) := by decide +kernel
theorem dX5_copy_45 : decode cX5_copy 45 = .ok (.getfield 57, 3) := by decide +kernel
theorem dX5_copy_48 : decode cX5_copy 48 = .ok (.iload_n 3, 1) := by decide +kernel
theorem dX5_copy_49 : decode cX5_copy 49 = .ok (.iaload, 1) := by decide +kernel
theorem dX5_copy_50 : decode cX5_copy 50 = .ok (.if_icmp .eq 6, 3) := by decide +kernel
theorem dX5_copy_53 : decode cX5_copy 53 = .ok (.bipush (-13), 2) := by decide +kernel
theorem dX5_copy_55 : decode cX5_copy 55 = .ok (.ireturn, 1) := by decide +kernel
theorem dX5_copy_56 : decode cX5_copy 56 = .ok (.iload 5, 2) := by decide +kernel
theorem dX5_copy_58 : decode cX5_copy 58 = .ok (.ifCond .lt 39, 3) := by decide +kernel
theorem dX5_copy_61 : decode cX5_copy 61 = .ok (.iload_n 2, 1) := by decide +kernel
theorem dX5_copy_62 : decode cX5_copy 62 = .ok (.ifCond .lt 35, 3) := by decide +kernel
theorem dX5_copy_65 : decode cX5_copy 65 = .ok (.iload 4, 2) := by decide +kernel
theorem dX5_copy_67 : decode cX5_copy 67 = .ok (.ifCond .lt 30, 3) := by decide +kernel
theorem dX5_copy_70 : decode cX5_copy 70 = .ok (.iload_n 2, 1) := by decide +kernel
theorem dX5_copy_71 : decode cX5_copy 71 = .ok (.aload_n 0, 1) := by decide +kernel
theorem dX5_copy_72 : decode cX5_copy 72 = .ok (.getfield 60, 3) := by decide +kernel
theorem dX5_copy_75 : decode cX5_copy 75 = .ok (.iload_n 1, 1) := by decide +kernel
theorem dX5_copy_76 : decode cX5_copy 76 = .ok (.iaload, 1) := by decide +kernel
theorem dX5_copy_77 : decode cX5_copy 77 = .ok (.iload 5, 2) := by decide +kernel
theorem dX5_copy_79 : decode cX5_copy 79 = .ok (.isub, 1) := by decide +kernel
theorem dX5_copy_80 : decode cX5_copy 80 = .ok (.if_icmp .gt 17, 3) := by decide +kernel
theorem dX5_copy_83 : decode cX5_copy 83 = .ok (.iload 4, 2) := by decide +kernel
theorem dX5_copy_85 : decode cX5_copy 85 = .ok (.aload_n 0, 1) := by decide +kernel
theorem dX5_copy_86 : decode cX5_copy 86 = .ok (.getfield 60, 3) := by decide +kernel
theorem dX5_copy_89 : decode cX5_copy 89 = .ok (.iload_n 3, 1) := by decide +kernel
theorem dX5_copy_90 : decode cX5_copy 90 = .ok (.iaload, 1) := by decide +kernel
theorem dX5_copy_91 : decode cX5_copy 91 = .ok (.iload 5, 2) := by decide +kernel
theorem dX5_copy_93 : decode cX5_copy 93 = .ok (.isub, 1) := by decide +kernel
theorem dX5_copy_94 : decode cX5_copy 94 = .ok (.if_icmp .le 6, 3) := by decide +kernel
theorem dX5_copy_97 : decode cX5_copy 97 = .ok (.bipush (-12), 2) := by decide +kernel
theorem dX5_copy_99 : decode cX5_copy 99 = .ok (.ireturn, 1) := by decide +kernel
theorem dX5_copy_100 : decode cX5_copy 100 = .ok (.iload_n 1, 1) := by decide +kernel
theorem dX5_copy_101 : decode cX5_copy 101 = .ok (.iload_n 3, 1) := by decide +kernel
theorem dX5_copy_102 : decode cX5_copy 102 = .ok (.if_icmp .ne 13, 3) := by decide +kernel
theorem dX5_copy_105 : decode cX5_copy 105 = .ok (.iload_n 2, 1) := by decide +kernel
theorem dX5_copy_106 : decode cX5_copy 106 = .ok (.iload 4, 2) := by decide +kernel
theorem dX5_copy_108 : decode cX5_copy 108 = .ok (.if_icmp .ge 7, 3) := by decide +kernel
theorem dX5_copy_111 : decode cX5_copy 111 = .ok (.iconst 1, 1) := by decide +kernel
theorem dX5_copy_112 : decode cX5_copy 112 = .ok (.goto 4, 3) := by decide +kernel
theorem dX5_copy_115 : decode cX5_copy 115 = .ok (.iconst 0, 1) := by decide +kernel
theorem dX5_copy_116 : decode cX5_copy 116 = .ok (.istore 6, 2) := by decide +kernel
theorem dX5_copy_118 : decode cX5_copy 118 = .ok (.iconst 0, 1) := by decide +kernel
theorem dX5_copy_119 : decode cX5_copy 119 = .ok (.istore 7, 2) := by decide +kernel
theorem dX5_copy_121 : decode cX5_copy 121 = .ok (.iload 7, 2) := by decide +kernel
theorem dX5_copy_123 : decode cX5_copy 123 = .ok (.iload 5, 2) := by decide +kernel
theorem dX5_copy_125 : decode cX5_copy 125 = .ok (.if_icmp .ge 57, 3) := by decide +kernel
theorem dX5_copy_128 : decode cX5_copy 128 = .ok (.iload 6, 2) := by decide +kernel
theorem dX5_copy_130 : decode cX5_copy 130 = .ok (.ifCond .eq 13, 3) := by decide +kernel
theorem dX5_copy_133 : decode cX5_copy 133 = .ok (.iload 5, 2) := by decide +kernel
theorem dX5_copy_135 : decode cX5_copy 135 = .ok (.iconst 1, 1) := by decide +kernel
theorem dX5_copy_136 : decode cX5_copy 136 = .ok (.isub, 1) := by decide +kernel
theorem dX5_copy_137 : decode cX5_copy 137 = .ok (.iload 7, 2) := by decide +kernel
theorem dX5_copy_139 : decode cX5_copy 139 = .ok (.isub, 1) := by decide +kernel
theorem dX5_copy_140 : decode cX5_copy 140 = .ok (.goto 5, 3) := by decide +kernel
theorem dX5_copy_143 : decode cX5_copy 143 = .ok (.iload 7, 2) := by decide +kernel
theorem dX5_copy_145 : decode cX5_copy 145 = .ok (.istore 8, 2) := by decide +kernel
theorem dX5_copy_147 : decode cX5_copy 147 = .ok (.aload_n 0, 1) := by decide +kernel
theorem dX5_copy_148 : decode cX5_copy 148 = .ok (.getfield 63, 3) := by decide +kernel
theorem dX5_copy_151 : decode cX5_copy 151 = .ok (.bipush 40, 2) := by decide +kernel
theorem dX5_copy_153 : decode cX5_copy 153 = .ok (.iload_n 3, 1) := by decide +kernel
theorem dX5_copy_154 : decode cX5_copy 154 = .ok (.imul, 1) := by decide +kernel
theorem dX5_copy_155 : decode cX5_copy 155 = .ok (.iload 4, 2) := by decide +kernel
theorem dX5_copy_157 : decode cX5_copy 157 = .ok (.iadd, 1) := by decide +kernel
theorem dX5_copy_158 : decode cX5_copy 158 = .ok (.iload 8, 2) := by decide +kernel
theorem dX5_copy_160 : decode cX5_copy 160 = .ok (.iadd, 1) := by decide +kernel
theorem dX5_copy_161 : decode cX5_copy 161 = .ok (.aload_n 0, 1) := by decide +kernel
theorem dX5_copy_162 : decode cX5_copy 162 = .ok (.getfield 63, 3) := by decide +kernel
theorem dX5_copy_165 : decode cX5_copy 165 = .ok (.bipush 40, 2) := by decide +kernel
theorem dX5_copy_167 : decode cX5_copy 167 = .ok (.iload_n 1, 1) := by decide +kernel
theorem dX5_copy_168 : decode cX5_copy 168 = .ok (.imul, 1) := by decide +kernel
theorem dX5_copy_169 : decode cX5_copy 169 = .ok (.iload_n 2, 1) := by decide +kernel
theorem dX5_copy_170 : decode cX5_copy 170 = .ok (.iadd, 1) := by decide +kernel
theorem dX5_copy_171 : decode cX5_copy 171 = .ok (.iload 8, 2) := by decide +kernel
theorem dX5_copy_173 : decode cX5_copy 173 = .ok (.iadd, 1) := by decide +kernel
theorem dX5_copy_174 : decode cX5_copy 174 = .ok (.iaload, 1) := by decide +kernel
theorem dX5_copy_175 : decode cX5_copy 175 = .ok (.iastore, 1) := by decide +kernel
theorem dX5_copy_176 : decode cX5_copy 176 = .ok (.iinc 7 1, 3) := by decide +kernel
theorem dX5_copy_179 : decode cX5_copy 179 = .ok (.goto (-58), 3) := by decide +kernel
theorem dX5_copy_182 : decode cX5_copy 182 = .ok (.iload 5, 2) := by decide +kernel
theorem dX5_copy_184 : decode cX5_copy 184 = .ok (.ireturn, 1) := by decide +kernel
theorem dX5_hill_0 : decode cX5_hill 0 = .ok (.iload_n 1, 1) := by decide +kernel
theorem dX5_hill_1 : decode cX5_hill 1 = .ok (.invokestatic 319, 3) := by decide +kernel
theorem dX5_hill_4 : decode cX5_hill 4 = .ok (.ifCond .eq 28, 3) := by decide +kernel
theorem dX5_hill_7 : decode cX5_hill 7 = .ok (.iload_n 2, 1) := by decide +kernel
theorem dX5_hill_8 : decode cX5_hill 8 = .ok (.i2l, 1) := by decide +kernel
theorem dX5_hill_9 : decode cX5_hill 9 = .ok (.lconst 0, 1) := by decide +kernel
theorem dX5_hill_10 : decode cX5_hill 10 = .ok (.ldc2_w 350, 3) := by decide +kernel
theorem dX5_hill_13 : decode cX5_hill 13 = .ok (.invokestatic 76, 3) := by decide +kernel
theorem dX5_hill_16 : decode cX5_hill 16 = .ok (.ifCond .eq 16, 3) := by decide +kernel
theorem dX5_hill_19 : decode cX5_hill 19 = .ok (.iload 4, 2) := by decide +kernel
theorem dX5_hill_21 : decode cX5_hill 21 = .ok (.i2l, 1) := by decide +kernel
theorem dX5_hill_22 : decode cX5_hill 22 = .ok (.lconst 0, 1) := by decide +kernel
theorem dX5_hill_23 : decode cX5_hill 23 = .ok (.ldc2_w 114, 3) := by decide +kernel
theorem dX5_hill_26 : decode cX5_hill 26 = .ok (.invokestatic 76, 3) := by decide +kernel
theorem dX5_hill_29 : decode cX5_hill 29 = .ok (.ifCond .ne 6, 3) := by decide +kernel
theorem dX5_hill_32 : decode cX5_hill 32 = .ok (.bipush (-2), 2) := by decide +kernel
theorem dX5_hill_34 : decode cX5_hill 34 = .ok (.ireturn, 1) := by decide +kernel
theorem dX5_hill_35 : decode cX5_hill 35 = .ok (.aload_n 0, 1) := by decide +kernel
theorem dX5_hill_36 : decode cX5_hill 36 = .ok (.getfield 53, 3) := by decide +kernel
theorem dX5_hill_39 : decode cX5_hill 39 = .ok (.iload_n 1, 1) := by decide +kernel
theorem dX5_hill_40 : decode cX5_hill 40 = .ok (.baload, 1) := by decide +kernel
theorem dX5_hill_41 : decode cX5_hill 41 = .ok (.ifCond .eq 16, 3) := by decide +kernel
theorem dX5_hill_44 : decode cX5_hill 44 = .ok (.aload_n 0, 1) := by decide +kernel
theorem dX5_hill_45 : decode cX5_hill 45 = .ok (.getfield 57, 3) := by decide +kernel
theorem dX5_hill_48 : decode cX5_hill 48 = .ok (.iload_n 1, 1) := by decide +kernel
theorem dX5_hill_49 : decode cX5_hill 49 = .ok (.iaload, 1) := by decide +kernel
theorem dX5_hill_50 : decode cX5_hill 50 = .ok (.iload_n 2, 1) := by decide +kernel
theorem dX5_hill_51 : decode cX5_hill 51 = .ok (.if_icmp .eq 6, 3) := by decide +kernel
theorem dX5_hill_54 : decode cX5_hill 54 = .ok (.bipush (-13), 2) := by decide +kernel
theorem dX5_hill_56 : decode cX5_hill 56 = .ok (.ireturn, 1) := by decide +kernel
theorem dX5_hill_57 : decode cX5_hill 57 = .ok (.aload_n 0, 1) := by decide +kernel
theorem dX5_hill_58 : decode cX5_hill 58 = .ok (.getfield 53, 3) := by decide +kernel
theorem dX5_hill_61 : decode cX5_hill 61 = .ok (.iload_n 1, 1) := by decide +kernel
theorem dX5_hill_62 : decode cX5_hill 62 = .ok (.baload, 1) := by decide +kernel
theorem dX5_hill_63 : decode cX5_hill 63 = .ok (.ifCond .ne 6, 3) := by decide +kernel
theorem dX5_hill_66 : decode cX5_hill 66 = .ok (.bipush (-11), 2) := by decide +kernel
theorem dX5_hill_68 : decode cX5_hill 68 = .ok (.ireturn, 1) := by decide +kernel
theorem dX5_hill_69 : decode cX5_hill 69 = .ok (.iconst 0, 1) := by decide +kernel
theorem dX5_hill_70 : decode cX5_hill 70 = .ok (.istore 5, 2) := by decide +kernel
theorem dX5_hill_72 : decode cX5_hill 72 = .ok (.iconst 0, 1) := by decide +kernel
theorem dX5_hill_73 : decode cX5_hill 73 = .ok (.istore 6, 2) := by decide +kernel
theorem dX5_hill_75 : decode cX5_hill 75 = .ok (.iload 6, 2) := by decide +kernel
theorem dX5_hill_77 : decode cX5_hill 77 = .ok (.iload 4, 2) := by decide +kernel
theorem dX5_hill_79 : decode cX5_hill 79 = .ok (.if_icmp .ge 88, 3) := by decide +kernel
theorem dX5_hill_82 : decode cX5_hill 82 = .ok (.iload_n 3, 1) := by decide +kernel
theorem dX5_hill_83 : decode cX5_hill 83 = .ok (.ifCond .lt 20, 3) := by decide +kernel
theorem dX5_hill_86 : decode cX5_hill 86 = .ok (.iload_n 3, 1) := by decide +kernel
theorem dX5_hill_87 : decode cX5_hill 87 = .ok (.aload_n 0, 1) := by decide +kernel
theorem dX5_hill_88 : decode cX5_hill 88 = .ok (.getfield 60, 3) := by decide +kernel
theorem dX5_hill_91 : decode cX5_hill 91 = .ok (.iload_n 1, 1) := by decide +kernel
theorem dX5_hill_92 : decode cX5_hill 92 = .ok (.iaload, 1) := by decide +kernel
theorem dX5_hill_93 : decode cX5_hill 93 = .ok (.iconst 3, 1) := by decide +kernel
theorem dX5_hill_94 : decode cX5_hill 94 = .ok (.iload 6, 2) := by decide +kernel
theorem dX5_hill_96 : decode cX5_hill 96 = .ok (.imul, 1) := by decide +kernel
theorem dX5_hill_97 : decode cX5_hill 97 = .ok (.isub, 1) := by decide +kernel
theorem dX5_hill_98 : decode cX5_hill 98 = .ok (.iconst 3, 1) := by decide +kernel
theorem dX5_hill_99 : decode cX5_hill 99 = .ok (.isub, 1) := by decide +kernel
theorem dX5_hill_100 : decode cX5_hill 100 = .ok (.if_icmp .le 6, 3) := by decide +kernel
theorem dX5_hill_103 : decode cX5_hill 103 = .ok (.bipush (-12), 2) := by decide +kernel
theorem dX5_hill_105 : decode cX5_hill 105 = .ok (.ireturn, 1) := by decide +kernel
theorem dX5_hill_106 : decode cX5_hill 106 = .ok (.bipush 40, 2) := by decide +kernel
theorem dX5_hill_108 : decode cX5_hill 108 = .ok (.iload_n 1, 1) := by decide +kernel
theorem dX5_hill_109 : decode cX5_hill 109 = .ok (.imul, 1) := by decide +kernel
theorem dX5_hill_110 : decode cX5_hill 110 = .ok (.iload_n 3, 1) := by decide +kernel
theorem dX5_hill_111 : decode cX5_hill 111 = .ok (.iadd, 1) := by decide +kernel
theorem dX5_hill_112 : decode cX5_hill 112 = .ok (.iconst 3, 1) := by decide +kernel
theorem dX5_hill_113 : decode cX5_hill 113 = .ok (.iload 6, 2) := by decide +kernel
theorem dX5_hill_115 : decode cX5_hill 115 = .ok (.imul, 1) := by decide +kernel
theorem dX5_hill_116 : decode cX5_hill 116 = .ok (.iadd, 1) := by decide +kernel
theorem dX5_hill_117 : decode cX5_hill 117 = .ok (.istore 7, 2) := by decide +kernel
theorem dX5_hill_119 : decode cX5_hill 119 = .ok (.iload 5, 2) := by decide +kernel
theorem dX5_hill_121 : decode cX5_hill 121 = .ok (.aload_n 0, 1) := by decide +kernel
theorem dX5_hill_122 : decode cX5_hill 122 = .ok (.aload_n 0, 1) := by decide +kernel
theorem dX5_hill_123 : decode cX5_hill 123 = .ok (.getfield 63, 3) := by decide +kernel
theorem dX5_hill_126 : decode cX5_hill 126 = .ok (.iload 7, 2) := by decide +kernel
theorem dX5_hill_128 : decode cX5_hill 128 = .ok (.iaload, 1) := by decide +kernel
theorem dX5_hill_129 : decode cX5_hill 129 = .ok (.aload_n 0, 1) := by decide +kernel
theorem dX5_hill_130 : decode cX5_hill 130 = .ok (.getfield 63, 3) := by decide +kernel
theorem dX5_hill_133 : decode cX5_hill 133 = .ok (.iload 7, 2) := by decide +kernel
theorem dX5_hill_135 : decode cX5_hill 135 = .ok (.iconst 1, 1) := by decide +kernel
theorem dX5_hill_136 : decode cX5_hill 136 = .ok (.iadd, 1) := by decide +kernel
theorem dX5_hill_137 : decode cX5_hill 137 = .ok (.iaload, 1) := by decide +kernel
theorem dX5_hill_138 : decode cX5_hill 138 = .ok (.aload_n 0, 1) := by decide +kernel
theorem dX5_hill_139 : decode cX5_hill 139 = .ok (.getfield 63, 3) := by decide +kernel
theorem dX5_hill_142 : decode cX5_hill 142 = .ok (.iload 7, 2) := by decide +kernel
theorem dX5_hill_144 : decode cX5_hill 144 = .ok (.iconst 2, 1) := by decide +kernel
theorem dX5_hill_145 : decode cX5_hill 145 = .ok (.iadd, 1) := by decide +kernel
theorem dX5_hill_146 : decode cX5_hill 146 = .ok (.iaload, 1) := by decide +kernel
theorem dX5_hill_147 : decode cX5_hill 147 = .ok (.invokevirtual 352, 3) := by decide +kernel
theorem dX5_hill_150 : decode cX5_hill 150 = .ok (.ifCond .lt 7, 3) := by decide +kernel
theorem dX5_hill_153 : decode cX5_hill 153 = .ok (.iconst 1, 1) := by decide +kernel
theorem dX5_hill_154 : decode cX5_hill 154 = .ok (.goto 4, 3) := by decide +kernel
theorem dX5_hill_157 : decode cX5_hill 157 = .ok (.iconst 0, 1) := by decide +kernel
theorem dX5_hill_158 : decode cX5_hill 158 = .ok (.iadd, 1) := by decide +kernel
theorem dX5_hill_159 : decode cX5_hill 159 = .ok (.istore 5, 2) := by decide +kernel
theorem dX5_hill_161 : decode cX5_hill 161 = .ok (.iinc 6 1, 3) := by decide +kernel
theorem dX5_hill_164 : decode cX5_hill 164 = .ok (.goto (-89), 3) := by decide +kernel
theorem dX5_hill_167 : decode cX5_hill 167 = .ok (.iload 5, 2) := by decide +kernel
theorem dX5_hill_169 : decode cX5_hill 169 = .ok (.ireturn, 1) := by decide +kernel
theorem dX5_over_0 : decode cX5_over 0 = .ok (.iload_n 0, 1) := by decide +kernel
theorem dX5_over_1 : decode cX5_over 1 = .ok (.ifCond .ne 7, 3) := by decide +kernel
theorem dX5_over_4 : decode cX5_over 4 = .ok (.iconst (-1), 1) := by decide +kernel
theorem dX5_over_5 : decode cX5_over 5 = .ok (.goto 22, 3) := by decide +kernel
theorem dX5_over_8 : decode cX5_over 8 = .ok (.iload_n 0, 1) := by decide +kernel
theorem dX5_over_9 : decode cX5_over 9 = .ok (.iconst 3, 1) := by decide +kernel
theorem dX5_over_10 : decode cX5_over 10 = .ok (.if_icmp .ne 7, 3) := by decide +kernel
theorem dX5_over_13 : decode cX5_over 13 = .ok (.iconst 1, 1) := by decide +kernel
theorem dX5_over_14 : decode cX5_over 14 = .ok (.goto 13, 3) := by decide +kernel
theorem dX5_over_17 : decode cX5_over 17 = .ok (.iload_n 0, 1) := by decide +kernel
theorem dX5_over_18 : decode cX5_over 18 = .ok (.iconst 4, 1) := by decide +kernel
theorem dX5_over_19 : decode cX5_over 19 = .ok (.if_icmp .ne 7, 3) := by decide +kernel
theorem dX5_over_22 : decode cX5_over 22 = .ok (.iconst 2, 1) := by decide +kernel
theorem dX5_over_23 : decode cX5_over 23 = .ok (.goto 4, 3) := by decide +kernel
theorem dX5_over_26 : decode cX5_over 26 = .ok (.iconst 0, 1) := by decide +kernel
theorem dX5_over_27 : decode cX5_over 27 = .ok (.ireturn, 1) := by decide +kernel
theorem dX5_taken_0 : decode cX5_taken 0 = .ok (.iload_n 2, 1) := by decide +kernel
theorem dX5_taken_1 : decode cX5_taken 1 = .ok (.i2l, 1) := by decide +kernel
theorem dX5_taken_2 : decode cX5_taken 2 = .ok (.lconst 0, 1) := by decide +kernel
theorem dX5_taken_3 : decode cX5_taken 3 = .ok (.ldc2_w 114, 3) := by decide +kernel
theorem dX5_taken_6 : decode cX5_taken 6 = .ok (.invokestatic 76, 3) := by decide +kernel
theorem dX5_taken_9 : decode cX5_taken 9 = .ok (.ifCond .ne 6, 3) := by decide +kernel
theorem dX5_taken_12 : decode cX5_taken 12 = .ok (.bipush (-2), 2) := by decide +kernel
theorem dX5_taken_14 : decode cX5_taken 14 = .ok (.ireturn, 1) := by decide +kernel
theorem dX5_taken_15 : decode cX5_taken 15 = .ok (.aload_n 0, 1) := by decide +kernel
theorem dX5_taken_16 : decode cX5_taken 16 = .ok (.iload_n 1, 1) := by decide +kernel
theorem dX5_taken_17 : decode cX5_taken 17 = .ok (.invokevirtual 83, 3) := by decide +kernel
theorem dX5_taken_20 : decode cX5_taken 20 = .ok (.ifCond .ne 6, 3) := by decide +kernel
theorem dX5_taken_23 : decode cX5_taken 23 = .ok (.bipush (-11), 2) := by decide +kernel
theorem dX5_taken_25 : decode cX5_taken 25 = .ok (.ireturn, 1) := by decide +kernel
theorem dX5_taken_26 : decode cX5_taken 26 = .ok (.aload_n 0, 1) := by decide +kernel
theorem dX5_taken_27 : decode cX5_taken 27 = .ok (.getfield 26, 3) := by decide +kernel
theorem dX5_taken_30 : decode cX5_taken 30 = .ok (.iconst 3, 1) := by decide +kernel
theorem dX5_taken_31 : decode cX5_taken 31 = .ok (.iload_n 1, 1) := by decide +kernel
theorem dX5_taken_32 : decode cX5_taken 32 = .ok (.imul, 1) := by decide +kernel
theorem dX5_taken_33 : decode cX5_taken 33 = .ok (.iconst 1, 1) := by decide +kernel
theorem dX5_taken_34 : decode cX5_taken 34 = .ok (.iadd, 1) := by decide +kernel
theorem dX5_taken_35 : decode cX5_taken 35 = .ok (.iaload, 1) := by decide +kernel
theorem dX5_taken_36 : decode cX5_taken 36 = .ok (.istore_n 3, 1) := by decide +kernel
theorem dX5_taken_37 : decode cX5_taken 37 = .ok (.iload_n 3, 1) := by decide +kernel
theorem dX5_taken_38 : decode cX5_taken 38 = .ok (.iconst (-1), 1) := by decide +kernel
theorem dX5_taken_39 : decode cX5_taken 39 = .ok (.if_icmp .eq 16, 3) := by decide +kernel
theorem dX5_taken_42 : decode cX5_taken 42 = .ok (.iload_n 3, 1) := by decide +kernel
theorem dX5_taken_43 : decode cX5_taken 43 = .ok (.iload_n 2, 1) := by decide +kernel
theorem dX5_taken_44 : decode cX5_taken 44 = .ok (.if_icmp .eq 11, 3) := by decide +kernel
theorem dX5_taken_47 : decode cX5_taken 47 = .ok (.iload_n 3, 1) := by decide +kernel
theorem dX5_taken_48 : decode cX5_taken 48 = .ok (.invokestatic 355, 3) := by decide +kernel
theorem dX5_taken_51 : decode cX5_taken 51 = .ok (.istore_n 3, 1) := by decide +kernel
theorem dX5_taken_52 : decode cX5_taken 52 = .ok (.goto (-15), 3) := by decide +kernel
theorem dX5_taken_55 : decode cX5_taken 55 = .ok (.iload_n 3, 1) := by decide +kernel
theorem dX5_taken_56 : decode cX5_taken 56 = .ok (.iload_n 2, 1) := by decide +kernel
theorem dX5_taken_57 : decode cX5_taken 57 = .ok (.if_icmp .ne 14, 3) := by decide +kernel
theorem dX5_taken_60 : decode cX5_taken 60 = .ok (.aload_n 0, 1) := by decide +kernel
theorem dX5_taken_61 : decode cX5_taken 61 = .ok (.getfield 26, 3) := by decide +kernel
theorem dX5_taken_64 : decode cX5_taken 64 = .ok (.iconst 3, 1) := by decide +kernel
theorem dX5_taken_65 : decode cX5_taken 65 = .ok (.iload_n 1, 1) := by decide +kernel
theorem dX5_taken_66 : decode cX5_taken 66 = .ok (.imul, 1) := by decide +kernel
theorem dX5_taken_67 : decode cX5_taken 67 = .ok (.iaload, 1) := by decide +kernel
theorem dX5_taken_68 : decode cX5_taken 68 = .ok (.goto 5, 3) := by decide +kernel
theorem dX5_taken_71 : decode cX5_taken 71 = .ok (.bipush (-13), 2) := by decide +kernel
theorem dX5_taken_73 : decode cX5_taken 73 = .ok (.ireturn, 1) := by decide +kernel
theorem dJ6_bitCount_0f7a4_0 : decode cJ6_bitCount_0f7a4 0 = .ok (.iload_n 0, 1) := by decide +kernel
theorem dJ6_bitCount_0f7a4_1 : decode cJ6_bitCount_0f7a4 1 = .ok (.iload_n 0, 1) := by decide +kernel
theorem dJ6_bitCount_0f7a4_2 : decode cJ6_bitCount_0f7a4 2 = .ok (.iconst 1, 1) := by decide +kernel
theorem dJ6_bitCount_0f7a4_3 : decode cJ6_bitCount_0f7a4 3 = .ok (.iushr, 1) := by decide +kernel
theorem dJ6_bitCount_0f7a4_4 : decode cJ6_bitCount_0f7a4 4 = .ok (.ldc_w 265, 3) := by decide +kernel
theorem dJ6_bitCount_0f7a4_7 : decode cJ6_bitCount_0f7a4 7 = .ok (.iand, 1) := by decide +kernel
theorem dJ6_bitCount_0f7a4_8 : decode cJ6_bitCount_0f7a4 8 = .ok (.isub, 1) := by decide +kernel
theorem dJ6_bitCount_0f7a4_9 : decode cJ6_bitCount_0f7a4 9 = .ok (.istore_n 0, 1) := by decide +kernel
theorem dJ6_bitCount_0f7a4_10 : decode cJ6_bitCount_0f7a4 10 = .ok (.iload_n 0, 1) := by decide +kernel
theorem dJ6_bitCount_0f7a4_11 : decode cJ6_bitCount_0f7a4 11 = .ok (.ldc_w 266, 3) := by decide +kernel
theorem dJ6_bitCount_0f7a4_14 : decode cJ6_bitCount_0f7a4 14 = .ok (.iand, 1) := by decide +kernel
theorem dJ6_bitCount_0f7a4_15 : decode cJ6_bitCount_0f7a4 15 = .ok (.iload_n 0, 1) := by decide +kernel
theorem dJ6_bitCount_0f7a4_16 : decode cJ6_bitCount_0f7a4 16 = .ok (.iconst 2, 1) := by decide +kernel
theorem dJ6_bitCount_0f7a4_17 : decode cJ6_bitCount_0f7a4 17 = .ok (.iushr, 1) := by decide +kernel
theorem dJ6_bitCount_0f7a4_18 : decode cJ6_bitCount_0f7a4 18 = .ok (.ldc_w 266, 3) := by decide +kernel
theorem dJ6_bitCount_0f7a4_21 : decode cJ6_bitCount_0f7a4 21 = .ok (.iand, 1) := by decide +kernel
theorem dJ6_bitCount_0f7a4_22 : decode cJ6_bitCount_0f7a4 22 = .ok (.iadd, 1) := by decide +kernel
theorem dJ6_bitCount_0f7a4_23 : decode cJ6_bitCount_0f7a4 23 = .ok (.istore_n 0, 1) := by decide +kernel
theorem dJ6_bitCount_0f7a4_24 : decode cJ6_bitCount_0f7a4 24 = .ok (.iload_n 0, 1) := by decide +kernel
theorem dJ6_bitCount_0f7a4_25 : decode cJ6_bitCount_0f7a4 25 = .ok (.iload_n 0, 1) := by decide +kernel
theorem dJ6_bitCount_0f7a4_26 : decode cJ6_bitCount_0f7a4 26 = .ok (.iconst 4, 1) := by decide +kernel
theorem dJ6_bitCount_0f7a4_27 : decode cJ6_bitCount_0f7a4 27 = .ok (.iushr, 1) := by decide +kernel
theorem dJ6_bitCount_0f7a4_28 : decode cJ6_bitCount_0f7a4 28 = .ok (.iadd, 1) := by decide +kernel
theorem dJ6_bitCount_0f7a4_29 : decode cJ6_bitCount_0f7a4 29 = .ok (.ldc_w 267, 3) := by decide +kernel
theorem dJ6_bitCount_0f7a4_32 : decode cJ6_bitCount_0f7a4 32 = .ok (.iand, 1) := by decide +kernel
theorem dJ6_bitCount_0f7a4_33 : decode cJ6_bitCount_0f7a4 33 = .ok (.istore_n 0, 1) := by decide +kernel
theorem dJ6_bitCount_0f7a4_34 : decode cJ6_bitCount_0f7a4 34 = .ok (.iload_n 0, 1) := by decide +kernel
theorem dJ6_bitCount_0f7a4_35 : decode cJ6_bitCount_0f7a4 35 = .ok (.iload_n 0, 1) := by decide +kernel
theorem dJ6_bitCount_0f7a4_36 : decode cJ6_bitCount_0f7a4 36 = .ok (.bipush 8, 2) := by decide +kernel
theorem dJ6_bitCount_0f7a4_38 : decode cJ6_bitCount_0f7a4 38 = .ok (.iushr, 1) := by decide +kernel
theorem dJ6_bitCount_0f7a4_39 : decode cJ6_bitCount_0f7a4 39 = .ok (.iadd, 1) := by decide +kernel
theorem dJ6_bitCount_0f7a4_40 : decode cJ6_bitCount_0f7a4 40 = .ok (.istore_n 0, 1) := by decide +kernel
theorem dJ6_bitCount_0f7a4_41 : decode cJ6_bitCount_0f7a4 41 = .ok (.iload_n 0, 1) := by decide +kernel
theorem dJ6_bitCount_0f7a4_42 : decode cJ6_bitCount_0f7a4 42 = .ok (.iload_n 0, 1) := by decide +kernel
theorem dJ6_bitCount_0f7a4_43 : decode cJ6_bitCount_0f7a4 43 = .ok (.bipush 16, 2) := by decide +kernel
theorem dJ6_bitCount_0f7a4_45 : decode cJ6_bitCount_0f7a4 45 = .ok (.iushr, 1) := by decide +kernel
theorem dJ6_bitCount_0f7a4_46 : decode cJ6_bitCount_0f7a4 46 = .ok (.iadd, 1) := by decide +kernel
theorem dJ6_bitCount_0f7a4_47 : decode cJ6_bitCount_0f7a4 47 = .ok (.istore_n 0, 1) := by decide +kernel
theorem dJ6_bitCount_0f7a4_48 : decode cJ6_bitCount_0f7a4 48 = .ok (.iload_n 0, 1) := by decide +kernel
theorem dJ6_bitCount_0f7a4_49 : decode cJ6_bitCount_0f7a4 49 = .ok (.bipush 63, 2) := by decide +kernel
theorem dJ6_bitCount_0f7a4_51 : decode cJ6_bitCount_0f7a4 51 = .ok (.iand, 1) := by decide +kernel
theorem dJ6_bitCount_0f7a4_52 : decode cJ6_bitCount_0f7a4 52 = .ok (.ireturn, 1) := by decide +kernel
theorem dJ9_max_7cf53_0 : decode cJ9_max_7cf53 0 = .ok (.iload_n 0, 1) := by decide +kernel
theorem dJ9_max_7cf53_1 : decode cJ9_max_7cf53 1 = .ok (.iload_n 1, 1) := by decide +kernel
theorem dJ9_max_7cf53_2 : decode cJ9_max_7cf53 2 = .ok (.if_icmp .lt 7, 3) := by decide +kernel
theorem dJ9_max_7cf53_5 : decode cJ9_max_7cf53 5 = .ok (.iload_n 0, 1) := by decide +kernel
theorem dJ9_max_7cf53_6 : decode cJ9_max_7cf53 6 = .ok (.goto 4, 3) := by decide +kernel
theorem dJ9_max_7cf53_9 : decode cJ9_max_7cf53 9 = .ok (.iload_n 1, 1) := by decide +kernel
theorem dJ9_max_7cf53_10 : decode cJ9_max_7cf53 10 = .ok (.ireturn, 1) := by decide +kernel
theorem dJ9_min_7cf53_0 : decode cJ9_min_7cf53 0 = .ok (.iload_n 0, 1) := by decide +kernel
theorem dJ9_min_7cf53_1 : decode cJ9_min_7cf53 1 = .ok (.iload_n 1, 1) := by decide +kernel
theorem dJ9_min_7cf53_2 : decode cJ9_min_7cf53 2 = .ok (.if_icmp .gt 7, 3) := by decide +kernel
theorem dJ9_min_7cf53_5 : decode cJ9_min_7cf53 5 = .ok (.iload_n 0, 1) := by decide +kernel
theorem dJ9_min_7cf53_6 : decode cJ9_min_7cf53 6 = .ok (.goto 4, 3) := by decide +kernel
theorem dJ9_min_7cf53_9 : decode cJ9_min_7cf53 9 = .ok (.iload_n 1, 1) := by decide +kernel
theorem dJ9_min_7cf53_10 : decode cJ9_min_7cf53 10 = .ok (.ireturn, 1) := by decide +kernel
theorem dJ0_length_8abf5_0 : decode cJ0_length_8abf5 0 = .ok (.aload_n 0, 1) := by decide +kernel
theorem dJ0_length_8abf5_1 : decode cJ0_length_8abf5 1 = .ok (.getfield 9, 3) := by decide +kernel
theorem dJ0_length_8abf5_4 : decode cJ0_length_8abf5 4 = .ok (.arraylength, 1) := by decide +kernel
theorem dJ0_length_8abf5_5 : decode cJ0_length_8abf5 5 = .ok (.aload_n 0, 1) := by decide +kernel
theorem dJ0_length_8abf5_6 : decode cJ0_length_8abf5 6 = .ok (.invokevirtual 335, 3) := by decide +kernel
theorem dJ0_length_8abf5_9 : decode cJ0_length_8abf5 9 = .ok (.ishr, 1) := by decide +kernel
theorem dJ0_length_8abf5_10 : decode cJ0_length_8abf5 10 = .ok (.ireturn, 1) := by decide +kernel
theorem dJ0_charAt_5068e_0 : decode cJ0_charAt_5068e 0 = .ok (.aload_n 0, 1) := by decide +kernel
theorem dJ0_charAt_5068e_1 : decode cJ0_charAt_5068e 1 = .ok (.invokevirtual 492, 3) := by decide +kernel
theorem dJ0_charAt_5068e_4 : decode cJ0_charAt_5068e 4 = .ok (.ifCond .eq 12, 3) := by decide +kernel
theorem dJ0_charAt_5068e_7 : decode cJ0_charAt_5068e 7 = .ok (.aload_n 0, 1) := by decide +kernel
theorem dJ0_charAt_5068e_8 : decode cJ0_charAt_5068e 8 = .ok (.getfield 9, 3) := by decide +kernel
theorem dJ0_charAt_5068e_11 : decode cJ0_charAt_5068e 11 = .ok (.iload_n 1, 1) := by decide +kernel
theorem dJ0_charAt_5068e_12 : decode cJ0_charAt_5068e 12 = .ok (.invokestatic 495, 3) := by decide +kernel
theorem dJ0_charAt_5068e_15 : decode cJ0_charAt_5068e 15 = .ok (.ireturn, 1) := by decide +kernel
theorem dJ0_charAt_5068e_16 : decode cJ0_charAt_5068e 16 = .ok (.aload_n 0, 1) := by decide +kernel
theorem dJ0_charAt_5068e_17 : decode cJ0_charAt_5068e 17 = .ok (.getfield 9, 3) := by decide +kernel
theorem dJ0_charAt_5068e_20 : decode cJ0_charAt_5068e 20 = .ok (.iload_n 1, 1) := by decide +kernel
theorem dJ0_charAt_5068e_21 : decode cJ0_charAt_5068e 21 = .ok (.invokestatic 498, 3) := by decide +kernel
theorem dJ0_charAt_5068e_24 : decode cJ0_charAt_5068e 24 = .ok (.ireturn, 1) := by decide +kernel
theorem dJ0_coder_7d493_0 : decode cJ0_coder_7d493 0 = .ok (.getstatic 38, 3) := by decide +kernel
theorem dJ0_coder_7d493_3 : decode cJ0_coder_7d493 3 = .ok (.ifCond .eq 10, 3) := by decide +kernel
theorem dJ0_coder_7d493_6 : decode cJ0_coder_7d493 6 = .ok (.aload_n 0, 1) := by decide +kernel
theorem dJ0_coder_7d493_7 : decode cJ0_coder_7d493 7 = .ok (.getfield 15, 3) := by decide +kernel
theorem dJ0_coder_7d493_10 : decode cJ0_coder_7d493 10 = .ok (.goto 4, 3) := by decide +kernel
theorem dJ0_coder_7d493_13 : decode cJ0_coder_7d493 13 = .ok (.iconst 1, 1) := by decide +kernel
theorem dJ0_coder_7d493_14 : decode cJ0_coder_7d493 14 = .ok (.ireturn, 1) := by decide +kernel
theorem dJ0_isLatin1_aae02_0 : decode cJ0_isLatin1_aae02 0 = .ok (.getstatic 38, 3) := by decide +kernel
theorem dJ0_isLatin1_aae02_3 : decode cJ0_isLatin1_aae02 3 = .ok (.ifCond .eq 14, 3) := by decide +kernel
theorem dJ0_isLatin1_aae02_6 : decode cJ0_isLatin1_aae02 6 = .ok (.aload_n 0, 1) := by decide +kernel
theorem dJ0_isLatin1_aae02_7 : decode cJ0_isLatin1_aae02 7 = .ok (.getfield 15, 3) := by decide +kernel
theorem dJ0_isLatin1_aae02_10 : decode cJ0_isLatin1_aae02 10 = .ok (.ifCond .ne 7, 3) := by decide +kernel
theorem dJ0_isLatin1_aae02_13 : decode cJ0_isLatin1_aae02 13 = .ok (.iconst 1, 1) := by decide +kernel
theorem dJ0_isLatin1_aae02_14 : decode cJ0_isLatin1_aae02 14 = .ok (.goto 4, 3) := by decide +kernel
theorem dJ0_isLatin1_aae02_17 : decode cJ0_isLatin1_aae02 17 = .ok (.iconst 0, 1) := by decide +kernel
theorem dJ0_isLatin1_aae02_18 : decode cJ0_isLatin1_aae02 18 = .ok (.ireturn, 1) := by decide +kernel
theorem dJ0_checkIndex_df160_0 : decode cJ0_checkIndex_df160 0 = .ok (.iload_n 0, 1) := by decide +kernel
theorem dJ0_checkIndex_df160_1 : decode cJ0_checkIndex_df160 1 = .ok (.iload_n 1, 1) := by decide +kernel
