theorem dX5_next_307 : decode cX5_next 307 = .ok (.i2l, 1) := by decide +kernel
theorem dX5_next_308 : decode cX5_next 308 = .ok (.putfield 162, 3) := by decide +kernel
theorem dX5_next_311 : decode cX5_next 311 = .ok (.aload_n 0, 1) := by decide +kernel
theorem dX5_next_312 : decode cX5_next 312 = .ok (.dup, 1) := by decide +kernel
theorem dX5_next_313 : decode cX5_next 313 = .ok (.getfield 142, 3) := by decide +kernel
theorem dX5_next_316 : decode cX5_next 316 = .ok (.iconst 1, 1) := by decide +kernel
theorem dX5_next_317 : decode cX5_next 317 = .ok (.iadd, 1) := by decide +kernel
theorem dX5_next_318 : decode cX5_next 318 = .ok (.putfield 142, 3) := by decide +kernel
theorem dX5_next_321 : decode cX5_next 321 = .ok (.return_, 1) := by decide +kernel
theorem dX5_fail_0 : decode cX5_fail 0 = .ok (.aload_n 0, 1) := by decide +kernel
theorem dX5_fail_1 : decode cX5_fail 1 = .ok (.getfield 166, 3) := by decide +kernel
theorem dX5_fail_4 : decode cX5_fail 4 = .ok (.ifCond .ne 16, 3) := by decide +kernel
theorem dX5_fail_7 : decode cX5_fail 7 = .ok (.aload_n 0, 1) := by decide +kernel
theorem dX5_fail_8 : decode cX5_fail 8 = .ok (.iconst 1, 1) := by decide +kernel
theorem dX5_fail_9 : decode cX5_fail 9 = .ok (.putfield 166, 3) := by decide +kernel
theorem dX5_fail_12 : decode cX5_fail 12 = .ok (.aload_n 0, 1) := by decide +kernel
theorem dX5_fail_13 : decode cX5_fail 13 = .ok (.aload_n 0, 1) := by decide +kernel
theorem dX5_fail_14 : decode cX5_fail 14 = .ok (.getfield 148, 3) := by decide +kernel
theorem dX5_fail_17 : decode cX5_fail 17 = .ok (.putfield 170, 3) := by decide +kernel
theorem dX5_fail_20 : decode cX5_fail 20 = .ok (.return_, 1) := by decide +kernel
theorem dX5_isLetter__0 : decode cX5_isLetter_ 0 = .ok (.aload_n 0, 1) := by decide +kernel
theorem dX5_isLetter__1 : decode cX5_isLetter_ 1 = .ok (.getfield 148, 3) := by decide +kernel
theorem dX5_isLetter__4 : decode cX5_isLetter_ 4 = .ok (.iload_n 1, 1) := by decide +kernel
theorem dX5_isLetter__5 : decode cX5_isLetter_ 5 = .ok (.iadd, 1) := by decide +kernel
theorem dX5_isLetter__6 : decode cX5_isLetter_ 6 = .ok (.aload_n 0, 1) := by decide +kernel
theorem dX5_isLetter__7 : decode cX5_isLetter_ 7 = .ok (.getfield 142, 3) := by decide +kernel
theorem dX5_isLetter__10 : decode cX5_isLetter_ 10 = .ok (.if_icmp .ge 25, 3) := by decide +kernel
theorem dX5_isLetter__13 : decode cX5_isLetter_ 13 = .ok (.aload_n 0, 1) := by decide +kernel
theorem dX5_isLetter__14 : decode cX5_isLetter_ 14 = .ok (.aload_n 0, 1) := by decide +kernel
theorem dX5_isLetter__15 : decode cX5_isLetter_ 15 = .ok (.getfield 148, 3) := by decide +kernel
theorem dX5_isLetter__18 : decode cX5_isLetter_ 18 = .ok (.iload_n 1, 1) := by decide +kernel
theorem dX5_isLetter__19 : decode cX5_isLetter_ 19 = .ok (.iadd, 1) := by decide +kernel
theorem dX5_isLetter__20 : decode cX5_isLetter_ 20 = .ok (.invokevirtual 145, 3) := by decide +kernel
theorem dX5_isLetter__23 : decode cX5_isLetter_ 23 = .ok (.iload_n 2, 1) := by decide +kernel
theorem dX5_isLetter__24 : decode cX5_isLetter_ 24 = .ok (.if_icmp .ne 7, 3) := by decide +kernel
theorem dX5_isLetter__27 : decode cX5_isLetter_ 27 = .ok (.iconst 1, 1) := by decide +kernel
theorem dX5_isLetter__28 : decode cX5_isLetter_ 28 = .ok (.goto 16, 3) := by decide +kernel
theorem dX5_isLetter__31 : decode cX5_isLetter_ 31 = .ok (.iconst 0, 1) := by decide +kernel
theorem dX5_isLetter__32 : decode cX5_isLetter_ 32 = .ok (.goto 12, 3) := by decide +kernel
theorem dX5_isLetter__35 : decode cX5_isLetter_ 35 = .ok (.iload_n 2, 1) := by decide +kernel
theorem dX5_isLetter__36 : decode cX5_isLetter_ 36 = .ok (.ifCond .ne 7, 3) := by decide +kernel
theorem dX5_isLetter__39 : decode cX5_isLetter_ 39 = .ok (.iconst 1, 1) := by decide +kernel
theorem dX5_isLetter__40 : decode cX5_isLetter_ 40 = .ok (.goto 4, 3) := by decide +kernel
theorem dX5_isLetter__43 : decode cX5_isLetter_ 43 = .ok (.iconst 0, 1) := by decide +kernel
theorem dX5_isLetter__44 : decode cX5_isLetter_ 44 = .ok (.ireturn, 1) := by decide +kernel
theorem dX5_isWord_0 : decode cX5_isWord 0 = .ok (.aload_n 0, 1) := by decide +kernel
theorem dX5_isWord_1 : decode cX5_isWord 1 = .ok (.getfield 166, 3) := by decide +kernel
theorem dX5_isWord_4 : decode cX5_isWord 4 = .ok (.ifCond .ne 108, 3) := by decide +kernel
theorem dX5_isWord_7 : decode cX5_isWord 7 = .ok (.aload_n 0, 1) := by decide +kernel
theorem dX5_isWord_8 : decode cX5_isWord 8 = .ok (.getfield 151, 3) := by decide +kernel
theorem dX5_isWord_11 : decode cX5_isWord 11 = .ok (.iconst 1, 1) := by decide +kernel
theorem dX5_isWord_12 : decode cX5_isWord 12 = .ok (.if_icmp .ne 100, 3) := by decide +kernel
theorem dX5_isWord_15 : decode cX5_isWord 15 = .ok (.aload_n 0, 1) := by decide +kernel
theorem dX5_isWord_16 : decode cX5_isWord 16 = .ok (.getfield 142, 3) := by decide +kernel
theorem dX5_isWord_19 : decode cX5_isWord 19 = .ok (.aload_n 0, 1) := by decide +kernel
theorem dX5_isWord_20 : decode cX5_isWord 20 = .ok (.getfield 148, 3) := by decide +kernel
theorem dX5_isWord_23 : decode cX5_isWord 23 = .ok (.bipush 8, 2) := by decide +kernel
theorem dX5_isWord_25 : decode cX5_isWord 25 = .ok (.iadd, 1) := by decide +kernel
theorem dX5_isWord_26 : decode cX5_isWord 26 = .ok (.if_icmp .gt 86, 3) := by decide +kernel
theorem dX5_isWord_29 : decode cX5_isWord 29 = .ok (.aload_n 0, 1) := by decide +kernel
theorem dX5_isWord_30 : decode cX5_isWord 30 = .ok (.iconst 0, 1) := by decide +kernel
theorem dX5_isWord_31 : decode cX5_isWord 31 = .ok (.iload_n 1, 1) := by decide +kernel
theorem dX5_isWord_32 : decode cX5_isWord 32 = .ok (.invokevirtual 173, 3) := by decide +kernel
theorem dX5_isWord_35 : decode cX5_isWord 35 = .ok (.ifCond .eq 77, 3) := by decide +kernel
theorem dX5_isWord_38 : decode cX5_isWord 38 = .ok (.aload_n 0, 1) := by decide +kernel
theorem dX5_isWord_39 : decode cX5_isWord 39 = .ok (.iconst 1, 1) := by decide +kernel
theorem dX5_isWord_40 : decode cX5_isWord 40 = .ok (.iload_n 2, 1) := by decide +kernel
theorem dX5_isWord_41 : decode cX5_isWord 41 = .ok (.invokevirtual 173, 3) := by decide +kernel
theorem dX5_isWord_44 : decode cX5_isWord 44 = .ok (.ifCond .eq 68, 3) := by decide +kernel
theorem dX5_isWord_47 : decode cX5_isWord 47 = .ok (.aload_n 0, 1) := by decide +kernel
theorem dX5_isWord_48 : decode cX5_isWord 48 = .ok (.iconst 2, 1) := by decide +kernel
theorem dX5_isWord_49 : decode cX5_isWord 49 = .ok (.iload_n 3, 1) := by decide +kernel
theorem dX5_isWord_50 : decode cX5_isWord 50 = .ok (.invokevirtual 173, 3) := by decide +kernel
theorem dX5_isWord_53 : decode cX5_isWord 53 = .ok (.ifCond .eq 59, 3) := by decide +kernel
theorem dX5_isWord_56 : decode cX5_isWord 56 = .ok (.aload_n 0, 1) := by decide +kernel
theorem dX5_isWord_57 : decode cX5_isWord 57 = .ok (.iconst 3, 1) := by decide +kernel
theorem dX5_isWord_58 : decode cX5_isWord 58 = .ok (.iload 4, 2) := by decide +kernel
theorem dX5_isWord_60 : decode cX5_isWord 60 = .ok (.invokevirtual 173, 3) := by decide +kernel
theorem dX5_isWord_63 : decode cX5_isWord 63 = .ok (.ifCond .eq 49, 3) := by decide +kernel
theorem dX5_isWord_66 : decode cX5_isWord 66 = .ok (.aload_n 0, 1) := by decide +kernel
theorem dX5_isWord_67 : decode cX5_isWord 67 = .ok (.iconst 4, 1) := by decide +kernel
theorem dX5_isWord_68 : decode cX5_isWord 68 = .ok (.iload 5, 2) := by decide +kernel
theorem dX5_isWord_70 : decode cX5_isWord 70 = .ok (.invokevirtual 173, 3) := by decide +kernel
theorem dX5_isWord_73 : decode cX5_isWord 73 = .ok (.ifCond .eq 39, 3) := by decide +kernel
theorem dX5_isWord_76 : decode cX5_isWord 76 = .ok (.aload_n 0, 1) := by decide +kernel
theorem dX5_isWord_77 : decode cX5_isWord 77 = .ok (.iconst 5, 1) := by decide +kernel
theorem dX5_isWord_78 : decode cX5_isWord 78 = .ok (.iload 6, 2) := by decide +kernel
theorem dX5_isWord_80 : decode cX5_isWord 80 = .ok (.invokevirtual 173, 3) := by decide +kernel
theorem dX5_isWord_83 : decode cX5_isWord 83 = .ok (.ifCond .eq 29, 3) := by decide +kernel
theorem dX5_isWord_86 : decode cX5_isWord 86 = .ok (.aload_n 0, 1) := by decide +kernel
theorem dX5_isWord_87 : decode cX5_isWord 87 = .ok (.bipush 6, 2) := by decide +kernel
theorem dX5_isWord_89 : decode cX5_isWord 89 = .ok (.iload 7, 2) := by decide +kernel
theorem dX5_isWord_91 : decode cX5_isWord 91 = .ok (.invokevirtual 173, 3) := by decide +kernel
theorem dX5_isWord_94 : decode cX5_isWord 94 = .ok (.ifCond .eq 18, 3) := by decide +kernel
theorem dX5_isWord_97 : decode cX5_isWord 97 = .ok (.aload_n 0, 1) := by decide +kernel
theorem dX5_isWord_98 : decode cX5_isWord 98 = .ok (.bipush 7, 2) := by decide +kernel
theorem dX5_isWord_100 : decode cX5_isWord 100 = .ok (.iload 8, 2) := by decide +kernel
theorem dX5_isWord_102 : decode cX5_isWord 102 = .ok (.invokevirtual 173, 3) := by decide +kernel
theorem dX5_isWord_105 : decode cX5_isWord 105 = .ok (.ifCond .eq 7, 3) := by decide +kernel
theorem dX5_isWord_108 : decode cX5_isWord 108 = .ok (.iconst 1, 1) := by decide +kernel
theorem dX5_isWord_109 : decode cX5_isWord 109 = .ok (.goto 4, 3) := by decide +kernel
theorem dX5_isWord_112 : decode cX5_isWord 112 = .ok (.iconst 0, 1) := by decide +kernel
theorem dX5_isWord_113 : decode cX5_isWord 113 = .ok (.ireturn, 1) := by decide +kernel
theorem dX5_isSign_0 : decode cX5_isSign 0 = .ok (.aload_n 0, 1) := by decide +kernel
theorem dX5_isSign_1 : decode cX5_isSign 1 = .ok (.getfield 166, 3) := by decide +kernel
theorem dX5_isSign_4 : decode cX5_isSign 4 = .ok (.ifCond .ne 25, 3) := by decide +kernel
theorem dX5_isSign_7 : decode cX5_isSign 7 = .ok (.aload_n 0, 1) := by decide +kernel
theorem dX5_isSign_8 : decode cX5_isSign 8 = .ok (.getfield 151, 3) := by decide +kernel
theorem dX5_isSign_11 : decode cX5_isSign 11 = .ok (.iconst 3, 1) := by decide +kernel
theorem dX5_isSign_12 : decode cX5_isSign 12 = .ok (.if_icmp .ne 17, 3) := by decide +kernel
theorem dX5_isSign_15 : decode cX5_isSign 15 = .ok (.aload_n 0, 1) := by decide +kernel
theorem dX5_isSign_16 : decode cX5_isSign 16 = .ok (.getfield 162, 3) := by decide +kernel
theorem dX5_isSign_19 : decode cX5_isSign 19 = .ok (.iload_n 1, 1) := by decide +kernel
theorem dX5_isSign_20 : decode cX5_isSign 20 = .ok (.i2l, 1) := by decide +kernel
theorem dX5_isSign_21 : decode cX5_isSign 21 = .ok (.lcmp, 1) := by decide +kernel
theorem dX5_isSign_22 : decode cX5_isSign 22 = .ok (.ifCond .ne 7, 3) := by decide +kernel
theorem dX5_isSign_25 : decode cX5_isSign 25 = .ok (.iconst 1, 1) := by decide +kernel
theorem dX5_isSign_26 : decode cX5_isSign 26 = .ok (.goto 4, 3) := by decide +kernel
theorem dX5_isSign_29 : decode cX5_isSign 29 = .ok (.iconst 0, 1) := by decide +kernel
theorem dX5_isSign_30 : decode cX5_isSign 30 = .ok (.ireturn, 1) := by decide +kernel
theorem dX5_opens_0 : decode cX5_opens 0 = .ok (.aload_n 0, 1) := by decide +kernel
theorem dX5_opens_1 : decode cX5_opens 1 = .ok (.getfield 175, 3) := by decide +kernel
theorem dX5_opens_4 : decode cX5_opens 4 = .ok (.iconst 5, 1) := by decide +kernel
theorem dX5_opens_5 : decode cX5_opens 5 = .ok (.if_icmp .ne 9, 3) := by decide +kernel
theorem dX5_opens_8 : decode cX5_opens 8 = .ok (.aload_n 0, 1) := by decide +kernel
theorem dX5_opens_9 : decode cX5_opens 9 = .ok (.invokevirtual 178, 3) := by decide +kernel
theorem dX5_opens_12 : decode cX5_opens 12 = .ok (.iconst 0, 1) := by decide +kernel
theorem dX5_opens_13 : decode cX5_opens 13 = .ok (.ireturn, 1) := by decide +kernel
theorem dX5_opens_14 : decode cX5_opens 14 = .ok (.aload_n 0, 1) := by decide +kernel
theorem dX5_opens_15 : decode cX5_opens 15 = .ok (.dup, 1) := by decide +kernel
theorem dX5_opens_16 : decode cX5_opens 16 = .ok (.getfield 175, 3) := by decide +kernel
theorem dX5_opens_19 : decode cX5_opens 19 = .ok (.iconst 1, 1) := by decide +kernel
theorem dX5_opens_20 : decode cX5_opens 20 = .ok (.iadd, 1) := by decide +kernel
theorem dX5_opens_21 : decode cX5_opens 21 = .ok (.putfield 175, 3) := by decide +kernel
theorem dX5_opens_24 : decode cX5_opens 24 = .ok (.aload_n 0, 1) := by decide +kernel
theorem dX5_opens_25 : decode cX5_opens 25 = .ok (.invokevirtual 181, 3) := by decide +kernel
theorem dX5_opens_28 : decode cX5_opens 28 = .ok (.iconst 1, 1) := by decide +kernel
theorem dX5_opens_29 : decode cX5_opens 29 = .ok (.ireturn, 1) := by decide +kernel
theorem dX5_name_0 : decode cX5_name 0 = .ok (.aload_n 0, 1) := by decide +kernel
theorem dX5_name_1 : decode cX5_name 1 = .ok (.bipush 116, 2) := by decide +kernel
theorem dX5_name_3 : decode cX5_name 3 = .ok (.bipush 111, 2) := by decide +kernel
theorem dX5_name_5 : decode cX5_name 5 = .ok (.bipush 110, 2) := by decide +kernel
theorem dX5_name_7 : decode cX5_name 7 = .ok (.bipush 101, 2) := by decide +kernel
theorem dX5_name_9 : decode cX5_name 9 = .ok (.iconst 0, 1) := by decide +kernel
theorem dX5_name_10 : decode cX5_name 10 = .ok (.iconst 0, 1) := by decide +kernel
theorem dX5_name_11 : decode cX5_name 11 = .ok (.iconst 0, 1) := by decide +kernel
theorem dX5_name_12 : decode cX5_name 12 = .ok (.iconst 0, 1) := by decide +kernel
theorem dX5_name_13 : decode cX5_name 13 = .ok (.invokevirtual 184, 3) := by decide +kernel
theorem dX5_name_16 : decode cX5_name 16 = .ok (.ifCond .eq 8, 3) := by decide +kernel
theorem dX5_name_19 : decode cX5_name 19 = .ok (.aload_n 0, 1) := by decide +kernel
theorem dX5_name_20 : decode cX5_name 20 = .ok (.getfield 188, 3) := by decide +kernel
theorem dX5_name_23 : decode cX5_name 23 = .ok (.ireturn, 1) := by decide +kernel
theorem dX5_name_24 : decode cX5_name 24 = .ok (.aload_n 0, 1) := by decide +kernel
theorem dX5_name_25 : decode cX5_name 25 = .ok (.bipush 104, 2) := by decide +kernel
theorem dX5_name_27 : decode cX5_name 27 = .ok (.bipush 111, 2) := by decide +kernel
theorem dX5_name_29 : decode cX5_name 29 = .ok (.bipush 117, 2) := by decide +kernel
theorem dX5_name_31 : decode cX5_name 31 = .ok (.bipush 115, 2) := by decide +kernel
theorem dX5_name_33 : decode cX5_name 33 = .ok (.bipush 101, 2) := by decide +kernel
theorem dX5_name_35 : decode cX5_name 35 = .ok (.iconst 0, 1) := by decide +kernel
theorem dX5_name_36 : decode cX5_name 36 = .ok (.iconst 0, 1) := by decide +kernel
theorem dX5_name_37 : decode cX5_name 37 = .ok (.iconst 0, 1) := by decide +kernel
theorem dX5_name_38 : decode cX5_name 38 = .ok (.invokevirtual 184, 3) := by decide +kernel
theorem dX5_name_41 : decode cX5_name 41 = .ok (.ifCond .eq 8, 3) := by decide +kernel
theorem dX5_name_44 : decode cX5_name 44 = .ok (.aload_n 0, 1) := by decide +kernel
theorem dX5_name_45 : decode cX5_name 45 = .ok (.getfield 191, 3) := by decide +kernel
theorem dX5_name_48 : decode cX5_name 48 = .ok (.ireturn, 1) := by decide +kernel
theorem dX5_name_49 : decode cX5_name 49 = .ok (.aload_n 0, 1) := by decide +kernel
theorem dX5_name_50 : decode cX5_name 50 = .ok (.bipush 110, 2) := by decide +kernel
theorem dX5_name_52 : decode cX5_name 52 = .ok (.bipush 117, 2) := by decide +kernel
theorem dX5_name_54 : decode cX5_name 54 = .ok (.bipush 109, 2) := by decide +kernel
theorem dX5_name_56 : decode cX5_name 56 = .ok (.bipush 98, 2) := by decide +kernel
theorem dX5_name_58 : decode cX5_name 58 = .ok (.bipush 101, 2) := by decide +kernel
theorem dX5_name_60 : decode cX5_name 60 = .ok (.bipush 114, 2) := by decide +kernel
theorem dX5_name_62 : decode cX5_name 62 = .ok (.iconst 0, 1) := by decide +kernel
theorem dX5_name_63 : decode cX5_name 63 = .ok (.iconst 0, 1) := by decide +kernel
theorem dX5_name_64 : decode cX5_name 64 = .ok (.invokevirtual 184, 3) := by decide +kernel
theorem dX5_name_67 : decode cX5_name 67 = .ok (.ifCond .eq 8, 3) := by decide +kernel
theorem dX5_name_70 : decode cX5_name 70 = .ok (.aload_n 0, 1) := by decide +kernel
theorem dX5_name_71 : decode cX5_name 71 = .ok (.getfield 194, 3) := by decide +kernel
theorem dX5_name_74 : decode cX5_name 74 = .ok (.ireturn, 1) := by decide +kernel
theorem dX5_name_75 : decode cX5_name 75 = .ok (.aload_n 0, 1) := by decide +kernel
theorem dX5_name_76 : decode cX5_name 76 = .ok (.bipush 100, 2) := by decide +kernel
theorem dX5_name_78 : decode cX5_name 78 = .ok (.bipush 97, 2) := by decide +kernel
theorem dX5_name_80 : decode cX5_name 80 = .ok (.bipush 121, 2) := by decide +kernel
theorem dX5_name_82 : decode cX5_name 82 = .ok (.iconst 0, 1) := by decide +kernel
theorem dX5_name_83 : decode cX5_name 83 = .ok (.iconst 0, 1) := by decide +kernel
theorem dX5_name_84 : decode cX5_name 84 = .ok (.iconst 0, 1) := by decide +kernel
theorem dX5_name_85 : decode cX5_name 85 = .ok (.iconst 0, 1) := by decide +kernel
theorem dX5_name_86 : decode cX5_name 86 = .ok (.iconst 0, 1) := by decide +kernel
theorem dX5_name_87 : decode cX5_name 87 = .ok (.invokevirtual 184, 3) := by decide +kernel
theorem dX5_name_90 : decode cX5_name 90 = .ok (.ifCond .eq 8, 3) := by decide +kernel
theorem dX5_name_93 : decode cX5_name 93 = .ok (.aload_n 0, 1) := by decide +kernel
theorem dX5_name_94 : decode cX5_name 94 = .ok (.getfield 197, 3) := by decide +kernel
theorem dX5_name_97 : decode cX5_name 97 = .ok (.ireturn, 1) := by decide +kernel
theorem dX5_name_98 : decode cX5_name 98 = .ok (.aload_n 0, 1) := by decide +kernel
theorem dX5_name_99 : decode cX5_name 99 = .ok (.bipush 114, 2) := by decide +kernel
theorem dX5_name_101 : decode cX5_name 101 = .ok (.bipush 101, 2) := by decide +kernel
theorem dX5_name_103 : decode cX5_name 103 = .ok (.bipush 97, 2) := by decide +kernel
theorem dX5_name_105 : decode cX5_name 105 = .ok (.bipush 100, 2) := by decide +kernel
theorem dX5_name_107 : decode cX5_name 107 = .ok (.iconst 0, 1) := by decide +kernel
theorem dX5_name_108 : decode cX5_name 108 = .ok (.iconst 0, 1) := by decide +kernel
theorem dX5_name_109 : decode cX5_name 109 = .ok (.iconst 0, 1) := by decide +kernel
theorem dX5_name_110 : decode cX5_name 110 = .ok (.iconst 0, 1) := by decide +kernel
theorem dX5_name_111 : decode cX5_name 111 = .ok (.invokevirtual 184, 3) := by decide +kernel
theorem dX5_name_114 : decode cX5_name 114 = .ok (.ifCond .eq 8, 3) := by decide +kernel
theorem dX5_name_117 : decode cX5_name 117 = .ok (.aload_n 0, 1) := by decide +kernel
theorem dX5_name_118 : decode cX5_name 118 = .ok (.getfield 200, 3) := by decide +kernel
theorem dX5_name_121 : decode cX5_name 121 = .ok (.ireturn, 1) := by decide +kernel
theorem dX5_name_122 : decode cX5_name 122 = .ok (.aload_n 0, 1) := by decide +kernel
theorem dX5_name_123 : decode cX5_name 123 = .ok (.bipush 109, 2) := by decide +kernel
theorem dX5_name_125 : decode cX5_name 125 = .ok (.bipush 105, 2) := by decide +kernel
theorem dX5_name_127 : decode cX5_name 127 = .ok (.bipush 110, 2) := by decide +kernel
theorem dX5_name_129 : decode cX5_name 129 = .ok (.bipush 101, 2) := by decide +kernel
theorem dX5_name_131 : decode cX5_name 131 = .ok (.iconst 0, 1) := by decide +kernel
theorem dX5_name_132 : decode cX5_name 132 = .ok (.iconst 0, 1) := by decide +kernel
theorem dX5_name_133 : decode cX5_name 133 = .ok (.iconst 0, 1) := by decide +kernel
theorem dX5_name_134 : decode cX5_name 134 = .ok (.iconst 0, 1) := by decide +kernel
theorem dX5_name_135 : decode cX5_name 135 = .ok (.invokevirtual 184, 3) := by decide +kernel
theorem dX5_name_138 : decode cX5_name 138 = .ok (.ifCond .eq 8, 3) := by decide +kernel
theorem dX5_name_141 : decode cX5_name 141 = .ok (.aload_n 0, 1) := by decide +kernel
theorem dX5_name_142 : decode cX5_name 142 = .ok (.getfield 203, 3) := by decide +kernel
theorem dX5_name_145 : decode cX5_name 145 = .ok (.ireturn, 1) := by decide +kernel
theorem dX5_name_146 : decode cX5_name 146 = .ok (.aload_n 0, 1) := by decide +kernel
theorem dX5_name_147 : decode cX5_name 147 = .ok (.invokevirtual 178, 3) := by decide +kernel
theorem dX5_name_150 : decode cX5_name 150 = .ok (.iconst 0, 1) := by decide +kernel
theorem dX5_name_151 : decode cX5_name 151 = .ok (.ireturn, 1) := by decide +kernel
theorem dX5_atom_0 : decode cX5_atom 0 = .ok (.iconst 0, 1) := by decide +kernel
theorem dX5_atom_1 : decode cX5_atom 1 = .ok (.istore_n 1, 1) := by decide +kernel
theorem dX5_atom_2 : decode cX5_atom 2 = .ok (.aload_n 0, 1) := by decide +kernel
theorem dX5_atom_3 : decode cX5_atom 3 = .ok (.bipush 45, 2) := by decide +kernel
theorem dX5_atom_5 : decode cX5_atom 5 = .ok (.invokevirtual 206, 3) := by decide +kernel
theorem dX5_atom_8 : decode cX5_atom 8 = .ok (.ifCond .eq 29, 3) := by decide +kernel
theorem dX5_atom_11 : decode cX5_atom 11 = .ok (.aload_n 0, 1) := by decide +kernel
theorem dX5_atom_12 : decode cX5_atom 12 = .ok (.invokevirtual 209, 3) := by decide +kernel
theorem dX5_atom_15 : decode cX5_atom 15 = .ok (.ifCond .eq 146, 3) := by decide +kernel
theorem dX5_atom_18 : decode cX5_atom 18 = .ok (.aload_n 0, 1) := by decide +kernel
theorem dX5_atom_19 : decode cX5_atom 19 = .ok (.invokevirtual 213, 3) := by decide +kernel
theorem dX5_atom_22 : decode cX5_atom 22 = .ok (.ineg, 1) := by decide +kernel
theorem dX5_atom_23 : decode cX5_atom 23 = .ok (.istore_n 1, 1) := by decide +kernel
theorem dX5_atom_24 : decode cX5_atom 24 = .ok (.aload_n 0, 1) := by decide +kernel
theorem dX5_atom_25 : decode cX5_atom 25 = .ok (.dup, 1) := by decide +kernel
theorem dX5_atom_26 : decode cX5_atom 26 = .ok (.getfield 175, 3) := by decide +kernel
theorem dX5_atom_29 : decode cX5_atom 29 = .ok (.iconst 1, 1) := by decide +kernel
theorem dX5_atom_30 : decode cX5_atom 30 = .ok (.isub, 1) := by decide +kernel
theorem dX5_atom_31 : decode cX5_atom 31 = .ok (.putfield 175, 3) := by decide +kernel
theorem dX5_atom_34 : decode cX5_atom 34 = .ok (.goto 127, 3) := by decide +kernel
theorem dX5_atom_37 : decode cX5_atom 37 = .ok (.aload_n 0, 1) := by decide +kernel
theorem dX5_atom_38 : decode cX5_atom 38 = .ok (.bipush 40, 2) := by decide +kernel
theorem dX5_atom_40 : decode cX5_atom 40 = .ok (.invokevirtual 206, 3) := by decide +kernel
theorem dX5_atom_43 : decode cX5_atom 43 = .ok (.ifCond .eq 52, 3) := by decide +kernel
theorem dX5_atom_46 : decode cX5_atom 46 = .ok (.aload_n 0, 1) := by decide +kernel
theorem dX5_atom_47 : decode cX5_atom 47 = .ok (.invokevirtual 209, 3) := by decide +kernel
theorem dX5_atom_50 : decode cX5_atom 50 = .ok (.ifCond .eq 111, 3) := by decide +kernel
theorem dX5_atom_53 : decode cX5_atom 53 = .ok (.aload_n 0, 1) := by decide +kernel
theorem dX5_atom_54 : decode cX5_atom 54 = .ok (.invokevirtual 217, 3) := by decide +kernel
theorem dX5_atom_57 : decode cX5_atom 57 = .ok (.istore_n 1, 1) := by decide +kernel
theorem dX5_atom_58 : decode cX5_atom 58 = .ok (.aload_n 0, 1) := by decide +kernel
theorem dX5_atom_59 : decode cX5_atom 59 = .ok (.bipush 41, 2) := by decide +kernel
theorem dX5_atom_61 : decode cX5_atom 61 = .ok (.invokevirtual 206, 3) := by decide +kernel
theorem dX5_atom_64 : decode cX5_atom 64 = .ok (.ifCond .ne 7, 3) := by decide +kernel
theorem dX5_atom_67 : decode cX5_atom 67 = .ok (.aload_n 0, 1) := by decide +kernel
theorem dX5_atom_68 : decode cX5_atom 68 = .ok (.invokevirtual 178, 3) := by decide +kernel
theorem dX5_atom_71 : decode cX5_atom 71 = .ok (.aload_n 0, 1) := by decide +kernel
theorem dX5_atom_72 : decode cX5_atom 72 = .ok (.dup, 1) := by decide +kernel
theorem dX5_atom_73 : decode cX5_atom 73 = .ok (.getfield 175, 3) := by decide +kernel
theorem dX5_atom_76 : decode cX5_atom 76 = .ok (.iconst 1, 1) := by decide +kernel
theorem dX5_atom_77 : decode cX5_atom 77 = .ok (.isub, 1) := by decide +kernel
theorem dX5_atom_78 : decode cX5_atom 78 = .ok (.putfield 175, 3) := by decide +kernel
theorem dX5_atom_81 : decode cX5_atom 81 = .ok (.aload_n 0, 1) := by decide +kernel
theorem dX5_atom_82 : decode cX5_atom 82 = .ok (.getfield 166, 3) := by decide +kernel
theorem dX5_atom_85 : decode cX5_atom 85 = .ok (.ifCond .ne 76, 3) := by decide +kernel
theorem dX5_atom_88 : decode cX5_atom 88 = .ok (.aload_n 0, 1) := by decide +kernel
theorem dX5_atom_89 : decode cX5_atom 89 = .ok (.invokevirtual 181, 3) := by decide +kernel
theorem dX5_atom_92 : decode cX5_atom 92 = .ok (.goto 69, 3) := by decide +kernel
theorem dX5_atom_95 : decode cX5_atom 95 = .ok (.aload_n 0, 1) := by decide +kernel
theorem dX5_atom_96 : decode cX5_atom 96 = .ok (.getfield 166, 3) := by decide +kernel
theorem dX5_atom_99 : decode cX5_atom 99 = .ok (.ifCond .ne 24, 3) := by decide +kernel
theorem dX5_atom_102 : decode cX5_atom 102 = .ok (.aload_n 0, 1) := by decide +kernel
theorem dX5_atom_103 : decode cX5_atom 103 = .ok (.getfield 151, 3) := by decide +kernel
theorem dX5_atom_106 : decode cX5_atom 106 = .ok (.iconst 2, 1) := by decide +kernel
theorem dX5_atom_107 : decode cX5_atom 107 = .ok (.if_icmp .ne 16, 3) := by decide +kernel
theorem dX5_atom_110 : decode cX5_atom 110 = .ok (.aload_n 0, 1) := by decide +kernel
theorem dX5_atom_111 : decode cX5_atom 111 = .ok (.getfield 162, 3) := by decide +kernel
theorem dX5_atom_114 : decode cX5_atom 114 = .ok (.l2i, 1) := by decide +kernel
theorem dX5_atom_115 : decode cX5_atom 115 = .ok (.istore_n 1, 1) := by decide +kernel
theorem dX5_atom_116 : decode cX5_atom 116 = .ok (.aload_n 0, 1) := by decide +kernel
theorem dX5_atom_117 : decode cX5_atom 117 = .ok (.invokevirtual 181, 3) := by decide +kernel
theorem dX5_atom_120 : decode cX5_atom 120 = .ok (.goto 41, 3) := by decide +kernel
theorem dX5_atom_123 : decode cX5_atom 123 = .ok (.aload_n 0, 1) := by decide +kernel
theorem dX5_atom_124 : decode cX5_atom 124 = .ok (.getfield 166, 3) := by decide +kernel
theorem dX5_atom_127 : decode cX5_atom 127 = .ok (.ifCond .ne 30, 3) := by decide +kernel
theorem dX5_atom_130 : decode cX5_atom 130 = .ok (.aload_n 0, 1) := by decide +kernel
theorem dX5_atom_131 : decode cX5_atom 131 = .ok (.getfield 151, 3) := by decide +kernel
theorem dX5_atom_134 : decode cX5_atom 134 = .ok (.iconst 1, 1) := by decide +kernel
theorem dX5_atom_135 : decode cX5_atom 135 = .ok (.if_icmp .ne 22, 3) := by decide +kernel
theorem dX5_atom_138 : decode cX5_atom 138 = .ok (.aload_n 0, 1) := by decide +kernel
theorem dX5_atom_139 : decode cX5_atom 139 = .ok (.invokevirtual 220, 3) := by decide +kernel
theorem dX5_atom_142 : decode cX5_atom 142 = .ok (.istore_n 1, 1) := by decide +kernel
theorem dX5_atom_143 : decode cX5_atom 143 = .ok (.aload_n 0, 1) := by decide +kernel
theorem dX5_atom_144 : decode cX5_atom 144 = .ok (.getfield 166, 3) := by decide +kernel
theorem dX5_atom_147 : decode cX5_atom 147 = .ok (.ifCond .ne 14, 3) := by decide +kernel
theorem dX5_atom_150 : decode cX5_atom 150 = .ok (.aload_n 0, 1) := by decide +kernel
theorem dX5_atom_151 : decode cX5_atom 151 = .ok (.invokevirtual 181, 3) := by decide +kernel
theorem dX5_atom_154 : decode cX5_atom 154 = .ok (.goto 7, 3) := by decide +kernel
theorem dX5_atom_157 : decode cX5_atom 157 = .ok (.aload_n 0, 1) := by decide +kernel
theorem dX5_atom_158 : decode cX5_atom 158 = .ok (.invokevirtual 178, 3) := by decide +kernel
theorem dX5_atom_161 : decode cX5_atom 161 = .ok (.iload_n 1, 1) := by decide +kernel
theorem dX5_atom_162 : decode cX5_atom 162 = .ok (.ireturn, 1) := by decide +kernel
theorem dX5_term_0 : decode cX5_term 0 = .ok (.aload_n 0, 1) := by decide +kernel
theorem dX5_term_1 : decode cX5_term 1 = .ok (.invokevirtual 213, 3) := by decide +kernel
theorem dX5_term_4 : decode cX5_term 4 = .ok (.istore_n 1, 1) := by decide +kernel
theorem dX5_term_5 : decode cX5_term 5 = .ok (.aload_n 0, 1) := by decide +kernel
theorem dX5_term_6 : decode cX5_term 6 = .ok (.bipush 42, 2) := by decide +kernel
theorem dX5_term_8 : decode cX5_term 8 = .ok (.invokevirtual 206, 3) := by decide +kernel
theorem dX5_term_11 : decode cX5_term 11 = .ok (.ifCond .eq 17, 3) := by decide +kernel
theorem dX5_term_14 : decode cX5_term 14 = .ok (.aload_n 0, 1) := by decide +kernel
theorem dX5_term_15 : decode cX5_term 15 = .ok (.invokevirtual 181, 3) := by decide +kernel
theorem dX5_term_18 : decode cX5_term 18 = .ok (.iload_n 1, 1) := by decide +kernel
theorem dX5_term_19 : decode cX5_term 19 = .ok (.aload_n 0, 1) := by decide +kernel
theorem dX5_term_20 : decode cX5_term 20 = .ok (.invokevirtual 213, 3) := by decide +kernel
theorem dX5_term_23 : decode cX5_term 23 = .ok (.imul, 1) := by decide +kernel
theorem dX5_term_24 : decode cX5_term 24 = .ok (.istore_n 1, 1) := by decide +kernel
theorem dX5_term_25 : decode cX5_term 25 = .ok (.goto (-20), 3) := by decide +kernel
theorem dX5_term_28 : decode cX5_term 28 = .ok (.iload_n 1, 1) := by decide +kernel
theorem dX5_term_29 : decode cX5_term 29 = .ok (.ireturn, 1) := by decide +kernel
theorem dX5_added_0 : decode cX5_added 0 = .ok (.aload_n 0, 1) := by decide +kernel
theorem dX5_added_1 : decode cX5_added 1 = .ok (.invokevirtual 223, 3) := by decide +kernel
theorem dX5_added_4 : decode cX5_added 4 = .ok (.istore_n 1, 1) := by decide +kernel
theorem dX5_added_5 : decode cX5_added 5 = .ok (.aload_n 0, 1) := by decide +kernel
theorem dX5_added_6 : decode cX5_added 6 = .ok (.bipush 43, 2) := by decide +kernel
theorem dX5_added_8 : decode cX5_added 8 = .ok (.invokevirtual 206, 3) := by decide +kernel
theorem dX5_added_11 : decode cX5_added 11 = .ok (.ifCond .ne 12, 3) := by decide +kernel
theorem dX5_added_14 : decode cX5_added 14 = .ok (.aload_n 0, 1) := by decide +kernel
theorem dX5_added_15 : decode cX5_added 15 = .ok (.bipush 45, 2) := by decide +kernel
theorem dX5_added_17 : decode cX5_added 17 = .ok (.invokevirtual 206, 3) := by decide +kernel
theorem dX5_added_20 : decode cX5_added 20 = .ok (.ifCond .eq 46, 3) := by decide +kernel
theorem dX5_added_23 : decode cX5_added 23 = .ok (.aload_n 0, 1) := by decide +kernel
theorem dX5_added_24 : decode cX5_added 24 = .ok (.getfield 162, 3) := by decide +kernel
theorem dX5_added_27 : decode cX5_added 27 = .ok (.ldc2_w 226, 3) := by decide +kernel
theorem dX5_added_30 : decode cX5_added 30 = .ok (.lcmp, 1) := by decide +kernel
theorem dX5_added_31 : decode cX5_added 31 = .ok (.ifCond .ne 7, 3) := by decide +kernel
theorem dX5_added_34 : decode cX5_added 34 = .ok (.iconst 1, 1) := by decide +kernel
theorem dX5_added_35 : decode cX5_added 35 = .ok (.goto 4, 3) := by decide +kernel
theorem dX5_added_38 : decode cX5_added 38 = .ok (.iconst 0, 1) := by decide +kernel
theorem dX5_added_39 : decode cX5_added 39 = .ok (.istore_n 2, 1) := by decide +kernel
theorem dX5_added_40 : decode cX5_added 40 = .ok (.aload_n 0, 1) := by decide +kernel
theorem dX5_added_41 : decode cX5_added 41 = .ok (.invokevirtual 181, 3) := by decide +kernel
theorem dX5_added_44 : decode cX5_added 44 = .ok (.aload_n 0, 1) := by decide +kernel
theorem dX5_added_45 : decode cX5_added 45 = .ok (.invokevirtual 223, 3) := by decide +kernel
theorem dX5_added_48 : decode cX5_added 48 = .ok (.istore_n 3, 1) := by decide +kernel
theorem dX5_added_49 : decode cX5_added 49 = .ok (.iload_n 2, 1) := by decide +kernel
theorem dX5_added_50 : decode cX5_added 50 = .ok (.ifCond .eq 9, 3) := by decide +kernel
theorem dX5_added_53 : decode cX5_added 53 = .ok (.iload_n 1, 1) := by decide +kernel
theorem dX5_added_54 : decode cX5_added 54 = .ok (.iload_n 3, 1) := by decide +kernel
theorem dX5_added_55 : decode cX5_added 55 = .ok (.iadd, 1) := by decide +kernel
theorem dX5_added_56 : decode cX5_added 56 = .ok (.goto 6, 3) := by decide +kernel
theorem dX5_added_59 : decode cX5_added 59 = .ok (.iload_n 1, 1) := by decide +kernel
theorem dX5_added_60 : decode cX5_added 60 = .ok (.iload_n 3, 1) := by decide +kernel
theorem dX5_added_61 : decode cX5_added 61 = .ok (.isub, 1) := by decide +kernel
theorem dX5_added_62 : decode cX5_added 62 = .ok (.istore_n 1, 1) := by decide +kernel
theorem dX5_added_63 : decode cX5_added 63 = .ok (.goto (-58), 3) := by decide +kernel
theorem dX5_added_66 : decode cX5_added 66 = .ok (.iload_n 1, 1) := by decide +kernel
theorem dX5_added_67 : decode cX5_added 67 = .ok (.ireturn, 1) := by decide +kernel
theorem dX5_not_0 : decode cX5_not 0 = .ok (.aload_n 0, 1) := by decide +kernel
theorem dX5_not_1 : decode cX5_not 1 = .ok (.bipush 110, 2) := by decide +kernel
theorem dX5_not_3 : decode cX5_not 3 = .ok (.bipush 111, 2) := by decide +kernel
theorem dX5_not_5 : decode cX5_not 5 = .ok (.bipush 116, 2) := by decide +kernel
theorem dX5_not_7 : decode cX5_not 7 = .ok (.iconst 0, 1) := by decide +kernel
theorem dX5_not_8 : decode cX5_not 8 = .ok (.iconst 0, 1) := by decide +kernel
theorem dX5_not_9 : decode cX5_not 9 = .ok (.iconst 0, 1) := by decide +kernel
theorem dX5_not_10 : decode cX5_not 10 = .ok (.iconst 0, 1) := by decide +kernel
theorem dX5_not_11 : decode cX5_not 11 = .ok (.iconst 0, 1) := by decide +kernel
theorem dX5_not_12 : decode cX5_not 12 = .ok (.invokevirtual 184, 3) := by decide +kernel
theorem dX5_not_15 : decode cX5_not 15 = .ok (.ifCond .eq 37, 3) := by decide +kernel
theorem dX5_not_18 : decode cX5_not 18 = .ok (.aload_n 0, 1) := by decide +kernel
theorem dX5_not_19 : decode cX5_not 19 = .ok (.invokevirtual 209, 3) := by decide +kernel
theorem dX5_not_22 : decode cX5_not 22 = .ok (.ifCond .ne 5, 3) := by decide +kernel
theorem dX5_not_25 : decode cX5_not 25 = .ok (.iconst 0, 1) := by decide +kernel
theorem dX5_not_26 : decode cX5_not 26 = .ok (.ireturn, 1) := by decide +kernel
theorem dX5_not_27 : decode cX5_not 27 = .ok (.aload_n 0, 1) := by decide +kernel
theorem dX5_not_28 : decode cX5_not 28 = .ok (.invokevirtual 228, 3) := by decide +kernel
theorem dX5_not_31 : decode cX5_not 31 = .ok (.istore_n 1, 1) := by decide +kernel
theorem dX5_not_32 : decode cX5_not 32 = .ok (.aload_n 0, 1) := by decide +kernel
theorem dX5_not_33 : decode cX5_not 33 = .ok (.dup, 1) := by decide +kernel
theorem dX5_not_34 : decode cX5_not 34 = .ok (.getfield 175, 3) := by decide +kernel
theorem dX5_not_37 : decode cX5_not 37 = .ok (.iconst 1, 1) := by decide +kernel
theorem dX5_not_38 : decode cX5_not 38 = .ok (.isub, 1) := by decide +kernel
theorem dX5_not_39 : decode cX5_not 39 = .ok (.putfield 175, 3) := by decide +kernel
theorem dX5_not_42 : decode cX5_not 42 = .ok (.iload_n 1, 1) := by decide +kernel
theorem dX5_not_43 : decode cX5_not 43 = .ok (.ifCond .ne 7, 3) := by decide +kernel
theorem dX5_not_46 : decode cX5_not 46 = .ok (.iconst 1, 1) := by decide +kernel
theorem dX5_not_47 : decode cX5_not 47 = .ok (.goto 4, 3) := by decide +kernel
theorem dX5_not_50 : decode cX5_not 50 = .ok (.iconst 0, 1) := by decide +kernel
theorem dX5_not_51 : decode cX5_not 51 = .ok (.ireturn, 1) := by decide +kernel
theorem dX5_not_52 : decode cX5_not 52 = .ok (.aload_n 0, 1) := by decide +kernel
theorem dX5_not_53 : decode cX5_not 53 = .ok (.invokevirtual 231, 3) := by decide +kernel
theorem dX5_not_56 : decode cX5_not 56 = .ok (.istore_n 1, 1) := by decide +kernel
theorem dX5_not_57 : decode cX5_not 57 = .ok (.aload_n 0, 1) := by decide +kernel
theorem dX5_not_58 : decode cX5_not 58 = .ok (.bipush 60, 2) := by decide +kernel
theorem dX5_not_60 : decode cX5_not 60 = .ok (.invokevirtual 206, 3) := by decide +kernel
theorem dX5_not_63 : decode cX5_not 63 = .ok (.ifCond .ne 14, 3) := by decide +kernel
theorem dX5_not_66 : decode cX5_not 66 = .ok (.aload_n 0, 1) := by decide +kernel
theorem dX5_not_67 : decode cX5_not 67 = .ok (.bipush 61, 2) := by decide +kernel
theorem dX5_not_69 : decode cX5_not 69 = .ok (.invokevirtual 206, 3) := by decide +kernel
theorem dX5_not_72 : decode cX5_not 72 = .ok (.ifCond .ne 5, 3) := by decide +kernel
theorem dX5_not_75 : decode cX5_not 75 = .ok (.iload_n 1, 1) := by decide +kernel
theorem dX5_not_76 : decode cX5_not 76 = .ok (.ireturn, 1) := by decide +kernel
theorem dX5_not_77 : decode cX5_not 77 = .ok (.aload_n 0, 1) := by decide +kernel
theorem dX5_not_78 : decode cX5_not 78 = .ok (.getfield 162, 3) := by decide +kernel
theorem dX5_not_81 : decode cX5_not 81 = .ok (.ldc2_w 234, 3) := by decide +kernel
theorem dX5_not_84 : decode cX5_not 84 = .ok (.lcmp, 1) := by decide +kernel
theorem dX5_not_85 : decode cX5_not 85 = .ok (.ifCond .ne 7, 3) := by decide +kernel
theorem dX5_not_88 : decode cX5_not 88 = .ok (.iconst 1, 1) := by decide +kernel
theorem dX5_not_89 : decode cX5_not 89 = .ok (.goto 4, 3) := by decide +kernel
theorem dX5_not_92 : decode cX5_not 92 = .ok (.iconst 0, 1) := by decide +kernel
theorem dX5_not_93 : decode cX5_not 93 = .ok (.istore_n 2, 1) := by decide +kernel
theorem dX5_not_94 : decode cX5_not 94 = .ok (.aload_n 0, 1) := by decide +kernel
theorem dX5_not_95 : decode cX5_not 95 = .ok (.invokevirtual 181, 3) := by decide +kernel
theorem dX5_not_98 : decode cX5_not 98 = .ok (.aload_n 0, 1) := by decide +kernel
theorem dX5_not_99 : decode cX5_not 99 = .ok (.invokevirtual 231, 3) := by decide +kernel
theorem dX5_not_102 : decode cX5_not 102 = .ok (.istore_n 3, 1) := by decide +kernel
theorem dX5_not_103 : decode cX5_not 103 = .ok (.iload_n 2, 1) := by decide +kernel
theorem dX5_not_104 : decode cX5_not 104 = .ok (.ifCond .eq 11, 3) := by decide +kernel
theorem dX5_not_107 : decode cX5_not 107 = .ok (.iload_n 1, 1) := by decide +kernel
theorem dX5_not_108 : decode cX5_not 108 = .ok (.iload_n 3, 1) := by decide +kernel
theorem dX5_not_109 : decode cX5_not 109 = .ok (.if_icmp .ge 15, 3) := by decide +kernel
theorem dX5_not_112 : decode cX5_not 112 = .ok (.goto 8, 3) := by decide +kernel
theorem dX5_not_115 : decode cX5_not 115 = .ok (.iload_n 1, 1) := by decide +kernel
theorem dX5_not_116 : decode cX5_not 116 = .ok (.iload_n 3, 1) := by decide +kernel
theorem dX5_not_117 : decode cX5_not 117 = .ok (.if_icmp .ne 7, 3) := by decide +kernel
theorem dX5_not_120 : decode cX5_not 120 = .ok (.iconst 1, 1) := by decide +kernel
theorem dX5_not_121 : decode cX5_not 121 = .ok (.goto 4, 3) := by decide +kernel
theorem dX5_not_124 : decode cX5_not 124 = .ok (.iconst 0, 1) := by decide +kernel
theorem dX5_not_125 : decode cX5_not 125 = .ok (.ireturn, 1) := by decide +kernel
theorem dX5_both_0 : decode cX5_both 0 = .ok (.aload_n 0, 1) := by decide +kernel
theorem dX5_both_1 : decode cX5_both 1 = .ok (.invokevirtual 228, 3) := by decide +kernel
theorem dX5_both_4 : decode cX5_both 4 = .ok (.istore_n 1, 1) := by decide +kernel
theorem dX5_both_5 : decode cX5_both 5 = .ok (.aload_n 0, 1) := by decide +kernel
theorem dX5_both_6 : decode cX5_both 6 = .ok (.bipush 97, 2) := by decide +kernel
theorem dX5_both_8 : decode cX5_both 8 = .ok (.bipush 110, 2) := by decide +kernel
theorem dX5_both_10 : decode cX5_both 10 = .ok (.bipush 100, 2) := by decide +kernel
theorem dX5_both_12 : decode cX5_both 12 = .ok (.iconst 0, 1) := by decide +kernel
theorem dX5_both_13 : decode cX5_both 13 = .ok (.iconst 0, 1) := by decide +kernel
theorem dX5_both_14 : decode cX5_both 14 = .ok (.iconst 0, 1) := by decide +kernel
theorem dX5_both_15 : decode cX5_both 15 = .ok (.iconst 0, 1) := by decide +kernel
theorem dX5_both_16 : decode cX5_both 16 = .ok (.iconst 0, 1) := by decide +kernel
theorem dX5_both_17 : decode cX5_both 17 = .ok (.invokevirtual 184, 3) := by decide +kernel
theorem dX5_both_20 : decode cX5_both 20 = .ok (.ifCond .eq 29, 3) := by decide +kernel
theorem dX5_both_23 : decode cX5_both 23 = .ok (.aload_n 0, 1) := by decide +kernel
theorem dX5_both_24 : decode cX5_both 24 = .ok (.invokevirtual 181, 3) := by decide +kernel
theorem dX5_both_27 : decode cX5_both 27 = .ok (.aload_n 0, 1) := by decide +kernel
theorem dX5_both_28 : decode cX5_both 28 = .ok (.invokevirtual 228, 3) := by decide +kernel
theorem dX5_both_31 : decode cX5_both 31 = .ok (.istore_n 2, 1) := by decide +kernel
theorem dX5_both_32 : decode cX5_both 32 = .ok (.iload_n 1, 1) := by decide +kernel
theorem dX5_both_33 : decode cX5_both 33 = .ok (.ifCond .eq 11, 3) := by decide +kernel
theorem dX5_both_36 : decode cX5_both 36 = .ok (.iload_n 2, 1) := by decide +kernel
theorem dX5_both_37 : decode cX5_both 37 = .ok (.ifCond .eq 7, 3) := by decide +kernel
theorem dX5_both_40 : decode cX5_both 40 = .ok (.iconst 1, 1) := by decide +kernel
theorem dX5_both_41 : decode cX5_both 41 = .ok (.goto 4, 3) := by decide +kernel
theorem dX5_both_44 : decode cX5_both 44 = .ok (.iconst 0, 1) := by decide +kernel
theorem dX5_both_45 : decode cX5_both 45 = .ok (.istore_n 1, 1) := by decide +kernel
theorem dX5_both_46 : decode cX5_both 46 = .ok (.goto (-41), 3) := by decide +kernel
theorem dX5_both_49 : decode cX5_both 49 = .ok (.iload_n 1, 1) := by decide +kernel
theorem dX5_both_50 : decode cX5_both 50 = .ok (.ireturn, 1) := by decide +kernel
theorem dX5_either_0 : decode cX5_either 0 = .ok (.aload_n 0, 1) := by decide +kernel
theorem dX5_either_1 : decode cX5_either 1 = .ok (.invokevirtual 236, 3) := by decide +kernel
theorem dX5_either_4 : decode cX5_either 4 = .ok (.istore_n 1, 1) := by decide +kernel
theorem dX5_either_5 : decode cX5_either 5 = .ok (.aload_n 0, 1) := by decide +kernel
theorem dX5_either_6 : decode cX5_either 6 = .ok (.bipush 111, 2) := by decide +kernel
theorem dX5_either_8 : decode cX5_either 8 = .ok (.bipush 114, 2) := by decide +kernel
theorem dX5_either_10 : decode cX5_either 10 = .ok (.iconst 0, 1) := by decide +kernel
theorem dX5_either_11 : decode cX5_either 11 = .ok (.iconst 0, 1) := by decide +kernel
theorem dX5_either_12 : decode cX5_either 12 = .ok (.iconst 0, 1) := by decide +kernel
theorem dX5_either_13 : decode cX5_either 13 = .ok (.iconst 0, 1) := by decide +kernel
theorem dX5_either_14 : decode cX5_either 14 = .ok (.iconst 0, 1) := by decide +kernel
theorem dX5_either_15 : decode cX5_either 15 = .ok (.iconst 0, 1) := by decide +kernel
theorem dX5_either_16 : decode cX5_either 16 = .ok (.invokevirtual 184, 3) := by decide +kernel
theorem dX5_either_19 : decode cX5_either 19 = .ok (.ifCond .eq 29, 3) := by decide +kernel
theorem dX5_either_22 : decode cX5_either 22 = .ok (.aload_n 0, 1) := by decide +kernel
theorem dX5_either_23 : decode cX5_either 23 = .ok (.invokevirtual 181, 3) := by decide +kernel
theorem dX5_either_26 : decode cX5_either 26 = .ok (.aload_n 0, 1) := by decide +kernel
theorem dX5_either_27 : decode cX5_either 27 = .ok (.invokevirtual 236, 3) := by decide +kernel
theorem dX5_either_30 : decode cX5_either 30 = .ok (.istore_n 2, 1) := by decide +kernel
theorem dX5_either_31 : decode cX5_either 31 = .ok (.iload_n 1, 1) := by decide +kernel
theorem dX5_either_32 : decode cX5_either 32 = .ok (.ifCond .ne 7, 3) := by decide +kernel
theorem dX5_either_35 : decode cX5_either 35 = .ok (.iload_n 2, 1) := by decide +kernel
theorem dX5_either_36 : decode cX5_either 36 = .ok (.ifCond .eq 7, 3) := by decide +kernel
theorem dX5_either_39 : decode cX5_either 39 = .ok (.iconst 1, 1) := by decide +kernel
theorem dX5_either_40 : decode cX5_either 40 = .ok (.goto 4, 3) := by decide +kernel
theorem dX5_either_43 : decode cX5_either 43 = .ok (.iconst 0, 1) := by decide +kernel
theorem dX5_either_44 : decode cX5_either 44 = .ok (.istore_n 1, 1) := by decide +kernel
theorem dX5_either_45 : decode cX5_either 45 = .ok (.goto (-40), 3) := by decide +kernel
theorem dX5_either_48 : decode cX5_either 48 = .ok (.iload_n 1, 1) := by decide +kernel
theorem dX5_either_49 : decode cX5_either 49 = .ok (.ireturn, 1) := by decide +kernel
theorem dX5_part_0 : decode cX5_part 0 = .ok (.iload_n 1, 1) := by decide +kernel
theorem dX5_part_1 : decode cX5_part 1 = .ok (.ifCond .ne 7, 3) := by decide +kernel
theorem dX5_part_4 : decode cX5_part 4 = .ok (.aload_n 0, 1) := by decide +kernel
theorem dX5_part_5 : decode cX5_part 5 = .ok (.invokevirtual 178, 3) := by decide +kernel
theorem dX5_part_8 : decode cX5_part 8 = .ok (.aload_n 0, 1) := by decide +kernel
theorem dX5_part_9 : decode cX5_part 9 = .ok (.getfield 166, 3) := by decide +kernel
theorem dX5_part_12 : decode cX5_part 12 = .ok (.ifCond .ne 7, 3) := by decide +kernel
theorem dX5_part_15 : decode cX5_part 15 = .ok (.aload_n 0, 1) := by decide +kernel
theorem dX5_part_16 : decode cX5_part 16 = .ok (.invokevirtual 181, 3) := by decide +kernel
theorem dX5_part_19 : decode cX5_part 19 = .ok (.aload_n 0, 1) := by decide +kernel
theorem dX5_part_20 : decode cX5_part 20 = .ok (.getfield 166, 3) := by decide +kernel
theorem dX5_part_23 : decode cX5_part 23 = .ok (.ifCond .eq 7, 3) := by decide +kernel
theorem dX5_part_26 : decode cX5_part 26 = .ok (.iconst 0, 1) := by decide +kernel
theorem dX5_part_27 : decode cX5_part 27 = .ok (.goto 7, 3) := by decide +kernel
theorem dX5_part_30 : decode cX5_part 30 = .ok (.aload_n 0, 1) := by decide +kernel
theorem dX5_part_31 : decode cX5_part 31 = .ok (.invokevirtual 217, 3) := by decide +kernel
theorem dX5_part_34 : decode cX5_part 34 = .ok (.istore_n 2, 1) := by decide +kernel
theorem dX5_part_35 : decode cX5_part 35 = .ok (.aload_n 0, 1) := by decide +kernel
theorem dX5_part_36 : decode cX5_part 36 = .ok (.bipush 59, 2) := by decide +kernel
theorem dX5_part_38 : decode cX5_part 38 = .ok (.invokevirtual 206, 3) := by decide +kernel
theorem dX5_part_41 : decode cX5_part 41 = .ok (.ifCond .ne 7, 3) := by decide +kernel
theorem dX5_part_44 : decode cX5_part 44 = .ok (.aload_n 0, 1) := by decide +kernel
theorem dX5_part_45 : decode cX5_part 45 = .ok (.invokevirtual 178, 3) := by decide +kernel
theorem dX5_part_48 : decode cX5_part 48 = .ok (.aload_n 0, 1) := by decide +kernel
theorem dX5_part_49 : decode cX5_part 49 = .ok (.getfield 166, 3) := by decide +kernel
theorem dX5_part_52 : decode cX5_part 52 = .ok (.ifCond .ne 7, 3) := by decide +kernel
theorem dX5_part_55 : decode cX5_part 55 = .ok (.aload_n 0, 1) := by decide +kernel
theorem dX5_part_56 : decode cX5_part 56 = .ok (.invokevirtual 181, 3) := by decide +kernel
theorem dX5_part_59 : decode cX5_part 59 = .ok (.iload_n 2, 1) := by decide +kernel
theorem dX5_part_60 : decode cX5_part 60 = .ok (.ireturn, 1) := by decide +kernel
theorem dX5_read_0 : decode cX5_read 0 = .ok (.aload_n 0, 1) := by decide +kernel
theorem dX5_read_1 : decode cX5_read 1 = .ok (.sipush 160, 3) := by decide +kernel
theorem dX5_read_4 : decode cX5_read 4 = .ok (.iload_n 1, 1) := by decide +kernel
theorem dX5_read_5 : decode cX5_read 5 = .ok (.imul, 1) := by decide +kernel
theorem dX5_read_6 : decode cX5_read 6 = .ok (.putfield 139, 3) := by decide +kernel
theorem dX5_read_9 : decode cX5_read 9 = .ok (.aload_n 0, 1) := by decide +kernel
theorem dX5_read_10 : decode cX5_read 10 = .ok (.aload_n 0, 1) := by decide +kernel
theorem dX5_read_11 : decode cX5_read 11 = .ok (.getfield 17, 3) := by decide +kernel
theorem dX5_read_14 : decode cX5_read 14 = .ok (.iload_n 1, 1) := by decide +kernel
theorem dX5_read_15 : decode cX5_read 15 = .ok (.iaload, 1) := by decide +kernel
theorem dX5_read_16 : decode cX5_read 16 = .ok (.putfield 136, 3) := by decide +kernel
theorem dX5_read_19 : decode cX5_read 19 = .ok (.aload_n 0, 1) := by decide +kernel
theorem dX5_read_20 : decode cX5_read 20 = .ok (.iconst 0, 1) := by decide +kernel
theorem dX5_read_21 : decode cX5_read 21 = .ok (.putfield 142, 3) := by decide +kernel
theorem dX5_read_24 : decode cX5_read 24 = .ok (.aload_n 0, 1) := by decide +kernel
theorem dX5_read_25 : decode cX5_read 25 = .ok (.iconst 0, 1) := by decide +kernel
theorem dX5_read_26 : decode cX5_read 26 = .ok (.putfield 175, 3) := by decide +kernel
theorem dX5_read_29 : decode cX5_read 29 = .ok (.aload_n 0, 1) := by decide +kernel
theorem dX5_read_30 : decode cX5_read 30 = .ok (.iconst 0, 1) := by decide +kernel
theorem dX5_read_31 : decode cX5_read 31 = .ok (.putfield 166, 3) := by decide +kernel
theorem dX5_read_34 : decode cX5_read 34 = .ok (.aload_n 0, 1) := by decide +kernel
theorem dX5_read_35 : decode cX5_read 35 = .ok (.invokevirtual 181, 3) := by decide +kernel
theorem dX5_read_38 : decode cX5_read 38 = .ok (.aload_n 0, 1) := by decide +kernel
theorem dX5_read_39 : decode cX5_read 39 = .ok (.aload_n 0, 1) := by decide +kernel
theorem dX5_read_40 : decode cX5_read 40 = .ok (.bipush 99, 2) := by decide +kernel
theorem dX5_read_42 : decode cX5_read 42 = .ok (.bipush 97, 2) := by decide +kernel
theorem dX5_read_44 : decode cX5_read 44 = .ok (.bipush 114, 2) := by decide +kernel
theorem dX5_read_46 : decode cX5_read 46 = .ok (.bipush 114, 2) := by decide +kernel
theorem dX5_read_48 : decode cX5_read 48 = .ok (.bipush 105, 2) := by decide +kernel
theorem dX5_read_50 : decode cX5_read 50 = .ok (.bipush 101, 2) := by decide +kernel
theorem dX5_read_52 : decode cX5_read 52 = .ok (.bipush 115, 2) := by decide +kernel
theorem dX5_read_54 : decode cX5_read 54 = .ok (.iconst 0, 1) := by decide +kernel
theorem dX5_read_55 : decode cX5_read 55 = .ok (.invokevirtual 184, 3) := by decide +kernel
theorem dX5_read_58 : decode cX5_read 58 = .ok (.invokevirtual 239, 3) := by decide +kernel
theorem dX5_read_61 : decode cX5_read 61 = .ok (.istore_n 3, 1) := by decide +kernel
theorem dX5_read_62 : decode cX5_read 62 = .ok (.aload_n 0, 1) := by decide +kernel
theorem dX5_read_63 : decode cX5_read 63 = .ok (.getfield 166, 3) := by decide +kernel
theorem dX5_read_66 : decode cX5_read 66 = .ok (.ifCond .eq 7, 3) := by decide +kernel
theorem dX5_read_69 : decode cX5_read 69 = .ok (.iconst 0, 1) := by decide +kernel
theorem dX5_read_70 : decode cX5_read 70 = .ok (.goto 26, 3) := by decide +kernel
theorem dX5_read_73 : decode cX5_read 73 = .ok (.aload_n 0, 1) := by decide +kernel
theorem dX5_read_74 : decode cX5_read 74 = .ok (.aload_n 0, 1) := by decide +kernel
theorem dX5_read_75 : decode cX5_read 75 = .ok (.bipush 115, 2) := by decide +kernel
theorem dX5_read_77 : decode cX5_read 77 = .ok (.bipush 111, 2) := by decide +kernel
theorem dX5_read_79 : decode cX5_read 79 = .ok (.bipush 102, 2) := by decide +kernel
theorem dX5_read_81 : decode cX5_read 81 = .ok (.bipush 116, 2) := by decide +kernel
theorem dX5_read_83 : decode cX5_read 83 = .ok (.bipush 101, 2) := by decide +kernel
theorem dX5_read_85 : decode cX5_read 85 = .ok (.bipush 110, 2) := by decide +kernel
theorem dX5_read_87 : decode cX5_read 87 = .ok (.bipush 115, 2) := by decide +kernel
theorem dX5_read_89 : decode cX5_read 89 = .ok (.iconst 0, 1) := by decide +kernel
theorem dX5_read_90 : decode cX5_read 90 = .ok (.invokevirtual 184, 3) := by decide +kernel
theorem dX5_read_93 : decode cX5_read 93 = .ok (.invokevirtual 239, 3) := by decide +kernel
theorem dX5_read_96 : decode cX5_read 96 = .ok (.istore 4, 2) := by decide +kernel
theorem dX5_read_98 : decode cX5_read 98 = .ok (.aload_n 0, 1) := by decide +kernel
theorem dX5_read_99 : decode cX5_read 99 = .ok (.getfield 166, 3) := by decide +kernel
theorem dX5_read_102 : decode cX5_read 102 = .ok (.ifCond .eq 7, 3) := by decide +kernel
theorem dX5_read_105 : decode cX5_read 105 = .ok (.iconst 0, 1) := by decide +kernel
theorem dX5_read_106 : decode cX5_read 106 = .ok (.goto 25, 3) := by decide +kernel
theorem dX5_read_109 : decode cX5_read 109 = .ok (.aload_n 0, 1) := by decide +kernel
theorem dX5_read_110 : decode cX5_read 110 = .ok (.aload_n 0, 1) := by decide +kernel
theorem dX5_read_111 : decode cX5_read 111 = .ok (.bipush 119, 2) := by decide +kernel
theorem dX5_read_113 : decode cX5_read 113 = .ok (.bipush 114, 2) := by decide +kernel
theorem dX5_read_115 : decode cX5_read 115 = .ok (.bipush 105, 2) := by decide +kernel
theorem dX5_read_117 : decode cX5_read 117 = .ok (.bipush 116, 2) := by decide +kernel
theorem dX5_read_119 : decode cX5_read 119 = .ok (.bipush 101, 2) := by decide +kernel
theorem dX5_read_121 : decode cX5_read 121 = .ok (.bipush 115, 2) := by decide +kernel
theorem dX5_read_123 : decode cX5_read 123 = .ok (.iconst 0, 1) := by decide +kernel
theorem dX5_read_124 : decode cX5_read 124 = .ok (.iconst 0, 1) := by decide +kernel
theorem dX5_read_125 : decode cX5_read 125 = .ok (.invokevirtual 184, 3) := by decide +kernel
theorem dX5_read_128 : decode cX5_read 128 = .ok (.invokevirtual 239, 3) := by decide +kernel
theorem dX5_read_131 : decode cX5_read 131 = .ok (.istore 5, 2) := by decide +kernel
theorem dX5_read_133 : decode cX5_read 133 = .ok (.aload_n 0, 1) := by decide +kernel
theorem dX5_read_134 : decode cX5_read 134 = .ok (.getfield 166, 3) := by decide +kernel
theorem dX5_read_137 : decode cX5_read 137 = .ok (.ifCond .ne 14, 3) := by decide +kernel
theorem dX5_read_140 : decode cX5_read 140 = .ok (.aload_n 0, 1) := by decide +kernel
theorem dX5_read_141 : decode cX5_read 141 = .ok (.getfield 151, 3) := by decide +kernel
theorem dX5_read_144 : decode cX5_read 144 = .ok (.ifCond .eq 7, 3) := by decide +kernel
theorem dX5_read_147 : decode cX5_read 147 = .ok (.aload_n 0, 1) := by decide +kernel
theorem dX5_read_148 : decode cX5_read 148 = .ok (.invokevirtual 178, 3) := by decide +kernel
theorem dX5_read_151 : decode cX5_read 151 = .ok (.iload_n 2, 1) := by decide +kernel
theorem dX5_read_152 : decode cX5_read 152 = .ok (.ifCond .ne 7, 3) := by decide +kernel
theorem dX5_read_155 : decode cX5_read 155 = .ok (.iload_n 3, 1) := by decide +kernel
theorem dX5_read_156 : decode cX5_read 156 = .ok (.goto 15, 3) := by decide +kernel
theorem dX5_read_159 : decode cX5_read 159 = .ok (.iload_n 2, 1) := by decide +kernel
theorem dX5_read_160 : decode cX5_read 160 = .ok (.iconst 1, 1) := by decide +kernel
theorem dX5_read_161 : decode cX5_read 161 = .ok (.if_icmp .ne 8, 3) := by decide +kernel
theorem dX5_read_164 : decode cX5_read 164 = .ok (.iload 4, 2) := by decide +kernel
theorem dX5_read_166 : decode cX5_read 166 = .ok (.goto 5, 3) := by decide +kernel
theorem dX5_read_169 : decode cX5_read 169 = .ok (.iload 5, 2) := by decide +kernel
theorem dX5_read_171 : decode cX5_read 171 = .ok (.ireturn, 1) := by decide +kernel
theorem dX5_text_0 : decode cX5_text 0 = .ok (.aload_n 0, 1) := by decide +kernel
theorem dX5_text_1 : decode cX5_text 1 = .ok (.getfield 70, 3) := by decide +kernel
theorem dX5_text_4 : decode cX5_text 4 = .ok (.bipush 6, 2) := by decide +kernel
theorem dX5_text_6 : decode cX5_text 6 = .ok (.if_icmp .ne 6, 3) := by decide +kernel
theorem dX5_text_9 : decode cX5_text 9 = .ok (.bipush (-4), 2) := by decide +kernel
theorem dX5_text_11 : decode cX5_text 11 = .ok (.ireturn, 1) := by decide +kernel
theorem dX5_text_12 : decode cX5_text 12 = .ok (.iconst 0, 1) := by decide +kernel
theorem dX5_text_13 : decode cX5_text 13 = .ok (.istore_n 1, 1) := by decide +kernel
theorem dX5_text_14 : decode cX5_text 14 = .ok (.iload_n 1, 1) := by decide +kernel
theorem dX5_text_15 : decode cX5_text 15 = .ok (.aload_n 0, 1) := by decide +kernel
theorem dX5_text_16 : decode cX5_text 16 = .ok (.getfield 133, 3) := by decide +kernel
theorem dX5_text_19 : decode cX5_text 19 = .ok (.if_icmp .ge 30, 3) := by decide +kernel
theorem dX5_text_22 : decode cX5_text 22 = .ok (.aload_n 0, 1) := by decide +kernel
theorem dX5_text_23 : decode cX5_text 23 = .ok (.getfield 13, 3) := by decide +kernel
theorem dX5_text_26 : decode cX5_text 26 = .ok (.sipush 160, 3) := by decide +kernel
theorem dX5_text_29 : decode cX5_text 29 = .ok (.aload_n 0, 1) := by decide +kernel
theorem dX5_text_30 : decode cX5_text 30 = .ok (.getfield 70, 3) := by decide +kernel
theorem dX5_text_33 : decode cX5_text 33 = .ok (.imul, 1) := by decide +kernel
theorem dX5_text_34 : decode cX5_text 34 = .ok (.iload_n 1, 1) := by decide +kernel
theorem dX5_text_35 : decode cX5_text 35 = .ok (.iadd, 1) := by decide +kernel
theorem dX5_text_36 : decode cX5_text 36 = .ok (.aload_n 0, 1) := by decide +kernel
theorem dX5_text_37 : decode cX5_text 37 = .ok (.getfield 20, 3) := by decide +kernel
theorem dX5_text_40 : decode cX5_text 40 = .ok (.iload_n 1, 1) := by decide +kernel
theorem dX5_text_41 : decode cX5_text 41 = .ok (.iaload, 1) := by decide +kernel
theorem dX5_text_42 : decode cX5_text 42 = .ok (.iastore, 1) := by decide +kernel
theorem dX5_text_43 : decode cX5_text 43 = .ok (.iinc 1 1, 3) := by decide +kernel
theorem dX5_text_46 : decode cX5_text 46 = .ok (.goto (-32), 3) := by decide +kernel
theorem dX5_text_49 : decode cX5_text 49 = .ok (.aload_n 0, 1) := by decide +kernel
theorem dX5_text_50 : decode cX5_text 50 = .ok (.getfield 17, 3) := by decide +kernel
theorem dX5_text_53 : decode cX5_text 53 = .ok (.aload_n 0, 1) := by decide +kernel
theorem dX5_text_54 : decode cX5_text 54 = .ok (.getfield 70, 3) := by decide +kernel
theorem dX5_text_57 : decode cX5_text 57 = .ok (.aload_n 0, 1) := by decide +kernel
theorem dX5_text_58 : decode cX5_text 58 = .ok (.getfield 133, 3) := by decide +kernel
theorem dX5_text_61 : decode cX5_text 61 = .ok (.iastore, 1) := by decide +kernel
theorem dX5_text_62 : decode cX5_text 62 = .ok (.aload_n 0, 1) := by decide +kernel
theorem dX5_text_63 : decode cX5_text 63 = .ok (.iconst 0, 1) := by decide +kernel
theorem dX5_text_64 : decode cX5_text 64 = .ok (.putfield 133, 3) := by decide +kernel
theorem dX5_text_67 : decode cX5_text 67 = .ok (.aload_n 0, 1) := by decide +kernel
theorem dX5_text_68 : decode cX5_text 68 = .ok (.aload_n 0, 1) := by decide +kernel
theorem dX5_text_69 : decode cX5_text 69 = .ok (.getfield 70, 3) := by decide +kernel
theorem dX5_text_72 : decode cX5_text 72 = .ok (.iconst 0, 1) := by decide +kernel
theorem dX5_text_73 : decode cX5_text 73 = .ok (.invokevirtual 243, 3) := by decide +kernel
theorem dX5_text_76 : decode cX5_text 76 = .ok (.istore_n 1, 1) := by decide +kernel
theorem dX5_text_77 : decode cX5_text 77 = .ok (.aload_n 0, 1) := by decide +kernel
theorem dX5_text_78 : decode cX5_text 78 = .ok (.getfield 166, 3) := by decide +kernel
theorem dX5_text_81 : decode cX5_text 81 = .ok (.ifCond .eq 11, 3) := by decide +kernel
theorem dX5_text_84 : decode cX5_text 84 = .ok (.bipush (-100), 2) := by decide +kernel
theorem dX5_text_86 : decode cX5_text 86 = .ok (.aload_n 0, 1) := by decide +kernel
theorem dX5_text_87 : decode cX5_text 87 = .ok (.getfield 170, 3) := by decide +kernel
theorem dX5_text_90 : decode cX5_text 90 = .ok (.isub, 1) := by decide +kernel
theorem dX5_text_91 : decode cX5_text 91 = .ok (.ireturn, 1) := by decide +kernel
theorem dX5_text_92 : decode cX5_text 92 = .ok (.aload_n 0, 1) := by decide +kernel
theorem dX5_text_93 : decode cX5_text 93 = .ok (.dup, 1) := by decide +kernel
theorem dX5_text_94 : decode cX5_text 94 = .ok (.getfield 70, 3) := by decide +kernel
theorem dX5_text_97 : decode cX5_text 97 = .ok (.iconst 1, 1) := by decide +kernel
theorem dX5_text_98 : decode cX5_text 98 = .ok (.iadd, 1) := by decide +kernel
theorem dX5_text_99 : decode cX5_text 99 = .ok (.putfield 70, 3) := by decide +kernel
theorem dX5_text_102 : decode cX5_text 102 = .ok (.aload_n 0, 1) := by decide +kernel
theorem dX5_text_103 : decode cX5_text 103 = .ok (.getfield 70, 3) := by decide +kernel
theorem dX5_text_106 : decode cX5_text 106 = .ok (.iconst 1, 1) := by decide +kernel
theorem dX5_text_107 : decode cX5_text 107 = .ok (.isub, 1) := by decide +kernel
theorem dX5_text_108 : decode cX5_text 108 = .ok (.ireturn, 1) := by decide +kernel
theorem dX5_force_0 : decode cX5_force 0 = .ok (.iload_n 1, 1) := by decide +kernel
theorem dX5_force_1 : decode cX5_force 1 = .ok (.i2l, 1) := by decide +kernel
theorem dX5_force_2 : decode cX5_force 2 = .ok (.lconst 0, 1) := by decide +kernel
theorem dX5_force_3 : decode cX5_force 3 = .ok (.aload_n 0, 1) := by decide +kernel
theorem dX5_force_4 : decode cX5_force 4 = .ok (.getfield 70, 3) := by decide +kernel
theorem dX5_force_7 : decode cX5_force 7 = .ok (.iconst 1, 1) := by decide +kernel
theorem dX5_force_8 : decode cX5_force 8 = .ok (.isub, 1) := by decide +kernel
theorem dX5_force_9 : decode cX5_force 9 = .ok (.i2l, 1) := by decide +kernel
theorem dX5_force_10 : decode cX5_force 10 = .ok (.invokestatic 76, 3) := by decide +kernel
theorem dX5_force_13 : decode cX5_force 13 = .ok (.ifCond .ne 6, 3) := by decide +kernel
theorem dX5_force_16 : decode cX5_force 16 = .ok (.bipush (-2), 2) := by decide +kernel
theorem dX5_force_18 : decode cX5_force 18 = .ok (.ireturn, 1) := by decide +kernel
theorem dX5_force_19 : decode cX5_force 19 = .ok (.aload_n 0, 1) := by decide +kernel
theorem dX5_force_20 : decode cX5_force 20 = .ok (.getfield 111, 3) := by decide +kernel
theorem dX5_force_23 : decode cX5_force 23 = .ok (.istore_n 2, 1) := by decide +kernel
theorem dX5_force_24 : decode cX5_force 24 = .ok (.aload_n 0, 1) := by decide +kernel
theorem dX5_force_25 : decode cX5_force 25 = .ok (.iload_n 1, 1) := by decide +kernel
theorem dX5_force_26 : decode cX5_force 26 = .ok (.putfield 111, 3) := by decide +kernel
theorem dX5_force_29 : decode cX5_force 29 = .ok (.iload_n 2, 1) := by decide +kernel
theorem dX5_force_30 : decode cX5_force 30 = .ok (.ireturn, 1) := by decide +kernel
theorem dX5_says_0 : decode cX5_says 0 = .ok (.aload_n 0, 1) := by decide +kernel
theorem dX5_says_1 : decode cX5_says 1 = .ok (.iload_n 3, 1) := by decide +kernel
theorem dX5_says_2 : decode cX5_says 2 = .ok (.iconst (-1), 1) := by decide +kernel
theorem dX5_says_3 : decode cX5_says 3 = .ok (.if_icmp .ne 7, 3) := by decide +kernel
theorem dX5_says_6 : decode cX5_says 6 = .ok (.iconst 0, 1) := by decide +kernel
theorem dX5_says_7 : decode cX5_says 7 = .ok (.goto 11, 3) := by decide +kernel
theorem dX5_says_10 : decode cX5_says 10 = .ok (.aload_n 0, 1) := by decide +kernel
theorem dX5_says_11 : decode cX5_says 11 = .ok (.getfield 29, 3) := by decide +kernel
theorem dX5_says_14 : decode cX5_says 14 = .ok (.iconst 5, 1) := by decide +kernel
theorem dX5_says_15 : decode cX5_says 15 = .ok (.iload_n 3, 1) := by decide +kernel
theorem dX5_says_16 : decode cX5_says 16 = .ok (.imul, 1) := by decide +kernel
theorem dX5_says_17 : decode cX5_says 17 = .ok (.iaload, 1) := by decide +kernel
theorem dX5_says_18 : decode cX5_says 18 = .ok (.putfield 188, 3) := by decide +kernel
theorem dX5_says_21 : decode cX5_says 21 = .ok (.aload_n 0, 1) := by decide +kernel
theorem dX5_says_22 : decode cX5_says 22 = .ok (.aload_n 0, 1) := by decide +kernel
theorem dX5_says_23 : decode cX5_says 23 = .ok (.getfield 26, 3) := by decide +kernel
theorem dX5_says_26 : decode cX5_says 26 = .ok (.iconst 3, 1) := by decide +kernel
theorem dX5_says_27 : decode cX5_says 27 = .ok (.iload_n 2, 1) := by decide +kernel
theorem dX5_says_28 : decode cX5_says 28 = .ok (.imul, 1) := by decide +kernel
theorem dX5_says_29 : decode cX5_says 29 = .ok (.iconst 2, 1) := by decide +kernel
theorem dX5_says_30 : decode cX5_says 30 = .ok (.iadd, 1) := by decide +kernel
theorem dX5_says_31 : decode cX5_says 31 = .ok (.iaload, 1) := by decide +kernel
theorem dX5_says_32 : decode cX5_says 32 = .ok (.putfield 191, 3) := by decide +kernel
theorem dX5_says_35 : decode cX5_says 35 = .ok (.aload_n 0, 1) := by decide +kernel
theorem dX5_says_36 : decode cX5_says 36 = .ok (.aload_n 0, 1) := by decide +kernel
theorem dX5_says_37 : decode cX5_says 37 = .ok (.getfield 26, 3) := by decide +kernel
theorem dX5_says_40 : decode cX5_says 40 = .ok (.iconst 3, 1) := by decide +kernel
theorem dX5_says_41 : decode cX5_says 41 = .ok (.iload_n 2, 1) := by decide +kernel
theorem dX5_says_42 : decode cX5_says 42 = .ok (.imul, 1) := by decide +kernel
theorem dX5_says_43 : decode cX5_says 43 = .ok (.iaload, 1) := by decide +kernel
theorem dX5_says_44 : decode cX5_says 44 = .ok (.putfield 194, 3) := by decide +kernel
theorem dX5_says_47 : decode cX5_says 47 = .ok (.aload_n 0, 1) := by decide +kernel
theorem dX5_says_48 : decode cX5_says 48 = .ok (.aload_n 0, 1) := by decide +kernel
theorem dX5_says_49 : decode cX5_says 49 = .ok (.getfield 108, 3) := by decide +kernel
theorem dX5_says_52 : decode cX5_says 52 = .ok (.putfield 197, 3) := by decide +kernel
theorem dX5_says_55 : decode cX5_says 55 = .ok (.aload_n 0, 1) := by decide +kernel
theorem dX5_says_56 : decode cX5_says 56 = .ok (.iload_n 3, 1) := by decide +kernel
theorem dX5_says_57 : decode cX5_says 57 = .ok (.iconst (-1), 1) := by decide +kernel
theorem dX5_says_58 : decode cX5_says 58 = .ok (.if_icmp .ne 7, 3) := by decide +kernel
theorem dX5_says_61 : decode cX5_says 61 = .ok (.iconst 0, 1) := by decide +kernel
theorem dX5_says_62 : decode cX5_says 62 = .ok (.goto 16, 3) := by decide +kernel
theorem dX5_says_65 : decode cX5_says 65 = .ok (.aload_n 0, 1) := by decide +kernel
theorem dX5_says_66 : decode cX5_says 66 = .ok (.getfield 29, 3) := by decide +kernel
theorem dX5_says_69 : decode cX5_says 69 = .ok (.iconst 5, 1) := by decide +kernel
theorem dX5_says_70 : decode cX5_says 70 = .ok (.iload_n 3, 1) := by decide +kernel
theorem dX5_says_71 : decode cX5_says 71 = .ok (.imul, 1) := by decide +kernel
theorem dX5_says_72 : decode cX5_says 72 = .ok (.iconst 4, 1) := by decide +kernel
theorem dX5_says_73 : decode cX5_says 73 = .ok (.iadd, 1) := by decide +kernel
theorem dX5_says_74 : decode cX5_says 74 = .ok (.iaload, 1) := by decide +kernel
theorem dX5_says_75 : decode cX5_says 75 = .ok (.invokestatic 246, 3) := by decide +kernel
theorem dX5_says_78 : decode cX5_says 78 = .ok (.putfield 200, 3) := by decide +kernel
theorem dX5_says_81 : decode cX5_says 81 = .ok (.aload_n 0, 1) := by decide +kernel
theorem dX5_says_82 : decode cX5_says 82 = .ok (.iload_n 3, 1) := by decide +kernel
theorem dX5_says_83 : decode cX5_says 83 = .ok (.iconst (-1), 1) := by decide +kernel
theorem dX5_says_84 : decode cX5_says 84 = .ok (.if_icmp .eq 21, 3) := by decide +kernel
theorem dX5_says_87 : decode cX5_says 87 = .ok (.aload_n 0, 1) := by decide +kernel
theorem dX5_says_88 : decode cX5_says 88 = .ok (.getfield 29, 3) := by decide +kernel
theorem dX5_says_91 : decode cX5_says 91 = .ok (.iconst 5, 1) := by decide +kernel
theorem dX5_says_92 : decode cX5_says 92 = .ok (.iload_n 3, 1) := by decide +kernel
theorem dX5_says_93 : decode cX5_says 93 = .ok (.imul, 1) := by decide +kernel
theorem dX5_says_94 : decode cX5_says 94 = .ok (.iconst 1, 1) := by decide +kernel
theorem dX5_says_95 : decode cX5_says 95 = .ok (.iadd, 1) := by decide +kernel
theorem dX5_says_96 : decode cX5_says 96 = .ok (.iaload, 1) := by decide +kernel
theorem dX5_says_97 : decode cX5_says 97 = .ok (.iload_n 2, 1) := by decide +kernel
theorem dX5_says_98 : decode cX5_says 98 = .ok (.if_icmp .ne 7, 3) := by decide +kernel
theorem dX5_says_101 : decode cX5_says 101 = .ok (.iconst 1, 1) := by decide +kernel
theorem dX5_says_102 : decode cX5_says 102 = .ok (.goto 4, 3) := by decide +kernel
theorem dX5_says_105 : decode cX5_says 105 = .ok (.iconst 0, 1) := by decide +kernel
theorem dX5_says_106 : decode cX5_says 106 = .ok (.putfield 203, 3) := by decide +kernel
theorem dX5_says_109 : decode cX5_says 109 = .ok (.aload_n 0, 1) := by decide +kernel
theorem dX5_says_110 : decode cX5_says 110 = .ok (.aload_n 0, 1) := by decide +kernel
theorem dX5_says_111 : decode cX5_says 111 = .ok (.getfield 111, 3) := by decide +kernel
theorem dX5_says_114 : decode cX5_says 114 = .ok (.iload_n 1, 1) := by decide +kernel
theorem dX5_says_115 : decode cX5_says 115 = .ok (.invokevirtual 243, 3) := by decide +kernel
theorem dX5_says_118 : decode cX5_says 118 = .ok (.iload_n 1, 1) := by decide +kernel
theorem dX5_says_119 : decode cX5_says 119 = .ok (.iconst 2, 1) := by decide +kernel
theorem dX5_says_120 : decode cX5_says 120 = .ok (.if_icmp .ne 7, 3) := by decide +kernel
theorem dX5_says_123 : decode cX5_says 123 = .ok (.iconst 0, 1) := by decide +kernel
theorem dX5_says_124 : decode cX5_says 124 = .ok (.goto 5, 3) := by decide +kernel
theorem dX5_says_127 : decode cX5_says 127 = .ok (.bipush (-99), 2) := by decide +kernel
theorem dX5_says_129 : decode cX5_says 129 = .ok (.bipush 99, 2) := by decide +kernel
theorem dX5_says_131 : decode cX5_says 131 = .ok (.invokestatic 249, 3) := by decide +kernel
theorem dX5_says_134 : decode cX5_says 134 = .ok (.ireturn, 1) := by decide +kernel
theorem dX5_carries_0 : decode cX5_carries 0 = .ok (.aload_n 0, 1) := by decide +kernel
theorem dX5_carries_1 : decode cX5_carries 1 = .ok (.getfield 26, 3) := by decide +kernel
theorem dX5_carries_4 : decode cX5_carries 4 = .ok (.iconst 3, 1) := by decide +kernel
theorem dX5_carries_5 : decode cX5_carries 5 = .ok (.iload_n 1, 1) := by decide +kernel
theorem dX5_carries_6 : decode cX5_carries 6 = .ok (.imul, 1) := by decide +kernel
theorem dX5_carries_7 : decode cX5_carries 7 = .ok (.iconst 1, 1) := by decide +kernel
theorem dX5_carries_8 : decode cX5_carries 8 = .ok (.iadd, 1) := by decide +kernel
theorem dX5_carries_9 : decode cX5_carries 9 = .ok (.iaload, 1) := by decide +kernel
theorem dX5_carries_10 : decode cX5_carries 10 = .ok (.istore_n 3, 1) := by decide +kernel
theorem dX5_carries_11 : decode cX5_carries 11 = .ok (.aload_n 0, 1) := by decide +kernel
theorem dX5_carries_12 : decode cX5_carries 12 = .ok (.getfield 253, 3) := by decide +kernel
theorem dX5_carries_15 : decode cX5_carries 15 = .ok (.iload_n 1, 1) := by decide +kernel
theorem dX5_carries_16 : decode cX5_carries 16 = .ok (.ishr, 1) := by decide +kernel
theorem dX5_carries_17 : decode cX5_carries 17 = .ok (.iconst 1, 1) := by decide +kernel
theorem dX5_carries_18 : decode cX5_carries 18 = .ok (.iand, 1) := by decide +kernel
theorem dX5_carries_19 : decode cX5_carries 19 = .ok (.iconst 1, 1) := by decide +kernel
theorem dX5_carries_20 : decode cX5_carries 20 = .ok (.if_icmp .eq 43, 3) := by decide +kernel
theorem dX5_carries_23 : decode cX5_carries 23 = .ok (.iload_n 3, 1) := by decide +kernel
theorem dX5_carries_24 : decode cX5_carries 24 = .ok (.iconst 4, 1) := by decide +kernel
theorem dX5_carries_25 : decode cX5_carries 25 = .ok (.if_icmp .ne 15, 3) := by decide +kernel
theorem dX5_carries_28 : decode cX5_carries 28 = .ok (.aload_n 0, 1) := by decide +kernel
theorem dX5_carries_29 : decode cX5_carries 29 = .ok (.getfield 26, 3) := by decide +kernel
theorem dX5_carries_32 : decode cX5_carries 32 = .ok (.iconst 3, 1) := by decide +kernel
theorem dX5_carries_33 : decode cX5_carries 33 = .ok (.iload_n 1, 1) := by decide +kernel
theorem dX5_carries_34 : decode cX5_carries 34 = .ok (.imul, 1) := by decide +kernel
theorem dX5_carries_35 : decode cX5_carries 35 = .ok (.iaload, 1) := by decide +kernel
theorem dX5_carries_36 : decode cX5_carries 36 = .ok (.iconst 4, 1) := by decide +kernel
theorem dX5_carries_37 : decode cX5_carries 37 = .ok (.if_icmp .gt 26, 3) := by decide +kernel
theorem dX5_carries_40 : decode cX5_carries 40 = .ok (.iload_n 3, 1) := by decide +kernel
theorem dX5_carries_41 : decode cX5_carries 41 = .ok (.iconst 3, 1) := by decide +kernel
theorem dX5_carries_42 : decode cX5_carries 42 = .ok (.if_icmp .ne 23, 3) := by decide +kernel
theorem dX5_carries_45 : decode cX5_carries 45 = .ok (.aload_n 0, 1) := by decide +kernel
theorem dX5_carries_46 : decode cX5_carries 46 = .ok (.getfield 108, 3) := by decide +kernel
theorem dX5_carries_49 : decode cX5_carries 49 = .ok (.bipush 7, 2) := by decide +kernel
theorem dX5_carries_51 : decode cX5_carries 51 = .ok (.irem, 1) := by decide +kernel
theorem dX5_carries_52 : decode cX5_carries 52 = .ok (.aload_n 0, 1) := by decide +kernel
theorem dX5_carries_53 : decode cX5_carries 53 = .ok (.getfield 26, 3) := by decide +kernel
theorem dX5_carries_56 : decode cX5_carries 56 = .ok (.iconst 3, 1) := by decide +kernel
theorem dX5_carries_57 : decode cX5_carries 57 = .ok (.iload_n 1, 1) := by decide +kernel
theorem dX5_carries_58 : decode cX5_carries 58 = .ok (.imul, 1) := by decide +kernel
theorem dX5_carries_59 : decode cX5_carries 59 = .ok (.iaload, 1) := by decide +kernel
theorem dX5_carries_60 : decode cX5_carries 60 = .ok (.if_icmp .ne 5, 3) := by decide +kernel
theorem dX5_carries_63 : decode cX5_carries 63 = .ok (.iconst 0, 1) := by decide +kernel
theorem dX5_carries_64 : decode cX5_carries 64 = .ok (.ireturn, 1) := by decide +kernel
theorem dX5_carries_65 : decode cX5_carries 65 = .ok (.aload_n 0, 1) := by decide +kernel
theorem dX5_carries_66 : decode cX5_carries 66 = .ok (.iconst 0, 1) := by decide +kernel
theorem dX5_carries_67 : decode cX5_carries 67 = .ok (.iload_n 1, 1) := by decide +kernel
theorem dX5_carries_68 : decode cX5_carries 68 = .ok (.iload_n 2, 1) := by decide +kernel
theorem dX5_carries_69 : decode cX5_carries 69 = .ok (.invokevirtual 256, 3) := by decide +kernel
theorem dX5_carries_72 : decode cX5_carries 72 = .ok (.ifCond .eq 7, 3) := by decide +kernel
theorem dX5_carries_75 : decode cX5_carries 75 = .ok (.iconst 1, 1) := by decide +kernel
theorem dX5_carries_76 : decode cX5_carries 76 = .ok (.goto 4, 3) := by decide +kernel
theorem dX5_carries_79 : decode cX5_carries 79 = .ok (.iconst 0, 1) := by decide +kernel
theorem dX5_carries_80 : decode cX5_carries 80 = .ok (.istore 4, 2) := by decide +kernel
theorem dX5_carries_82 : decode cX5_carries 82 = .ok (.iload 4, 2) := by decide +kernel
theorem dX5_carries_84 : decode cX5_carries 84 = .ok (.ifCond .eq 21, 3) := by decide +kernel
theorem dX5_carries_87 : decode cX5_carries 87 = .ok (.aload_n 0, 1) := by decide +kernel
theorem dX5_carries_88 : decode cX5_carries 88 = .ok (.getfield 29, 3) := by decide +kernel
theorem dX5_carries_91 : decode cX5_carries 91 = .ok (.iconst 5, 1) := by decide +kernel
theorem dX5_carries_92 : decode cX5_carries 92 = .ok (.iload_n 2, 1) := by decide +kernel
theorem dX5_carries_93 : decode cX5_carries 93 = .ok (.imul, 1) := by decide +kernel
theorem dX5_carries_94 : decode cX5_carries 94 = .ok (.iconst 1, 1) := by decide +kernel
theorem dX5_carries_95 : decode cX5_carries 95 = .ok (.iadd, 1) := by decide +kernel
theorem dX5_carries_96 : decode cX5_carries 96 = .ok (.iaload, 1) := by decide +kernel
theorem dX5_carries_97 : decode cX5_carries 97 = .ok (.iload_n 1, 1) := by decide +kernel
theorem dX5_carries_98 : decode cX5_carries 98 = .ok (.if_icmp .eq 7, 3) := by decide +kernel
theorem dX5_carries_101 : decode cX5_carries 101 = .ok (.iconst 1, 1) := by decide +kernel
theorem dX5_carries_102 : decode cX5_carries 102 = .ok (.goto 4, 3) := by decide +kernel
theorem dX5_carries_105 : decode cX5_carries 105 = .ok (.iconst 0, 1) := by decide +kernel
theorem dX5_carries_106 : decode cX5_carries 106 = .ok (.istore 5, 2) := by decide +kernel
theorem dX5_carries_108 : decode cX5_carries 108 = .ok (.iload_n 3, 1) := by decide +kernel
theorem dX5_carries_109 : decode cX5_carries 109 = .ok (.iconst 5, 1) := by decide +kernel
theorem dX5_carries_110 : decode cX5_carries 110 = .ok (.if_icmp .eq 51, 3) := by decide +kernel
theorem dX5_carries_113 : decode cX5_carries 113 = .ok (.iload_n 3, 1) := by decide +kernel
theorem dX5_carries_114 : decode cX5_carries 114 = .ok (.iconst 2, 1) := by decide +kernel
theorem dX5_carries_115 : decode cX5_carries 115 = .ok (.if_icmp .eq 8, 3) := by decide +kernel
theorem dX5_carries_118 : decode cX5_carries 118 = .ok (.iload_n 3, 1) := by decide +kernel
theorem dX5_carries_119 : decode cX5_carries 119 = .ok (.iconst 4, 1) := by decide +kernel
theorem dX5_carries_120 : decode cX5_carries 120 = .ok (.if_icmp .ne 11, 3) := by decide +kernel
theorem dX5_carries_123 : decode cX5_carries 123 = .ok (.iload 5, 2) := by decide +kernel
theorem dX5_carries_125 : decode cX5_carries 125 = .ok (.ifCond .eq 40, 3) := by decide +kernel
theorem dX5_carries_128 : decode cX5_carries 128 = .ok (.goto 33, 3) := by decide +kernel
theorem dX5_carries_131 : decode cX5_carries 131 = .ok (.iload_n 3, 1) := by decide +kernel
theorem dX5_carries_132 : decode cX5_carries 132 = .ok (.ifCond .ne 11, 3) := by decide +kernel
theorem dX5_carries_135 : decode cX5_carries 135 = .ok (.iload 4, 2) := by decide +kernel
theorem dX5_carries_137 : decode cX5_carries 137 = .ok (.ifCond .eq 28, 3) := by decide +kernel
theorem dX5_carries_140 : decode cX5_carries 140 = .ok (.goto 21, 3) := by decide +kernel
theorem dX5_carries_143 : decode cX5_carries 143 = .ok (.iload 4, 2) := by decide +kernel
theorem dX5_carries_145 : decode cX5_carries 145 = .ok (.ifCond .ne 16, 3) := by decide +kernel
theorem dX5_carries_148 : decode cX5_carries 148 = .ok (.aload_n 0, 1) := by decide +kernel
theorem dX5_carries_149 : decode cX5_carries 149 = .ok (.getfield 29, 3) := by decide +kernel
theorem dX5_carries_152 : decode cX5_carries 152 = .ok (.iconst 5, 1) := by decide +kernel
theorem dX5_carries_153 : decode cX5_carries 153 = .ok (.iload_n 2, 1) := by decide +kernel
theorem dX5_carries_154 : decode cX5_carries 154 = .ok (.imul, 1) := by decide +kernel
theorem dX5_carries_155 : decode cX5_carries 155 = .ok (.iaload, 1) := by decide +kernel
theorem dX5_carries_156 : decode cX5_carries 156 = .ok (.bipush 49, 2) := by decide +kernel
theorem dX5_carries_158 : decode cX5_carries 158 = .ok (.if_icmp .le 7, 3) := by decide +kernel
theorem dX5_carries_161 : decode cX5_carries 161 = .ok (.iconst 1, 1) := by decide +kernel
theorem dX5_carries_162 : decode cX5_carries 162 = .ok (.goto 4, 3) := by decide +kernel
theorem dX5_carries_165 : decode cX5_carries 165 = .ok (.iconst 0, 1) := by decide +kernel
theorem dX5_carries_166 : decode cX5_carries 166 = .ok (.ireturn, 1) := by decide +kernel
theorem dX5_softens_0 : decode cX5_softens 0 = .ok (.aload_n 0, 1) := by decide +kernel
theorem dX5_softens_1 : decode cX5_softens 1 = .ok (.getfield 26, 3) := by decide +kernel
theorem dX5_softens_4 : decode cX5_softens 4 = .ok (.iconst 3, 1) := by decide +kernel
theorem dX5_softens_5 : decode cX5_softens 5 = .ok (.iload_n 1, 1) := by decide +kernel
theorem dX5_softens_6 : decode cX5_softens 6 = .ok (.imul, 1) := by decide +kernel
theorem dX5_softens_7 : decode cX5_softens 7 = .ok (.iconst 1, 1) := by decide +kernel
theorem dX5_softens_8 : decode cX5_softens 8 = .ok (.iadd, 1) := by decide +kernel
theorem dX5_softens_9 : decode cX5_softens 9 = .ok (.iaload, 1) := by decide +kernel
theorem dX5_softens_10 : decode cX5_softens 10 = .ok (.istore_n 3, 1) := by decide +kernel
theorem dX5_softens_11 : decode cX5_softens 11 = .ok (.iload_n 3, 1) := by decide +kernel
theorem dX5_softens_12 : decode cX5_softens 12 = .ok (.iconst 5, 1) := by decide +kernel
theorem dX5_softens_13 : decode cX5_softens 13 = .ok (.if_icmp .eq 21, 3) := by decide +kernel
theorem dX5_softens_16 : decode cX5_softens 16 = .ok (.iload_n 3, 1) := by decide +kernel
theorem dX5_softens_17 : decode cX5_softens 17 = .ok (.iconst 3, 1) := by decide +kernel
theorem dX5_softens_18 : decode cX5_softens 18 = .ok (.if_icmp .ne 18, 3) := by decide +kernel
theorem dX5_softens_21 : decode cX5_softens 21 = .ok (.aload_n 0, 1) := by decide +kernel
theorem dX5_softens_22 : decode cX5_softens 22 = .ok (.getfield 29, 3) := by decide +kernel
theorem dX5_softens_25 : decode cX5_softens 25 = .ok (.iconst 5, 1) := by decide +kernel
theorem dX5_softens_26 : decode cX5_softens 26 = .ok (.iload_n 2, 1) := by decide +kernel
theorem dX5_softens_27 : decode cX5_softens 27 = .ok (.imul, 1) := by decide +kernel
theorem dX5_softens_28 : decode cX5_softens 28 = .ok (.iaload, 1) := by decide +kernel
theorem dX5_softens_29 : decode cX5_softens 29 = .ok (.bipush 21, 2) := by decide +kernel
theorem dX5_softens_31 : decode cX5_softens 31 = .ok (.if_icmp .ge 5, 3) := by decide +kernel
theorem dX5_softens_34 : decode cX5_softens 34 = .ok (.iconst 0, 1) := by decide +kernel
theorem dX5_softens_35 : decode cX5_softens 35 = .ok (.ireturn, 1) := by decide +kernel
theorem dX5_softens_36 : decode cX5_softens 36 = .ok (.aload_n 0, 1) := by decide +kernel
theorem dX5_softens_37 : decode cX5_softens 37 = .ok (.iconst 1, 1) := by decide +kernel
theorem dX5_softens_38 : decode cX5_softens 38 = .ok (.iload_n 1, 1) := by decide +kernel
theorem dX5_softens_39 : decode cX5_softens 39 = .ok (.iload_n 2, 1) := by decide +kernel
theorem dX5_softens_40 : decode cX5_softens 40 = .ok (.invokevirtual 256, 3) := by decide +kernel
theorem dX5_softens_43 : decode cX5_softens 43 = .ok (.istore 4, 2) := by decide +kernel
theorem dX5_softens_45 : decode cX5_softens 45 = .ok (.iload 4, 2) := by decide +kernel
theorem dX5_softens_47 : decode cX5_softens 47 = .ok (.aload_n 0, 1) := by decide +kernel
theorem dX5_softens_48 : decode cX5_softens 48 = .ok (.getfield 26, 3) := by decide +kernel
theorem dX5_softens_51 : decode cX5_softens 51 = .ok (.iconst 3, 1) := by decide +kernel
theorem dX5_softens_52 : decode cX5_softens 52 = .ok (.iload_n 1, 1) := by decide +kernel
theorem dX5_softens_53 : decode cX5_softens 53 = .ok (.imul, 1) := by decide +kernel
theorem dX5_softens_54 : decode cX5_softens 54 = .ok (.iaload, 1) := by decide +kernel
theorem dX5_softens_55 : decode cX5_softens 55 = .ok (.iadd, 1) := by decide +kernel
theorem dX5_softens_56 : decode cX5_softens 56 = .ok (.istore 5, 2) := by decide +kernel
theorem dX5_softens_58 : decode cX5_softens 58 = .ok (.iload_n 3, 1) := by decide +kernel
theorem dX5_softens_59 : decode cX5_softens 59 = .ok (.iconst 2, 1) := by decide +kernel
theorem dX5_softens_60 : decode cX5_softens 60 = .ok (.if_icmp .ne 8, 3) := by decide +kernel
theorem dX5_softens_63 : decode cX5_softens 63 = .ok (.iload 5, 2) := by decide +kernel
theorem dX5_softens_65 : decode cX5_softens 65 = .ok (.goto 27, 3) := by decide +kernel
theorem dX5_softens_68 : decode cX5_softens 68 = .ok (.iload_n 3, 1) := by decide +kernel
theorem dX5_softens_69 : decode cX5_softens 69 = .ok (.iconst 4, 1) := by decide +kernel
theorem dX5_softens_70 : decode cX5_softens 70 = .ok (.if_icmp .ne 9, 3) := by decide +kernel
theorem dX5_softens_73 : decode cX5_softens 73 = .ok (.iload 5, 2) := by decide +kernel
theorem dX5_softens_75 : decode cX5_softens 75 = .ok (.ineg, 1) := by decide +kernel
theorem dX5_softens_76 : decode cX5_softens 76 = .ok (.goto 16, 3) := by decide +kernel
theorem dX5_softens_79 : decode cX5_softens 79 = .ok (.iload_n 3, 1) := by decide +kernel
theorem dX5_softens_80 : decode cX5_softens 80 = .ok (.ifCond .ne 8, 3) := by decide +kernel
theorem dX5_softens_83 : decode cX5_softens 83 = .ok (.iload 4, 2) := by decide +kernel
theorem dX5_softens_85 : decode cX5_softens 85 = .ok (.goto 7, 3) := by decide +kernel
theorem dX5_softens_88 : decode cX5_softens 88 = .ok (.iconst 2, 1) := by decide +kernel
theorem dX5_softens_89 : decode cX5_softens 89 = .ok (.iload 4, 2) := by decide +kernel
theorem dX5_softens_91 : decode cX5_softens 91 = .ok (.imul, 1) := by decide +kernel
theorem dX5_softens_92 : decode cX5_softens 92 = .ok (.ireturn, 1) := by decide +kernel
theorem dX5_writesOf_0 : decode cX5_writesOf 0 = .ok (.aload_n 0, 1) := by decide +kernel
theorem dX5_writesOf_1 : decode cX5_writesOf 1 = .ok (.getfield 26, 3) := by decide +kernel
theorem dX5_writesOf_4 : decode cX5_writesOf 4 = .ok (.iconst 3, 1) := by decide +kernel
theorem dX5_writesOf_5 : decode cX5_writesOf 5 = .ok (.iload_n 1, 1) := by decide +kernel
theorem dX5_writesOf_6 : decode cX5_writesOf 6 = .ok (.imul, 1) := by decide +kernel
theorem dX5_writesOf_7 : decode cX5_writesOf 7 = .ok (.iconst 1, 1) := by decide +kernel
theorem dX5_writesOf_8 : decode cX5_writesOf 8 = .ok (.iadd, 1) := by decide +kernel
theorem dX5_writesOf_9 : decode cX5_writesOf 9 = .ok (.iaload, 1) := by decide +kernel
theorem dX5_writesOf_10 : decode cX5_writesOf 10 = .ok (.istore_n 2, 1) := by decide +kernel
theorem dX5_writesOf_11 : decode cX5_writesOf 11 = .ok (.iload_n 2, 1) := by decide +kernel
theorem dX5_writesOf_12 : decode cX5_writesOf 12 = .ok (.iconst 5, 1) := by decide +kernel
theorem dX5_writesOf_13 : decode cX5_writesOf 13 = .ok (.if_icmp .ne 15, 3) := by decide +kernel
theorem dX5_writesOf_16 : decode cX5_writesOf 16 = .ok (.bipush 10, 2) := by decide +kernel
theorem dX5_writesOf_18 : decode cX5_writesOf 18 = .ok (.aload_n 0, 1) := by decide +kernel
theorem dX5_writesOf_19 : decode cX5_writesOf 19 = .ok (.getfield 26, 3) := by decide +kernel
theorem dX5_writesOf_22 : decode cX5_writesOf 22 = .ok (.iconst 3, 1) := by decide +kernel
theorem dX5_writesOf_23 : decode cX5_writesOf 23 = .ok (.iload_n 1, 1) := by decide +kernel
theorem dX5_writesOf_24 : decode cX5_writesOf 24 = .ok (.imul, 1) := by decide +kernel
theorem dX5_writesOf_25 : decode cX5_writesOf 25 = .ok (.iaload, 1) := by decide +kernel
theorem dX5_writesOf_26 : decode cX5_writesOf 26 = .ok (.imul, 1) := by decide +kernel
theorem dX5_writesOf_27 : decode cX5_writesOf 27 = .ok (.ireturn, 1) := by decide +kernel
theorem dX5_writesOf_28 : decode cX5_writesOf 28 = .ok (.aload_n 0, 1) := by decide +kernel
theorem dX5_writesOf_29 : decode cX5_writesOf 29 = .ok (.iconst 2, 1) := by decide +kernel
theorem dX5_writesOf_30 : decode cX5_writesOf 30 = .ok (.iload_n 1, 1) := by decide +kernel
theorem dX5_writesOf_31 : decode cX5_writesOf 31 = .ok (.iconst (-1), 1) := by decide +kernel
theorem dX5_writesOf_32 : decode cX5_writesOf 32 = .ok (.invokevirtual 256, 3) := by decide +kernel
theorem dX5_writesOf_35 : decode cX5_writesOf 35 = .ok (.istore_n 3, 1) := by decide +kernel
theorem dX5_writesOf_36 : decode cX5_writesOf 36 = .ok (.iload_n 2, 1) := by decide +kernel
theorem dX5_writesOf_37 : decode cX5_writesOf 37 = .ok (.iconst 1, 1) := by decide +kernel
theorem dX5_writesOf_38 : decode cX5_writesOf 38 = .ok (.if_icmp .eq 8, 3) := by decide +kernel
theorem dX5_writesOf_41 : decode cX5_writesOf 41 = .ok (.iload_n 2, 1) := by decide +kernel
theorem dX5_writesOf_42 : decode cX5_writesOf 42 = .ok (.iconst 3, 1) := by decide +kernel
theorem dX5_writesOf_43 : decode cX5_writesOf 43 = .ok (.if_icmp .ne 9, 3) := by decide +kernel
theorem dX5_writesOf_46 : decode cX5_writesOf 46 = .ok (.iload_n 3, 1) := by decide +kernel
theorem dX5_writesOf_47 : decode cX5_writesOf 47 = .ok (.iconst 2, 1) := by decide +kernel
theorem dX5_writesOf_48 : decode cX5_writesOf 48 = .ok (.idiv, 1) := by decide +kernel
theorem dX5_writesOf_49 : decode cX5_writesOf 49 = .ok (.goto 15, 3) := by decide +kernel
theorem dX5_writesOf_52 : decode cX5_writesOf 52 = .ok (.iload_n 2, 1) := by decide +kernel
theorem dX5_writesOf_53 : decode cX5_writesOf 53 = .ok (.ifCond .ne 7, 3) := by decide +kernel
theorem dX5_writesOf_56 : decode cX5_writesOf 56 = .ok (.iload_n 3, 1) := by decide +kernel
theorem dX5_writesOf_57 : decode cX5_writesOf 57 = .ok (.goto 7, 3) := by decide +kernel
theorem dX5_writesOf_60 : decode cX5_writesOf 60 = .ok (.bipush 99, 2) := by decide +kernel
theorem dX5_writesOf_62 : decode cX5_writesOf 62 = .ok (.iload_n 3, 1) := by decide +kernel
theorem dX5_writesOf_63 : decode cX5_writesOf 63 = .ok (.isub, 1) := by decide +kernel
theorem dX5_writesOf_64 : decode cX5_writesOf 64 = .ok (.iconst 0, 1) := by decide +kernel
theorem dX5_writesOf_65 : decode cX5_writesOf 65 = .ok (.bipush 99, 2) := by decide +kernel
theorem dX5_writesOf_67 : decode cX5_writesOf 67 = .ok (.invokestatic 249, 3) := by decide +kernel
theorem dX5_writesOf_70 : decode cX5_writesOf 70 = .ok (.ireturn, 1) := by decide +kernel
theorem dX5_asks_0 : decode cX5_asks 0 = .ok (.aload_n 0, 1) := by decide +kernel
theorem dX5_asks_1 : decode cX5_asks 1 = .ok (.iload_n 1, 1) := by decide +kernel
theorem dX5_asks_2 : decode cX5_asks 2 = .ok (.invokevirtual 83, 3) := by decide +kernel
theorem dX5_asks_5 : decode cX5_asks 5 = .ok (.ifCond .eq 21, 3) := by decide +kernel
theorem dX5_asks_8 : decode cX5_asks 8 = .ok (.aload_n 0, 1) := by decide +kernel
theorem dX5_asks_9 : decode cX5_asks 9 = .ok (.iload_n 2, 1) := by decide +kernel
theorem dX5_asks_10 : decode cX5_asks 10 = .ok (.invokevirtual 87, 3) := by decide +kernel
theorem dX5_asks_13 : decode cX5_asks 13 = .ok (.ifCond .eq 13, 3) := by decide +kernel
theorem dX5_asks_16 : decode cX5_asks 16 = .ok (.iload_n 3, 1) := by decide +kernel
theorem dX5_asks_17 : decode cX5_asks 17 = .ok (.i2l, 1) := by decide +kernel
theorem dX5_asks_18 : decode cX5_asks 18 = .ok (.lconst 0, 1) := by decide +kernel
theorem dX5_asks_19 : decode cX5_asks 19 = .ok (.lconst 1, 1) := by decide +kernel
theorem dX5_asks_20 : decode cX5_asks 20 = .ok (.invokestatic 76, 3) := by decide +kernel
theorem dX5_asks_23 : decode cX5_asks 23 = .ok (.ifCond .ne 7, 3) := by decide +kernel
theorem dX5_asks_26 : decode cX5_asks 26 = .ok (.sipush (-1000), 3) := by decide +kernel
theorem dX5_asks_29 : decode cX5_asks 29 = .ok (.ireturn, 1) := by decide +kernel
theorem dX5_asks_30 : decode cX5_asks 30 = .ok (.iload_n 3, 1) := by decide +kernel
theorem dX5_asks_31 : decode cX5_asks 31 = .ok (.iconst 1, 1) := by decide +kernel
theorem dX5_asks_32 : decode cX5_asks 32 = .ok (.if_icmp .ne 12, 3) := by decide +kernel
theorem dX5_asks_35 : decode cX5_asks 35 = .ok (.aload_n 0, 1) := by decide +kernel
theorem dX5_asks_36 : decode cX5_asks 36 = .ok (.iload_n 1, 1) := by decide +kernel
theorem dX5_asks_37 : decode cX5_asks 37 = .ok (.iload_n 2, 1) := by decide +kernel
theorem dX5_asks_38 : decode cX5_asks 38 = .ok (.invokevirtual 259, 3) := by decide +kernel
theorem dX5_asks_41 : decode cX5_asks 41 = .ok (.goto 17, 3) := by decide +kernel
theorem dX5_asks_44 : decode cX5_asks 44 = .ok (.aload_n 0, 1) := by decide +kernel
theorem dX5_asks_45 : decode cX5_asks 45 = .ok (.iload_n 1, 1) := by decide +kernel
theorem dX5_asks_46 : decode cX5_asks 46 = .ok (.iload_n 2, 1) := by decide +kernel
theorem dX5_asks_47 : decode cX5_asks 47 = .ok (.invokevirtual 262, 3) := by decide +kernel
theorem dX5_asks_50 : decode cX5_asks 50 = .ok (.ifCond .eq 7, 3) := by decide +kernel
theorem dX5_asks_53 : decode cX5_asks 53 = .ok (.iconst 1, 1) := by decide +kernel
theorem dX5_asks_54 : decode cX5_asks 54 = .ok (.goto 4, 3) := by decide +kernel
theorem dX5_asks_57 : decode cX5_asks 57 = .ok (.iconst 0, 1) := by decide +kernel
theorem dX5_asks_58 : decode cX5_asks 58 = .ok (.ireturn, 1) := by decide +kernel
theorem dX5_writes_0 : decode cX5_writes 0 = .ok (.aload_n 0, 1) := by decide +kernel
theorem dX5_writes_1 : decode cX5_writes 1 = .ok (.iload_n 1, 1) := by decide +kernel
theorem dX5_writes_2 : decode cX5_writes 2 = .ok (.invokevirtual 83, 3) := by decide +kernel
theorem dX5_writes_5 : decode cX5_writes 5 = .ok (.ifCond .eq 11, 3) := by decide +kernel
theorem dX5_writes_8 : decode cX5_writes 8 = .ok (.aload_n 0, 1) := by decide +kernel
theorem dX5_writes_9 : decode cX5_writes 9 = .ok (.iload_n 1, 1) := by decide +kernel
theorem dX5_writes_10 : decode cX5_writes 10 = .ok (.invokevirtual 265, 3) := by decide +kernel
theorem dX5_writes_13 : decode cX5_writes 13 = .ok (.goto 5, 3) := by decide +kernel
theorem dX5_writes_16 : decode cX5_writes 16 = .ok (.bipush (-2), 2) := by decide +kernel
theorem dX5_writes_18 : decode cX5_writes 18 = .ok (.ireturn, 1) := by decide +kernel
theorem dX5_sends_0 : decode cX5_sends 0 = .ok (.iconst 5, 1) := by decide +kernel
theorem dX5_sends_1 : decode cX5_sends 1 = .ok (.aload_n 0, 1) := by decide +kernel
theorem dX5_sends_2 : decode cX5_sends 2 = .ok (.getfield 80, 3) := by decide +kernel
theorem dX5_sends_5 : decode cX5_sends 5 = .ok (.imul, 1) := by decide +kernel
theorem dX5_sends_6 : decode cX5_sends 6 = .ok (.istore_n 3, 1) := by decide +kernel
theorem dX5_sends_7 : decode cX5_sends 7 = .ok (.aload_n 0, 1) := by decide +kernel
theorem dX5_sends_8 : decode cX5_sends 8 = .ok (.getfield 29, 3) := by decide +kernel
theorem dX5_sends_11 : decode cX5_sends 11 = .ok (.iload_n 3, 1) := by decide +kernel
theorem dX5_sends_12 : decode cX5_sends 12 = .ok (.aload_n 0, 1) := by decide +kernel
theorem dX5_sends_13 : decode cX5_sends 13 = .ok (.iload_n 1, 1) := by decide +kernel
theorem dX5_sends_14 : decode cX5_sends 14 = .ok (.invokevirtual 265, 3) := by decide +kernel
theorem dX5_sends_17 : decode cX5_sends 17 = .ok (.iastore, 1) := by decide +kernel
theorem dX5_sends_18 : decode cX5_sends 18 = .ok (.aload_n 0, 1) := by decide +kernel
theorem dX5_sends_19 : decode cX5_sends 19 = .ok (.getfield 29, 3) := by decide +kernel
theorem dX5_sends_22 : decode cX5_sends 22 = .ok (.iload_n 3, 1) := by decide +kernel
theorem dX5_sends_23 : decode cX5_sends 23 = .ok (.iconst 1, 1) := by decide +kernel
theorem dX5_sends_24 : decode cX5_sends 24 = .ok (.iadd, 1) := by decide +kernel
theorem dX5_sends_25 : decode cX5_sends 25 = .ok (.iload_n 1, 1) := by decide +kernel
theorem dX5_sends_26 : decode cX5_sends 26 = .ok (.iastore, 1) := by decide +kernel
theorem dX5_sends_27 : decode cX5_sends 27 = .ok (.aload_n 0, 1) := by decide +kernel
theorem dX5_sends_28 : decode cX5_sends 28 = .ok (.getfield 29, 3) := by decide +kernel
theorem dX5_sends_31 : decode cX5_sends 31 = .ok (.iload_n 3, 1) := by decide +kernel
theorem dX5_sends_32 : decode cX5_sends 32 = .ok (.iconst 2, 1) := by decide +kernel
theorem dX5_sends_33 : decode cX5_sends 33 = .ok (.iadd, 1) := by decide +kernel
theorem dX5_sends_34 : decode cX5_sends 34 = .ok (.iload_n 2, 1) := by decide +kernel
theorem dX5_sends_35 : decode cX5_sends 35 = .ok (.iastore, 1) := by decide +kernel
theorem dX5_sends_36 : decode cX5_sends 36 = .ok (.aload_n 0, 1) := by decide +kernel
theorem dX5_sends_37 : decode cX5_sends 37 = .ok (.getfield 29, 3) := by decide +kernel
theorem dX5_sends_40 : decode cX5_sends 40 = .ok (.iload_n 3, 1) := by decide +kernel
theorem dX5_sends_41 : decode cX5_sends 41 = .ok (.iconst 3, 1) := by decide +kernel
theorem dX5_sends_42 : decode cX5_sends 42 = .ok (.iadd, 1) := by decide +kernel
theorem dX5_sends_43 : decode cX5_sends 43 = .ok (.aload_n 0, 1) := by decide +kernel
theorem dX5_sends_44 : decode cX5_sends 44 = .ok (.getfield 26, 3) := by decide +kernel
theorem dX5_sends_47 : decode cX5_sends 47 = .ok (.iconst 3, 1) := by decide +kernel
theorem dX5_sends_48 : decode cX5_sends 48 = .ok (.iload_n 2, 1) := by decide +kernel
theorem dX5_sends_49 : decode cX5_sends 49 = .ok (.imul, 1) := by decide +kernel
theorem dX5_sends_50 : decode cX5_sends 50 = .ok (.iconst 2, 1) := by decide +kernel
theorem dX5_sends_51 : decode cX5_sends 51 = .ok (.iadd, 1) := by decide +kernel
theorem dX5_sends_52 : decode cX5_sends 52 = .ok (.iaload, 1) := by decide +kernel
theorem dX5_sends_53 : decode cX5_sends 53 = .ok (.aload_n 0, 1) := by decide +kernel
theorem dX5_sends_54 : decode cX5_sends 54 = .ok (.getfield 23, 3) := by decide +kernel
theorem dX5_sends_57 : decode cX5_sends 57 = .ok (.iadd, 1) := by decide +kernel
theorem dX5_sends_58 : decode cX5_sends 58 = .ok (.bipush 8, 2) := by decide +kernel
theorem dX5_sends_60 : decode cX5_sends 60 = .ok (.irem, 1) := by decide +kernel
theorem dX5_sends_61 : decode cX5_sends 61 = .ok (.iastore, 1) := by decide +kernel
theorem dX5_sends_62 : decode cX5_sends 62 = .ok (.aload_n 0, 1) := by decide +kernel
theorem dX5_sends_63 : decode cX5_sends 63 = .ok (.getfield 29, 3) := by decide +kernel
theorem dX5_sends_66 : decode cX5_sends 66 = .ok (.iload_n 3, 1) := by decide +kernel
theorem dX5_sends_67 : decode cX5_sends 67 = .ok (.iconst 4, 1) := by decide +kernel
theorem dX5_sends_68 : decode cX5_sends 68 = .ok (.iadd, 1) := by decide +kernel
theorem dX5_sends_69 : decode cX5_sends 69 = .ok (.iconst 1, 1) := by decide +kernel
theorem dX5_sends_70 : decode cX5_sends 70 = .ok (.iload_n 1, 1) := by decide +kernel
theorem dX5_sends_71 : decode cX5_sends 71 = .ok (.ishl, 1) := by decide +kernel
theorem dX5_sends_72 : decode cX5_sends 72 = .ok (.iastore, 1) := by decide +kernel
theorem dX5_sends_73 : decode cX5_sends 73 = .ok (.aload_n 0, 1) := by decide +kernel
theorem dX5_sends_74 : decode cX5_sends 74 = .ok (.dup, 1) := by decide +kernel
theorem dX5_sends_75 : decode cX5_sends 75 = .ok (.getfield 80, 3) := by decide +kernel
theorem dX5_sends_78 : decode cX5_sends 78 = .ok (.iconst 1, 1) := by decide +kernel
theorem dX5_sends_79 : decode cX5_sends 79 = .ok (.iadd, 1) := by decide +kernel
theorem dX5_sends_80 : decode cX5_sends 80 = .ok (.putfield 80, 3) := by decide +kernel
theorem dX5_sends_83 : decode cX5_sends 83 = .ok (.return_, 1) := by decide +kernel
theorem dX5_send_0 : decode cX5_send 0 = .ok (.aload_n 0, 1) := by decide +kernel
theorem dX5_send_1 : decode cX5_send 1 = .ok (.iload_n 1, 1) := by decide +kernel
theorem dX5_send_2 : decode cX5_send 2 = .ok (.iload_n 2, 1) := by decide +kernel
theorem dX5_send_3 : decode cX5_send 3 = .ok (.invokevirtual 123, 3) := by decide +kernel
theorem dX5_send_6 : decode cX5_send 6 = .ok (.ifCond .ne 6, 3) := by decide +kernel
theorem dX5_send_9 : decode cX5_send 9 = .ok (.bipush (-2), 2) := by decide +kernel
theorem dX5_send_11 : decode cX5_send 11 = .ok (.ireturn, 1) := by decide +kernel
theorem dX5_send_12 : decode cX5_send 12 = .ok (.aload_n 0, 1) := by decide +kernel
theorem dX5_send_13 : decode cX5_send 13 = .ok (.getfield 80, 3) := by decide +kernel
theorem dX5_send_16 : decode cX5_send 16 = .ok (.bipush 8, 2) := by decide +kernel
theorem dX5_send_18 : decode cX5_send 18 = .ok (.if_icmp .ne 6, 3) := by decide +kernel
theorem dX5_send_21 : decode cX5_send 21 = .ok (.bipush (-4), 2) := by decide +kernel
theorem dX5_send_23 : decode cX5_send 23 = .ok (.ireturn, 1) := by decide +kernel
theorem dX5_send_24 : decode cX5_send 24 = .ok (.aload_n 0, 1) := by decide +kernel
theorem dX5_send_25 : decode cX5_send 25 = .ok (.iload_n 1, 1) := by decide +kernel
theorem dX5_send_26 : decode cX5_send 26 = .ok (.iload_n 2, 1) := by decide +kernel
theorem dX5_send_27 : decode cX5_send 27 = .ok (.invokevirtual 268, 3) := by decide +kernel
theorem dX5_send_30 : decode cX5_send 30 = .ok (.aload_n 0, 1) := by decide +kernel
theorem dX5_send_31 : decode cX5_send 31 = .ok (.getfield 80, 3) := by decide +kernel
theorem dX5_send_34 : decode cX5_send 34 = .ok (.iconst 1, 1) := by decide +kernel
theorem dX5_send_35 : decode cX5_send 35 = .ok (.isub, 1) := by decide +kernel
theorem dX5_send_36 : decode cX5_send 36 = .ok (.ireturn, 1) := by decide +kernel
theorem dX5_steps_0 : decode cX5_steps 0 = .ok (.iconst 5, 1) := by decide +kernel
theorem dX5_steps_1 : decode cX5_steps 1 = .ok (.iload_n 1, 1) := by decide +kernel
theorem dX5_steps_2 : decode cX5_steps 2 = .ok (.imul, 1) := by decide +kernel
theorem dX5_steps_3 : decode cX5_steps 3 = .ok (.istore_n 2, 1) := by decide +kernel
theorem dX5_steps_4 : decode cX5_steps 4 = .ok (.aload_n 0, 1) := by decide +kernel
theorem dX5_steps_5 : decode cX5_steps 5 = .ok (.aload_n 0, 1) := by decide +kernel
theorem dX5_steps_6 : decode cX5_steps 6 = .ok (.getfield 29, 3) := by decide +kernel
theorem dX5_steps_9 : decode cX5_steps 9 = .ok (.iload_n 2, 1) := by decide +kernel
theorem dX5_steps_10 : decode cX5_steps 10 = .ok (.iconst 3, 1) := by decide +kernel
theorem dX5_steps_11 : decode cX5_steps 11 = .ok (.iadd, 1) := by decide +kernel
theorem dX5_steps_12 : decode cX5_steps 12 = .ok (.iaload, 1) := by decide +kernel
theorem dX5_steps_13 : decode cX5_steps 13 = .ok (.invokevirtual 120, 3) := by decide +kernel
theorem dX5_steps_16 : decode cX5_steps 16 = .ok (.istore_n 3, 1) := by decide +kernel
theorem dX5_steps_17 : decode cX5_steps 17 = .ok (.aload_n 0, 1) := by decide +kernel
theorem dX5_steps_18 : decode cX5_steps 18 = .ok (.getfield 29, 3) := by decide +kernel
theorem dX5_steps_21 : decode cX5_steps 21 = .ok (.iload_n 2, 1) := by decide +kernel
theorem dX5_steps_22 : decode cX5_steps 22 = .ok (.iconst 3, 1) := by decide +kernel
theorem dX5_steps_23 : decode cX5_steps 23 = .ok (.iadd, 1) := by decide +kernel
theorem dX5_steps_24 : decode cX5_steps 24 = .ok (.iaload, 1) := by decide +kernel
theorem dX5_steps_25 : decode cX5_steps 25 = .ok (.bipush 8, 2) := by decide +kernel
theorem dX5_steps_27 : decode cX5_steps 27 = .ok (.iadd, 1) := by decide +kernel
theorem dX5_steps_28 : decode cX5_steps 28 = .ok (.iconst 1, 1) := by decide +kernel
theorem dX5_steps_29 : decode cX5_steps 29 = .ok (.isub, 1) := by decide +kernel
theorem dX5_steps_30 : decode cX5_steps 30 = .ok (.bipush 8, 2) := by decide +kernel
theorem dX5_steps_32 : decode cX5_steps 32 = .ok (.irem, 1) := by decide +kernel
theorem dX5_steps_33 : decode cX5_steps 33 = .ok (.istore 4, 2) := by decide +kernel
theorem dX5_steps_35 : decode cX5_steps 35 = .ok (.aload_n 0, 1) := by decide +kernel
theorem dX5_steps_36 : decode cX5_steps 36 = .ok (.getfield 29, 3) := by decide +kernel
theorem dX5_steps_39 : decode cX5_steps 39 = .ok (.iload_n 2, 1) := by decide +kernel
theorem dX5_steps_40 : decode cX5_steps 40 = .ok (.iconst 4, 1) := by decide +kernel
theorem dX5_steps_41 : decode cX5_steps 41 = .ok (.iadd, 1) := by decide +kernel
theorem dX5_steps_42 : decode cX5_steps 42 = .ok (.dup2, 1) := by decide +kernel
theorem dX5_steps_43 : decode cX5_steps 43 = .ok (.iaload, 1) := by decide +kernel
theorem dX5_steps_44 : decode cX5_steps 44 = .ok (.iload_n 3, 1) := by decide +kernel
theorem dX5_steps_45 : decode cX5_steps 45 = .ok (.iconst (-1), 1) := by decide +kernel
theorem dX5_steps_46 : decode cX5_steps 46 = .ok (.if_icmp .ne 7, 3) := by decide +kernel
theorem dX5_steps_49 : decode cX5_steps 49 = .ok (.iconst 0, 1) := by decide +kernel
theorem dX5_steps_50 : decode cX5_steps 50 = .ok (.goto 6, 3) := by decide +kernel
theorem dX5_steps_53 : decode cX5_steps 53 = .ok (.iconst 1, 1) := by decide +kernel
theorem dX5_steps_54 : decode cX5_steps 54 = .ok (.iload_n 3, 1) := by decide +kernel
theorem dX5_steps_55 : decode cX5_steps 55 = .ok (.ishl, 1) := by decide +kernel
theorem dX5_steps_56 : decode cX5_steps 56 = .ok (.ior, 1) := by decide +kernel
theorem dX5_steps_57 : decode cX5_steps 57 = .ok (.iastore, 1) := by decide +kernel
theorem dX5_steps_58 : decode cX5_steps 58 = .ok (.iload_n 3, 1) := by decide +kernel
theorem dX5_steps_59 : decode cX5_steps 59 = .ok (.iconst (-1), 1) := by decide +kernel
theorem dX5_steps_60 : decode cX5_steps 60 = .ok (.if_icmp .ne 16, 3) := by decide +kernel
theorem dX5_steps_63 : decode cX5_steps 63 = .ok (.aload_n 0, 1) := by decide +kernel
theorem dX5_steps_64 : decode cX5_steps 64 = .ok (.getfield 29, 3) := by decide +kernel
theorem dX5_steps_67 : decode cX5_steps 67 = .ok (.iload_n 2, 1) := by decide +kernel
theorem dX5_steps_68 : decode cX5_steps 68 = .ok (.iconst 3, 1) := by decide +kernel
theorem dX5_steps_69 : decode cX5_steps 69 = .ok (.iadd, 1) := by decide +kernel
theorem dX5_steps_70 : decode cX5_steps 70 = .ok (.iload 4, 2) := by decide +kernel
theorem dX5_steps_72 : decode cX5_steps 72 = .ok (.iastore, 1) := by decide +kernel
theorem dX5_steps_73 : decode cX5_steps 73 = .ok (.goto 71, 3) := by decide +kernel
theorem dX5_steps_76 : decode cX5_steps 76 = .ok (.iload_n 3, 1) := by decide +kernel
theorem dX5_steps_77 : decode cX5_steps 77 = .ok (.aload_n 0, 1) := by decide +kernel
theorem dX5_steps_78 : decode cX5_steps 78 = .ok (.getfield 29, 3) := by decide +kernel
theorem dX5_steps_81 : decode cX5_steps 81 = .ok (.iload_n 2, 1) := by decide +kernel
theorem dX5_steps_82 : decode cX5_steps 82 = .ok (.iconst 2, 1) := by decide +kernel
theorem dX5_steps_83 : decode cX5_steps 83 = .ok (.iadd, 1) := by decide +kernel
theorem dX5_steps_84 : decode cX5_steps 84 = .ok (.iaload, 1) := by decide +kernel
theorem dX5_steps_85 : decode cX5_steps 85 = .ok (.if_icmp .ne 15, 3) := by decide +kernel
theorem dX5_steps_88 : decode cX5_steps 88 = .ok (.aload_n 0, 1) := by decide +kernel
theorem dX5_steps_89 : decode cX5_steps 89 = .ok (.getfield 29, 3) := by decide +kernel
theorem dX5_steps_92 : decode cX5_steps 92 = .ok (.iload_n 2, 1) := by decide +kernel
theorem dX5_steps_93 : decode cX5_steps 93 = .ok (.iconst 3, 1) := by decide +kernel
theorem dX5_steps_94 : decode cX5_steps 94 = .ok (.iadd, 1) := by decide +kernel
theorem dX5_steps_95 : decode cX5_steps 95 = .ok (.iconst (-1), 1) := by decide +kernel
theorem dX5_steps_96 : decode cX5_steps 96 = .ok (.iastore, 1) := by decide +kernel
theorem dX5_steps_97 : decode cX5_steps 97 = .ok (.goto 47, 3) := by decide +kernel
theorem dX5_steps_100 : decode cX5_steps 100 = .ok (.aload_n 0, 1) := by decide +kernel
theorem dX5_steps_101 : decode cX5_steps 101 = .ok (.iload_n 3, 1) := by decide +kernel
theorem dX5_steps_102 : decode cX5_steps 102 = .ok (.iload_n 1, 1) := by decide +kernel
theorem dX5_steps_103 : decode cX5_steps 103 = .ok (.invokevirtual 262, 3) := by decide +kernel
theorem dX5_steps_106 : decode cX5_steps 106 = .ok (.ifCond .eq 38, 3) := by decide +kernel
theorem dX5_steps_109 : decode cX5_steps 109 = .ok (.aload_n 0, 1) := by decide +kernel
theorem dX5_steps_110 : decode cX5_steps 110 = .ok (.getfield 29, 3) := by decide +kernel
theorem dX5_steps_113 : decode cX5_steps 113 = .ok (.iload_n 2, 1) := by decide +kernel
theorem dX5_steps_114 : decode cX5_steps 114 = .ok (.aload_n 0, 1) := by decide +kernel
theorem dX5_steps_115 : decode cX5_steps 115 = .ok (.getfield 29, 3) := by decide +kernel
theorem dX5_steps_118 : decode cX5_steps 118 = .ok (.iload_n 2, 1) := by decide +kernel
theorem dX5_steps_119 : decode cX5_steps 119 = .ok (.iaload, 1) := by decide +kernel
theorem dX5_steps_120 : decode cX5_steps 120 = .ok (.aload_n 0, 1) := by decide +kernel
theorem dX5_steps_121 : decode cX5_steps 121 = .ok (.iload_n 3, 1) := by decide +kernel
theorem dX5_steps_122 : decode cX5_steps 122 = .ok (.iload_n 1, 1) := by decide +kernel
theorem dX5_steps_123 : decode cX5_steps 123 = .ok (.invokevirtual 259, 3) := by decide +kernel
theorem dX5_steps_126 : decode cX5_steps 126 = .ok (.isub, 1) := by decide +kernel
theorem dX5_steps_127 : decode cX5_steps 127 = .ok (.iconst 0, 1) := by decide +kernel
theorem dX5_steps_128 : decode cX5_steps 128 = .ok (.bipush 99, 2) := by decide +kernel
theorem dX5_steps_130 : decode cX5_steps 130 = .ok (.invokestatic 249, 3) := by decide +kernel
theorem dX5_steps_133 : decode cX5_steps 133 = .ok (.iastore, 1) := by decide +kernel
theorem dX5_steps_134 : decode cX5_steps 134 = .ok (.aload_n 0, 1) := by decide +kernel
theorem dX5_steps_135 : decode cX5_steps 135 = .ok (.getfield 29, 3) := by decide +kernel
theorem dX5_steps_138 : decode cX5_steps 138 = .ok (.iload_n 2, 1) := by decide +kernel
theorem dX5_steps_139 : decode cX5_steps 139 = .ok (.iconst 3, 1) := by decide +kernel
theorem dX5_steps_140 : decode cX5_steps 140 = .ok (.iadd, 1) := by decide +kernel
theorem dX5_steps_141 : decode cX5_steps 141 = .ok (.iload 4, 2) := by decide +kernel
theorem dX5_steps_143 : decode cX5_steps 143 = .ok (.iastore, 1) := by decide +kernel
theorem dX5_steps_144 : decode cX5_steps 144 = .ok (.return_, 1) := by decide +kernel
theorem dX5_homeSet_0 : decode cX5_homeSet 0 = .ok (.iconst 0, 1) := by decide +kernel
theorem dX5_homeSet_1 : decode cX5_homeSet 1 = .ok (.istore_n 1, 1) := by decide +kernel
theorem dX5_homeSet_2 : decode cX5_homeSet 2 = .ok (.iconst 0, 1) := by decide +kernel
theorem dX5_homeSet_3 : decode cX5_homeSet 3 = .ok (.istore_n 2, 1) := by decide +kernel
theorem dX5_homeSet_4 : decode cX5_homeSet 4 = .ok (.iload_n 2, 1) := by decide +kernel
theorem dX5_homeSet_5 : decode cX5_homeSet 5 = .ok (.aload_n 0, 1) := by decide +kernel
theorem dX5_homeSet_6 : decode cX5_homeSet 6 = .ok (.getfield 80, 3) := by decide +kernel
theorem dX5_homeSet_9 : decode cX5_homeSet 9 = .ok (.if_icmp .ge 33, 3) := by decide +kernel
theorem dX5_homeSet_12 : decode cX5_homeSet 12 = .ok (.iload_n 1, 1) := by decide +kernel
theorem dX5_homeSet_13 : decode cX5_homeSet 13 = .ok (.aload_n 0, 1) := by decide +kernel
theorem dX5_homeSet_14 : decode cX5_homeSet 14 = .ok (.getfield 29, 3) := by decide +kernel
theorem dX5_homeSet_17 : decode cX5_homeSet 17 = .ok (.iconst 5, 1) := by decide +kernel
theorem dX5_homeSet_18 : decode cX5_homeSet 18 = .ok (.iload_n 2, 1) := by decide +kernel
theorem dX5_homeSet_19 : decode cX5_homeSet 19 = .ok (.imul, 1) := by decide +kernel
theorem dX5_homeSet_20 : decode cX5_homeSet 20 = .ok (.iconst 3, 1) := by decide +kernel
theorem dX5_homeSet_21 : decode cX5_homeSet 21 = .ok (.iadd, 1) := by decide +kernel
theorem dX5_homeSet_22 : decode cX5_homeSet 22 = .ok (.iaload, 1) := by decide +kernel
theorem dX5_homeSet_23 : decode cX5_homeSet 23 = .ok (.iconst (-1), 1) := by decide +kernel
theorem dX5_homeSet_24 : decode cX5_homeSet 24 = .ok (.if_icmp .ne 7, 3) := by decide +kernel
theorem dX5_homeSet_27 : decode cX5_homeSet 27 = .ok (.iconst 1, 1) := by decide +kernel
theorem dX5_homeSet_28 : decode cX5_homeSet 28 = .ok (.goto 4, 3) := by decide +kernel
theorem dX5_homeSet_31 : decode cX5_homeSet 31 = .ok (.iconst 0, 1) := by decide +kernel
theorem dX5_homeSet_32 : decode cX5_homeSet 32 = .ok (.iload_n 2, 1) := by decide +kernel
theorem dX5_homeSet_33 : decode cX5_homeSet 33 = .ok (.ishl, 1) := by decide +kernel
theorem dX5_homeSet_34 : decode cX5_homeSet 34 = .ok (.ior, 1) := by decide +kernel
theorem dX5_homeSet_35 : decode cX5_homeSet 35 = .ok (.istore_n 1, 1) := by decide +kernel
theorem dX5_homeSet_36 : decode cX5_homeSet 36 = .ok (.iinc 2 1, 3) := by decide +kernel
theorem dX5_homeSet_39 : decode cX5_homeSet 39 = .ok (.goto (-35), 3) := by decide +kernel
theorem dX5_homeSet_42 : decode cX5_homeSet 42 = .ok (.iload_n 1, 1) := by decide +kernel
theorem dX5_homeSet_43 : decode cX5_homeSet 43 = .ok (.ireturn, 1) := by decide +kernel
theorem dX5_homeMany_0 : decode cX5_homeMany 0 = .ok (.aload_n 0, 1) := by decide +kernel
theorem dX5_homeMany_1 : decode cX5_homeMany 1 = .ok (.invokevirtual 272, 3) := by decide +kernel
theorem dX5_homeMany_4 : decode cX5_homeMany 4 = .ok (.invokestatic 246, 3) := by decide +kernel
theorem dX5_homeMany_7 : decode cX5_homeMany 7 = .ok (.ireturn, 1) := by decide +kernel
theorem dX5_passes_0 : decode cX5_passes 0 = .ok (.iconst 0, 1) := by decide +kernel
theorem dX5_passes_1 : decode cX5_passes 1 = .ok (.istore_n 1, 1) := by decide +kernel
theorem dX5_passes_2 : decode cX5_passes 2 = .ok (.iload_n 1, 1) := by decide +kernel
theorem dX5_passes_3 : decode cX5_passes 3 = .ok (.aload_n 0, 1) := by decide +kernel
theorem dX5_passes_4 : decode cX5_passes 4 = .ok (.getfield 80, 3) := by decide +kernel
theorem dX5_passes_7 : decode cX5_passes 7 = .ok (.if_icmp .ge 28, 3) := by decide +kernel
theorem dX5_passes_10 : decode cX5_passes 10 = .ok (.aload_n 0, 1) := by decide +kernel
theorem dX5_passes_11 : decode cX5_passes 11 = .ok (.getfield 29, 3) := by decide +kernel
theorem dX5_passes_14 : decode cX5_passes 14 = .ok (.iconst 5, 1) := by decide +kernel
theorem dX5_passes_15 : decode cX5_passes 15 = .ok (.iload_n 1, 1) := by decide +kernel
theorem dX5_passes_16 : decode cX5_passes 16 = .ok (.imul, 1) := by decide +kernel
theorem dX5_passes_17 : decode cX5_passes 17 = .ok (.iconst 3, 1) := by decide +kernel
theorem dX5_passes_18 : decode cX5_passes 18 = .ok (.iadd, 1) := by decide +kernel
theorem dX5_passes_19 : decode cX5_passes 19 = .ok (.iaload, 1) := by decide +kernel
theorem dX5_passes_20 : decode cX5_passes 20 = .ok (.iconst (-1), 1) := by decide +kernel
theorem dX5_passes_21 : decode cX5_passes 21 = .ok (.if_icmp .eq 8, 3) := by decide +kernel
theorem dX5_passes_24 : decode cX5_passes 24 = .ok (.aload_n 0, 1) := by decide +kernel
theorem dX5_passes_25 : decode cX5_passes 25 = .ok (.iload_n 1, 1) := by decide +kernel
theorem dX5_passes_26 : decode cX5_passes 26 = .ok (.invokevirtual 275, 3) := by decide +kernel
theorem dX5_passes_29 : decode cX5_passes 29 = .ok (.iinc 1 1, 3) := by decide +kernel
theorem dX5_passes_32 : decode cX5_passes 32 = .ok (.goto (-30), 3) := by decide +kernel
theorem dX5_passes_35 : decode cX5_passes 35 = .ok (.aload_n 0, 1) := by decide +kernel
theorem dX5_passes_36 : decode cX5_passes 36 = .ok (.dup, 1) := by decide +kernel
theorem dX5_passes_37 : decode cX5_passes 37 = .ok (.getfield 108, 3) := by decide +kernel
theorem dX5_passes_40 : decode cX5_passes 40 = .ok (.iconst 1, 1) := by decide +kernel
theorem dX5_passes_41 : decode cX5_passes 41 = .ok (.iadd, 1) := by decide +kernel
theorem dX5_passes_42 : decode cX5_passes 42 = .ok (.putfield 108, 3) := by decide +kernel
theorem dX5_passes_45 : decode cX5_passes 45 = .ok (.return_, 1) := by decide +kernel
theorem dX5_day_0 : decode cX5_day 0 = .ok (.aload_n 0, 1) := by decide +kernel
theorem dX5_day_1 : decode cX5_day 1 = .ok (.getfield 108, 3) := by decide +kernel
theorem dX5_day_4 : decode cX5_day 4 = .ok (.sipush 999, 3) := by decide +kernel
theorem dX5_day_7 : decode cX5_day 7 = .ok (.if_icmp .ne 6, 3) := by decide +kernel
theorem dX5_day_10 : decode cX5_day 10 = .ok (.bipush (-3), 2) := by decide +kernel
theorem dX5_day_12 : decode cX5_day 12 = .ok (.ireturn, 1) := by decide +kernel
theorem dX5_day_13 : decode cX5_day 13 = .ok (.aload_n 0, 1) := by decide +kernel
theorem dX5_day_14 : decode cX5_day 14 = .ok (.invokevirtual 272, 3) := by decide +kernel
theorem dX5_day_17 : decode cX5_day 17 = .ok (.istore_n 1, 1) := by decide +kernel
theorem dX5_day_18 : decode cX5_day 18 = .ok (.aload_n 0, 1) := by decide +kernel
theorem dX5_day_19 : decode cX5_day 19 = .ok (.invokevirtual 279, 3) := by decide +kernel
theorem dX5_day_22 : decode cX5_day 22 = .ok (.aload_n 0, 1) := by decide +kernel
theorem dX5_day_23 : decode cX5_day 23 = .ok (.invokevirtual 272, 3) := by decide +kernel
theorem dX5_day_26 : decode cX5_day 26 = .ok (.iload_n 1, 1) := by decide +kernel
theorem dX5_day_27 : decode cX5_day 27 = .ok (.iconst (-1), 1) := by decide +kernel
theorem dX5_day_28 : decode cX5_day 28 = .ok (.ixor, 1) := by decide +kernel
theorem dX5_day_29 : decode cX5_day 29 = .ok (.iand, 1) := by decide +kernel
theorem dX5_day_30 : decode cX5_day 30 = .ok (.ireturn, 1) := by decide +kernel
theorem dX5_laysAside_0 : decode cX5_laysAside 0 = .ok (.iconst 0, 1) := by decide +kernel
theorem dX5_laysAside_1 : decode cX5_laysAside 1 = .ok (.istore_n 1, 1) := by decide +kernel
theorem dX5_laysAside_2 : decode cX5_laysAside 2 = .ok (.iload_n 1, 1) := by decide +kernel
theorem dX5_laysAside_3 : decode cX5_laysAside 3 = .ok (.bipush 40, 2) := by decide +kernel
theorem dX5_laysAside_5 : decode cX5_laysAside 5 = .ok (.if_icmp .ge 21, 3) := by decide +kernel
theorem dX5_laysAside_8 : decode cX5_laysAside 8 = .ok (.aload_n 0, 1) := by decide +kernel
theorem dX5_laysAside_9 : decode cX5_laysAside 9 = .ok (.getfield 32, 3) := by decide +kernel
theorem dX5_laysAside_12 : decode cX5_laysAside 12 = .ok (.iload_n 1, 1) := by decide +kernel
theorem dX5_laysAside_13 : decode cX5_laysAside 13 = .ok (.aload_n 0, 1) := by decide +kernel
theorem dX5_laysAside_14 : decode cX5_laysAside 14 = .ok (.getfield 29, 3) := by decide +kernel
theorem dX5_laysAside_17 : decode cX5_laysAside 17 = .ok (.iload_n 1, 1) := by decide +kernel
theorem dX5_laysAside_18 : decode cX5_laysAside 18 = .ok (.iaload, 1) := by decide +kernel
theorem dX5_laysAside_19 : decode cX5_laysAside 19 = .ok (.iastore, 1) := by decide +kernel
theorem dX5_laysAside_20 : decode cX5_laysAside 20 = .ok (.iinc 1 1, 3) := by decide +kernel
theorem dX5_laysAside_23 : decode cX5_laysAside 23 = .ok (.goto (-21), 3) := by decide +kernel
theorem dX5_laysAside_26 : decode cX5_laysAside 26 = .ok (.aload_n 0, 1) := by decide +kernel
theorem dX5_laysAside_27 : decode cX5_laysAside 27 = .ok (.getfield 32, 3) := by decide +kernel
theorem dX5_laysAside_30 : decode cX5_laysAside 30 = .ok (.bipush 40, 2) := by decide +kernel
theorem dX5_laysAside_32 : decode cX5_laysAside 32 = .ok (.aload_n 0, 1) := by decide +kernel
theorem dX5_laysAside_33 : decode cX5_laysAside 33 = .ok (.getfield 80, 3) := by decide +kernel
theorem dX5_laysAside_36 : decode cX5_laysAside 36 = .ok (.iastore, 1) := by decide +kernel
theorem dX5_laysAside_37 : decode cX5_laysAside 37 = .ok (.aload_n 0, 1) := by decide +kernel
theorem dX5_laysAside_38 : decode cX5_laysAside 38 = .ok (.getfield 32, 3) := by decide +kernel
theorem dX5_laysAside_41 : decode cX5_laysAside 41 = .ok (.bipush 41, 2) := by decide +kernel
theorem dX5_laysAside_43 : decode cX5_laysAside 43 = .ok (.aload_n 0, 1) := by decide +kernel
theorem dX5_laysAside_44 : decode cX5_laysAside 44 = .ok (.getfield 108, 3) := by decide +kernel
theorem dX5_laysAside_47 : decode cX5_laysAside 47 = .ok (.iastore, 1) := by decide +kernel
theorem dX5_laysAside_48 : decode cX5_laysAside 48 = .ok (.return_, 1) := by decide +kernel
theorem dX5_laysBack_0 : decode cX5_laysBack 0 = .ok (.iconst 0, 1) := by decide +kernel
theorem dX5_laysBack_1 : decode cX5_laysBack 1 = .ok (.istore_n 1, 1) := by decide +kernel
theorem dX5_laysBack_2 : decode cX5_laysBack 2 = .ok (.iload_n 1, 1) := by decide +kernel
theorem dX5_laysBack_3 : decode cX5_laysBack 3 = .ok (.bipush 40, 2) := by decide +kernel
theorem dX5_laysBack_5 : decode cX5_laysBack 5 = .ok (.if_icmp .ge 21, 3) := by decide +kernel
theorem dX5_laysBack_8 : decode cX5_laysBack 8 = .ok (.aload_n 0, 1) := by decide +kernel
theorem dX5_laysBack_9 : decode cX5_laysBack 9 = .ok (.getfield 29, 3) := by decide +kernel
theorem dX5_laysBack_12 : decode cX5_laysBack 12 = .ok (.iload_n 1, 1) := by decide +kernel
theorem dX5_laysBack_13 : decode cX5_laysBack 13 = .ok (.aload_n 0, 1) := by decide +kernel
theorem dX5_laysBack_14 : decode cX5_laysBack 14 = .ok (.getfield 32, 3) := by decide +kernel
theorem dX5_laysBack_17 : decode cX5_laysBack 17 = .ok (.iload_n 1, 1) := by decide +kernel
theorem dX5_laysBack_18 : decode cX5_laysBack 18 = .ok (.iaload, 1) := by decide +kernel
theorem dX5_laysBack_19 : decode cX5_laysBack 19 = .ok (.iastore, 1) := by decide +kernel
theorem dX5_laysBack_20 : decode cX5_laysBack 20 = .ok (.iinc 1 1, 3) := by decide +kernel
theorem dX5_laysBack_23 : decode cX5_laysBack 23 = .ok (.goto (-21), 3) := by decide +kernel
theorem dX5_laysBack_26 : decode cX5_laysBack 26 = .ok (.aload_n 0, 1) := by decide +kernel
theorem dX5_laysBack_27 : decode cX5_laysBack 27 = .ok (.aload_n 0, 1) := by decide +kernel
theorem dX5_laysBack_28 : decode cX5_laysBack 28 = .ok (.getfield 32, 3) := by decide +kernel
theorem dX5_laysBack_31 : decode cX5_laysBack 31 = .ok (.bipush 40, 2) := by decide +kernel
theorem dX5_laysBack_33 : decode cX5_laysBack 33 = .ok (.iaload, 1) := by decide +kernel
theorem dX5_laysBack_34 : decode cX5_laysBack 34 = .ok (.putfield 80, 3) := by decide +kernel
theorem dX5_laysBack_37 : decode cX5_laysBack 37 = .ok (.aload_n 0, 1) := by decide +kernel
theorem dX5_laysBack_38 : decode cX5_laysBack 38 = .ok (.aload_n 0, 1) := by decide +kernel
theorem dX5_laysBack_39 : decode cX5_laysBack 39 = .ok (.getfield 32, 3) := by decide +kernel
theorem dX5_laysBack_42 : decode cX5_laysBack 42 = .ok (.bipush 41, 2) := by decide +kernel
theorem dX5_laysBack_44 : decode cX5_laysBack 44 = .ok (.iaload, 1) := by decide +kernel
theorem dX5_laysBack_45 : decode cX5_laysBack 45 = .ok (.putfield 108, 3) := by decide +kernel
theorem dX5_laysBack_48 : decode cX5_laysBack 48 = .ok (.return_, 1) := by decide +kernel
theorem dX5_go_0 : decode cX5_go 0 = .ok (.iconst 0, 1) := by decide +kernel
theorem dX5_go_1 : decode cX5_go 1 = .ok (.istore_n 2, 1) := by decide +kernel
theorem dX5_go_2 : decode cX5_go 2 = .ok (.iload_n 2, 1) := by decide +kernel
theorem dX5_go_3 : decode cX5_go 3 = .ok (.iload_n 1, 1) := by decide +kernel
theorem dX5_go_4 : decode cX5_go 4 = .ok (.if_icmp .ge 13, 3) := by decide +kernel
theorem dX5_go_7 : decode cX5_go 7 = .ok (.aload_n 0, 1) := by decide +kernel
theorem dX5_go_8 : decode cX5_go 8 = .ok (.invokevirtual 279, 3) := by decide +kernel
theorem dX5_go_11 : decode cX5_go 11 = .ok (.iinc 2 1, 3) := by decide +kernel
theorem dX5_go_14 : decode cX5_go 14 = .ok (.goto (-12), 3) := by decide +kernel
theorem dX5_go_17 : decode cX5_go 17 = .ok (.return_, 1) := by decide +kernel
theorem dX5_homeBehind_0 : decode cX5_homeBehind 0 = .ok (.aload_n 0, 1) := by decide +kernel
theorem dX5_homeBehind_1 : decode cX5_homeBehind 1 = .ok (.invokevirtual 282, 3) := by decide +kernel
theorem dX5_homeBehind_4 : decode cX5_homeBehind 4 = .ok (.aload_n 0, 1) := by decide +kernel
theorem dX5_homeBehind_5 : decode cX5_homeBehind 5 = .ok (.iload_n 1, 1) := by decide +kernel
theorem dX5_homeBehind_6 : decode cX5_homeBehind 6 = .ok (.invokevirtual 285, 3) := by decide +kernel
theorem dX5_homeBehind_9 : decode cX5_homeBehind 9 = .ok (.aload_n 0, 1) := by decide +kernel
theorem dX5_homeBehind_10 : decode cX5_homeBehind 10 = .ok (.invokevirtual 288, 3) := by decide +kernel
theorem dX5_homeBehind_13 : decode cX5_homeBehind 13 = .ok (.istore_n 2, 1) := by decide +kernel
theorem dX5_homeBehind_14 : decode cX5_homeBehind 14 = .ok (.aload_n 0, 1) := by decide +kernel
theorem dX5_homeBehind_15 : decode cX5_homeBehind 15 = .ok (.invokevirtual 291, 3) := by decide +kernel
theorem dX5_homeBehind_18 : decode cX5_homeBehind 18 = .ok (.iload_n 2, 1) := by decide +kernel
theorem dX5_homeBehind_19 : decode cX5_homeBehind 19 = .ok (.ireturn, 1) := by decide +kernel
theorem dX5_run_0 : decode cX5_run 0 = .ok (.aload_n 0, 1) := by decide +kernel
theorem dX5_run_1 : decode cX5_run 1 = .ok (.iload_n 1, 1) := by decide +kernel
theorem dX5_run_2 : decode cX5_run 2 = .ok (.invokevirtual 87, 3) := by decide +kernel
theorem dX5_run_5 : decode cX5_run 5 = .ok (.ifCond .eq 27, 3) := by decide +kernel
theorem dX5_run_8 : decode cX5_run 8 = .ok (.iload_n 2, 1) := by decide +kernel
theorem dX5_run_9 : decode cX5_run 9 = .ok (.i2l, 1) := by decide +kernel
theorem dX5_run_10 : decode cX5_run 10 = .ok (.lconst 0, 1) := by decide +kernel
theorem dX5_run_11 : decode cX5_run 11 = .ok (.ldc2_w 294, 3) := by decide +kernel
theorem dX5_run_14 : decode cX5_run 14 = .ok (.invokestatic 76, 3) := by decide +kernel
theorem dX5_run_17 : decode cX5_run 17 = .ok (.ifCond .eq 15, 3) := by decide +kernel
theorem dX5_run_20 : decode cX5_run 20 = .ok (.iload_n 3, 1) := by decide +kernel
theorem dX5_run_21 : decode cX5_run 21 = .ok (.i2l, 1) := by decide +kernel
theorem dX5_run_22 : decode cX5_run 22 = .ok (.lconst 0, 1) := by decide +kernel
theorem dX5_run_23 : decode cX5_run 23 = .ok (.ldc2_w 90, 3) := by decide +kernel
theorem dX5_run_26 : decode cX5_run 26 = .ok (.invokestatic 76, 3) := by decide +kernel
theorem dX5_run_29 : decode cX5_run 29 = .ok (.ifCond .ne 6, 3) := by decide +kernel
theorem dX5_run_32 : decode cX5_run 32 = .ok (.bipush (-2), 2) := by decide +kernel
theorem dX5_run_34 : decode cX5_run 34 = .ok (.ireturn, 1) := by decide +kernel
theorem dX5_run_35 : decode cX5_run 35 = .ok (.aload_n 0, 1) := by decide +kernel
theorem dX5_run_36 : decode cX5_run 36 = .ok (.invokevirtual 282, 3) := by decide +kernel
theorem dX5_run_39 : decode cX5_run 39 = .ok (.aload_n 0, 1) := by decide +kernel
theorem dX5_run_40 : decode cX5_run 40 = .ok (.iload_n 2, 1) := by decide +kernel
theorem dX5_run_41 : decode cX5_run 41 = .ok (.invokevirtual 285, 3) := by decide +kernel
theorem dX5_run_44 : decode cX5_run 44 = .ok (.iconst 5, 1) := by decide +kernel
theorem dX5_run_45 : decode cX5_run 45 = .ok (.iload_n 1, 1) := by decide +kernel
theorem dX5_run_46 : decode cX5_run 46 = .ok (.imul, 1) := by decide +kernel
theorem dX5_run_47 : decode cX5_run 47 = .ok (.istore 4, 2) := by decide +kernel
theorem dX5_run_49 : decode cX5_run 49 = .ok (.iload_n 3, 1) := by decide +kernel
theorem dX5_run_50 : decode cX5_run 50 = .ok (.ifCond .ne 15, 3) := by decide +kernel
theorem dX5_run_53 : decode cX5_run 53 = .ok (.aload_n 0, 1) := by decide +kernel
theorem dX5_run_54 : decode cX5_run 54 = .ok (.getfield 29, 3) := by decide +kernel
theorem dX5_run_57 : decode cX5_run 57 = .ok (.iload 4, 2) := by decide +kernel
theorem dX5_run_59 : decode cX5_run 59 = .ok (.iconst 3, 1) := by decide +kernel
theorem dX5_run_60 : decode cX5_run 60 = .ok (.iadd, 1) := by decide +kernel
theorem dX5_run_61 : decode cX5_run 61 = .ok (.iaload, 1) := by decide +kernel
theorem dX5_run_62 : decode cX5_run 62 = .ok (.goto 39, 3) := by decide +kernel
theorem dX5_run_65 : decode cX5_run 65 = .ok (.iload_n 3, 1) := by decide +kernel
theorem dX5_run_66 : decode cX5_run 66 = .ok (.iconst 1, 1) := by decide +kernel
theorem dX5_run_67 : decode cX5_run 67 = .ok (.if_icmp .ne 13, 3) := by decide +kernel
theorem dX5_run_70 : decode cX5_run 70 = .ok (.aload_n 0, 1) := by decide +kernel
theorem dX5_run_71 : decode cX5_run 71 = .ok (.getfield 29, 3) := by decide +kernel
theorem dX5_run_74 : decode cX5_run 74 = .ok (.iload 4, 2) := by decide +kernel
theorem dX5_run_76 : decode cX5_run 76 = .ok (.iaload, 1) := by decide +kernel
theorem dX5_run_77 : decode cX5_run 77 = .ok (.goto 24, 3) := by decide +kernel
theorem dX5_run_80 : decode cX5_run 80 = .ok (.iload_n 3, 1) := by decide +kernel
theorem dX5_run_81 : decode cX5_run 81 = .ok (.iconst 2, 1) := by decide +kernel
theorem dX5_run_82 : decode cX5_run 82 = .ok (.if_icmp .ne 15, 3) := by decide +kernel
theorem dX5_run_85 : decode cX5_run 85 = .ok (.aload_n 0, 1) := by decide +kernel
theorem dX5_run_86 : decode cX5_run 86 = .ok (.getfield 29, 3) := by decide +kernel
theorem dX5_run_89 : decode cX5_run 89 = .ok (.iload 4, 2) := by decide +kernel
theorem dX5_run_91 : decode cX5_run 91 = .ok (.iconst 4, 1) := by decide +kernel
theorem dX5_run_92 : decode cX5_run 92 = .ok (.iadd, 1) := by decide +kernel
theorem dX5_run_93 : decode cX5_run 93 = .ok (.iaload, 1) := by decide +kernel
theorem dX5_run_94 : decode cX5_run 94 = .ok (.goto 7, 3) := by decide +kernel
theorem dX5_run_97 : decode cX5_run 97 = .ok (.aload_n 0, 1) := by decide +kernel
theorem dX5_run_98 : decode cX5_run 98 = .ok (.invokevirtual 288, 3) := by decide +kernel
theorem dX5_run_101 : decode cX5_run 101 = .ok (.istore 5, 2) := by decide +kernel
theorem dX5_run_103 : decode cX5_run 103 = .ok (.aload_n 0, 1) := by decide +kernel
theorem dX5_run_104 : decode cX5_run 104 = .ok (.invokevirtual 291, 3) := by decide +kernel
theorem dX5_run_107 : decode cX5_run 107 = .ok (.iload 5, 2) := by decide +kernel
theorem dX5_run_109 : decode cX5_run 109 = .ok (.ireturn, 1) := by decide +kernel
theorem dX5_comes_0 : decode cX5_comes 0 = .ok (.aload_n 0, 1) := by decide +kernel
theorem dX5_comes_1 : decode cX5_comes 1 = .ok (.iload_n 1, 1) := by decide +kernel
theorem dX5_comes_2 : decode cX5_comes 2 = .ok (.invokevirtual 87, 3) := by decide +kernel
theorem dX5_comes_5 : decode cX5_comes 5 = .ok (.ifCond .ne 6, 3) := by decide +kernel
theorem dX5_comes_8 : decode cX5_comes 8 = .ok (.bipush (-2), 2) := by decide +kernel
theorem dX5_comes_10 : decode cX5_comes 10 = .ok (.ireturn, 1) := by decide +kernel
theorem dX5_comes_11 : decode cX5_comes 11 = .ok (.aload_n 0, 1) := by decide +kernel
theorem dX5_comes_12 : decode cX5_comes 12 = .ok (.invokevirtual 282, 3) := by decide +kernel
theorem dX5_comes_15 : decode cX5_comes 15 = .ok (.iconst 0, 1) := by decide +kernel
theorem dX5_comes_16 : decode cX5_comes 16 = .ok (.istore_n 2, 1) := by decide +kernel
theorem dX5_comes_17 : decode cX5_comes 17 = .ok (.iload_n 2, 1) := by decide +kernel
theorem dX5_comes_18 : decode cX5_comes 18 = .ok (.bipush 60, 2) := by decide +kernel
theorem dX5_comes_20 : decode cX5_comes 20 = .ok (.if_icmp .gt 27, 3) := by decide +kernel
theorem dX5_comes_23 : decode cX5_comes 23 = .ok (.aload_n 0, 1) := by decide +kernel
theorem dX5_comes_24 : decode cX5_comes 24 = .ok (.getfield 29, 3) := by decide +kernel
theorem dX5_comes_27 : decode cX5_comes 27 = .ok (.iconst 5, 1) := by decide +kernel
theorem dX5_comes_28 : decode cX5_comes 28 = .ok (.iload_n 1, 1) := by decide +kernel
theorem dX5_comes_29 : decode cX5_comes 29 = .ok (.imul, 1) := by decide +kernel
theorem dX5_comes_30 : decode cX5_comes 30 = .ok (.iconst 3, 1) := by decide +kernel
theorem dX5_comes_31 : decode cX5_comes 31 = .ok (.iadd, 1) := by decide +kernel
theorem dX5_comes_32 : decode cX5_comes 32 = .ok (.iaload, 1) := by decide +kernel
theorem dX5_comes_33 : decode cX5_comes 33 = .ok (.iconst (-1), 1) := by decide +kernel
theorem dX5_comes_34 : decode cX5_comes 34 = .ok (.if_icmp .eq 13, 3) := by decide +kernel
theorem dX5_comes_37 : decode cX5_comes 37 = .ok (.aload_n 0, 1) := by decide +kernel
theorem dX5_comes_38 : decode cX5_comes 38 = .ok (.invokevirtual 279, 3) := by decide +kernel
theorem dX5_comes_41 : decode cX5_comes 41 = .ok (.iinc 2 1, 3) := by decide +kernel
theorem dX5_comes_44 : decode cX5_comes 44 = .ok (.goto (-27), 3) := by decide +kernel
theorem dX5_comes_47 : decode cX5_comes 47 = .ok (.aload_n 0, 1) := by decide +kernel
theorem dX5_comes_48 : decode cX5_comes 48 = .ok (.invokevirtual 291, 3) := by decide +kernel
theorem dX5_comes_51 : decode cX5_comes 51 = .ok (.iload_n 2, 1) := by decide +kernel
theorem dX5_comes_52 : decode cX5_comes 52 = .ok (.bipush 60, 2) := by decide +kernel
theorem dX5_comes_54 : decode cX5_comes 54 = .ok (.if_icmp .le 7, 3) := by decide +kernel
theorem dX5_comes_57 : decode cX5_comes 57 = .ok (.iconst (-1), 1) := by decide +kernel
theorem dX5_comes_58 : decode cX5_comes 58 = .ok (.goto 4, 3) := by decide +kernel
theorem dX5_comes_61 : decode cX5_comes 61 = .ok (.iload_n 2, 1) := by decide +kernel
theorem dX5_comes_62 : decode cX5_comes 62 = .ok (.ireturn, 1) := by decide +kernel
theorem dX5_homeBySlip_0 : decode cX5_homeBySlip 0 = .ok (.aload_n 0, 1) := by decide +kernel
theorem dX5_homeBySlip_1 : decode cX5_homeBySlip 1 = .ok (.invokevirtual 282, 3) := by decide +kernel
theorem dX5_homeBySlip_4 : decode cX5_homeBySlip 4 = .ok (.iconst 0, 1) := by decide +kernel
theorem dX5_homeBySlip_5 : decode cX5_homeBySlip 5 = .ok (.istore_n 3, 1) := by decide +kernel
theorem dX5_homeBySlip_6 : decode cX5_homeBySlip 6 = .ok (.iload_n 3, 1) := by decide +kernel
theorem dX5_homeBySlip_7 : decode cX5_homeBySlip 7 = .ok (.aload_n 0, 1) := by decide +kernel
theorem dX5_homeBySlip_8 : decode cX5_homeBySlip 8 = .ok (.getfield 80, 3) := by decide +kernel
theorem dX5_homeBySlip_11 : decode cX5_homeBySlip 11 = .ok (.if_icmp .ge 63, 3) := by decide +kernel
theorem dX5_homeBySlip_14 : decode cX5_homeBySlip 14 = .ok (.iconst 5, 1) := by decide +kernel
theorem dX5_homeBySlip_15 : decode cX5_homeBySlip 15 = .ok (.iload_n 3, 1) := by decide +kernel
theorem dX5_homeBySlip_16 : decode cX5_homeBySlip 16 = .ok (.imul, 1) := by decide +kernel
theorem dX5_homeBySlip_17 : decode cX5_homeBySlip 17 = .ok (.istore 4, 2) := by decide +kernel
theorem dX5_homeBySlip_19 : decode cX5_homeBySlip 19 = .ok (.aload_n 0, 1) := by decide +kernel
theorem dX5_homeBySlip_20 : decode cX5_homeBySlip 20 = .ok (.getfield 29, 3) := by decide +kernel
theorem dX5_homeBySlip_23 : decode cX5_homeBySlip 23 = .ok (.iload 4, 2) := by decide +kernel
theorem dX5_homeBySlip_25 : decode cX5_homeBySlip 25 = .ok (.iconst 3, 1) := by decide +kernel
theorem dX5_homeBySlip_26 : decode cX5_homeBySlip 26 = .ok (.iadd, 1) := by decide +kernel
theorem dX5_homeBySlip_27 : decode cX5_homeBySlip 27 = .ok (.aload_n 0, 1) := by decide +kernel
theorem dX5_homeBySlip_28 : decode cX5_homeBySlip 28 = .ok (.getfield 29, 3) := by decide +kernel
theorem dX5_homeBySlip_31 : decode cX5_homeBySlip 31 = .ok (.iload 4, 2) := by decide +kernel
theorem dX5_homeBySlip_33 : decode cX5_homeBySlip 33 = .ok (.iconst 3, 1) := by decide +kernel
theorem dX5_homeBySlip_34 : decode cX5_homeBySlip 34 = .ok (.iadd, 1) := by decide +kernel
theorem dX5_homeBySlip_35 : decode cX5_homeBySlip 35 = .ok (.iaload, 1) := by decide +kernel
theorem dX5_homeBySlip_36 : decode cX5_homeBySlip 36 = .ok (.iconst (-1), 1) := by decide +kernel
theorem dX5_homeBySlip_37 : decode cX5_homeBySlip 37 = .ok (.if_icmp .ne 7, 3) := by decide +kernel
theorem dX5_homeBySlip_40 : decode cX5_homeBySlip 40 = .ok (.iconst (-1), 1) := by decide +kernel
theorem dX5_homeBySlip_41 : decode cX5_homeBySlip 41 = .ok (.goto 26, 3) := by decide +kernel
theorem dX5_homeBySlip_44 : decode cX5_homeBySlip 44 = .ok (.aload_n 0, 1) := by decide +kernel
theorem dX5_homeBySlip_45 : decode cX5_homeBySlip 45 = .ok (.getfield 26, 3) := by decide +kernel
theorem dX5_homeBySlip_48 : decode cX5_homeBySlip 48 = .ok (.iconst 3, 1) := by decide +kernel
theorem dX5_homeBySlip_49 : decode cX5_homeBySlip 49 = .ok (.aload_n 0, 1) := by decide +kernel
theorem dX5_homeBySlip_50 : decode cX5_homeBySlip 50 = .ok (.getfield 29, 3) := by decide +kernel
theorem dX5_homeBySlip_53 : decode cX5_homeBySlip 53 = .ok (.iload 4, 2) := by decide +kernel
