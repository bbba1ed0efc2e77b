theorem dX4_inLowestTerms_36 : decode cX4_inLowestTerms 36 = .ok (.goto (-28), 3) := by decide +kernel
theorem dX4_inLowestTerms_39 : decode cX4_inLowestTerms 39 = .ok (.iload_n 3, 1) := by decide +kernel
theorem dX4_inLowestTerms_40 : decode cX4_inLowestTerms 40 = .ok (.ifCond .ne 7, 3) := by decide +kernel
theorem dX4_inLowestTerms_43 : decode cX4_inLowestTerms 43 = .ok (.ldc2_w 214, 3) := by decide +kernel
theorem dX4_inLowestTerms_46 : decode cX4_inLowestTerms 46 = .ok (.lreturn, 1) := by decide +kernel
theorem dX4_inLowestTerms_47 : decode cX4_inLowestTerms 47 = .ok (.iload_n 2, 1) := by decide +kernel
theorem dX4_inLowestTerms_48 : decode cX4_inLowestTerms 48 = .ok (.ifCond .ne 10, 3) := by decide +kernel
theorem dX4_inLowestTerms_51 : decode cX4_inLowestTerms 51 = .ok (.iload_n 0, 1) := by decide +kernel
theorem dX4_inLowestTerms_52 : decode cX4_inLowestTerms 52 = .ok (.iload_n 3, 1) := by decide +kernel
theorem dX4_inLowestTerms_53 : decode cX4_inLowestTerms 53 = .ok (.idiv, 1) := by decide +kernel
theorem dX4_inLowestTerms_54 : decode cX4_inLowestTerms 54 = .ok (.i2l, 1) := by decide +kernel
theorem dX4_inLowestTerms_55 : decode cX4_inLowestTerms 55 = .ok (.goto 7, 3) := by decide +kernel
theorem dX4_inLowestTerms_58 : decode cX4_inLowestTerms 58 = .ok (.iload_n 1, 1) := by decide +kernel
theorem dX4_inLowestTerms_59 : decode cX4_inLowestTerms 59 = .ok (.iload_n 3, 1) := by decide +kernel
theorem dX4_inLowestTerms_60 : decode cX4_inLowestTerms 60 = .ok (.idiv, 1) := by decide +kernel
theorem dX4_inLowestTerms_61 : decode cX4_inLowestTerms 61 = .ok (.i2l, 1) := by decide +kernel
theorem dX4_inLowestTerms_62 : decode cX4_inLowestTerms 62 = .ok (.lreturn, 1) := by decide +kernel
theorem dX4_tells_0 : decode cX4_tells 0 = .ok (.aload_n 0, 1) := by decide +kernel
theorem dX4_tells_1 : decode cX4_tells 1 = .ok (.iload_n 1, 1) := by decide +kernel
theorem dX4_tells_2 : decode cX4_tells 2 = .ok (.invokevirtual 228, 3) := by decide +kernel
theorem dX4_tells_5 : decode cX4_tells 5 = .ok (.astore 5, 2) := by decide +kernel
theorem dX4_tells_7 : decode cX4_tells 7 = .ok (.aload 5, 2) := by decide +kernel
theorem dX4_tells_9 : decode cX4_tells 9 = .ok (.ifnull 37, 3) := by decide +kernel
theorem dX4_tells_12 : decode cX4_tells 12 = .ok (.aload_n 0, 1) := by decide +kernel
theorem dX4_tells_13 : decode cX4_tells 13 = .ok (.getfield 38, 3) := by decide +kernel
theorem dX4_tells_16 : decode cX4_tells 16 = .ok (.iload_n 2, 1) := by decide +kernel
theorem dX4_tells_17 : decode cX4_tells 17 = .ok (.invokevirtual 98, 3) := by decide +kernel
theorem dX4_tells_20 : decode cX4_tells 20 = .ok (.ifCond .eq 26, 3) := by decide +kernel
theorem dX4_tells_23 : decode cX4_tells 23 = .ok (.aload_n 0, 1) := by decide +kernel
theorem dX4_tells_24 : decode cX4_tells 24 = .ok (.getfield 38, 3) := by decide +kernel
theorem dX4_tells_27 : decode cX4_tells 27 = .ok (.iload_n 3, 1) := by decide +kernel
theorem dX4_tells_28 : decode cX4_tells 28 = .ok (.invokevirtual 105, 3) := by decide +kernel
theorem dX4_tells_31 : decode cX4_tells 31 = .ok (.ifCond .eq 15, 3) := by decide +kernel
theorem dX4_tells_34 : decode cX4_tells 34 = .ok (.iload 4, 2) := by decide +kernel
theorem dX4_tells_36 : decode cX4_tells 36 = .ok (.ifCond .lt 10, 3) := by decide +kernel
theorem dX4_tells_39 : decode cX4_tells 39 = .ok (.iload 4, 2) := by decide +kernel
theorem dX4_tells_41 : decode cX4_tells 41 = .ok (.bipush 6, 2) := by decide +kernel
theorem dX4_tells_43 : decode cX4_tells 43 = .ok (.if_icmp .le 6, 3) := by decide +kernel
theorem dX4_tells_46 : decode cX4_tells 46 = .ok (.bipush (-2), 2) := by decide +kernel
theorem dX4_tells_48 : decode cX4_tells 48 = .ok (.ireturn, 1) := by decide +kernel
theorem dX4_tells_49 : decode cX4_tells 49 = .ok (.aload 5, 2) := by decide +kernel
theorem dX4_tells_51 : decode cX4_tells 51 = .ok (.invokevirtual 232, 3) := by decide +kernel
theorem dX4_tells_54 : decode cX4_tells 54 = .ok (.ifCond .eq 6, 3) := by decide +kernel
theorem dX4_tells_57 : decode cX4_tells 57 = .ok (.bipush (-11), 2) := by decide +kernel
theorem dX4_tells_59 : decode cX4_tells 59 = .ok (.ireturn, 1) := by decide +kernel
theorem dX4_tells_60 : decode cX4_tells 60 = .ok (.aload 5, 2) := by decide +kernel
theorem dX4_tells_62 : decode cX4_tells 62 = .ok (.getfield 235, 3) := by decide +kernel
theorem dX4_tells_65 : decode cX4_tells 65 = .ok (.bipush 20, 2) := by decide +kernel
theorem dX4_tells_67 : decode cX4_tells 67 = .ok (.if_icmp .le 6, 3) := by decide +kernel
theorem dX4_tells_70 : decode cX4_tells 70 = .ok (.bipush (-2), 2) := by decide +kernel
theorem dX4_tells_72 : decode cX4_tells 72 = .ok (.ireturn, 1) := by decide +kernel
theorem dX4_tells_73 : decode cX4_tells 73 = .ok (.iload 4, 2) := by decide +kernel
theorem dX4_tells_75 : decode cX4_tells 75 = .ok (.tableswitch 121 0 5 #[37, 59, 72, 85, 94, 103], 37) := by decide +kernel
theorem dX4_tells_112 : decode cX4_tells 112 = .ok (.aload_n 0, 1) := by decide +kernel
theorem dX4_tells_113 : decode cX4_tells 113 = .ok (.getfield 42, 3) := by decide +kernel
theorem dX4_tells_116 : decode cX4_tells 116 = .ok (.aload_n 0, 1) := by decide +kernel
theorem dX4_tells_117 : decode cX4_tells 117 = .ok (.getfield 38, 3) := by decide +kernel
theorem dX4_tells_120 : decode cX4_tells 120 = .ok (.invokevirtual 167, 3) := by decide +kernel
theorem dX4_tells_123 : decode cX4_tells 123 = .ok (.aload_n 0, 1) := by decide +kernel
theorem dX4_tells_124 : decode cX4_tells 124 = .ok (.getfield 42, 3) := by decide +kernel
theorem dX4_tells_127 : decode cX4_tells 127 = .ok (.aload 5, 2) := by decide +kernel
theorem dX4_tells_129 : decode cX4_tells 129 = .ok (.iload_n 2, 1) := by decide +kernel
theorem dX4_tells_130 : decode cX4_tells 130 = .ok (.invokevirtual 236, 3) := by decide +kernel
theorem dX4_tells_133 : decode cX4_tells 133 = .ok (.ireturn, 1) := by decide +kernel
theorem dX4_tells_134 : decode cX4_tells 134 = .ok (.aload_n 0, 1) := by decide +kernel
theorem dX4_tells_135 : decode cX4_tells 135 = .ok (.aload 5, 2) := by decide +kernel
theorem dX4_tells_137 : decode cX4_tells 137 = .ok (.iload_n 2, 1) := by decide +kernel
theorem dX4_tells_138 : decode cX4_tells 138 = .ok (.iload_n 3, 1) := by decide +kernel
theorem dX4_tells_139 : decode cX4_tells 139 = .ok (.iload 4, 2) := by decide +kernel
theorem dX4_tells_141 : decode cX4_tells 141 = .ok (.bipush 6, 2) := by decide +kernel
theorem dX4_tells_143 : decode cX4_tells 143 = .ok (.invokevirtual 240, 3) := by decide +kernel
theorem dX4_tells_146 : decode cX4_tells 146 = .ok (.ireturn, 1) := by decide +kernel
theorem dX4_tells_147 : decode cX4_tells 147 = .ok (.aload_n 0, 1) := by decide +kernel
theorem dX4_tells_148 : decode cX4_tells 148 = .ok (.aload 5, 2) := by decide +kernel
theorem dX4_tells_150 : decode cX4_tells 150 = .ok (.iload_n 2, 1) := by decide +kernel
theorem dX4_tells_151 : decode cX4_tells 151 = .ok (.iload_n 3, 1) := by decide +kernel
theorem dX4_tells_152 : decode cX4_tells 152 = .ok (.iload 4, 2) := by decide +kernel
theorem dX4_tells_154 : decode cX4_tells 154 = .ok (.bipush 10, 2) := by decide +kernel
theorem dX4_tells_156 : decode cX4_tells 156 = .ok (.invokevirtual 240, 3) := by decide +kernel
theorem dX4_tells_159 : decode cX4_tells 159 = .ok (.ireturn, 1) := by decide +kernel
theorem dX4_tells_160 : decode cX4_tells 160 = .ok (.aload_n 0, 1) := by decide +kernel
theorem dX4_tells_161 : decode cX4_tells 161 = .ok (.aload 5, 2) := by decide +kernel
theorem dX4_tells_163 : decode cX4_tells 163 = .ok (.iload_n 2, 1) := by decide +kernel
theorem dX4_tells_164 : decode cX4_tells 164 = .ok (.iconst 0, 1) := by decide +kernel
theorem dX4_tells_165 : decode cX4_tells 165 = .ok (.invokevirtual 244, 3) := by decide +kernel
theorem dX4_tells_168 : decode cX4_tells 168 = .ok (.ireturn, 1) := by decide +kernel
theorem dX4_tells_169 : decode cX4_tells 169 = .ok (.aload_n 0, 1) := by decide +kernel
theorem dX4_tells_170 : decode cX4_tells 170 = .ok (.aload 5, 2) := by decide +kernel
theorem dX4_tells_172 : decode cX4_tells 172 = .ok (.iload_n 2, 1) := by decide +kernel
theorem dX4_tells_173 : decode cX4_tells 173 = .ok (.iconst 1, 1) := by decide +kernel
theorem dX4_tells_174 : decode cX4_tells 174 = .ok (.invokevirtual 244, 3) := by decide +kernel
theorem dX4_tells_177 : decode cX4_tells 177 = .ok (.ireturn, 1) := by decide +kernel
theorem dX4_tells_178 : decode cX4_tells 178 = .ok (.aload_n 0, 1) := by decide +kernel
theorem dX4_tells_179 : decode cX4_tells 179 = .ok (.aload 5, 2) := by decide +kernel
theorem dX4_tells_181 : decode cX4_tells 181 = .ok (.iload_n 2, 1) := by decide +kernel
theorem dX4_tells_182 : decode cX4_tells 182 = .ok (.iload_n 3, 1) := by decide +kernel
theorem dX4_tells_183 : decode cX4_tells 183 = .ok (.iload 4, 2) := by decide +kernel
theorem dX4_tells_185 : decode cX4_tells 185 = .ok (.aload_n 0, 1) := by decide +kernel
theorem dX4_tells_186 : decode cX4_tells 186 = .ok (.getfield 10, 3) := by decide +kernel
theorem dX4_tells_189 : decode cX4_tells 189 = .ok (.getfield 154, 3) := by decide +kernel
theorem dX4_tells_192 : decode cX4_tells 192 = .ok (.invokevirtual 240, 3) := by decide +kernel
theorem dX4_tells_195 : decode cX4_tells 195 = .ok (.ireturn, 1) := by decide +kernel
theorem dX4_tells_196 : decode cX4_tells 196 = .ok (.aload_n 0, 1) := by decide +kernel
theorem dX4_tells_197 : decode cX4_tells 197 = .ok (.aload 5, 2) := by decide +kernel
theorem dX4_tells_199 : decode cX4_tells 199 = .ok (.invokevirtual 248, 3) := by decide +kernel
theorem dX4_tells_202 : decode cX4_tells 202 = .ok (.ireturn, 1) := by decide +kernel
theorem dX4_film_0 : decode cX4_film 0 = .ok (.aload_n 0, 1) := by decide +kernel
theorem dX4_film_1 : decode cX4_film 1 = .ok (.iload_n 1, 1) := by decide +kernel
theorem dX4_film_2 : decode cX4_film 2 = .ok (.invokevirtual 228, 3) := by decide +kernel
theorem dX4_film_5 : decode cX4_film 5 = .ok (.astore 4, 2) := by decide +kernel
theorem dX4_film_7 : decode cX4_film 7 = .ok (.aload 4, 2) := by decide +kernel
theorem dX4_film_9 : decode cX4_film 9 = .ok (.ifnull 24, 3) := by decide +kernel
theorem dX4_film_12 : decode cX4_film 12 = .ok (.aload_n 0, 1) := by decide +kernel
theorem dX4_film_13 : decode cX4_film 13 = .ok (.getfield 38, 3) := by decide +kernel
theorem dX4_film_16 : decode cX4_film 16 = .ok (.iload_n 2, 1) := by decide +kernel
theorem dX4_film_17 : decode cX4_film 17 = .ok (.invokevirtual 98, 3) := by decide +kernel
theorem dX4_film_20 : decode cX4_film 20 = .ok (.ifCond .eq 13, 3) := by decide +kernel
theorem dX4_film_23 : decode cX4_film 23 = .ok (.iload_n 3, 1) := by decide +kernel
theorem dX4_film_24 : decode cX4_film 24 = .ok (.ifCond .lt 9, 3) := by decide +kernel
theorem dX4_film_27 : decode cX4_film 27 = .ok (.iload_n 3, 1) := by decide +kernel
theorem dX4_film_28 : decode cX4_film 28 = .ok (.bipush 20, 2) := by decide +kernel
theorem dX4_film_30 : decode cX4_film 30 = .ok (.if_icmp .le 6, 3) := by decide +kernel
theorem dX4_film_33 : decode cX4_film 33 = .ok (.bipush (-2), 2) := by decide +kernel
theorem dX4_film_35 : decode cX4_film 35 = .ok (.ireturn, 1) := by decide +kernel
theorem dX4_film_36 : decode cX4_film 36 = .ok (.aload 4, 2) := by decide +kernel
theorem dX4_film_38 : decode cX4_film 38 = .ok (.iconst 0, 1) := by decide +kernel
theorem dX4_film_39 : decode cX4_film 39 = .ok (.iload_n 3, 1) := by decide +kernel
theorem dX4_film_40 : decode cX4_film 40 = .ok (.invokevirtual 252, 3) := by decide +kernel
theorem dX4_film_43 : decode cX4_film 43 = .ok (.aload_n 0, 1) := by decide +kernel
theorem dX4_film_44 : decode cX4_film 44 = .ok (.getfield 42, 3) := by decide +kernel
theorem dX4_film_47 : decode cX4_film 47 = .ok (.aload_n 0, 1) := by decide +kernel
theorem dX4_film_48 : decode cX4_film 48 = .ok (.getfield 38, 3) := by decide +kernel
theorem dX4_film_51 : decode cX4_film 51 = .ok (.invokevirtual 167, 3) := by decide +kernel
theorem dX4_film_54 : decode cX4_film 54 = .ok (.iconst 0, 1) := by decide +kernel
theorem dX4_film_55 : decode cX4_film 55 = .ok (.istore 5, 2) := by decide +kernel
theorem dX4_film_57 : decode cX4_film 57 = .ok (.iload 5, 2) := by decide +kernel
theorem dX4_film_59 : decode cX4_film 59 = .ok (.iload_n 3, 1) := by decide +kernel
theorem dX4_film_60 : decode cX4_film 60 = .ok (.if_icmp .ge 32, 3) := by decide +kernel
theorem dX4_film_63 : decode cX4_film 63 = .ok (.aload_n 0, 1) := by decide +kernel
theorem dX4_film_64 : decode cX4_film 64 = .ok (.getfield 42, 3) := by decide +kernel
theorem dX4_film_67 : decode cX4_film 67 = .ok (.iload_n 2, 1) := by decide +kernel
theorem dX4_film_68 : decode cX4_film 68 = .ok (.invokevirtual 178, 3) := by decide +kernel
theorem dX4_film_71 : decode cX4_film 71 = .ok (.aload 4, 2) := by decide +kernel
theorem dX4_film_73 : decode cX4_film 73 = .ok (.iload 5, 2) := by decide +kernel
theorem dX4_film_75 : decode cX4_film 75 = .ok (.aload_n 0, 1) := by decide +kernel
theorem dX4_film_76 : decode cX4_film 76 = .ok (.getfield 42, 3) := by decide +kernel
theorem dX4_film_79 : decode cX4_film 79 = .ok (.iload_n 2, 1) := by decide +kernel
theorem dX4_film_80 : decode cX4_film 80 = .ok (.invokevirtual 138, 3) := by decide +kernel
theorem dX4_film_83 : decode cX4_film 83 = .ok (.invokevirtual 255, 3) := by decide +kernel
theorem dX4_film_86 : decode cX4_film 86 = .ok (.iinc 5 1, 3) := by decide +kernel
theorem dX4_film_89 : decode cX4_film 89 = .ok (.goto (-32), 3) := by decide +kernel
theorem dX4_film_92 : decode cX4_film 92 = .ok (.iload_n 3, 1) := by decide +kernel
theorem dX4_film_93 : decode cX4_film 93 = .ok (.ireturn, 1) := by decide +kernel
theorem dX4_drawn_0 : decode cX4_drawn 0 = .ok (.iload_n 2, 1) := by decide +kernel
theorem dX4_drawn_1 : decode cX4_drawn 1 = .ok (.ifCond .lt 9, 3) := by decide +kernel
theorem dX4_drawn_4 : decode cX4_drawn 4 = .ok (.iload_n 2, 1) := by decide +kernel
theorem dX4_drawn_5 : decode cX4_drawn 5 = .ok (.bipush 40, 2) := by decide +kernel
theorem dX4_drawn_7 : decode cX4_drawn 7 = .ok (.if_icmp .le 8, 3) := by decide +kernel
theorem dX4_drawn_10 : decode cX4_drawn 10 = .ok (.bipush (-2), 2) := by decide +kernel
theorem dX4_drawn_12 : decode cX4_drawn 12 = .ok (.goto 9, 3) := by decide +kernel
theorem dX4_drawn_15 : decode cX4_drawn 15 = .ok (.aload_n 0, 1) := by decide +kernel
theorem dX4_drawn_16 : decode cX4_drawn 16 = .ok (.iload_n 1, 1) := by decide +kernel
theorem dX4_drawn_17 : decode cX4_drawn 17 = .ok (.iload_n 2, 1) := by decide +kernel
theorem dX4_drawn_18 : decode cX4_drawn 18 = .ok (.invokevirtual 258, 3) := by decide +kernel
theorem dX4_drawn_21 : decode cX4_drawn 21 = .ok (.ireturn, 1) := by decide +kernel
theorem dX4_chance_0 : decode cX4_chance 0 = .ok (.iload_n 2, 1) := by decide +kernel
theorem dX4_chance_1 : decode cX4_chance 1 = .ok (.iconst 1, 1) := by decide +kernel
theorem dX4_chance_2 : decode cX4_chance 2 = .ok (.if_icmp .lt 30, 3) := by decide +kernel
theorem dX4_chance_5 : decode cX4_chance 5 = .ok (.iload_n 2, 1) := by decide +kernel
theorem dX4_chance_6 : decode cX4_chance 6 = .ok (.bipush 20, 2) := by decide +kernel
theorem dX4_chance_8 : decode cX4_chance 8 = .ok (.if_icmp .gt 24, 3) := by decide +kernel
theorem dX4_chance_11 : decode cX4_chance 11 = .ok (.iload_n 3, 1) := by decide +kernel
theorem dX4_chance_12 : decode cX4_chance 12 = .ok (.ifCond .lt 20, 3) := by decide +kernel
theorem dX4_chance_15 : decode cX4_chance 15 = .ok (.iload_n 3, 1) := by decide +kernel
theorem dX4_chance_16 : decode cX4_chance 16 = .ok (.bipush 8, 2) := by decide +kernel
theorem dX4_chance_18 : decode cX4_chance 18 = .ok (.if_icmp .gt 14, 3) := by decide +kernel
theorem dX4_chance_21 : decode cX4_chance 21 = .ok (.iload 4, 2) := by decide +kernel
theorem dX4_chance_23 : decode cX4_chance 23 = .ok (.ifCond .lt 9, 3) := by decide +kernel
theorem dX4_chance_26 : decode cX4_chance 26 = .ok (.iload 4, 2) := by decide +kernel
theorem dX4_chance_28 : decode cX4_chance 28 = .ok (.iconst 1, 1) := by decide +kernel
theorem dX4_chance_29 : decode cX4_chance 29 = .ok (.if_icmp .le 7, 3) := by decide +kernel
theorem dX4_chance_32 : decode cX4_chance 32 = .ok (.ldc2_w 214, 3) := by decide +kernel
theorem dX4_chance_35 : decode cX4_chance 35 = .ok (.lreturn, 1) := by decide +kernel
theorem dX4_chance_36 : decode cX4_chance 36 = .ok (.iconst 0, 1) := by decide +kernel
theorem dX4_chance_37 : decode cX4_chance 37 = .ok (.istore 5, 2) := by decide +kernel
theorem dX4_chance_39 : decode cX4_chance 39 = .ok (.iconst 0, 1) := by decide +kernel
theorem dX4_chance_40 : decode cX4_chance 40 = .ok (.istore 6, 2) := by decide +kernel
theorem dX4_chance_42 : decode cX4_chance 42 = .ok (.iload 6, 2) := by decide +kernel
theorem dX4_chance_44 : decode cX4_chance 44 = .ok (.iload_n 2, 1) := by decide +kernel
theorem dX4_chance_45 : decode cX4_chance 45 = .ok (.if_icmp .ge 26, 3) := by decide +kernel
theorem dX4_chance_48 : decode cX4_chance 48 = .ok (.aload_n 0, 1) := by decide +kernel
theorem dX4_chance_49 : decode cX4_chance 49 = .ok (.iload_n 1, 1) := by decide +kernel
theorem dX4_chance_50 : decode cX4_chance 50 = .ok (.iload 6, 2) := by decide +kernel
theorem dX4_chance_52 : decode cX4_chance 52 = .ok (.iadd, 1) := by decide +kernel
theorem dX4_chance_53 : decode cX4_chance 53 = .ok (.bipush 10, 2) := by decide +kernel
theorem dX4_chance_55 : decode cX4_chance 55 = .ok (.invokevirtual 258, 3) := by decide +kernel
theorem dX4_chance_58 : decode cX4_chance 58 = .ok (.iload_n 3, 1) := by decide +kernel
theorem dX4_chance_59 : decode cX4_chance 59 = .ok (.if_icmp .lt 6, 3) := by decide +kernel
theorem dX4_chance_62 : decode cX4_chance 62 = .ok (.iinc 5 1, 3) := by decide +kernel
theorem dX4_chance_65 : decode cX4_chance 65 = .ok (.iinc 6 1, 3) := by decide +kernel
theorem dX4_chance_68 : decode cX4_chance 68 = .ok (.goto (-26), 3) := by decide +kernel
theorem dX4_chance_71 : decode cX4_chance 71 = .ok (.iload 5, 2) := by decide +kernel
theorem dX4_chance_73 : decode cX4_chance 73 = .ok (.iload_n 2, 1) := by decide +kernel
theorem dX4_chance_74 : decode cX4_chance 74 = .ok (.iload 4, 2) := by decide +kernel
theorem dX4_chance_76 : decode cX4_chance 76 = .ok (.invokestatic 216, 3) := by decide +kernel
theorem dX4_chance_79 : decode cX4_chance 79 = .ok (.lreturn, 1) := by decide +kernel
theorem dX4_image_0 : decode cX4_image 0 = .ok (.aload_n 0, 1) := by decide +kernel
theorem dX4_image_1 : decode cX4_image 1 = .ok (.getfield 45, 3) := by decide +kernel
theorem dX4_image_4 : decode cX4_image 4 = .ok (.aload_n 0, 1) := by decide +kernel
theorem dX4_image_5 : decode cX4_image 5 = .ok (.getfield 38, 3) := by decide +kernel
theorem dX4_image_8 : decode cX4_image 8 = .ok (.invokevirtual 167, 3) := by decide +kernel
theorem dX4_image_11 : decode cX4_image 11 = .ok (.aload_n 0, 1) := by decide +kernel
theorem dX4_image_12 : decode cX4_image 12 = .ok (.iconst 1, 1) := by decide +kernel
theorem dX4_image_13 : decode cX4_image 13 = .ok (.putfield 261, 3) := by decide +kernel
theorem dX4_image_16 : decode cX4_image 16 = .ok (.aload_n 0, 1) := by decide +kernel
theorem dX4_image_17 : decode cX4_image 17 = .ok (.getfield 38, 3) := by decide +kernel
theorem dX4_image_20 : decode cX4_image 20 = .ok (.getfield 196, 3) := by decide +kernel
theorem dX4_image_23 : decode cX4_image 23 = .ok (.ireturn, 1) := by decide +kernel
theorem dX4_back_0 : decode cX4_back 0 = .ok (.aload_n 0, 1) := by decide +kernel
theorem dX4_back_1 : decode cX4_back 1 = .ok (.getfield 261, 3) := by decide +kernel
theorem dX4_back_4 : decode cX4_back 4 = .ok (.ifCond .ne 6, 3) := by decide +kernel
theorem dX4_back_7 : decode cX4_back 7 = .ok (.bipush (-3), 2) := by decide +kernel
theorem dX4_back_9 : decode cX4_back 9 = .ok (.ireturn, 1) := by decide +kernel
theorem dX4_back_10 : decode cX4_back 10 = .ok (.aload_n 0, 1) := by decide +kernel
theorem dX4_back_11 : decode cX4_back 11 = .ok (.getfield 38, 3) := by decide +kernel
theorem dX4_back_14 : decode cX4_back 14 = .ok (.aload_n 0, 1) := by decide +kernel
theorem dX4_back_15 : decode cX4_back 15 = .ok (.getfield 45, 3) := by decide +kernel
theorem dX4_back_18 : decode cX4_back 18 = .ok (.invokevirtual 167, 3) := by decide +kernel
theorem dX4_back_21 : decode cX4_back 21 = .ok (.aload_n 0, 1) := by decide +kernel
theorem dX4_back_22 : decode cX4_back 22 = .ok (.getfield 38, 3) := by decide +kernel
theorem dX4_back_25 : decode cX4_back 25 = .ok (.getfield 196, 3) := by decide +kernel
theorem dX4_back_28 : decode cX4_back 28 = .ok (.ireturn, 1) := by decide +kernel
theorem dX4_count_0 : decode cX4_count 0 = .ok (.iload_n 1, 1) := by decide +kernel
theorem dX4_count_1 : decode cX4_count 1 = .ok (.tableswitch 87 0 5 #[39, 47, 55, 63, 71, 79], 39) := by decide +kernel
theorem dX4_count_40 : decode cX4_count 40 = .ok (.aload_n 0, 1) := by decide +kernel
theorem dX4_count_41 : decode cX4_count 41 = .ok (.getfield 38, 3) := by decide +kernel
theorem dX4_count_44 : decode cX4_count 44 = .ok (.getfield 196, 3) := by decide +kernel
theorem dX4_count_47 : decode cX4_count 47 = .ok (.ireturn, 1) := by decide +kernel
theorem dX4_count_48 : decode cX4_count 48 = .ok (.aload_n 0, 1) := by decide +kernel
theorem dX4_count_49 : decode cX4_count 49 = .ok (.getfield 38, 3) := by decide +kernel
theorem dX4_count_52 : decode cX4_count 52 = .ok (.getfield 211, 3) := by decide +kernel
theorem dX4_count_55 : decode cX4_count 55 = .ok (.ireturn, 1) := by decide +kernel
theorem dX4_count_56 : decode cX4_count 56 = .ok (.aload_n 0, 1) := by decide +kernel
theorem dX4_count_57 : decode cX4_count 57 = .ok (.getfield 38, 3) := by decide +kernel
theorem dX4_count_60 : decode cX4_count 60 = .ok (.invokevirtual 175, 3) := by decide +kernel
theorem dX4_count_63 : decode cX4_count 63 = .ok (.ireturn, 1) := by decide +kernel
theorem dX4_count_64 : decode cX4_count 64 = .ok (.aload_n 0, 1) := by decide +kernel
theorem dX4_count_65 : decode cX4_count 65 = .ok (.getfield 10, 3) := by decide +kernel
theorem dX4_count_68 : decode cX4_count 68 = .ok (.getfield 154, 3) := by decide +kernel
theorem dX4_count_71 : decode cX4_count 71 = .ok (.ireturn, 1) := by decide +kernel
theorem dX4_count_72 : decode cX4_count 72 = .ok (.aload_n 0, 1) := by decide +kernel
theorem dX4_count_73 : decode cX4_count 73 = .ok (.getfield 21, 3) := by decide +kernel
theorem dX4_count_76 : decode cX4_count 76 = .ok (.getfield 147, 3) := by decide +kernel
theorem dX4_count_79 : decode cX4_count 79 = .ok (.ireturn, 1) := by decide +kernel
theorem dX4_count_80 : decode cX4_count 80 = .ok (.aload_n 0, 1) := by decide +kernel
theorem dX4_count_81 : decode cX4_count 81 = .ok (.getfield 38, 3) := by decide +kernel
theorem dX4_count_84 : decode cX4_count 84 = .ok (.getfield 158, 3) := by decide +kernel
theorem dX4_count_87 : decode cX4_count 87 = .ok (.ireturn, 1) := by decide +kernel
theorem dX4_count_88 : decode cX4_count 88 = .ok (.bipush (-2), 2) := by decide +kernel
theorem dX4_count_90 : decode cX4_count 90 = .ok (.ireturn, 1) := by decide +kernel
theorem dX4_allSo_0 : decode cX4_allSo 0 = .ok (.iconst 0, 1) := by decide +kernel
theorem dX4_allSo_1 : decode cX4_allSo 1 = .ok (.istore 6, 2) := by decide +kernel
theorem dX4_allSo_3 : decode cX4_allSo 3 = .ok (.iconst 0, 1) := by decide +kernel
theorem dX4_allSo_4 : decode cX4_allSo 4 = .ok (.istore 7, 2) := by decide +kernel
theorem dX4_allSo_6 : decode cX4_allSo 6 = .ok (.iload 7, 2) := by decide +kernel
theorem dX4_allSo_8 : decode cX4_allSo 8 = .ok (.iload 5, 2) := by decide +kernel
theorem dX4_allSo_10 : decode cX4_allSo 10 = .ok (.if_icmp .ge 105, 3) := by decide +kernel
theorem dX4_allSo_13 : decode cX4_allSo 13 = .ok (.aload_n 0, 1) := by decide +kernel
theorem dX4_allSo_14 : decode cX4_allSo 14 = .ok (.getfield 42, 3) := by decide +kernel
theorem dX4_allSo_17 : decode cX4_allSo 17 = .ok (.aload_n 0, 1) := by decide +kernel
theorem dX4_allSo_18 : decode cX4_allSo 18 = .ok (.getfield 38, 3) := by decide +kernel
theorem dX4_allSo_21 : decode cX4_allSo 21 = .ok (.invokevirtual 167, 3) := by decide +kernel
theorem dX4_allSo_24 : decode cX4_allSo 24 = .ok (.iload 4, 2) := by decide +kernel
theorem dX4_allSo_26 : decode cX4_allSo 26 = .ok (.lookupswitch 52 #[(1, 26), (2, 39)], 26) := by decide +kernel
theorem dX4_allSo_52 : decode cX4_allSo 52 = .ok (.aload_n 0, 1) := by decide +kernel
theorem dX4_allSo_53 : decode cX4_allSo 53 = .ok (.getfield 42, 3) := by decide +kernel
theorem dX4_allSo_56 : decode cX4_allSo 56 = .ok (.iload_n 3, 1) := by decide +kernel
theorem dX4_allSo_57 : decode cX4_allSo 57 = .ok (.iload 7, 2) := by decide +kernel
theorem dX4_allSo_59 : decode cX4_allSo 59 = .ok (.invokevirtual 265, 3) := by decide +kernel
theorem dX4_allSo_62 : decode cX4_allSo 62 = .ok (.goto 25, 3) := by decide +kernel
theorem dX4_allSo_65 : decode cX4_allSo 65 = .ok (.aload_n 0, 1) := by decide +kernel
theorem dX4_allSo_66 : decode cX4_allSo 66 = .ok (.getfield 42, 3) := by decide +kernel
theorem dX4_allSo_69 : decode cX4_allSo 69 = .ok (.iload_n 3, 1) := by decide +kernel
theorem dX4_allSo_70 : decode cX4_allSo 70 = .ok (.iload 7, 2) := by decide +kernel
theorem dX4_allSo_72 : decode cX4_allSo 72 = .ok (.invokevirtual 74, 3) := by decide +kernel
theorem dX4_allSo_75 : decode cX4_allSo 75 = .ok (.goto 12, 3) := by decide +kernel
theorem dX4_allSo_78 : decode cX4_allSo 78 = .ok (.aload_n 0, 1) := by decide +kernel
theorem dX4_allSo_79 : decode cX4_allSo 79 = .ok (.getfield 42, 3) := by decide +kernel
theorem dX4_allSo_82 : decode cX4_allSo 82 = .ok (.iload 7, 2) := by decide +kernel
theorem dX4_allSo_84 : decode cX4_allSo 84 = .ok (.putfield 158, 3) := by decide +kernel
theorem dX4_allSo_87 : decode cX4_allSo 87 = .ok (.aload_n 0, 1) := by decide +kernel
theorem dX4_allSo_88 : decode cX4_allSo 88 = .ok (.getfield 42, 3) := by decide +kernel
theorem dX4_allSo_91 : decode cX4_allSo 91 = .ok (.aload_n 1, 1) := by decide +kernel
theorem dX4_allSo_92 : decode cX4_allSo 92 = .ok (.iload_n 2, 1) := by decide +kernel
theorem dX4_allSo_93 : decode cX4_allSo 93 = .ok (.invokevirtual 236, 3) := by decide +kernel
theorem dX4_allSo_96 : decode cX4_allSo 96 = .ok (.iconst (-1), 1) := by decide +kernel
theorem dX4_allSo_97 : decode cX4_allSo 97 = .ok (.if_icmp .ne 12, 3) := by decide +kernel
theorem dX4_allSo_100 : decode cX4_allSo 100 = .ok (.iload 6, 2) := by decide +kernel
theorem dX4_allSo_102 : decode cX4_allSo 102 = .ok (.iconst 1, 1) := by decide +kernel
theorem dX4_allSo_103 : decode cX4_allSo 103 = .ok (.iload 7, 2) := by decide +kernel
theorem dX4_allSo_105 : decode cX4_allSo 105 = .ok (.ishl, 1) := by decide +kernel
theorem dX4_allSo_106 : decode cX4_allSo 106 = .ok (.ior, 1) := by decide +kernel
theorem dX4_allSo_107 : decode cX4_allSo 107 = .ok (.istore 6, 2) := by decide +kernel
theorem dX4_allSo_109 : decode cX4_allSo 109 = .ok (.iinc 7 1, 3) := by decide +kernel
theorem dX4_allSo_112 : decode cX4_allSo 112 = .ok (.goto (-106), 3) := by decide +kernel
theorem dX4_allSo_115 : decode cX4_allSo 115 = .ok (.iload 6, 2) := by decide +kernel
theorem dX4_allSo_117 : decode cX4_allSo 117 = .ok (.ireturn, 1) := by decide +kernel
theorem dX4_daysSo_0 : decode cX4_daysSo 0 = .ok (.iconst 0, 1) := by decide +kernel
theorem dX4_daysSo_1 : decode cX4_daysSo 1 = .ok (.istore 4, 2) := by decide +kernel
theorem dX4_daysSo_3 : decode cX4_daysSo 3 = .ok (.iconst 0, 1) := by decide +kernel
theorem dX4_daysSo_4 : decode cX4_daysSo 4 = .ok (.istore 5, 2) := by decide +kernel
theorem dX4_daysSo_6 : decode cX4_daysSo 6 = .ok (.iload 5, 2) := by decide +kernel
theorem dX4_daysSo_8 : decode cX4_daysSo 8 = .ok (.bipush 100, 2) := by decide +kernel
theorem dX4_daysSo_10 : decode cX4_daysSo 10 = .ok (.if_icmp .ge 52, 3) := by decide +kernel
theorem dX4_daysSo_13 : decode cX4_daysSo 13 = .ok (.aload_n 0, 1) := by decide +kernel
theorem dX4_daysSo_14 : decode cX4_daysSo 14 = .ok (.getfield 42, 3) := by decide +kernel
theorem dX4_daysSo_17 : decode cX4_daysSo 17 = .ok (.aload_n 0, 1) := by decide +kernel
theorem dX4_daysSo_18 : decode cX4_daysSo 18 = .ok (.getfield 38, 3) := by decide +kernel
theorem dX4_daysSo_21 : decode cX4_daysSo 21 = .ok (.invokevirtual 167, 3) := by decide +kernel
theorem dX4_daysSo_24 : decode cX4_daysSo 24 = .ok (.aload_n 0, 1) := by decide +kernel
theorem dX4_daysSo_25 : decode cX4_daysSo 25 = .ok (.getfield 42, 3) := by decide +kernel
theorem dX4_daysSo_28 : decode cX4_daysSo 28 = .ok (.iload 5, 2) := by decide +kernel
theorem dX4_daysSo_30 : decode cX4_daysSo 30 = .ok (.putfield 67, 3) := by decide +kernel
theorem dX4_daysSo_33 : decode cX4_daysSo 33 = .ok (.aload_n 0, 1) := by decide +kernel
theorem dX4_daysSo_34 : decode cX4_daysSo 34 = .ok (.getfield 42, 3) := by decide +kernel
theorem dX4_daysSo_37 : decode cX4_daysSo 37 = .ok (.aload_n 1, 1) := by decide +kernel
theorem dX4_daysSo_38 : decode cX4_daysSo 38 = .ok (.iload_n 2, 1) := by decide +kernel
theorem dX4_daysSo_39 : decode cX4_daysSo 39 = .ok (.invokevirtual 236, 3) := by decide +kernel
theorem dX4_daysSo_42 : decode cX4_daysSo 42 = .ok (.iconst (-1), 1) := by decide +kernel
theorem dX4_daysSo_43 : decode cX4_daysSo 43 = .ok (.if_icmp .ne 13, 3) := by decide +kernel
theorem dX4_daysSo_46 : decode cX4_daysSo 46 = .ok (.iload_n 3, 1) := by decide +kernel
theorem dX4_daysSo_47 : decode cX4_daysSo 47 = .ok (.ifCond .eq 6, 3) := by decide +kernel
theorem dX4_daysSo_50 : decode cX4_daysSo 50 = .ok (.iload 5, 2) := by decide +kernel
theorem dX4_daysSo_52 : decode cX4_daysSo 52 = .ok (.ireturn, 1) := by decide +kernel
theorem dX4_daysSo_53 : decode cX4_daysSo 53 = .ok (.iinc 4 1, 3) := by decide +kernel
theorem dX4_daysSo_56 : decode cX4_daysSo 56 = .ok (.iinc 5 1, 3) := by decide +kernel
theorem dX4_daysSo_59 : decode cX4_daysSo 59 = .ok (.goto (-53), 3) := by decide +kernel
theorem dX4_daysSo_62 : decode cX4_daysSo 62 = .ok (.iload_n 3, 1) := by decide +kernel
theorem dX4_daysSo_63 : decode cX4_daysSo 63 = .ok (.ifCond .eq 7, 3) := by decide +kernel
theorem dX4_daysSo_66 : decode cX4_daysSo 66 = .ok (.iconst (-1), 1) := by decide +kernel
theorem dX4_daysSo_67 : decode cX4_daysSo 67 = .ok (.goto 5, 3) := by decide +kernel
theorem dX4_daysSo_70 : decode cX4_daysSo 70 = .ok (.iload 4, 2) := by decide +kernel
theorem dX4_daysSo_72 : decode cX4_daysSo 72 = .ok (.ireturn, 1) := by decide +kernel
theorem dX4_lettersSo_0 : decode cX4_lettersSo 0 = .ok (.iconst 0, 1) := by decide +kernel
theorem dX4_lettersSo_1 : decode cX4_lettersSo 1 = .ok (.istore_n 2, 1) := by decide +kernel
theorem dX4_lettersSo_2 : decode cX4_lettersSo 2 = .ok (.iconst 0, 1) := by decide +kernel
theorem dX4_lettersSo_3 : decode cX4_lettersSo 3 = .ok (.istore_n 3, 1) := by decide +kernel
theorem dX4_lettersSo_4 : decode cX4_lettersSo 4 = .ok (.iload_n 3, 1) := by decide +kernel
theorem dX4_lettersSo_5 : decode cX4_lettersSo 5 = .ok (.aload_n 0, 1) := by decide +kernel
theorem dX4_lettersSo_6 : decode cX4_lettersSo 6 = .ok (.getfield 38, 3) := by decide +kernel
theorem dX4_lettersSo_9 : decode cX4_lettersSo 9 = .ok (.getfield 211, 3) := by decide +kernel
theorem dX4_lettersSo_12 : decode cX4_lettersSo 12 = .ok (.if_icmp .ge 39, 3) := by decide +kernel
theorem dX4_lettersSo_15 : decode cX4_lettersSo 15 = .ok (.aload_n 0, 1) := by decide +kernel
theorem dX4_lettersSo_16 : decode cX4_lettersSo 16 = .ok (.getfield 42, 3) := by decide +kernel
theorem dX4_lettersSo_19 : decode cX4_lettersSo 19 = .ok (.aload_n 0, 1) := by decide +kernel
theorem dX4_lettersSo_20 : decode cX4_lettersSo 20 = .ok (.getfield 38, 3) := by decide +kernel
theorem dX4_lettersSo_23 : decode cX4_lettersSo 23 = .ok (.invokevirtual 167, 3) := by decide +kernel
theorem dX4_lettersSo_26 : decode cX4_lettersSo 26 = .ok (.aload_n 0, 1) := by decide +kernel
theorem dX4_lettersSo_27 : decode cX4_lettersSo 27 = .ok (.getfield 42, 3) := by decide +kernel
theorem dX4_lettersSo_30 : decode cX4_lettersSo 30 = .ok (.aload_n 1, 1) := by decide +kernel
theorem dX4_lettersSo_31 : decode cX4_lettersSo 31 = .ok (.iload_n 3, 1) := by decide +kernel
theorem dX4_lettersSo_32 : decode cX4_lettersSo 32 = .ok (.invokevirtual 236, 3) := by decide +kernel
theorem dX4_lettersSo_35 : decode cX4_lettersSo 35 = .ok (.iconst (-1), 1) := by decide +kernel
theorem dX4_lettersSo_36 : decode cX4_lettersSo 36 = .ok (.if_icmp .ne 9, 3) := by decide +kernel
theorem dX4_lettersSo_39 : decode cX4_lettersSo 39 = .ok (.iload_n 2, 1) := by decide +kernel
theorem dX4_lettersSo_40 : decode cX4_lettersSo 40 = .ok (.iconst 1, 1) := by decide +kernel
theorem dX4_lettersSo_41 : decode cX4_lettersSo 41 = .ok (.iload_n 3, 1) := by decide +kernel
theorem dX4_lettersSo_42 : decode cX4_lettersSo 42 = .ok (.ishl, 1) := by decide +kernel
theorem dX4_lettersSo_43 : decode cX4_lettersSo 43 = .ok (.ior, 1) := by decide +kernel
theorem dX4_lettersSo_44 : decode cX4_lettersSo 44 = .ok (.istore_n 2, 1) := by decide +kernel
theorem dX4_lettersSo_45 : decode cX4_lettersSo 45 = .ok (.iinc 3 1, 3) := by decide +kernel
theorem dX4_lettersSo_48 : decode cX4_lettersSo 48 = .ok (.goto (-44), 3) := by decide +kernel
theorem dX4_lettersSo_51 : decode cX4_lettersSo 51 = .ok (.iload_n 2, 1) := by decide +kernel
theorem dX4_lettersSo_52 : decode cX4_lettersSo 52 = .ok (.ireturn, 1) := by decide +kernel
theorem dX4_homesDrawn_0 : decode cX4_homesDrawn 0 = .ok (.aload_n 0, 1) := by decide +kernel
theorem dX4_homesDrawn_1 : decode cX4_homesDrawn 1 = .ok (.getfield 42, 3) := by decide +kernel
theorem dX4_homesDrawn_4 : decode cX4_homesDrawn 4 = .ok (.aload_n 0, 1) := by decide +kernel
theorem dX4_homesDrawn_5 : decode cX4_homesDrawn 5 = .ok (.getfield 38, 3) := by decide +kernel
theorem dX4_homesDrawn_8 : decode cX4_homesDrawn 8 = .ok (.invokevirtual 167, 3) := by decide +kernel
theorem dX4_homesDrawn_11 : decode cX4_homesDrawn 11 = .ok (.iload_n 1, 1) := by decide +kernel
theorem dX4_homesDrawn_12 : decode cX4_homesDrawn 12 = .ok (.istore_n 3, 1) := by decide +kernel
theorem dX4_homesDrawn_13 : decode cX4_homesDrawn 13 = .ok (.iconst 0, 1) := by decide +kernel
theorem dX4_homesDrawn_14 : decode cX4_homesDrawn 14 = .ok (.istore 4, 2) := by decide +kernel
theorem dX4_homesDrawn_16 : decode cX4_homesDrawn 16 = .ok (.iload 4, 2) := by decide +kernel
theorem dX4_homesDrawn_18 : decode cX4_homesDrawn 18 = .ok (.iload_n 2, 1) := by decide +kernel
theorem dX4_homesDrawn_19 : decode cX4_homesDrawn 19 = .ok (.if_icmp .ge 81, 3) := by decide +kernel
theorem dX4_homesDrawn_22 : decode cX4_homesDrawn 22 = .ok (.iload_n 3, 1) := by decide +kernel
theorem dX4_homesDrawn_23 : decode cX4_homesDrawn 23 = .ok (.ldc_w 268, 3) := by decide +kernel
theorem dX4_homesDrawn_26 : decode cX4_homesDrawn 26 = .ok (.imul, 1) := by decide +kernel
theorem dX4_homesDrawn_27 : decode cX4_homesDrawn 27 = .ok (.sipush 12345, 3) := by decide +kernel
theorem dX4_homesDrawn_30 : decode cX4_homesDrawn 30 = .ok (.iadd, 1) := by decide +kernel
theorem dX4_homesDrawn_31 : decode cX4_homesDrawn 31 = .ok (.istore_n 3, 1) := by decide +kernel
theorem dX4_homesDrawn_32 : decode cX4_homesDrawn 32 = .ok (.iload_n 3, 1) := by decide +kernel
theorem dX4_homesDrawn_33 : decode cX4_homesDrawn 33 = .ok (.bipush 9, 2) := by decide +kernel
theorem dX4_homesDrawn_35 : decode cX4_homesDrawn 35 = .ok (.iushr, 1) := by decide +kernel
theorem dX4_homesDrawn_36 : decode cX4_homesDrawn 36 = .ok (.bipush 8, 2) := by decide +kernel
theorem dX4_homesDrawn_38 : decode cX4_homesDrawn 38 = .ok (.irem, 1) := by decide +kernel
theorem dX4_homesDrawn_39 : decode cX4_homesDrawn 39 = .ok (.istore 5, 2) := by decide +kernel
theorem dX4_homesDrawn_41 : decode cX4_homesDrawn 41 = .ok (.iload_n 3, 1) := by decide +kernel
theorem dX4_homesDrawn_42 : decode cX4_homesDrawn 42 = .ok (.ldc_w 268, 3) := by decide +kernel
theorem dX4_homesDrawn_45 : decode cX4_homesDrawn 45 = .ok (.imul, 1) := by decide +kernel
theorem dX4_homesDrawn_46 : decode cX4_homesDrawn 46 = .ok (.sipush 12345, 3) := by decide +kernel
theorem dX4_homesDrawn_49 : decode cX4_homesDrawn 49 = .ok (.iadd, 1) := by decide +kernel
theorem dX4_homesDrawn_50 : decode cX4_homesDrawn 50 = .ok (.istore_n 3, 1) := by decide +kernel
theorem dX4_homesDrawn_51 : decode cX4_homesDrawn 51 = .ok (.iload_n 3, 1) := by decide +kernel
theorem dX4_homesDrawn_52 : decode cX4_homesDrawn 52 = .ok (.bipush 9, 2) := by decide +kernel
theorem dX4_homesDrawn_54 : decode cX4_homesDrawn 54 = .ok (.iushr, 1) := by decide +kernel
theorem dX4_homesDrawn_55 : decode cX4_homesDrawn 55 = .ok (.bipush 8, 2) := by decide +kernel
theorem dX4_homesDrawn_57 : decode cX4_homesDrawn 57 = .ok (.irem, 1) := by decide +kernel
theorem dX4_homesDrawn_58 : decode cX4_homesDrawn 58 = .ok (.istore 6, 2) := by decide +kernel
theorem dX4_homesDrawn_60 : decode cX4_homesDrawn 60 = .ok (.aload_n 0, 1) := by decide +kernel
theorem dX4_homesDrawn_61 : decode cX4_homesDrawn 61 = .ok (.getfield 42, 3) := by decide +kernel
theorem dX4_homesDrawn_64 : decode cX4_homesDrawn 64 = .ok (.iload 5, 2) := by decide +kernel
theorem dX4_homesDrawn_66 : decode cX4_homesDrawn 66 = .ok (.iload 6, 2) := by decide +kernel
theorem dX4_homesDrawn_68 : decode cX4_homesDrawn 68 = .ok (.invokevirtual 88, 3) := by decide +kernel
theorem dX4_homesDrawn_71 : decode cX4_homesDrawn 71 = .ok (.ifCond .eq 15, 3) := by decide +kernel
theorem dX4_homesDrawn_74 : decode cX4_homesDrawn 74 = .ok (.aload_n 0, 1) := by decide +kernel
theorem dX4_homesDrawn_75 : decode cX4_homesDrawn 75 = .ok (.getfield 42, 3) := by decide +kernel
theorem dX4_homesDrawn_78 : decode cX4_homesDrawn 78 = .ok (.iload 5, 2) := by decide +kernel
theorem dX4_homesDrawn_80 : decode cX4_homesDrawn 80 = .ok (.iload 6, 2) := by decide +kernel
theorem dX4_homesDrawn_82 : decode cX4_homesDrawn 82 = .ok (.invokevirtual 161, 3) := by decide +kernel
theorem dX4_homesDrawn_85 : decode cX4_homesDrawn 85 = .ok (.pop, 1) := by decide +kernel
theorem dX4_homesDrawn_86 : decode cX4_homesDrawn 86 = .ok (.aload_n 0, 1) := by decide +kernel
theorem dX4_homesDrawn_87 : decode cX4_homesDrawn 87 = .ok (.getfield 42, 3) := by decide +kernel
theorem dX4_homesDrawn_90 : decode cX4_homesDrawn 90 = .ok (.invokevirtual 164, 3) := by decide +kernel
theorem dX4_homesDrawn_93 : decode cX4_homesDrawn 93 = .ok (.pop, 1) := by decide +kernel
theorem dX4_homesDrawn_94 : decode cX4_homesDrawn 94 = .ok (.iinc 4 1, 3) := by decide +kernel
theorem dX4_homesDrawn_97 : decode cX4_homesDrawn 97 = .ok (.goto (-81), 3) := by decide +kernel
theorem dX4_homesDrawn_100 : decode cX4_homesDrawn 100 = .ok (.aload_n 0, 1) := by decide +kernel
theorem dX4_homesDrawn_101 : decode cX4_homesDrawn 101 = .ok (.getfield 42, 3) := by decide +kernel
theorem dX4_homesDrawn_104 : decode cX4_homesDrawn 104 = .ok (.invokevirtual 175, 3) := by decide +kernel
theorem dX4_homesDrawn_107 : decode cX4_homesDrawn 107 = .ok (.ireturn, 1) := by decide +kernel
theorem dX4_sheet_0 : decode cX4_sheet 0 = .ok (.aload_n 0, 1) := by decide +kernel
theorem dX4_sheet_1 : decode cX4_sheet 1 = .ok (.iload_n 1, 1) := by decide +kernel
theorem dX4_sheet_2 : decode cX4_sheet 2 = .ok (.invokevirtual 228, 3) := by decide +kernel
theorem dX4_sheet_5 : decode cX4_sheet 5 = .ok (.astore 4, 2) := by decide +kernel
theorem dX4_sheet_7 : decode cX4_sheet 7 = .ok (.aload 4, 2) := by decide +kernel
theorem dX4_sheet_9 : decode cX4_sheet 9 = .ok (.ifnull 13, 3) := by decide +kernel
theorem dX4_sheet_12 : decode cX4_sheet 12 = .ok (.iload_n 2, 1) := by decide +kernel
theorem dX4_sheet_13 : decode cX4_sheet 13 = .ok (.iconst (-1), 1) := by decide +kernel
theorem dX4_sheet_14 : decode cX4_sheet 14 = .ok (.if_icmp .lt 8, 3) := by decide +kernel
theorem dX4_sheet_17 : decode cX4_sheet 17 = .ok (.iload_n 2, 1) := by decide +kernel
theorem dX4_sheet_18 : decode cX4_sheet 18 = .ok (.iconst 2, 1) := by decide +kernel
theorem dX4_sheet_19 : decode cX4_sheet 19 = .ok (.if_icmp .le 6, 3) := by decide +kernel
theorem dX4_sheet_22 : decode cX4_sheet 22 = .ok (.bipush (-2), 2) := by decide +kernel
theorem dX4_sheet_24 : decode cX4_sheet 24 = .ok (.ireturn, 1) := by decide +kernel
theorem dX4_sheet_25 : decode cX4_sheet 25 = .ok (.iload_n 2, 1) := by decide +kernel
theorem dX4_sheet_26 : decode cX4_sheet 26 = .ok (.iconst (-1), 1) := by decide +kernel
theorem dX4_sheet_27 : decode cX4_sheet 27 = .ok (.if_icmp .ne 12, 3) := by decide +kernel
theorem dX4_sheet_30 : decode cX4_sheet 30 = .ok (.aload 4, 2) := by decide +kernel
theorem dX4_sheet_32 : decode cX4_sheet 32 = .ok (.iload_n 2, 1) := by decide +kernel
theorem dX4_sheet_33 : decode cX4_sheet 33 = .ok (.iconst 0, 1) := by decide +kernel
theorem dX4_sheet_34 : decode cX4_sheet 34 = .ok (.invokevirtual 252, 3) := by decide +kernel
theorem dX4_sheet_37 : decode cX4_sheet 37 = .ok (.iconst 1, 1) := by decide +kernel
theorem dX4_sheet_38 : decode cX4_sheet 38 = .ok (.ireturn, 1) := by decide +kernel
theorem dX4_sheet_39 : decode cX4_sheet 39 = .ok (.iload_n 3, 1) := by decide +kernel
theorem dX4_sheet_40 : decode cX4_sheet 40 = .ok (.bipush 40, 2) := by decide +kernel
theorem dX4_sheet_42 : decode cX4_sheet 42 = .ok (.if_icmp .le 6, 3) := by decide +kernel
theorem dX4_sheet_45 : decode cX4_sheet 45 = .ok (.bipush (-2), 2) := by decide +kernel
theorem dX4_sheet_47 : decode cX4_sheet 47 = .ok (.ireturn, 1) := by decide +kernel
theorem dX4_sheet_48 : decode cX4_sheet 48 = .ok (.iload_n 3, 1) := by decide +kernel
theorem dX4_sheet_49 : decode cX4_sheet 49 = .ok (.ifCond .ge 6, 3) := by decide +kernel
theorem dX4_sheet_52 : decode cX4_sheet 52 = .ok (.bipush (-14), 2) := by decide +kernel
theorem dX4_sheet_54 : decode cX4_sheet 54 = .ok (.ireturn, 1) := by decide +kernel
theorem dX4_sheet_55 : decode cX4_sheet 55 = .ok (.aload 4, 2) := by decide +kernel
theorem dX4_sheet_57 : decode cX4_sheet 57 = .ok (.iload_n 2, 1) := by decide +kernel
theorem dX4_sheet_58 : decode cX4_sheet 58 = .ok (.iload_n 3, 1) := by decide +kernel
theorem dX4_sheet_59 : decode cX4_sheet 59 = .ok (.invokevirtual 252, 3) := by decide +kernel
theorem dX4_sheet_62 : decode cX4_sheet 62 = .ok (.iconst 1, 1) := by decide +kernel
theorem dX4_sheet_63 : decode cX4_sheet 63 = .ok (.ireturn, 1) := by decide +kernel
theorem dX4_cell_0 : decode cX4_cell 0 = .ok (.aload_n 0, 1) := by decide +kernel
theorem dX4_cell_1 : decode cX4_cell 1 = .ok (.iload_n 1, 1) := by decide +kernel
theorem dX4_cell_2 : decode cX4_cell 2 = .ok (.invokevirtual 228, 3) := by decide +kernel
theorem dX4_cell_5 : decode cX4_cell 5 = .ok (.astore 4, 2) := by decide +kernel
theorem dX4_cell_7 : decode cX4_cell 7 = .ok (.aload 4, 2) := by decide +kernel
theorem dX4_cell_9 : decode cX4_cell 9 = .ok (.ifnonnull 6, 3) := by decide +kernel
theorem dX4_cell_12 : decode cX4_cell 12 = .ok (.bipush (-2), 2) := by decide +kernel
theorem dX4_cell_14 : decode cX4_cell 14 = .ok (.ireturn, 1) := by decide +kernel
theorem dX4_cell_15 : decode cX4_cell 15 = .ok (.aload 4, 2) := by decide +kernel
theorem dX4_cell_17 : decode cX4_cell 17 = .ok (.invokevirtual 232, 3) := by decide +kernel
theorem dX4_cell_20 : decode cX4_cell 20 = .ok (.ifCond .eq 6, 3) := by decide +kernel
theorem dX4_cell_23 : decode cX4_cell 23 = .ok (.bipush (-11), 2) := by decide +kernel
theorem dX4_cell_25 : decode cX4_cell 25 = .ok (.ireturn, 1) := by decide +kernel
theorem dX4_cell_26 : decode cX4_cell 26 = .ok (.aload 4, 2) := by decide +kernel
theorem dX4_cell_28 : decode cX4_cell 28 = .ok (.iload_n 2, 1) := by decide +kernel
theorem dX4_cell_29 : decode cX4_cell 29 = .ok (.invokevirtual 269, 3) := by decide +kernel
theorem dX4_cell_32 : decode cX4_cell 32 = .ok (.ifCond .ne 6, 3) := by decide +kernel
theorem dX4_cell_35 : decode cX4_cell 35 = .ok (.bipush (-12), 2) := by decide +kernel
theorem dX4_cell_37 : decode cX4_cell 37 = .ok (.ireturn, 1) := by decide +kernel
theorem dX4_cell_38 : decode cX4_cell 38 = .ok (.aload 4, 2) := by decide +kernel
theorem dX4_cell_40 : decode cX4_cell 40 = .ok (.iload_n 2, 1) := by decide +kernel
theorem dX4_cell_41 : decode cX4_cell 41 = .ok (.iload_n 3, 1) := by decide +kernel
theorem dX4_cell_42 : decode cX4_cell 42 = .ok (.invokevirtual 255, 3) := by decide +kernel
theorem dX4_cell_45 : decode cX4_cell 45 = .ok (.iconst 1, 1) := by decide +kernel
theorem dX4_cell_46 : decode cX4_cell 46 = .ok (.ireturn, 1) := by decide +kernel
theorem dX4_copy_0 : decode cX4_copy 0 = .ok (.aload_n 0, 1) := by decide +kernel
theorem dX4_copy_1 : decode cX4_copy 1 = .ok (.iload_n 1, 1) := by decide +kernel
theorem dX4_copy_2 : decode cX4_copy 2 = .ok (.invokevirtual 228, 3) := by decide +kernel
theorem dX4_copy_5 : decode cX4_copy 5 = .ok (.astore 6, 2) := by decide +kernel
theorem dX4_copy_7 : decode cX4_copy 7 = .ok (.aload_n 0, 1) := by decide +kernel
theorem dX4_copy_8 : decode cX4_copy 8 = .ok (.iload_n 3, 1) := by decide +kernel
theorem dX4_copy_9 : decode cX4_copy 9 = .ok (.invokevirtual 228, 3) := by decide +kernel
theorem dX4_copy_12 : decode cX4_copy 12 = .ok (.astore 7, 2) := by decide +kernel
theorem dX4_copy_14 : decode cX4_copy 14 = .ok (.aload 6, 2) := by decide +kernel
theorem dX4_copy_16 : decode cX4_copy 16 = .ok (.ifnull 8, 3) := by decide +kernel
theorem dX4_copy_19 : decode cX4_copy 19 = .ok (.aload 7, 2) := by decide +kernel
theorem dX4_copy_21 : decode cX4_copy 21 = .ok (.ifnonnull 6, 3) := by decide +kernel
theorem dX4_copy_24 : decode cX4_copy 24 = .ok (.bipush (-2), 2) := by decide +kernel
theorem dX4_copy_26 : decode cX4_copy 26 = .ok (.ireturn, 1) := by decide +kernel
theorem dX4_copy_27 : decode cX4_copy 27 = .ok (.aload 6, 2) := by decide +kernel
theorem dX4_copy_29 : decode cX4_copy 29 = .ok (.invokevirtual 232, 3) := by decide +kernel
theorem dX4_copy_32 : decode cX4_copy 32 = .ok (.ifCond .ne 11, 3) := by decide +kernel
theorem dX4_copy_35 : decode cX4_copy 35 = .ok (.aload 7, 2) := by decide +kernel
theorem dX4_copy_37 : decode cX4_copy 37 = .ok (.invokevirtual 232, 3) := by decide +kernel
theorem dX4_copy_40 : decode cX4_copy 40 = .ok (.ifCond .eq 6, 3) := by decide +kernel
theorem dX4_copy_43 : decode cX4_copy 43 = .ok (.bipush (-11), 2) := by decide +kernel
theorem dX4_copy_45 : decode cX4_copy 45 = .ok (.ireturn, 1) := by decide +kernel
theorem dX4_copy_46 : decode cX4_copy 46 = .ok (.aload 6, 2) := by decide +kernel
theorem dX4_copy_48 : decode cX4_copy 48 = .ok (.getfield 272, 3) := by decide +kernel
theorem dX4_copy_51 : decode cX4_copy 51 = .ok (.aload 7, 2) := by decide +kernel
theorem dX4_copy_53 : decode cX4_copy 53 = .ok (.getfield 272, 3) := by decide +kernel
theorem dX4_copy_56 : decode cX4_copy 56 = .ok (.if_icmp .eq 6, 3) := by decide +kernel
theorem dX4_copy_59 : decode cX4_copy 59 = .ok (.bipush (-13), 2) := by decide +kernel
theorem dX4_copy_61 : decode cX4_copy 61 = .ok (.ireturn, 1) := by decide +kernel
theorem dX4_copy_62 : decode cX4_copy 62 = .ok (.aload 6, 2) := by decide +kernel
theorem dX4_copy_64 : decode cX4_copy 64 = .ok (.iload_n 2, 1) := by decide +kernel
theorem dX4_copy_65 : decode cX4_copy 65 = .ok (.iload 5, 2) := by decide +kernel
theorem dX4_copy_67 : decode cX4_copy 67 = .ok (.invokevirtual 275, 3) := by decide +kernel
theorem dX4_copy_70 : decode cX4_copy 70 = .ok (.ifCond .eq 15, 3) := by decide +kernel
theorem dX4_copy_73 : decode cX4_copy 73 = .ok (.aload 7, 2) := by decide +kernel
theorem dX4_copy_75 : decode cX4_copy 75 = .ok (.iload 4, 2) := by decide +kernel
theorem dX4_copy_77 : decode cX4_copy 77 = .ok (.iload 5, 2) := by decide +kernel
theorem dX4_copy_79 : decode cX4_copy 79 = .ok (.invokevirtual 275, 3) := by decide +kernel
theorem dX4_copy_82 : decode cX4_copy 82 = .ok (.ifCond .ne 6, 3) := by decide +kernel
theorem dX4_copy_85 : decode cX4_copy 85 = .ok (.bipush (-12), 2) := by decide +kernel
theorem dX4_copy_87 : decode cX4_copy 87 = .ok (.ireturn, 1) := by decide +kernel
theorem dX4_copy_88 : decode cX4_copy 88 = .ok (.aload 6, 2) := by decide +kernel
theorem dX4_copy_90 : decode cX4_copy 90 = .ok (.getfield 278, 3) := by decide +kernel
theorem dX4_copy_93 : decode cX4_copy 93 = .ok (.iload_n 2, 1) := by decide +kernel
theorem dX4_copy_94 : decode cX4_copy 94 = .ok (.aload 7, 2) := by decide +kernel
theorem dX4_copy_96 : decode cX4_copy 96 = .ok (.getfield 278, 3) := by decide +kernel
theorem dX4_copy_99 : decode cX4_copy 99 = .ok (.iload 4, 2) := by decide +kernel
theorem dX4_copy_101 : decode cX4_copy 101 = .ok (.iload 5, 2) := by decide +kernel
theorem dX4_copy_103 : decode cX4_copy 103 = .ok (.invokestatic 281, 3) := by decide +kernel
theorem dX4_copy_106 : decode cX4_copy 106 = .ok (.iload 5, 2) := by decide +kernel
theorem dX4_copy_108 : decode cX4_copy 108 = .ok (.ireturn, 1) := by decide +kernel
theorem dX4_hill_0 : decode cX4_hill 0 = .ok (.aload_n 0, 1) := by decide +kernel
theorem dX4_hill_1 : decode cX4_hill 1 = .ok (.iload_n 1, 1) := by decide +kernel
theorem dX4_hill_2 : decode cX4_hill 2 = .ok (.invokevirtual 228, 3) := by decide +kernel
theorem dX4_hill_5 : decode cX4_hill 5 = .ok (.astore 5, 2) := by decide +kernel
theorem dX4_hill_7 : decode cX4_hill 7 = .ok (.aload 5, 2) := by decide +kernel
theorem dX4_hill_9 : decode cX4_hill 9 = .ok (.ifnull 23, 3) := by decide +kernel
theorem dX4_hill_12 : decode cX4_hill 12 = .ok (.iload_n 2, 1) := by decide +kernel
theorem dX4_hill_13 : decode cX4_hill 13 = .ok (.ifCond .lt 19, 3) := by decide +kernel
theorem dX4_hill_16 : decode cX4_hill 16 = .ok (.iload_n 2, 1) := by decide +kernel
theorem dX4_hill_17 : decode cX4_hill 17 = .ok (.iconst 2, 1) := by decide +kernel
theorem dX4_hill_18 : decode cX4_hill 18 = .ok (.if_icmp .gt 14, 3) := by decide +kernel
theorem dX4_hill_21 : decode cX4_hill 21 = .ok (.iload 4, 2) := by decide +kernel
theorem dX4_hill_23 : decode cX4_hill 23 = .ok (.ifCond .lt 9, 3) := by decide +kernel
theorem dX4_hill_26 : decode cX4_hill 26 = .ok (.iload 4, 2) := by decide +kernel
theorem dX4_hill_28 : decode cX4_hill 28 = .ok (.iconst 5, 1) := by decide +kernel
theorem dX4_hill_29 : decode cX4_hill 29 = .ok (.if_icmp .le 6, 3) := by decide +kernel
theorem dX4_hill_32 : decode cX4_hill 32 = .ok (.bipush (-2), 2) := by decide +kernel
theorem dX4_hill_34 : decode cX4_hill 34 = .ok (.ireturn, 1) := by decide +kernel
theorem dX4_hill_35 : decode cX4_hill 35 = .ok (.aload 5, 2) := by decide +kernel
theorem dX4_hill_37 : decode cX4_hill 37 = .ok (.invokevirtual 232, 3) := by decide +kernel
theorem dX4_hill_40 : decode cX4_hill 40 = .ok (.ifCond .ne 15, 3) := by decide +kernel
theorem dX4_hill_43 : decode cX4_hill 43 = .ok (.aload 5, 2) := by decide +kernel
theorem dX4_hill_45 : decode cX4_hill 45 = .ok (.getfield 272, 3) := by decide +kernel
theorem dX4_hill_48 : decode cX4_hill 48 = .ok (.iload_n 2, 1) := by decide +kernel
theorem dX4_hill_49 : decode cX4_hill 49 = .ok (.if_icmp .eq 6, 3) := by decide +kernel
theorem dX4_hill_52 : decode cX4_hill 52 = .ok (.bipush (-13), 2) := by decide +kernel
theorem dX4_hill_54 : decode cX4_hill 54 = .ok (.ireturn, 1) := by decide +kernel
theorem dX4_hill_55 : decode cX4_hill 55 = .ok (.aload 5, 2) := by decide +kernel
theorem dX4_hill_57 : decode cX4_hill 57 = .ok (.invokevirtual 232, 3) := by decide +kernel
theorem dX4_hill_60 : decode cX4_hill 60 = .ok (.ifCond .eq 6, 3) := by decide +kernel
theorem dX4_hill_63 : decode cX4_hill 63 = .ok (.bipush (-11), 2) := by decide +kernel
theorem dX4_hill_65 : decode cX4_hill 65 = .ok (.ireturn, 1) := by decide +kernel
theorem dX4_hill_66 : decode cX4_hill 66 = .ok (.iconst 0, 1) := by decide +kernel
theorem dX4_hill_67 : decode cX4_hill 67 = .ok (.istore 6, 2) := by decide +kernel
theorem dX4_hill_69 : decode cX4_hill 69 = .ok (.iload_n 3, 1) := by decide +kernel
theorem dX4_hill_70 : decode cX4_hill 70 = .ok (.istore 7, 2) := by decide +kernel
theorem dX4_hill_72 : decode cX4_hill 72 = .ok (.iconst 0, 1) := by decide +kernel
theorem dX4_hill_73 : decode cX4_hill 73 = .ok (.istore 8, 2) := by decide +kernel
theorem dX4_hill_75 : decode cX4_hill 75 = .ok (.iload 8, 2) := by decide +kernel
theorem dX4_hill_77 : decode cX4_hill 77 = .ok (.iload 4, 2) := by decide +kernel
theorem dX4_hill_79 : decode cX4_hill 79 = .ok (.if_icmp .ge 61, 3) := by decide +kernel
theorem dX4_hill_82 : decode cX4_hill 82 = .ok (.aload 5, 2) := by decide +kernel
theorem dX4_hill_84 : decode cX4_hill 84 = .ok (.iload 7, 2) := by decide +kernel
theorem dX4_hill_86 : decode cX4_hill 86 = .ok (.iconst 3, 1) := by decide +kernel
theorem dX4_hill_87 : decode cX4_hill 87 = .ok (.invokevirtual 275, 3) := by decide +kernel
theorem dX4_hill_90 : decode cX4_hill 90 = .ok (.ifCond .ne 6, 3) := by decide +kernel
theorem dX4_hill_93 : decode cX4_hill 93 = .ok (.bipush (-12), 2) := by decide +kernel
theorem dX4_hill_95 : decode cX4_hill 95 = .ok (.ireturn, 1) := by decide +kernel
theorem dX4_hill_96 : decode cX4_hill 96 = .ok (.aload_n 0, 1) := by decide +kernel
theorem dX4_hill_97 : decode cX4_hill 97 = .ok (.aload 5, 2) := by decide +kernel
theorem dX4_hill_99 : decode cX4_hill 99 = .ok (.iload 7, 2) := by decide +kernel
theorem dX4_hill_101 : decode cX4_hill 101 = .ok (.invokevirtual 287, 3) := by decide +kernel
theorem dX4_hill_104 : decode cX4_hill 104 = .ok (.aload 5, 2) := by decide +kernel
theorem dX4_hill_106 : decode cX4_hill 106 = .ok (.iload 7, 2) := by decide +kernel
theorem dX4_hill_108 : decode cX4_hill 108 = .ok (.iconst 1, 1) := by decide +kernel
theorem dX4_hill_109 : decode cX4_hill 109 = .ok (.iadd, 1) := by decide +kernel
theorem dX4_hill_110 : decode cX4_hill 110 = .ok (.invokevirtual 287, 3) := by decide +kernel
theorem dX4_hill_113 : decode cX4_hill 113 = .ok (.aload 5, 2) := by decide +kernel
theorem dX4_hill_115 : decode cX4_hill 115 = .ok (.iload 7, 2) := by decide +kernel
theorem dX4_hill_117 : decode cX4_hill 117 = .ok (.iconst 2, 1) := by decide +kernel
theorem dX4_hill_118 : decode cX4_hill 118 = .ok (.iadd, 1) := by decide +kernel
theorem dX4_hill_119 : decode cX4_hill 119 = .ok (.invokevirtual 287, 3) := by decide +kernel
theorem dX4_hill_122 : decode cX4_hill 122 = .ok (.invokevirtual 290, 3) := by decide +kernel
theorem dX4_hill_125 : decode cX4_hill 125 = .ok (.ifCond .lt 6, 3) := by decide +kernel
theorem dX4_hill_128 : decode cX4_hill 128 = .ok (.iinc 6 1, 3) := by decide +kernel
theorem dX4_hill_131 : decode cX4_hill 131 = .ok (.iinc 7 3, 3) := by decide +kernel
theorem dX4_hill_134 : decode cX4_hill 134 = .ok (.iinc 8 1, 3) := by decide +kernel
theorem dX4_hill_137 : decode cX4_hill 137 = .ok (.goto (-62), 3) := by decide +kernel
theorem dX4_hill_140 : decode cX4_hill 140 = .ok (.iload 6, 2) := by decide +kernel
theorem dX4_hill_142 : decode cX4_hill 142 = .ok (.ireturn, 1) := by decide +kernel
theorem dX4_taken_0 : decode cX4_taken 0 = .ok (.iload_n 2, 1) := by decide +kernel
theorem dX4_taken_1 : decode cX4_taken 1 = .ok (.ifCond .lt 8, 3) := by decide +kernel
theorem dX4_taken_4 : decode cX4_taken 4 = .ok (.iload_n 2, 1) := by decide +kernel
theorem dX4_taken_5 : decode cX4_taken 5 = .ok (.iconst 5, 1) := by decide +kernel
theorem dX4_taken_6 : decode cX4_taken 6 = .ok (.if_icmp .le 6, 3) := by decide +kernel
theorem dX4_taken_9 : decode cX4_taken 9 = .ok (.bipush (-2), 2) := by decide +kernel
theorem dX4_taken_11 : decode cX4_taken 11 = .ok (.ireturn, 1) := by decide +kernel
theorem dX4_taken_12 : decode cX4_taken 12 = .ok (.aload_n 0, 1) := by decide +kernel
theorem dX4_taken_13 : decode cX4_taken 13 = .ok (.getfield 38, 3) := by decide +kernel
theorem dX4_taken_16 : decode cX4_taken 16 = .ok (.iload_n 1, 1) := by decide +kernel
theorem dX4_taken_17 : decode cX4_taken 17 = .ok (.invokevirtual 105, 3) := by decide +kernel
theorem dX4_taken_20 : decode cX4_taken 20 = .ok (.ifCond .ne 6, 3) := by decide +kernel
theorem dX4_taken_23 : decode cX4_taken 23 = .ok (.bipush (-11), 2) := by decide +kernel
theorem dX4_taken_25 : decode cX4_taken 25 = .ok (.ireturn, 1) := by decide +kernel
theorem dX4_taken_26 : decode cX4_taken 26 = .ok (.aload_n 0, 1) := by decide +kernel
theorem dX4_taken_27 : decode cX4_taken 27 = .ok (.getfield 38, 3) := by decide +kernel
theorem dX4_taken_30 : decode cX4_taken 30 = .ok (.iload_n 1, 1) := by decide +kernel
theorem dX4_taken_31 : decode cX4_taken 31 = .ok (.invokevirtual 123, 3) := by decide +kernel
theorem dX4_taken_34 : decode cX4_taken 34 = .ok (.iload_n 2, 1) := by decide +kernel
theorem dX4_taken_35 : decode cX4_taken 35 = .ok (.invokestatic 293, 3) := by decide +kernel
theorem dX4_taken_38 : decode cX4_taken 38 = .ok (.ifCond .eq 14, 3) := by decide +kernel
theorem dX4_taken_41 : decode cX4_taken 41 = .ok (.aload_n 0, 1) := by decide +kernel
theorem dX4_taken_42 : decode cX4_taken 42 = .ok (.getfield 38, 3) := by decide +kernel
theorem dX4_taken_45 : decode cX4_taken 45 = .ok (.iload_n 1, 1) := by decide +kernel
theorem dX4_taken_46 : decode cX4_taken 46 = .ok (.invokevirtual 120, 3) := by decide +kernel
theorem dX4_taken_49 : decode cX4_taken 49 = .ok (.goto 5, 3) := by decide +kernel
theorem dX4_taken_52 : decode cX4_taken 52 = .ok (.bipush (-13), 2) := by decide +kernel
theorem dX4_taken_54 : decode cX4_taken 54 = .ok (.ireturn, 1) := by decide +kernel
theorem dX4_sheetNumbered_0 : decode cX4_sheetNumbered 0 = .ok (.iload_n 1, 1) := by decide +kernel
theorem dX4_sheetNumbered_1 : decode cX4_sheetNumbered 1 = .ok (.ifCond .lt 21, 3) := by decide +kernel
theorem dX4_sheetNumbered_4 : decode cX4_sheetNumbered 4 = .ok (.iload_n 1, 1) := by decide +kernel
theorem dX4_sheetNumbered_5 : decode cX4_sheetNumbered 5 = .ok (.aload_n 0, 1) := by decide +kernel
theorem dX4_sheetNumbered_6 : decode cX4_sheetNumbered 6 = .ok (.getfield 54, 3) := by decide +kernel
theorem dX4_sheetNumbered_9 : decode cX4_sheetNumbered 9 = .ok (.arraylength, 1) := by decide +kernel
theorem dX4_sheetNumbered_10 : decode cX4_sheetNumbered 10 = .ok (.if_icmp .ge 12, 3) := by decide +kernel
theorem dX4_sheetNumbered_13 : decode cX4_sheetNumbered 13 = .ok (.aload_n 0, 1) := by decide +kernel
theorem dX4_sheetNumbered_14 : decode cX4_sheetNumbered 14 = .ok (.getfield 54, 3) := by decide +kernel
theorem dX4_sheetNumbered_17 : decode cX4_sheetNumbered 17 = .ok (.iload_n 1, 1) := by decide +kernel
theorem dX4_sheetNumbered_18 : decode cX4_sheetNumbered 18 = .ok (.aaload, 1) := by decide +kernel
theorem dX4_sheetNumbered_19 : decode cX4_sheetNumbered 19 = .ok (.goto 4, 3) := by decide +kernel
theorem dX4_sheetNumbered_22 : decode cX4_sheetNumbered 22 = .ok (.aconst_null, 1) := by decide +kernel
theorem dX4_sheetNumbered_23 : decode cX4_sheetNumbered 23 = .ok (.areturn, 1) := by decide +kernel
theorem dX5_in_0 : decode cX5_in 0 = .ok (.lload_n 0, 1) := by decide +kernel
theorem dX5_in_1 : decode cX5_in 1 = .ok (.lload_n 2, 1) := by decide +kernel
theorem dX5_in_2 : decode cX5_in 2 = .ok (.lcmp, 1) := by decide +kernel
theorem dX5_in_3 : decode cX5_in 3 = .ok (.ifCond .lt 14, 3) := by decide +kernel
theorem dX5_in_6 : decode cX5_in 6 = .ok (.lload_n 0, 1) := by decide +kernel
theorem dX5_in_7 : decode cX5_in 7 = .ok (.lload 4, 2) := by decide +kernel
theorem dX5_in_9 : decode cX5_in 9 = .ok (.lcmp, 1) := by decide +kernel
theorem dX5_in_10 : decode cX5_in 10 = .ok (.ifCond .gt 7, 3) := by decide +kernel
theorem dX5_in_13 : decode cX5_in 13 = .ok (.iconst 1, 1) := by decide +kernel
theorem dX5_in_14 : decode cX5_in 14 = .ok (.goto 4, 3) := by decide +kernel
theorem dX5_in_17 : decode cX5_in 17 = .ok (.iconst 0, 1) := by decide +kernel
theorem dX5_in_18 : decode cX5_in 18 = .ok (.ireturn, 1) := by decide +kernel
theorem dX5_within_0 : decode cX5_within 0 = .ok (.iload_n 0, 1) := by decide +kernel
theorem dX5_within_1 : decode cX5_within 1 = .ok (.iload_n 1, 1) := by decide +kernel
theorem dX5_within_2 : decode cX5_within 2 = .ok (.if_icmp .ge 7, 3) := by decide +kernel
theorem dX5_within_5 : decode cX5_within 5 = .ok (.iload_n 1, 1) := by decide +kernel
theorem dX5_within_6 : decode cX5_within 6 = .ok (.goto 13, 3) := by decide +kernel
theorem dX5_within_9 : decode cX5_within 9 = .ok (.iload_n 0, 1) := by decide +kernel
theorem dX5_within_10 : decode cX5_within 10 = .ok (.iload_n 2, 1) := by decide +kernel
theorem dX5_within_11 : decode cX5_within 11 = .ok (.if_icmp .le 7, 3) := by decide +kernel
theorem dX5_within_14 : decode cX5_within 14 = .ok (.iload_n 2, 1) := by decide +kernel
theorem dX5_within_15 : decode cX5_within 15 = .ok (.goto 4, 3) := by decide +kernel
theorem dX5_within_18 : decode cX5_within 18 = .ok (.iload_n 0, 1) := by decide +kernel
theorem dX5_within_19 : decode cX5_within 19 = .ok (.ireturn, 1) := by decide +kernel
theorem dX5_init_0 : decode cX5_init 0 = .ok (.aload_n 0, 1) := by decide +kernel
theorem dX5_init_1 : decode cX5_init 1 = .ok (.invokespecial 7, 3) := by decide +kernel
theorem dX5_init_4 : decode cX5_init 4 = .ok (.aload_n 0, 1) := by decide +kernel
theorem dX5_init_5 : decode cX5_init 5 = .ok (.sipush 960, 3) := by decide +kernel
theorem dX5_init_8 : decode cX5_init 8 = .ok (.newarray .int, 2) := by decide +kernel
theorem dX5_init_10 : decode cX5_init 10 = .ok (.putfield 13, 3) := by decide +kernel
theorem dX5_init_13 : decode cX5_init 13 = .ok (.aload_n 0, 1) := by decide +kernel
theorem dX5_init_14 : decode cX5_init 14 = .ok (.bipush 6, 2) := by decide +kernel
theorem dX5_init_16 : decode cX5_init 16 = .ok (.newarray .int, 2) := by decide +kernel
theorem dX5_init_18 : decode cX5_init 18 = .ok (.putfield 17, 3) := by decide +kernel
theorem dX5_init_21 : decode cX5_init 21 = .ok (.aload_n 0, 1) := by decide +kernel
theorem dX5_init_22 : decode cX5_init 22 = .ok (.sipush 160, 3) := by decide +kernel
theorem dX5_init_25 : decode cX5_init 25 = .ok (.newarray .int, 2) := by decide +kernel
theorem dX5_init_27 : decode cX5_init 27 = .ok (.putfield 20, 3) := by decide +kernel
theorem dX5_init_30 : decode cX5_init 30 = .ok (.aload_n 0, 1) := by decide +kernel
theorem dX5_init_31 : decode cX5_init 31 = .ok (.iconst 1, 1) := by decide +kernel
theorem dX5_init_32 : decode cX5_init 32 = .ok (.putfield 23, 3) := by decide +kernel
theorem dX5_init_35 : decode cX5_init 35 = .ok (.aload_n 0, 1) := by decide +kernel
theorem dX5_init_36 : decode cX5_init 36 = .ok (.bipush 15, 2) := by decide +kernel
theorem dX5_init_38 : decode cX5_init 38 = .ok (.newarray .int, 2) := by decide +kernel
theorem dX5_init_40 : decode cX5_init 40 = .ok (.putfield 26, 3) := by decide +kernel
theorem dX5_init_43 : decode cX5_init 43 = .ok (.aload_n 0, 1) := by decide +kernel
theorem dX5_init_44 : decode cX5_init 44 = .ok (.bipush 40, 2) := by decide +kernel
theorem dX5_init_46 : decode cX5_init 46 = .ok (.newarray .int, 2) := by decide +kernel
theorem dX5_init_48 : decode cX5_init 48 = .ok (.putfield 29, 3) := by decide +kernel
theorem dX5_init_51 : decode cX5_init 51 = .ok (.aload_n 0, 1) := by decide +kernel
theorem dX5_init_52 : decode cX5_init 52 = .ok (.bipush 42, 2) := by decide +kernel
theorem dX5_init_54 : decode cX5_init 54 = .ok (.newarray .int, 2) := by decide +kernel
theorem dX5_init_56 : decode cX5_init 56 = .ok (.putfield 32, 3) := by decide +kernel
theorem dX5_init_59 : decode cX5_init 59 = .ok (.aload_n 0, 1) := by decide +kernel
theorem dX5_init_60 : decode cX5_init 60 = .ok (.iconst 5, 1) := by decide +kernel
theorem dX5_init_61 : decode cX5_init 61 = .ok (.newarray .int, 2) := by decide +kernel
theorem dX5_init_63 : decode cX5_init 63 = .ok (.putfield 35, 3) := by decide +kernel
theorem dX5_init_66 : decode cX5_init 66 = .ok (.aload_n 0, 1) := by decide +kernel
theorem dX5_init_67 : decode cX5_init 67 = .ok (.iconst 5, 1) := by decide +kernel
theorem dX5_init_68 : decode cX5_init 68 = .ok (.newarray .int, 2) := by decide +kernel
theorem dX5_init_70 : decode cX5_init 70 = .ok (.putfield 38, 3) := by decide +kernel
theorem dX5_init_73 : decode cX5_init 73 = .ok (.aload_n 0, 1) := by decide +kernel
theorem dX5_init_74 : decode cX5_init 74 = .ok (.bipush 15, 2) := by decide +kernel
theorem dX5_init_76 : decode cX5_init 76 = .ok (.newarray .int, 2) := by decide +kernel
theorem dX5_init_78 : decode cX5_init 78 = .ok (.putfield 41, 3) := by decide +kernel
theorem dX5_init_81 : decode cX5_init 81 = .ok (.aload_n 0, 1) := by decide +kernel
theorem dX5_init_82 : decode cX5_init 82 = .ok (.bipush 15, 2) := by decide +kernel
theorem dX5_init_84 : decode cX5_init 84 = .ok (.newarray .int, 2) := by decide +kernel
theorem dX5_init_86 : decode cX5_init 86 = .ok (.putfield 44, 3) := by decide +kernel
theorem dX5_init_89 : decode cX5_init 89 = .ok (.aload_n 0, 1) := by decide +kernel
theorem dX5_init_90 : decode cX5_init 90 = .ok (.bipush 40, 2) := by decide +kernel
theorem dX5_init_92 : decode cX5_init 92 = .ok (.newarray .int, 2) := by decide +kernel
theorem dX5_init_94 : decode cX5_init 94 = .ok (.putfield 47, 3) := by decide +kernel
theorem dX5_init_97 : decode cX5_init 97 = .ok (.aload_n 0, 1) := by decide +kernel
theorem dX5_init_98 : decode cX5_init 98 = .ok (.iconst (-1), 1) := by decide +kernel
theorem dX5_init_99 : decode cX5_init 99 = .ok (.putfield 50, 3) := by decide +kernel
theorem dX5_init_102 : decode cX5_init 102 = .ok (.aload_n 0, 1) := by decide +kernel
theorem dX5_init_103 : decode cX5_init 103 = .ok (.iconst 4, 1) := by decide +kernel
theorem dX5_init_104 : decode cX5_init 104 = .ok (.newarray .boolean, 2) := by decide +kernel
theorem dX5_init_106 : decode cX5_init 106 = .ok (.putfield 53, 3) := by decide +kernel
theorem dX5_init_109 : decode cX5_init 109 = .ok (.aload_n 0, 1) := by decide +kernel
theorem dX5_init_110 : decode cX5_init 110 = .ok (.iconst 4, 1) := by decide +kernel
theorem dX5_init_111 : decode cX5_init 111 = .ok (.newarray .int, 2) := by decide +kernel
theorem dX5_init_113 : decode cX5_init 113 = .ok (.putfield 57, 3) := by decide +kernel
theorem dX5_init_116 : decode cX5_init 116 = .ok (.aload_n 0, 1) := by decide +kernel
theorem dX5_init_117 : decode cX5_init 117 = .ok (.iconst 4, 1) := by decide +kernel
theorem dX5_init_118 : decode cX5_init 118 = .ok (.newarray .int, 2) := by decide +kernel
theorem dX5_init_120 : decode cX5_init 120 = .ok (.putfield 60, 3) := by decide +kernel
theorem dX5_init_123 : decode cX5_init 123 = .ok (.aload_n 0, 1) := by decide +kernel
theorem dX5_init_124 : decode cX5_init 124 = .ok (.sipush 160, 3) := by decide +kernel
theorem dX5_init_127 : decode cX5_init 127 = .ok (.newarray .int, 2) := by decide +kernel
theorem dX5_init_129 : decode cX5_init 129 = .ok (.putfield 63, 3) := by decide +kernel
theorem dX5_init_132 : decode cX5_init 132 = .ok (.aload_n 0, 1) := by decide +kernel
theorem dX5_init_133 : decode cX5_init 133 = .ok (.iconst 0, 1) := by decide +kernel
theorem dX5_init_134 : decode cX5_init 134 = .ok (.bipush 99, 2) := by decide +kernel
theorem dX5_init_136 : decode cX5_init 136 = .ok (.bipush 97, 2) := by decide +kernel
theorem dX5_init_138 : decode cX5_init 138 = .ok (.bipush 114, 2) := by decide +kernel
theorem dX5_init_140 : decode cX5_init 140 = .ok (.bipush 114, 2) := by decide +kernel
theorem dX5_init_142 : decode cX5_init 142 = .ok (.bipush 105, 2) := by decide +kernel
theorem dX5_init_144 : decode cX5_init 144 = .ok (.bipush 101, 2) := by decide +kernel
theorem dX5_init_146 : decode cX5_init 146 = .ok (.bipush 115, 2) := by decide +kernel
theorem dX5_init_148 : decode cX5_init 148 = .ok (.bipush 32, 2) := by decide +kernel
theorem dX5_init_150 : decode cX5_init 150 = .ok (.invokevirtual 66, 3) := by decide +kernel
theorem dX5_init_153 : decode cX5_init 153 = .ok (.aload_n 0, 1) := by decide +kernel
theorem dX5_init_154 : decode cX5_init 154 = .ok (.bipush 8, 2) := by decide +kernel
theorem dX5_init_156 : decode cX5_init 156 = .ok (.bipush 49, 2) := by decide +kernel
theorem dX5_init_158 : decode cX5_init 158 = .ok (.bipush 32, 2) := by decide +kernel
theorem dX5_init_160 : decode cX5_init 160 = .ok (.bipush 59, 2) := by decide +kernel
theorem dX5_init_162 : decode cX5_init 162 = .ok (.bipush 32, 2) := by decide +kernel
theorem dX5_init_164 : decode cX5_init 164 = .ok (.bipush 115, 2) := by decide +kernel
theorem dX5_init_166 : decode cX5_init 166 = .ok (.bipush 111, 2) := by decide +kernel
theorem dX5_init_168 : decode cX5_init 168 = .ok (.bipush 102, 2) := by decide +kernel
theorem dX5_init_170 : decode cX5_init 170 = .ok (.bipush 116, 2) := by decide +kernel
theorem dX5_init_172 : decode cX5_init 172 = .ok (.invokevirtual 66, 3) := by decide +kernel
theorem dX5_init_175 : decode cX5_init 175 = .ok (.aload_n 0, 1) := by decide +kernel
theorem dX5_init_176 : decode cX5_init 176 = .ok (.bipush 16, 2) := by decide +kernel
theorem dX5_init_178 : decode cX5_init 178 = .ok (.bipush 101, 2) := by decide +kernel
theorem dX5_init_180 : decode cX5_init 180 = .ok (.bipush 110, 2) := by decide +kernel
theorem dX5_init_182 : decode cX5_init 182 = .ok (.bipush 115, 2) := by decide +kernel
theorem dX5_init_184 : decode cX5_init 184 = .ok (.bipush 32, 2) := by decide +kernel
theorem dX5_init_186 : decode cX5_init 186 = .ok (.bipush 53, 2) := by decide +kernel
theorem dX5_init_188 : decode cX5_init 188 = .ok (.bipush 32, 2) := by decide +kernel
theorem dX5_init_190 : decode cX5_init 190 = .ok (.bipush 59, 2) := by decide +kernel
theorem dX5_init_192 : decode cX5_init 192 = .ok (.bipush 32, 2) := by decide +kernel
theorem dX5_init_194 : decode cX5_init 194 = .ok (.invokevirtual 66, 3) := by decide +kernel
theorem dX5_init_197 : decode cX5_init 197 = .ok (.aload_n 0, 1) := by decide +kernel
theorem dX5_init_198 : decode cX5_init 198 = .ok (.bipush 24, 2) := by decide +kernel
theorem dX5_init_200 : decode cX5_init 200 = .ok (.bipush 119, 2) := by decide +kernel
theorem dX5_init_202 : decode cX5_init 202 = .ok (.bipush 114, 2) := by decide +kernel
theorem dX5_init_204 : decode cX5_init 204 = .ok (.bipush 105, 2) := by decide +kernel
theorem dX5_init_206 : decode cX5_init 206 = .ok (.bipush 116, 2) := by decide +kernel
theorem dX5_init_208 : decode cX5_init 208 = .ok (.bipush 101, 2) := by decide +kernel
theorem dX5_init_210 : decode cX5_init 210 = .ok (.bipush 115, 2) := by decide +kernel
theorem dX5_init_212 : decode cX5_init 212 = .ok (.bipush 32, 2) := by decide +kernel
theorem dX5_init_214 : decode cX5_init 214 = .ok (.bipush 52, 2) := by decide +kernel
theorem dX5_init_216 : decode cX5_init 216 = .ok (.invokevirtual 66, 3) := by decide +kernel
theorem dX5_init_219 : decode cX5_init 219 = .ok (.aload_n 0, 1) := by decide +kernel
theorem dX5_init_220 : decode cX5_init 220 = .ok (.bipush 32, 2) := by decide +kernel
theorem dX5_init_222 : decode cX5_init 222 = .ok (.bipush 48, 2) := by decide +kernel
theorem dX5_init_224 : decode cX5_init 224 = .ok (.bipush 32, 2) := by decide +kernel
theorem dX5_init_226 : decode cX5_init 226 = .ok (.bipush 59, 2) := by decide +kernel
theorem dX5_init_228 : decode cX5_init 228 = .ok (.bipush 32, 2) := by decide +kernel
theorem dX5_init_230 : decode cX5_init 230 = .ok (.bipush 32, 2) := by decide +kernel
theorem dX5_init_232 : decode cX5_init 232 = .ok (.bipush 32, 2) := by decide +kernel
theorem dX5_init_234 : decode cX5_init 234 = .ok (.bipush 32, 2) := by decide +kernel
theorem dX5_init_236 : decode cX5_init 236 = .ok (.bipush 32, 2) := by decide +kernel
theorem dX5_init_238 : decode cX5_init 238 = .ok (.invokevirtual 66, 3) := by decide +kernel
theorem dX5_init_241 : decode cX5_init 241 = .ok (.aload_n 0, 1) := by decide +kernel
theorem dX5_init_242 : decode cX5_init 242 = .ok (.getfield 17, 3) := by decide +kernel
theorem dX5_init_245 : decode cX5_init 245 = .ok (.iconst 0, 1) := by decide +kernel
theorem dX5_init_246 : decode cX5_init 246 = .ok (.bipush 40, 2) := by decide +kernel
theorem dX5_init_248 : decode cX5_init 248 = .ok (.iastore, 1) := by decide +kernel
theorem dX5_init_249 : decode cX5_init 249 = .ok (.aload_n 0, 1) := by decide +kernel
theorem dX5_init_250 : decode cX5_init 250 = .ok (.iconst 1, 1) := by decide +kernel
theorem dX5_init_251 : decode cX5_init 251 = .ok (.putfield 70, 3) := by decide +kernel
theorem dX5_init_254 : decode cX5_init 254 = .ok (.return_, 1) := by decide +kernel
theorem dX5_spell_0 : decode cX5_spell 0 = .ok (.aload_n 0, 1) := by decide +kernel
theorem dX5_spell_1 : decode cX5_spell 1 = .ok (.getfield 13, 3) := by decide +kernel
theorem dX5_spell_4 : decode cX5_spell 4 = .ok (.iload_n 1, 1) := by decide +kernel
theorem dX5_spell_5 : decode cX5_spell 5 = .ok (.iload_n 2, 1) := by decide +kernel
theorem dX5_spell_6 : decode cX5_spell 6 = .ok (.iastore, 1) := by decide +kernel
theorem dX5_spell_7 : decode cX5_spell 7 = .ok (.aload_n 0, 1) := by decide +kernel
theorem dX5_spell_8 : decode cX5_spell 8 = .ok (.getfield 13, 3) := by decide +kernel
theorem dX5_spell_11 : decode cX5_spell 11 = .ok (.iload_n 1, 1) := by decide +kernel
theorem dX5_spell_12 : decode cX5_spell 12 = .ok (.iconst 1, 1) := by decide +kernel
theorem dX5_spell_13 : decode cX5_spell 13 = .ok (.iadd, 1) := by decide +kernel
theorem dX5_spell_14 : decode cX5_spell 14 = .ok (.iload_n 3, 1) := by decide +kernel
theorem dX5_spell_15 : decode cX5_spell 15 = .ok (.iastore, 1) := by decide +kernel
theorem dX5_spell_16 : decode cX5_spell 16 = .ok (.aload_n 0, 1) := by decide +kernel
theorem dX5_spell_17 : decode cX5_spell 17 = .ok (.getfield 13, 3) := by decide +kernel
theorem dX5_spell_20 : decode cX5_spell 20 = .ok (.iload_n 1, 1) := by decide +kernel
theorem dX5_spell_21 : decode cX5_spell 21 = .ok (.iconst 2, 1) := by decide +kernel
theorem dX5_spell_22 : decode cX5_spell 22 = .ok (.iadd, 1) := by decide +kernel
theorem dX5_spell_23 : decode cX5_spell 23 = .ok (.iload 4, 2) := by decide +kernel
theorem dX5_spell_25 : decode cX5_spell 25 = .ok (.iastore, 1) := by decide +kernel
theorem dX5_spell_26 : decode cX5_spell 26 = .ok (.aload_n 0, 1) := by decide +kernel
theorem dX5_spell_27 : decode cX5_spell 27 = .ok (.getfield 13, 3) := by decide +kernel
theorem dX5_spell_30 : decode cX5_spell 30 = .ok (.iload_n 1, 1) := by decide +kernel
theorem dX5_spell_31 : decode cX5_spell 31 = .ok (.iconst 3, 1) := by decide +kernel
theorem dX5_spell_32 : decode cX5_spell 32 = .ok (.iadd, 1) := by decide +kernel
theorem dX5_spell_33 : decode cX5_spell 33 = .ok (.iload 5, 2) := by decide +kernel
theorem dX5_spell_35 : decode cX5_spell 35 = .ok (.iastore, 1) := by decide +kernel
theorem dX5_spell_36 : decode cX5_spell 36 = .ok (.aload_n 0, 1) := by decide +kernel
theorem dX5_spell_37 : decode cX5_spell 37 = .ok (.getfield 13, 3) := by decide +kernel
theorem dX5_spell_40 : decode cX5_spell 40 = .ok (.iload_n 1, 1) := by decide +kernel
theorem dX5_spell_41 : decode cX5_spell 41 = .ok (.iconst 4, 1) := by decide +kernel
theorem dX5_spell_42 : decode cX5_spell 42 = .ok (.iadd, 1) := by decide +kernel
theorem dX5_spell_43 : decode cX5_spell 43 = .ok (.iload 6, 2) := by decide +kernel
theorem dX5_spell_45 : decode cX5_spell 45 = .ok (.iastore, 1) := by decide +kernel
theorem dX5_spell_46 : decode cX5_spell 46 = .ok (.aload_n 0, 1) := by decide +kernel
theorem dX5_spell_47 : decode cX5_spell 47 = .ok (.getfield 13, 3) := by decide +kernel
theorem dX5_spell_50 : decode cX5_spell 50 = .ok (.iload_n 1, 1) := by decide +kernel
theorem dX5_spell_51 : decode cX5_spell 51 = .ok (.iconst 5, 1) := by decide +kernel
theorem dX5_spell_52 : decode cX5_spell 52 = .ok (.iadd, 1) := by decide +kernel
theorem dX5_spell_53 : decode cX5_spell 53 = .ok (.iload 7, 2) := by decide +kernel
theorem dX5_spell_55 : decode cX5_spell 55 = .ok (.iastore, 1) := by decide +kernel
theorem dX5_spell_56 : decode cX5_spell 56 = .ok (.aload_n 0, 1) := by decide +kernel
theorem dX5_spell_57 : decode cX5_spell 57 = .ok (.getfield 13, 3) := by decide +kernel
theorem dX5_spell_60 : decode cX5_spell 60 = .ok (.iload_n 1, 1) := by decide +kernel
theorem dX5_spell_61 : decode cX5_spell 61 = .ok (.bipush 6, 2) := by decide +kernel
theorem dX5_spell_63 : decode cX5_spell 63 = .ok (.iadd, 1) := by decide +kernel
theorem dX5_spell_64 : decode cX5_spell 64 = .ok (.iload 8, 2) := by decide +kernel
theorem dX5_spell_66 : decode cX5_spell 66 = .ok (.iastore, 1) := by decide +kernel
theorem dX5_spell_67 : decode cX5_spell 67 = .ok (.aload_n 0, 1) := by decide +kernel
theorem dX5_spell_68 : decode cX5_spell 68 = .ok (.getfield 13, 3) := by decide +kernel
theorem dX5_spell_71 : decode cX5_spell 71 = .ok (.iload_n 1, 1) := by decide +kernel
theorem dX5_spell_72 : decode cX5_spell 72 = .ok (.bipush 7, 2) := by decide +kernel
theorem dX5_spell_74 : decode cX5_spell 74 = .ok (.iadd, 1) := by decide +kernel
theorem dX5_spell_75 : decode cX5_spell 75 = .ok (.iload 9, 2) := by decide +kernel
theorem dX5_spell_77 : decode cX5_spell 77 = .ok (.iastore, 1) := by decide +kernel
theorem dX5_spell_78 : decode cX5_spell 78 = .ok (.return_, 1) := by decide +kernel
theorem dX5_isOne_0 : decode cX5_isOne 0 = .ok (.iload_n 1, 1) := by decide +kernel
theorem dX5_isOne_1 : decode cX5_isOne 1 = .ok (.i2l, 1) := by decide +kernel
theorem dX5_isOne_2 : decode cX5_isOne 2 = .ok (.lconst 0, 1) := by decide +kernel
theorem dX5_isOne_3 : decode cX5_isOne 3 = .ok (.aload_n 0, 1) := by decide +kernel
theorem dX5_isOne_4 : decode cX5_isOne 4 = .ok (.getfield 73, 3) := by decide +kernel
theorem dX5_isOne_7 : decode cX5_isOne 7 = .ok (.iconst 1, 1) := by decide +kernel
theorem dX5_isOne_8 : decode cX5_isOne 8 = .ok (.isub, 1) := by decide +kernel
theorem dX5_isOne_9 : decode cX5_isOne 9 = .ok (.i2l, 1) := by decide +kernel
theorem dX5_isOne_10 : decode cX5_isOne 10 = .ok (.invokestatic 76, 3) := by decide +kernel
theorem dX5_isOne_13 : decode cX5_isOne 13 = .ok (.ireturn, 1) := by decide +kernel
theorem dX5_isLetter_0 : decode cX5_isLetter 0 = .ok (.iload_n 1, 1) := by decide +kernel
theorem dX5_isLetter_1 : decode cX5_isLetter 1 = .ok (.i2l, 1) := by decide +kernel
theorem dX5_isLetter_2 : decode cX5_isLetter 2 = .ok (.lconst 0, 1) := by decide +kernel
theorem dX5_isLetter_3 : decode cX5_isLetter 3 = .ok (.aload_n 0, 1) := by decide +kernel
theorem dX5_isLetter_4 : decode cX5_isLetter 4 = .ok (.getfield 80, 3) := by decide +kernel
theorem dX5_isLetter_7 : decode cX5_isLetter 7 = .ok (.iconst 1, 1) := by decide +kernel
theorem dX5_isLetter_8 : decode cX5_isLetter 8 = .ok (.isub, 1) := by decide +kernel
theorem dX5_isLetter_9 : decode cX5_isLetter 9 = .ok (.i2l, 1) := by decide +kernel
theorem dX5_isLetter_10 : decode cX5_isLetter 10 = .ok (.invokestatic 76, 3) := by decide +kernel
theorem dX5_isLetter_13 : decode cX5_isLetter 13 = .ok (.ireturn, 1) := by decide +kernel
theorem dX5_areTwo_0 : decode cX5_areTwo 0 = .ok (.aload_n 0, 1) := by decide +kernel
theorem dX5_areTwo_1 : decode cX5_areTwo 1 = .ok (.iload_n 1, 1) := by decide +kernel
theorem dX5_areTwo_2 : decode cX5_areTwo 2 = .ok (.invokevirtual 83, 3) := by decide +kernel
theorem dX5_areTwo_5 : decode cX5_areTwo 5 = .ok (.ifCond .eq 20, 3) := by decide +kernel
theorem dX5_areTwo_8 : decode cX5_areTwo 8 = .ok (.aload_n 0, 1) := by decide +kernel
theorem dX5_areTwo_9 : decode cX5_areTwo 9 = .ok (.iload_n 2, 1) := by decide +kernel
theorem dX5_areTwo_10 : decode cX5_areTwo 10 = .ok (.invokevirtual 83, 3) := by decide +kernel
theorem dX5_areTwo_13 : decode cX5_areTwo 13 = .ok (.ifCond .eq 12, 3) := by decide +kernel
theorem dX5_areTwo_16 : decode cX5_areTwo 16 = .ok (.iload_n 1, 1) := by decide +kernel
theorem dX5_areTwo_17 : decode cX5_areTwo 17 = .ok (.iload_n 2, 1) := by decide +kernel
theorem dX5_areTwo_18 : decode cX5_areTwo 18 = .ok (.if_icmp .eq 7, 3) := by decide +kernel
theorem dX5_areTwo_21 : decode cX5_areTwo 21 = .ok (.iconst 1, 1) := by decide +kernel
theorem dX5_areTwo_22 : decode cX5_areTwo 22 = .ok (.goto 4, 3) := by decide +kernel
theorem dX5_areTwo_25 : decode cX5_areTwo 25 = .ok (.iconst 0, 1) := by decide +kernel
theorem dX5_areTwo_26 : decode cX5_areTwo 26 = .ok (.ireturn, 1) := by decide +kernel
theorem dX5_isOf_0 : decode cX5_isOf 0 = .ok (.iload_n 1, 1) := by decide +kernel
theorem dX5_isOf_1 : decode cX5_isOf 1 = .ok (.iconst 2, 1) := by decide +kernel
theorem dX5_isOf_2 : decode cX5_isOf 2 = .ok (.if_icmp .lt 33, 3) := by decide +kernel
theorem dX5_isOf_5 : decode cX5_isOf 5 = .ok (.iload_n 1, 1) := by decide +kernel
theorem dX5_isOf_6 : decode cX5_isOf 6 = .ok (.iconst 3, 1) := by decide +kernel
theorem dX5_isOf_7 : decode cX5_isOf 7 = .ok (.if_icmp .eq 9, 3) := by decide +kernel
theorem dX5_isOf_10 : decode cX5_isOf 10 = .ok (.iload_n 1, 1) := by decide +kernel
theorem dX5_isOf_11 : decode cX5_isOf 11 = .ok (.bipush 6, 2) := by decide +kernel
theorem dX5_isOf_13 : decode cX5_isOf 13 = .ok (.if_icmp .le 14, 3) := by decide +kernel
theorem dX5_isOf_16 : decode cX5_isOf 16 = .ok (.aload_n 0, 1) := by decide +kernel
theorem dX5_isOf_17 : decode cX5_isOf 17 = .ok (.iload_n 2, 1) := by decide +kernel
theorem dX5_isOf_18 : decode cX5_isOf 18 = .ok (.invokevirtual 87, 3) := by decide +kernel
theorem dX5_isOf_21 : decode cX5_isOf 21 = .ok (.ifCond .eq 18, 3) := by decide +kernel
theorem dX5_isOf_24 : decode cX5_isOf 24 = .ok (.goto 11, 3) := by decide +kernel
theorem dX5_isOf_27 : decode cX5_isOf 27 = .ok (.aload_n 0, 1) := by decide +kernel
theorem dX5_isOf_28 : decode cX5_isOf 28 = .ok (.iload_n 2, 1) := by decide +kernel
theorem dX5_isOf_29 : decode cX5_isOf 29 = .ok (.invokevirtual 83, 3) := by decide +kernel
theorem dX5_isOf_32 : decode cX5_isOf 32 = .ok (.ifCond .eq 7, 3) := by decide +kernel
theorem dX5_isOf_35 : decode cX5_isOf 35 = .ok (.iconst 1, 1) := by decide +kernel
theorem dX5_isOf_36 : decode cX5_isOf 36 = .ok (.goto 4, 3) := by decide +kernel
theorem dX5_isOf_39 : decode cX5_isOf 39 = .ok (.iconst 0, 1) := by decide +kernel
theorem dX5_isOf_40 : decode cX5_isOf 40 = .ok (.ireturn, 1) := by decide +kernel
theorem dX5_mostOf_0 : decode cX5_mostOf 0 = .ok (.iload_n 0, 1) := by decide +kernel
theorem dX5_mostOf_1 : decode cX5_mostOf 1 = .ok (.ifCond .ne 9, 3) := by decide +kernel
theorem dX5_mostOf_4 : decode cX5_mostOf 4 = .ok (.sipush 999, 3) := by decide +kernel
theorem dX5_mostOf_7 : decode cX5_mostOf 7 = .ok (.goto 25, 3) := by decide +kernel
theorem dX5_mostOf_10 : decode cX5_mostOf 10 = .ok (.iload_n 0, 1) := by decide +kernel
theorem dX5_mostOf_11 : decode cX5_mostOf 11 = .ok (.iconst 1, 1) := by decide +kernel
theorem dX5_mostOf_12 : decode cX5_mostOf 12 = .ok (.if_icmp .ne 8, 3) := by decide +kernel
theorem dX5_mostOf_15 : decode cX5_mostOf 15 = .ok (.bipush 7, 2) := by decide +kernel
theorem dX5_mostOf_17 : decode cX5_mostOf 17 = .ok (.goto 15, 3) := by decide +kernel
theorem dX5_mostOf_20 : decode cX5_mostOf 20 = .ok (.iload_n 0, 1) := by decide +kernel
theorem dX5_mostOf_21 : decode cX5_mostOf 21 = .ok (.iconst 2, 1) := by decide +kernel
theorem dX5_mostOf_22 : decode cX5_mostOf 22 = .ok (.if_icmp .ne 8, 3) := by decide +kernel
theorem dX5_mostOf_25 : decode cX5_mostOf 25 = .ok (.bipush 9, 2) := by decide +kernel
theorem dX5_mostOf_27 : decode cX5_mostOf 27 = .ok (.goto 5, 3) := by decide +kernel
theorem dX5_mostOf_30 : decode cX5_mostOf 30 = .ok (.bipush 99, 2) := by decide +kernel
theorem dX5_mostOf_32 : decode cX5_mostOf 32 = .ok (.ireturn, 1) := by decide +kernel
theorem dX5_set_0 : decode cX5_set 0 = .ok (.iload_n 1, 1) := by decide +kernel
theorem dX5_set_1 : decode cX5_set 1 = .ok (.i2l, 1) := by decide +kernel
theorem dX5_set_2 : decode cX5_set 2 = .ok (.lconst 0, 1) := by decide +kernel
theorem dX5_set_3 : decode cX5_set 3 = .ok (.ldc2_w 90, 3) := by decide +kernel
theorem dX5_set_6 : decode cX5_set 6 = .ok (.invokestatic 76, 3) := by decide +kernel
theorem dX5_set_9 : decode cX5_set 9 = .ok (.ifCond .eq 26, 3) := by decide +kernel
theorem dX5_set_12 : decode cX5_set 12 = .ok (.aload_n 0, 1) := by decide +kernel
theorem dX5_set_13 : decode cX5_set 13 = .ok (.iload_n 1, 1) := by decide +kernel
theorem dX5_set_14 : decode cX5_set 14 = .ok (.iload_n 2, 1) := by decide +kernel
theorem dX5_set_15 : decode cX5_set 15 = .ok (.invokevirtual 92, 3) := by decide +kernel
theorem dX5_set_18 : decode cX5_set 18 = .ok (.ifCond .eq 17, 3) := by decide +kernel
theorem dX5_set_21 : decode cX5_set 21 = .ok (.iload_n 3, 1) := by decide +kernel
theorem dX5_set_22 : decode cX5_set 22 = .ok (.i2l, 1) := by decide +kernel
theorem dX5_set_23 : decode cX5_set 23 = .ok (.lconst 0, 1) := by decide +kernel
theorem dX5_set_24 : decode cX5_set 24 = .ok (.iload_n 1, 1) := by decide +kernel
theorem dX5_set_25 : decode cX5_set 25 = .ok (.invokestatic 96, 3) := by decide +kernel
theorem dX5_set_28 : decode cX5_set 28 = .ok (.i2l, 1) := by decide +kernel
theorem dX5_set_29 : decode cX5_set 29 = .ok (.invokestatic 76, 3) := by decide +kernel
theorem dX5_set_32 : decode cX5_set 32 = .ok (.ifCond .ne 6, 3) := by decide +kernel
theorem dX5_set_35 : decode cX5_set 35 = .ok (.bipush (-2), 2) := by decide +kernel
theorem dX5_set_37 : decode cX5_set 37 = .ok (.ireturn, 1) := by decide +kernel
theorem dX5_set_38 : decode cX5_set 38 = .ok (.aload_n 0, 1) := by decide +kernel
theorem dX5_set_39 : decode cX5_set 39 = .ok (.iload_n 2, 1) := by decide +kernel
theorem dX5_set_40 : decode cX5_set 40 = .ok (.iload_n 1, 1) := by decide +kernel
theorem dX5_set_41 : decode cX5_set 41 = .ok (.invokevirtual 100, 3) := by decide +kernel
theorem dX5_set_44 : decode cX5_set 44 = .ok (.istore 4, 2) := by decide +kernel
theorem dX5_set_46 : decode cX5_set 46 = .ok (.aload_n 0, 1) := by decide +kernel
theorem dX5_set_47 : decode cX5_set 47 = .ok (.iload_n 1, 1) := by decide +kernel
theorem dX5_set_48 : decode cX5_set 48 = .ok (.iload_n 2, 1) := by decide +kernel
theorem dX5_set_49 : decode cX5_set 49 = .ok (.iload_n 3, 1) := by decide +kernel
theorem dX5_set_50 : decode cX5_set 50 = .ok (.invokevirtual 104, 3) := by decide +kernel
theorem dX5_set_53 : decode cX5_set 53 = .ok (.iload 4, 2) := by decide +kernel
theorem dX5_set_55 : decode cX5_set 55 = .ok (.ireturn, 1) := by decide +kernel
theorem dX5_lays_0 : decode cX5_lays 0 = .ok (.iload_n 1, 1) := by decide +kernel
theorem dX5_lays_1 : decode cX5_lays 1 = .ok (.iconst 2, 1) := by decide +kernel
theorem dX5_lays_2 : decode cX5_lays 2 = .ok (.if_icmp .ge 39, 3) := by decide +kernel
theorem dX5_lays_5 : decode cX5_lays 5 = .ok (.aload_n 0, 1) := by decide +kernel
theorem dX5_lays_6 : decode cX5_lays 6 = .ok (.iload_n 1, 1) := by decide +kernel
theorem dX5_lays_7 : decode cX5_lays 7 = .ok (.ifCond .ne 7, 3) := by decide +kernel
theorem dX5_lays_10 : decode cX5_lays 10 = .ok (.iload_n 3, 1) := by decide +kernel
theorem dX5_lays_11 : decode cX5_lays 11 = .ok (.goto 7, 3) := by decide +kernel
theorem dX5_lays_14 : decode cX5_lays 14 = .ok (.aload_n 0, 1) := by decide +kernel
theorem dX5_lays_15 : decode cX5_lays 15 = .ok (.getfield 108, 3) := by decide +kernel
theorem dX5_lays_18 : decode cX5_lays 18 = .ok (.putfield 108, 3) := by decide +kernel
theorem dX5_lays_21 : decode cX5_lays 21 = .ok (.aload_n 0, 1) := by decide +kernel
theorem dX5_lays_22 : decode cX5_lays 22 = .ok (.iload_n 1, 1) := by decide +kernel
theorem dX5_lays_23 : decode cX5_lays 23 = .ok (.iconst 1, 1) := by decide +kernel
theorem dX5_lays_24 : decode cX5_lays 24 = .ok (.if_icmp .ne 7, 3) := by decide +kernel
theorem dX5_lays_27 : decode cX5_lays 27 = .ok (.iload_n 3, 1) := by decide +kernel
theorem dX5_lays_28 : decode cX5_lays 28 = .ok (.goto 7, 3) := by decide +kernel
theorem dX5_lays_31 : decode cX5_lays 31 = .ok (.aload_n 0, 1) := by decide +kernel
theorem dX5_lays_32 : decode cX5_lays 32 = .ok (.getfield 23, 3) := by decide +kernel
theorem dX5_lays_35 : decode cX5_lays 35 = .ok (.putfield 23, 3) := by decide +kernel
theorem dX5_lays_38 : decode cX5_lays 38 = .ok (.goto 61, 3) := by decide +kernel
theorem dX5_lays_41 : decode cX5_lays 41 = .ok (.iload_n 1, 1) := by decide +kernel
theorem dX5_lays_42 : decode cX5_lays 42 = .ok (.iconst 2, 1) := by decide +kernel
theorem dX5_lays_43 : decode cX5_lays 43 = .ok (.if_icmp .ne 15, 3) := by decide +kernel
theorem dX5_lays_46 : decode cX5_lays 46 = .ok (.aload_n 0, 1) := by decide +kernel
theorem dX5_lays_47 : decode cX5_lays 47 = .ok (.getfield 26, 3) := by decide +kernel
theorem dX5_lays_50 : decode cX5_lays 50 = .ok (.iconst 3, 1) := by decide +kernel
theorem dX5_lays_51 : decode cX5_lays 51 = .ok (.iload_n 2, 1) := by decide +kernel
theorem dX5_lays_52 : decode cX5_lays 52 = .ok (.imul, 1) := by decide +kernel
theorem dX5_lays_53 : decode cX5_lays 53 = .ok (.iload_n 3, 1) := by decide +kernel
theorem dX5_lays_54 : decode cX5_lays 54 = .ok (.iastore, 1) := by decide +kernel
theorem dX5_lays_55 : decode cX5_lays 55 = .ok (.goto 44, 3) := by decide +kernel
theorem dX5_lays_58 : decode cX5_lays 58 = .ok (.iload_n 1, 1) := by decide +kernel
theorem dX5_lays_59 : decode cX5_lays 59 = .ok (.iconst 3, 1) := by decide +kernel
theorem dX5_lays_60 : decode cX5_lays 60 = .ok (.if_icmp .ne 15, 3) := by decide +kernel
theorem dX5_lays_63 : decode cX5_lays 63 = .ok (.aload_n 0, 1) := by decide +kernel
theorem dX5_lays_64 : decode cX5_lays 64 = .ok (.getfield 29, 3) := by decide +kernel
theorem dX5_lays_67 : decode cX5_lays 67 = .ok (.iconst 5, 1) := by decide +kernel
theorem dX5_lays_68 : decode cX5_lays 68 = .ok (.iload_n 2, 1) := by decide +kernel
theorem dX5_lays_69 : decode cX5_lays 69 = .ok (.imul, 1) := by decide +kernel
theorem dX5_lays_70 : decode cX5_lays 70 = .ok (.iload_n 3, 1) := by decide +kernel
theorem dX5_lays_71 : decode cX5_lays 71 = .ok (.iastore, 1) := by decide +kernel
theorem dX5_lays_72 : decode cX5_lays 72 = .ok (.goto 27, 3) := by decide +kernel
theorem dX5_lays_75 : decode cX5_lays 75 = .ok (.iload_n 1, 1) := by decide +kernel
theorem dX5_lays_76 : decode cX5_lays 76 = .ok (.iconst 4, 1) := by decide +kernel
theorem dX5_lays_77 : decode cX5_lays 77 = .ok (.if_icmp .ne 17, 3) := by decide +kernel
theorem dX5_lays_80 : decode cX5_lays 80 = .ok (.aload_n 0, 1) := by decide +kernel
theorem dX5_lays_81 : decode cX5_lays 81 = .ok (.getfield 26, 3) := by decide +kernel
theorem dX5_lays_84 : decode cX5_lays 84 = .ok (.iconst 3, 1) := by decide +kernel
theorem dX5_lays_85 : decode cX5_lays 85 = .ok (.iload_n 2, 1) := by decide +kernel
theorem dX5_lays_86 : decode cX5_lays 86 = .ok (.imul, 1) := by decide +kernel
theorem dX5_lays_87 : decode cX5_lays 87 = .ok (.iconst 1, 1) := by decide +kernel
theorem dX5_lays_88 : decode cX5_lays 88 = .ok (.iadd, 1) := by decide +kernel
theorem dX5_lays_89 : decode cX5_lays 89 = .ok (.iload_n 3, 1) := by decide +kernel
theorem dX5_lays_90 : decode cX5_lays 90 = .ok (.iastore, 1) := by decide +kernel
theorem dX5_lays_91 : decode cX5_lays 91 = .ok (.goto 8, 3) := by decide +kernel
theorem dX5_lays_94 : decode cX5_lays 94 = .ok (.aload_n 0, 1) := by decide +kernel
theorem dX5_lays_95 : decode cX5_lays 95 = .ok (.iload_n 3, 1) := by decide +kernel
theorem dX5_lays_96 : decode cX5_lays 96 = .ok (.putfield 111, 3) := by decide +kernel
theorem dX5_lays_99 : decode cX5_lays 99 = .ok (.return_, 1) := by decide +kernel
theorem dX5_whoIn_0 : decode cX5_whoIn 0 = .ok (.iconst (-1), 1) := by decide +kernel
theorem dX5_whoIn_1 : decode cX5_whoIn 1 = .ok (.istore_n 2, 1) := by decide +kernel
theorem dX5_whoIn_2 : decode cX5_whoIn 2 = .ok (.iconst 0, 1) := by decide +kernel
theorem dX5_whoIn_3 : decode cX5_whoIn 3 = .ok (.istore_n 3, 1) := by decide +kernel
theorem dX5_whoIn_4 : decode cX5_whoIn 4 = .ok (.iload_n 3, 1) := by decide +kernel
theorem dX5_whoIn_5 : decode cX5_whoIn 5 = .ok (.aload_n 0, 1) := by decide +kernel
theorem dX5_whoIn_6 : decode cX5_whoIn 6 = .ok (.getfield 73, 3) := by decide +kernel
theorem dX5_whoIn_9 : decode cX5_whoIn 9 = .ok (.if_icmp .ge 29, 3) := by decide +kernel
theorem dX5_whoIn_12 : decode cX5_whoIn 12 = .ok (.aload_n 0, 1) := by decide +kernel
theorem dX5_whoIn_13 : decode cX5_whoIn 13 = .ok (.getfield 26, 3) := by decide +kernel
theorem dX5_whoIn_16 : decode cX5_whoIn 16 = .ok (.iconst 3, 1) := by decide +kernel
theorem dX5_whoIn_17 : decode cX5_whoIn 17 = .ok (.iload_n 3, 1) := by decide +kernel
theorem dX5_whoIn_18 : decode cX5_whoIn 18 = .ok (.imul, 1) := by decide +kernel
theorem dX5_whoIn_19 : decode cX5_whoIn 19 = .ok (.iconst 2, 1) := by decide +kernel
theorem dX5_whoIn_20 : decode cX5_whoIn 20 = .ok (.iadd, 1) := by decide +kernel
theorem dX5_whoIn_21 : decode cX5_whoIn 21 = .ok (.iaload, 1) := by decide +kernel
theorem dX5_whoIn_22 : decode cX5_whoIn 22 = .ok (.iload_n 1, 1) := by decide +kernel
theorem dX5_whoIn_23 : decode cX5_whoIn 23 = .ok (.if_icmp .ne 7, 3) := by decide +kernel
theorem dX5_whoIn_26 : decode cX5_whoIn 26 = .ok (.iload_n 3, 1) := by decide +kernel
theorem dX5_whoIn_27 : decode cX5_whoIn 27 = .ok (.goto 4, 3) := by decide +kernel
theorem dX5_whoIn_30 : decode cX5_whoIn 30 = .ok (.iload_n 2, 1) := by decide +kernel
theorem dX5_whoIn_31 : decode cX5_whoIn 31 = .ok (.istore_n 2, 1) := by decide +kernel
theorem dX5_whoIn_32 : decode cX5_whoIn 32 = .ok (.iinc 3 1, 3) := by decide +kernel
theorem dX5_whoIn_35 : decode cX5_whoIn 35 = .ok (.goto (-31), 3) := by decide +kernel
theorem dX5_whoIn_38 : decode cX5_whoIn 38 = .ok (.iload_n 2, 1) := by decide +kernel
theorem dX5_whoIn_39 : decode cX5_whoIn 39 = .ok (.ireturn, 1) := by decide +kernel
theorem dX5_person_0 : decode cX5_person 0 = .ok (.iload_n 1, 1) := by decide +kernel
theorem dX5_person_1 : decode cX5_person 1 = .ok (.i2l, 1) := by decide +kernel
theorem dX5_person_2 : decode cX5_person 2 = .ok (.lconst 0, 1) := by decide +kernel
theorem dX5_person_3 : decode cX5_person 3 = .ok (.ldc2_w 114, 3) := by decide +kernel
theorem dX5_person_6 : decode cX5_person 6 = .ok (.invokestatic 76, 3) := by decide +kernel
theorem dX5_person_9 : decode cX5_person 9 = .ok (.ifCond .eq 36, 3) := by decide +kernel
theorem dX5_person_12 : decode cX5_person 12 = .ok (.iload_n 2, 1) := by decide +kernel
theorem dX5_person_13 : decode cX5_person 13 = .ok (.i2l, 1) := by decide +kernel
theorem dX5_person_14 : decode cX5_person 14 = .ok (.lconst 0, 1) := by decide +kernel
theorem dX5_person_15 : decode cX5_person 15 = .ok (.ldc2_w 116, 3) := by decide +kernel
theorem dX5_person_18 : decode cX5_person 18 = .ok (.invokestatic 76, 3) := by decide +kernel
theorem dX5_person_21 : decode cX5_person 21 = .ok (.ifCond .eq 24, 3) := by decide +kernel
theorem dX5_person_24 : decode cX5_person 24 = .ok (.iload_n 3, 1) := by decide +kernel
theorem dX5_person_25 : decode cX5_person 25 = .ok (.i2l, 1) := by decide +kernel
theorem dX5_person_26 : decode cX5_person 26 = .ok (.lconst 0, 1) := by decide +kernel
theorem dX5_person_27 : decode cX5_person 27 = .ok (.ldc2_w 118, 3) := by decide +kernel
theorem dX5_person_30 : decode cX5_person 30 = .ok (.invokestatic 76, 3) := by decide +kernel
theorem dX5_person_33 : decode cX5_person 33 = .ok (.ifCond .eq 12, 3) := by decide +kernel
theorem dX5_person_36 : decode cX5_person 36 = .ok (.aload_n 0, 1) := by decide +kernel
theorem dX5_person_37 : decode cX5_person 37 = .ok (.iload_n 3, 1) := by decide +kernel
theorem dX5_person_38 : decode cX5_person 38 = .ok (.invokevirtual 120, 3) := by decide +kernel
theorem dX5_person_41 : decode cX5_person 41 = .ok (.iconst (-1), 1) := by decide +kernel
theorem dX5_person_42 : decode cX5_person 42 = .ok (.if_icmp .eq 6, 3) := by decide +kernel
theorem dX5_person_45 : decode cX5_person 45 = .ok (.bipush (-2), 2) := by decide +kernel
theorem dX5_person_47 : decode cX5_person 47 = .ok (.ireturn, 1) := by decide +kernel
theorem dX5_person_48 : decode cX5_person 48 = .ok (.aload_n 0, 1) := by decide +kernel
theorem dX5_person_49 : decode cX5_person 49 = .ok (.getfield 73, 3) := by decide +kernel
theorem dX5_person_52 : decode cX5_person 52 = .ok (.iconst 5, 1) := by decide +kernel
theorem dX5_person_53 : decode cX5_person 53 = .ok (.if_icmp .ne 6, 3) := by decide +kernel
theorem dX5_person_56 : decode cX5_person 56 = .ok (.bipush (-4), 2) := by decide +kernel
theorem dX5_person_58 : decode cX5_person 58 = .ok (.ireturn, 1) := by decide +kernel
theorem dX5_person_59 : decode cX5_person 59 = .ok (.aload_n 0, 1) := by decide +kernel
theorem dX5_person_60 : decode cX5_person 60 = .ok (.getfield 26, 3) := by decide +kernel
theorem dX5_person_63 : decode cX5_person 63 = .ok (.iconst 3, 1) := by decide +kernel
theorem dX5_person_64 : decode cX5_person 64 = .ok (.aload_n 0, 1) := by decide +kernel
theorem dX5_person_65 : decode cX5_person 65 = .ok (.getfield 73, 3) := by decide +kernel
theorem dX5_person_68 : decode cX5_person 68 = .ok (.imul, 1) := by decide +kernel
theorem dX5_person_69 : decode cX5_person 69 = .ok (.iload_n 2, 1) := by decide +kernel
theorem dX5_person_70 : decode cX5_person 70 = .ok (.iastore, 1) := by decide +kernel
theorem dX5_person_71 : decode cX5_person 71 = .ok (.aload_n 0, 1) := by decide +kernel
theorem dX5_person_72 : decode cX5_person 72 = .ok (.getfield 26, 3) := by decide +kernel
theorem dX5_person_75 : decode cX5_person 75 = .ok (.iconst 3, 1) := by decide +kernel
theorem dX5_person_76 : decode cX5_person 76 = .ok (.aload_n 0, 1) := by decide +kernel
theorem dX5_person_77 : decode cX5_person 77 = .ok (.getfield 73, 3) := by decide +kernel
theorem dX5_person_80 : decode cX5_person 80 = .ok (.imul, 1) := by decide +kernel
theorem dX5_person_81 : decode cX5_person 81 = .ok (.iconst 1, 1) := by decide +kernel
theorem dX5_person_82 : decode cX5_person 82 = .ok (.iadd, 1) := by decide +kernel
theorem dX5_person_83 : decode cX5_person 83 = .ok (.iload_n 1, 1) := by decide +kernel
theorem dX5_person_84 : decode cX5_person 84 = .ok (.iastore, 1) := by decide +kernel
theorem dX5_person_85 : decode cX5_person 85 = .ok (.aload_n 0, 1) := by decide +kernel
theorem dX5_person_86 : decode cX5_person 86 = .ok (.getfield 26, 3) := by decide +kernel
theorem dX5_person_89 : decode cX5_person 89 = .ok (.iconst 3, 1) := by decide +kernel
theorem dX5_person_90 : decode cX5_person 90 = .ok (.aload_n 0, 1) := by decide +kernel
theorem dX5_person_91 : decode cX5_person 91 = .ok (.getfield 73, 3) := by decide +kernel
theorem dX5_person_94 : decode cX5_person 94 = .ok (.imul, 1) := by decide +kernel
theorem dX5_person_95 : decode cX5_person 95 = .ok (.iconst 2, 1) := by decide +kernel
theorem dX5_person_96 : decode cX5_person 96 = .ok (.iadd, 1) := by decide +kernel
theorem dX5_person_97 : decode cX5_person 97 = .ok (.iload_n 3, 1) := by decide +kernel
theorem dX5_person_98 : decode cX5_person 98 = .ok (.iastore, 1) := by decide +kernel
theorem dX5_person_99 : decode cX5_person 99 = .ok (.aload_n 0, 1) := by decide +kernel
theorem dX5_person_100 : decode cX5_person 100 = .ok (.dup, 1) := by decide +kernel
theorem dX5_person_101 : decode cX5_person 101 = .ok (.getfield 73, 3) := by decide +kernel
theorem dX5_person_104 : decode cX5_person 104 = .ok (.iconst 1, 1) := by decide +kernel
theorem dX5_person_105 : decode cX5_person 105 = .ok (.iadd, 1) := by decide +kernel
theorem dX5_person_106 : decode cX5_person 106 = .ok (.putfield 73, 3) := by decide +kernel
theorem dX5_person_109 : decode cX5_person 109 = .ok (.aload_n 0, 1) := by decide +kernel
theorem dX5_person_110 : decode cX5_person 110 = .ok (.getfield 73, 3) := by decide +kernel
theorem dX5_person_113 : decode cX5_person 113 = .ok (.iconst 1, 1) := by decide +kernel
theorem dX5_person_114 : decode cX5_person 114 = .ok (.isub, 1) := by decide +kernel
theorem dX5_person_115 : decode cX5_person 115 = .ok (.ireturn, 1) := by decide +kernel
theorem dX5_swap_0 : decode cX5_swap 0 = .ok (.aload_n 0, 1) := by decide +kernel
theorem dX5_swap_1 : decode cX5_swap 1 = .ok (.iload_n 1, 1) := by decide +kernel
theorem dX5_swap_2 : decode cX5_swap 2 = .ok (.iload_n 2, 1) := by decide +kernel
theorem dX5_swap_3 : decode cX5_swap 3 = .ok (.invokevirtual 123, 3) := by decide +kernel
theorem dX5_swap_6 : decode cX5_swap 6 = .ok (.ifCond .ne 6, 3) := by decide +kernel
theorem dX5_swap_9 : decode cX5_swap 9 = .ok (.bipush (-2), 2) := by decide +kernel
theorem dX5_swap_11 : decode cX5_swap 11 = .ok (.ireturn, 1) := by decide +kernel
theorem dX5_swap_12 : decode cX5_swap 12 = .ok (.aload_n 0, 1) := by decide +kernel
theorem dX5_swap_13 : decode cX5_swap 13 = .ok (.getfield 26, 3) := by decide +kernel
theorem dX5_swap_16 : decode cX5_swap 16 = .ok (.iconst 3, 1) := by decide +kernel
theorem dX5_swap_17 : decode cX5_swap 17 = .ok (.iload_n 1, 1) := by decide +kernel
theorem dX5_swap_18 : decode cX5_swap 18 = .ok (.imul, 1) := by decide +kernel
theorem dX5_swap_19 : decode cX5_swap 19 = .ok (.iconst 2, 1) := by decide +kernel
theorem dX5_swap_20 : decode cX5_swap 20 = .ok (.iadd, 1) := by decide +kernel
theorem dX5_swap_21 : decode cX5_swap 21 = .ok (.iaload, 1) := by decide +kernel
theorem dX5_swap_22 : decode cX5_swap 22 = .ok (.istore_n 3, 1) := by decide +kernel
theorem dX5_swap_23 : decode cX5_swap 23 = .ok (.aload_n 0, 1) := by decide +kernel
theorem dX5_swap_24 : decode cX5_swap 24 = .ok (.getfield 26, 3) := by decide +kernel
theorem dX5_swap_27 : decode cX5_swap 27 = .ok (.iconst 3, 1) := by decide +kernel
theorem dX5_swap_28 : decode cX5_swap 28 = .ok (.iload_n 1, 1) := by decide +kernel
theorem dX5_swap_29 : decode cX5_swap 29 = .ok (.imul, 1) := by decide +kernel
theorem dX5_swap_30 : decode cX5_swap 30 = .ok (.iconst 2, 1) := by decide +kernel
theorem dX5_swap_31 : decode cX5_swap 31 = .ok (.iadd, 1) := by decide +kernel
theorem dX5_swap_32 : decode cX5_swap 32 = .ok (.aload_n 0, 1) := by decide +kernel
theorem dX5_swap_33 : decode cX5_swap 33 = .ok (.getfield 26, 3) := by decide +kernel
theorem dX5_swap_36 : decode cX5_swap 36 = .ok (.iconst 3, 1) := by decide +kernel
theorem dX5_swap_37 : decode cX5_swap 37 = .ok (.iload_n 2, 1) := by decide +kernel
theorem dX5_swap_38 : decode cX5_swap 38 = .ok (.imul, 1) := by decide +kernel
theorem dX5_swap_39 : decode cX5_swap 39 = .ok (.iconst 2, 1) := by decide +kernel
theorem dX5_swap_40 : decode cX5_swap 40 = .ok (.iadd, 1) := by decide +kernel
theorem dX5_swap_41 : decode cX5_swap 41 = .ok (.iaload, 1) := by decide +kernel
theorem dX5_swap_42 : decode cX5_swap 42 = .ok (.iastore, 1) := by decide +kernel
theorem dX5_swap_43 : decode cX5_swap 43 = .ok (.aload_n 0, 1) := by decide +kernel
theorem dX5_swap_44 : decode cX5_swap 44 = .ok (.getfield 26, 3) := by decide +kernel
theorem dX5_swap_47 : decode cX5_swap 47 = .ok (.iconst 3, 1) := by decide +kernel
theorem dX5_swap_48 : decode cX5_swap 48 = .ok (.iload_n 2, 1) := by decide +kernel
theorem dX5_swap_49 : decode cX5_swap 49 = .ok (.imul, 1) := by decide +kernel
theorem dX5_swap_50 : decode cX5_swap 50 = .ok (.iconst 2, 1) := by decide +kernel
theorem dX5_swap_51 : decode cX5_swap 51 = .ok (.iadd, 1) := by decide +kernel
theorem dX5_swap_52 : decode cX5_swap 52 = .ok (.iload_n 3, 1) := by decide +kernel
theorem dX5_swap_53 : decode cX5_swap 53 = .ok (.iastore, 1) := by decide +kernel
theorem dX5_swap_54 : decode cX5_swap 54 = .ok (.aload_n 0, 1) := by decide +kernel
theorem dX5_swap_55 : decode cX5_swap 55 = .ok (.getfield 26, 3) := by decide +kernel
theorem dX5_swap_58 : decode cX5_swap 58 = .ok (.iconst 3, 1) := by decide +kernel
theorem dX5_swap_59 : decode cX5_swap 59 = .ok (.iload_n 1, 1) := by decide +kernel
theorem dX5_swap_60 : decode cX5_swap 60 = .ok (.imul, 1) := by decide +kernel
theorem dX5_swap_61 : decode cX5_swap 61 = .ok (.iconst 2, 1) := by decide +kernel
theorem dX5_swap_62 : decode cX5_swap 62 = .ok (.iadd, 1) := by decide +kernel
theorem dX5_swap_63 : decode cX5_swap 63 = .ok (.iaload, 1) := by decide +kernel
theorem dX5_swap_64 : decode cX5_swap 64 = .ok (.ireturn, 1) := by decide +kernel
theorem dX5_told_0 : decode cX5_told 0 = .ok (.iload_n 2, 1) := by decide +kernel
theorem dX5_told_1 : decode cX5_told 1 = .ok (.i2l, 1) := by decide +kernel
theorem dX5_told_2 : decode cX5_told 2 = .ok (.lconst 0, 1) := by decide +kernel
theorem dX5_told_3 : decode cX5_told 3 = .ok (.ldc2_w 126, 3) := by decide +kernel
theorem dX5_told_6 : decode cX5_told 6 = .ok (.invokestatic 76, 3) := by decide +kernel
theorem dX5_told_9 : decode cX5_told 9 = .ok (.ifCond .eq 12, 3) := by decide +kernel
theorem dX5_told_12 : decode cX5_told 12 = .ok (.aload_n 0, 1) := by decide +kernel
theorem dX5_told_13 : decode cX5_told 13 = .ok (.iload_n 2, 1) := by decide +kernel
theorem dX5_told_14 : decode cX5_told 14 = .ok (.iload_n 1, 1) := by decide +kernel
theorem dX5_told_15 : decode cX5_told 15 = .ok (.invokevirtual 92, 3) := by decide +kernel
theorem dX5_told_18 : decode cX5_told 18 = .ok (.ifCond .ne 7, 3) := by decide +kernel
theorem dX5_told_21 : decode cX5_told 21 = .ok (.sipush (-1000), 3) := by decide +kernel
theorem dX5_told_24 : decode cX5_told 24 = .ok (.ireturn, 1) := by decide +kernel
theorem dX5_told_25 : decode cX5_told 25 = .ok (.iload_n 2, 1) := by decide +kernel
theorem dX5_told_26 : decode cX5_told 26 = .ok (.iconst 4, 1) := by decide +kernel
theorem dX5_told_27 : decode cX5_told 27 = .ok (.if_icmp .ge 51, 3) := by decide +kernel
theorem dX5_told_30 : decode cX5_told 30 = .ok (.iload_n 2, 1) := by decide +kernel
theorem dX5_told_31 : decode cX5_told 31 = .ok (.ifCond .ne 10, 3) := by decide +kernel
theorem dX5_told_34 : decode cX5_told 34 = .ok (.aload_n 0, 1) := by decide +kernel
theorem dX5_told_35 : decode cX5_told 35 = .ok (.getfield 108, 3) := by decide +kernel
theorem dX5_told_38 : decode cX5_told 38 = .ok (.goto 39, 3) := by decide +kernel
theorem dX5_told_41 : decode cX5_told 41 = .ok (.iload_n 2, 1) := by decide +kernel
theorem dX5_told_42 : decode cX5_told 42 = .ok (.iconst 1, 1) := by decide +kernel
theorem dX5_told_43 : decode cX5_told 43 = .ok (.if_icmp .ne 10, 3) := by decide +kernel
theorem dX5_told_46 : decode cX5_told 46 = .ok (.aload_n 0, 1) := by decide +kernel
theorem dX5_told_47 : decode cX5_told 47 = .ok (.getfield 23, 3) := by decide +kernel
theorem dX5_told_50 : decode cX5_told 50 = .ok (.goto 27, 3) := by decide +kernel
theorem dX5_told_53 : decode cX5_told 53 = .ok (.iload_n 2, 1) := by decide +kernel
theorem dX5_told_54 : decode cX5_told 54 = .ok (.iconst 2, 1) := by decide +kernel
theorem dX5_told_55 : decode cX5_told 55 = .ok (.if_icmp .ne 14, 3) := by decide +kernel
theorem dX5_told_58 : decode cX5_told 58 = .ok (.aload_n 0, 1) := by decide +kernel
theorem dX5_told_59 : decode cX5_told 59 = .ok (.getfield 26, 3) := by decide +kernel
theorem dX5_told_62 : decode cX5_told 62 = .ok (.iconst 3, 1) := by decide +kernel
theorem dX5_told_63 : decode cX5_told 63 = .ok (.iload_n 1, 1) := by decide +kernel
theorem dX5_told_64 : decode cX5_told 64 = .ok (.imul, 1) := by decide +kernel
theorem dX5_told_65 : decode cX5_told 65 = .ok (.iaload, 1) := by decide +kernel
theorem dX5_told_66 : decode cX5_told 66 = .ok (.goto 11, 3) := by decide +kernel
theorem dX5_told_69 : decode cX5_told 69 = .ok (.aload_n 0, 1) := by decide +kernel
theorem dX5_told_70 : decode cX5_told 70 = .ok (.getfield 29, 3) := by decide +kernel
theorem dX5_told_73 : decode cX5_told 73 = .ok (.iconst 5, 1) := by decide +kernel
theorem dX5_told_74 : decode cX5_told 74 = .ok (.iload_n 1, 1) := by decide +kernel
theorem dX5_told_75 : decode cX5_told 75 = .ok (.imul, 1) := by decide +kernel
theorem dX5_told_76 : decode cX5_told 76 = .ok (.iaload, 1) := by decide +kernel
theorem dX5_told_77 : decode cX5_told 77 = .ok (.ireturn, 1) := by decide +kernel
theorem dX5_told_78 : decode cX5_told 78 = .ok (.iload_n 2, 1) := by decide +kernel
theorem dX5_told_79 : decode cX5_told 79 = .ok (.bipush 6, 2) := by decide +kernel
theorem dX5_told_81 : decode cX5_told 81 = .ok (.if_icmp .ge 18, 3) := by decide +kernel
theorem dX5_told_84 : decode cX5_told 84 = .ok (.aload_n 0, 1) := by decide +kernel
theorem dX5_told_85 : decode cX5_told 85 = .ok (.getfield 26, 3) := by decide +kernel
theorem dX5_told_88 : decode cX5_told 88 = .ok (.iconst 3, 1) := by decide +kernel
theorem dX5_told_89 : decode cX5_told 89 = .ok (.iload_n 1, 1) := by decide +kernel
theorem dX5_told_90 : decode cX5_told 90 = .ok (.imul, 1) := by decide +kernel
theorem dX5_told_91 : decode cX5_told 91 = .ok (.iload_n 2, 1) := by decide +kernel
theorem dX5_told_92 : decode cX5_told 92 = .ok (.iadd, 1) := by decide +kernel
theorem dX5_told_93 : decode cX5_told 93 = .ok (.iconst 3, 1) := by decide +kernel
theorem dX5_told_94 : decode cX5_told 94 = .ok (.isub, 1) := by decide +kernel
theorem dX5_told_95 : decode cX5_told 95 = .ok (.iaload, 1) := by decide +kernel
theorem dX5_told_96 : decode cX5_told 96 = .ok (.goto 30, 3) := by decide +kernel
theorem dX5_told_99 : decode cX5_told 99 = .ok (.iload_n 2, 1) := by decide +kernel
theorem dX5_told_100 : decode cX5_told 100 = .ok (.bipush 6, 2) := by decide +kernel
theorem dX5_told_102 : decode cX5_told 102 = .ok (.if_icmp .ne 11, 3) := by decide +kernel
theorem dX5_told_105 : decode cX5_told 105 = .ok (.aload_n 0, 1) := by decide +kernel
theorem dX5_told_106 : decode cX5_told 106 = .ok (.iload_n 1, 1) := by decide +kernel
theorem dX5_told_107 : decode cX5_told 107 = .ok (.invokevirtual 128, 3) := by decide +kernel
theorem dX5_told_110 : decode cX5_told 110 = .ok (.goto 16, 3) := by decide +kernel
theorem dX5_told_113 : decode cX5_told 113 = .ok (.aload_n 0, 1) := by decide +kernel
theorem dX5_told_114 : decode cX5_told 114 = .ok (.getfield 29, 3) := by decide +kernel
theorem dX5_told_117 : decode cX5_told 117 = .ok (.iconst 5, 1) := by decide +kernel
theorem dX5_told_118 : decode cX5_told 118 = .ok (.iload_n 1, 1) := by decide +kernel
theorem dX5_told_119 : decode cX5_told 119 = .ok (.imul, 1) := by decide +kernel
theorem dX5_told_120 : decode cX5_told 120 = .ok (.iload_n 2, 1) := by decide +kernel
theorem dX5_told_121 : decode cX5_told 121 = .ok (.iadd, 1) := by decide +kernel
theorem dX5_told_122 : decode cX5_told 122 = .ok (.bipush 6, 2) := by decide +kernel
theorem dX5_told_124 : decode cX5_told 124 = .ok (.isub, 1) := by decide +kernel
theorem dX5_told_125 : decode cX5_told 125 = .ok (.iaload, 1) := by decide +kernel
theorem dX5_told_126 : decode cX5_told 126 = .ok (.ireturn, 1) := by decide +kernel
theorem dX5_known_0 : decode cX5_known 0 = .ok (.iconst 0, 1) := by decide +kernel
theorem dX5_known_1 : decode cX5_known 1 = .ok (.istore_n 2, 1) := by decide +kernel
theorem dX5_known_2 : decode cX5_known 2 = .ok (.iconst 0, 1) := by decide +kernel
theorem dX5_known_3 : decode cX5_known 3 = .ok (.istore_n 3, 1) := by decide +kernel
theorem dX5_known_4 : decode cX5_known 4 = .ok (.iload_n 3, 1) := by decide +kernel
theorem dX5_known_5 : decode cX5_known 5 = .ok (.aload_n 0, 1) := by decide +kernel
theorem dX5_known_6 : decode cX5_known 6 = .ok (.getfield 80, 3) := by decide +kernel
theorem dX5_known_9 : decode cX5_known 9 = .ok (.if_icmp .ge 28, 3) := by decide +kernel
theorem dX5_known_12 : decode cX5_known 12 = .ok (.iload_n 2, 1) := by decide +kernel
theorem dX5_known_13 : decode cX5_known 13 = .ok (.aload_n 0, 1) := by decide +kernel
theorem dX5_known_14 : decode cX5_known 14 = .ok (.getfield 29, 3) := by decide +kernel
theorem dX5_known_17 : decode cX5_known 17 = .ok (.iconst 5, 1) := by decide +kernel
theorem dX5_known_18 : decode cX5_known 18 = .ok (.iload_n 3, 1) := by decide +kernel
theorem dX5_known_19 : decode cX5_known 19 = .ok (.imul, 1) := by decide +kernel
theorem dX5_known_20 : decode cX5_known 20 = .ok (.iconst 4, 1) := by decide +kernel
theorem dX5_known_21 : decode cX5_known 21 = .ok (.iadd, 1) := by decide +kernel
theorem dX5_known_22 : decode cX5_known 22 = .ok (.iaload, 1) := by decide +kernel
theorem dX5_known_23 : decode cX5_known 23 = .ok (.iload_n 1, 1) := by decide +kernel
theorem dX5_known_24 : decode cX5_known 24 = .ok (.ishr, 1) := by decide +kernel
theorem dX5_known_25 : decode cX5_known 25 = .ok (.iconst 1, 1) := by decide +kernel
theorem dX5_known_26 : decode cX5_known 26 = .ok (.iand, 1) := by decide +kernel
theorem dX5_known_27 : decode cX5_known 27 = .ok (.iload_n 3, 1) := by decide +kernel
theorem dX5_known_28 : decode cX5_known 28 = .ok (.ishl, 1) := by decide +kernel
theorem dX5_known_29 : decode cX5_known 29 = .ok (.ior, 1) := by decide +kernel
theorem dX5_known_30 : decode cX5_known 30 = .ok (.istore_n 2, 1) := by decide +kernel
theorem dX5_known_31 : decode cX5_known 31 = .ok (.iinc 3 1, 3) := by decide +kernel
theorem dX5_known_34 : decode cX5_known 34 = .ok (.goto (-30), 3) := by decide +kernel
theorem dX5_known_37 : decode cX5_known 37 = .ok (.iload_n 2, 1) := by decide +kernel
theorem dX5_known_38 : decode cX5_known 38 = .ok (.ireturn, 1) := by decide +kernel
theorem dX5_bitsOf_0 : decode cX5_bitsOf 0 = .ok (.iconst 0, 1) := by decide +kernel
theorem dX5_bitsOf_1 : decode cX5_bitsOf 1 = .ok (.istore_n 1, 1) := by decide +kernel
theorem dX5_bitsOf_2 : decode cX5_bitsOf 2 = .ok (.iload_n 0, 1) := by decide +kernel
theorem dX5_bitsOf_3 : decode cX5_bitsOf 3 = .ok (.istore_n 2, 1) := by decide +kernel
theorem dX5_bitsOf_4 : decode cX5_bitsOf 4 = .ok (.iload_n 2, 1) := by decide +kernel
theorem dX5_bitsOf_5 : decode cX5_bitsOf 5 = .ok (.ifCond .eq 15, 3) := by decide +kernel
theorem dX5_bitsOf_8 : decode cX5_bitsOf 8 = .ok (.iinc 1 1, 3) := by decide +kernel
theorem dX5_bitsOf_11 : decode cX5_bitsOf 11 = .ok (.iload_n 2, 1) := by decide +kernel
theorem dX5_bitsOf_12 : decode cX5_bitsOf 12 = .ok (.iload_n 2, 1) := by decide +kernel
theorem dX5_bitsOf_13 : decode cX5_bitsOf 13 = .ok (.iconst 1, 1) := by decide +kernel
theorem dX5_bitsOf_14 : decode cX5_bitsOf 14 = .ok (.isub, 1) := by decide +kernel
theorem dX5_bitsOf_15 : decode cX5_bitsOf 15 = .ok (.iand, 1) := by decide +kernel
theorem dX5_bitsOf_16 : decode cX5_bitsOf 16 = .ok (.istore_n 2, 1) := by decide +kernel
theorem dX5_bitsOf_17 : decode cX5_bitsOf 17 = .ok (.goto (-13), 3) := by decide +kernel
theorem dX5_bitsOf_20 : decode cX5_bitsOf 20 = .ok (.iload_n 1, 1) := by decide +kernel
theorem dX5_bitsOf_21 : decode cX5_bitsOf 21 = .ok (.ireturn, 1) := by decide +kernel
theorem dX5_feed_0 : decode cX5_feed 0 = .ok (.iload_n 1, 1) := by decide +kernel
theorem dX5_feed_1 : decode cX5_feed 1 = .ok (.i2l, 1) := by decide +kernel
theorem dX5_feed_2 : decode cX5_feed 2 = .ok (.lconst 0, 1) := by decide +kernel
theorem dX5_feed_3 : decode cX5_feed 3 = .ok (.ldc2_w 131, 3) := by decide +kernel
theorem dX5_feed_6 : decode cX5_feed 6 = .ok (.invokestatic 76, 3) := by decide +kernel
theorem dX5_feed_9 : decode cX5_feed 9 = .ok (.ifCond .ne 6, 3) := by decide +kernel
theorem dX5_feed_12 : decode cX5_feed 12 = .ok (.bipush (-2), 2) := by decide +kernel
theorem dX5_feed_14 : decode cX5_feed 14 = .ok (.ireturn, 1) := by decide +kernel
theorem dX5_feed_15 : decode cX5_feed 15 = .ok (.aload_n 0, 1) := by decide +kernel
theorem dX5_feed_16 : decode cX5_feed 16 = .ok (.getfield 133, 3) := by decide +kernel
theorem dX5_feed_19 : decode cX5_feed 19 = .ok (.sipush 160, 3) := by decide +kernel
theorem dX5_feed_22 : decode cX5_feed 22 = .ok (.if_icmp .ne 6, 3) := by decide +kernel
theorem dX5_feed_25 : decode cX5_feed 25 = .ok (.bipush (-4), 2) := by decide +kernel
theorem dX5_feed_27 : decode cX5_feed 27 = .ok (.ireturn, 1) := by decide +kernel
theorem dX5_feed_28 : decode cX5_feed 28 = .ok (.aload_n 0, 1) := by decide +kernel
theorem dX5_feed_29 : decode cX5_feed 29 = .ok (.getfield 20, 3) := by decide +kernel
theorem dX5_feed_32 : decode cX5_feed 32 = .ok (.aload_n 0, 1) := by decide +kernel
theorem dX5_feed_33 : decode cX5_feed 33 = .ok (.getfield 133, 3) := by decide +kernel
theorem dX5_feed_36 : decode cX5_feed 36 = .ok (.iload_n 1, 1) := by decide +kernel
theorem dX5_feed_37 : decode cX5_feed 37 = .ok (.iastore, 1) := by decide +kernel
theorem dX5_feed_38 : decode cX5_feed 38 = .ok (.aload_n 0, 1) := by decide +kernel
theorem dX5_feed_39 : decode cX5_feed 39 = .ok (.dup, 1) := by decide +kernel
theorem dX5_feed_40 : decode cX5_feed 40 = .ok (.getfield 133, 3) := by decide +kernel
theorem dX5_feed_43 : decode cX5_feed 43 = .ok (.iconst 1, 1) := by decide +kernel
theorem dX5_feed_44 : decode cX5_feed 44 = .ok (.iadd, 1) := by decide +kernel
theorem dX5_feed_45 : decode cX5_feed 45 = .ok (.putfield 133, 3) := by decide +kernel
theorem dX5_feed_48 : decode cX5_feed 48 = .ok (.aload_n 0, 1) := by decide +kernel
theorem dX5_feed_49 : decode cX5_feed 49 = .ok (.getfield 133, 3) := by decide +kernel
theorem dX5_feed_52 : decode cX5_feed 52 = .ok (.ireturn, 1) := by decide +kernel
theorem dX5_byteAt_0 : decode cX5_byteAt 0 = .ok (.iload_n 1, 1) := by decide +kernel
theorem dX5_byteAt_1 : decode cX5_byteAt 1 = .ok (.aload_n 0, 1) := by decide +kernel
theorem dX5_byteAt_2 : decode cX5_byteAt 2 = .ok (.getfield 136, 3) := by decide +kernel
theorem dX5_byteAt_5 : decode cX5_byteAt 5 = .ok (.if_icmp .ge 17, 3) := by decide +kernel
theorem dX5_byteAt_8 : decode cX5_byteAt 8 = .ok (.aload_n 0, 1) := by decide +kernel
theorem dX5_byteAt_9 : decode cX5_byteAt 9 = .ok (.getfield 13, 3) := by decide +kernel
theorem dX5_byteAt_12 : decode cX5_byteAt 12 = .ok (.aload_n 0, 1) := by decide +kernel
theorem dX5_byteAt_13 : decode cX5_byteAt 13 = .ok (.getfield 139, 3) := by decide +kernel
theorem dX5_byteAt_16 : decode cX5_byteAt 16 = .ok (.iload_n 1, 1) := by decide +kernel
theorem dX5_byteAt_17 : decode cX5_byteAt 17 = .ok (.iadd, 1) := by decide +kernel
theorem dX5_byteAt_18 : decode cX5_byteAt 18 = .ok (.iaload, 1) := by decide +kernel
theorem dX5_byteAt_19 : decode cX5_byteAt 19 = .ok (.goto 4, 3) := by decide +kernel
theorem dX5_byteAt_22 : decode cX5_byteAt 22 = .ok (.iconst (-1), 1) := by decide +kernel
theorem dX5_byteAt_23 : decode cX5_byteAt 23 = .ok (.ireturn, 1) := by decide +kernel
theorem dX5_next_0 : decode cX5_next 0 = .ok (.aload_n 0, 1) := by decide +kernel
theorem dX5_next_1 : decode cX5_next 1 = .ok (.aload_n 0, 1) := by decide +kernel
theorem dX5_next_2 : decode cX5_next 2 = .ok (.getfield 142, 3) := by decide +kernel
theorem dX5_next_5 : decode cX5_next 5 = .ok (.invokevirtual 145, 3) := by decide +kernel
theorem dX5_next_8 : decode cX5_next 8 = .ok (.bipush 32, 2) := by decide +kernel
theorem dX5_next_10 : decode cX5_next 10 = .ok (.if_icmp .eq 16, 3) := by decide +kernel
theorem dX5_next_13 : decode cX5_next 13 = .ok (.aload_n 0, 1) := by decide +kernel
theorem dX5_next_14 : decode cX5_next 14 = .ok (.aload_n 0, 1) := by decide +kernel
theorem dX5_next_15 : decode cX5_next 15 = .ok (.getfield 142, 3) := by decide +kernel
theorem dX5_next_18 : decode cX5_next 18 = .ok (.invokevirtual 145, 3) := by decide +kernel
theorem dX5_next_21 : decode cX5_next 21 = .ok (.bipush 10, 2) := by decide +kernel
theorem dX5_next_23 : decode cX5_next 23 = .ok (.if_icmp .ne 16, 3) := by decide +kernel
theorem dX5_next_26 : decode cX5_next 26 = .ok (.aload_n 0, 1) := by decide +kernel
theorem dX5_next_27 : decode cX5_next 27 = .ok (.dup, 1) := by decide +kernel
theorem dX5_next_28 : decode cX5_next 28 = .ok (.getfield 142, 3) := by decide +kernel
theorem dX5_next_31 : decode cX5_next 31 = .ok (.iconst 1, 1) := by decide +kernel
theorem dX5_next_32 : decode cX5_next 32 = .ok (.iadd, 1) := by decide +kernel
theorem dX5_next_33 : decode cX5_next 33 = .ok (.putfield 142, 3) := by decide +kernel
theorem dX5_next_36 : decode cX5_next 36 = .ok (.goto (-36), 3) := by decide +kernel
theorem dX5_next_39 : decode cX5_next 39 = .ok (.aload_n 0, 1) := by decide +kernel
theorem dX5_next_40 : decode cX5_next 40 = .ok (.aload_n 0, 1) := by decide +kernel
theorem dX5_next_41 : decode cX5_next 41 = .ok (.getfield 142, 3) := by decide +kernel
theorem dX5_next_44 : decode cX5_next 44 = .ok (.putfield 148, 3) := by decide +kernel
theorem dX5_next_47 : decode cX5_next 47 = .ok (.aload_n 0, 1) := by decide +kernel
theorem dX5_next_48 : decode cX5_next 48 = .ok (.aload_n 0, 1) := by decide +kernel
theorem dX5_next_49 : decode cX5_next 49 = .ok (.getfield 142, 3) := by decide +kernel
theorem dX5_next_52 : decode cX5_next 52 = .ok (.invokevirtual 145, 3) := by decide +kernel
theorem dX5_next_55 : decode cX5_next 55 = .ok (.istore_n 1, 1) := by decide +kernel
theorem dX5_next_56 : decode cX5_next 56 = .ok (.aload_n 0, 1) := by decide +kernel
theorem dX5_next_57 : decode cX5_next 57 = .ok (.iconst 4, 1) := by decide +kernel
theorem dX5_next_58 : decode cX5_next 58 = .ok (.putfield 151, 3) := by decide +kernel
theorem dX5_next_61 : decode cX5_next 61 = .ok (.iload_n 1, 1) := by decide +kernel
theorem dX5_next_62 : decode cX5_next 62 = .ok (.ifCond .ge 19, 3) := by decide +kernel
theorem dX5_next_65 : decode cX5_next 65 = .ok (.aload_n 0, 1) := by decide +kernel
theorem dX5_next_66 : decode cX5_next 66 = .ok (.iconst 0, 1) := by decide +kernel
theorem dX5_next_67 : decode cX5_next 67 = .ok (.putfield 151, 3) := by decide +kernel
theorem dX5_next_70 : decode cX5_next 70 = .ok (.aload_n 0, 1) := by decide +kernel
theorem dX5_next_71 : decode cX5_next 71 = .ok (.aload_n 0, 1) := by decide +kernel
theorem dX5_next_72 : decode cX5_next 72 = .ok (.getfield 136, 3) := by decide +kernel
theorem dX5_next_75 : decode cX5_next 75 = .ok (.putfield 148, 3) := by decide +kernel
theorem dX5_next_78 : decode cX5_next 78 = .ok (.goto 243, 3) := by decide +kernel
theorem dX5_next_81 : decode cX5_next 81 = .ok (.iload_n 1, 1) := by decide +kernel
theorem dX5_next_82 : decode cX5_next 82 = .ok (.i2l, 1) := by decide +kernel
theorem dX5_next_83 : decode cX5_next 83 = .ok (.ldc2_w 154, 3) := by decide +kernel
theorem dX5_next_86 : decode cX5_next 86 = .ok (.ldc2_w 156, 3) := by decide +kernel
theorem dX5_next_89 : decode cX5_next 89 = .ok (.invokestatic 76, 3) := by decide +kernel
theorem dX5_next_92 : decode cX5_next 92 = .ok (.ifCond .eq 42, 3) := by decide +kernel
theorem dX5_next_95 : decode cX5_next 95 = .ok (.aload_n 0, 1) := by decide +kernel
theorem dX5_next_96 : decode cX5_next 96 = .ok (.iconst 1, 1) := by decide +kernel
theorem dX5_next_97 : decode cX5_next 97 = .ok (.putfield 151, 3) := by decide +kernel
theorem dX5_next_100 : decode cX5_next 100 = .ok (.aload_n 0, 1) := by decide +kernel
theorem dX5_next_101 : decode cX5_next 101 = .ok (.aload_n 0, 1) := by decide +kernel
theorem dX5_next_102 : decode cX5_next 102 = .ok (.getfield 142, 3) := by decide +kernel
theorem dX5_next_105 : decode cX5_next 105 = .ok (.invokevirtual 145, 3) := by decide +kernel
theorem dX5_next_108 : decode cX5_next 108 = .ok (.i2l, 1) := by decide +kernel
theorem dX5_next_109 : decode cX5_next 109 = .ok (.ldc2_w 154, 3) := by decide +kernel
theorem dX5_next_112 : decode cX5_next 112 = .ok (.ldc2_w 156, 3) := by decide +kernel
theorem dX5_next_115 : decode cX5_next 115 = .ok (.invokestatic 76, 3) := by decide +kernel
theorem dX5_next_118 : decode cX5_next 118 = .ok (.ifCond .eq 203, 3) := by decide +kernel
theorem dX5_next_121 : decode cX5_next 121 = .ok (.aload_n 0, 1) := by decide +kernel
theorem dX5_next_122 : decode cX5_next 122 = .ok (.dup, 1) := by decide +kernel
theorem dX5_next_123 : decode cX5_next 123 = .ok (.getfield 142, 3) := by decide +kernel
theorem dX5_next_126 : decode cX5_next 126 = .ok (.iconst 1, 1) := by decide +kernel
theorem dX5_next_127 : decode cX5_next 127 = .ok (.iadd, 1) := by decide +kernel
theorem dX5_next_128 : decode cX5_next 128 = .ok (.putfield 142, 3) := by decide +kernel
theorem dX5_next_131 : decode cX5_next 131 = .ok (.goto (-31), 3) := by decide +kernel
theorem dX5_next_134 : decode cX5_next 134 = .ok (.iload_n 1, 1) := by decide +kernel
theorem dX5_next_135 : decode cX5_next 135 = .ok (.i2l, 1) := by decide +kernel
theorem dX5_next_136 : decode cX5_next 136 = .ok (.ldc2_w 158, 3) := by decide +kernel
theorem dX5_next_139 : decode cX5_next 139 = .ok (.ldc2_w 160, 3) := by decide +kernel
theorem dX5_next_142 : decode cX5_next 142 = .ok (.invokestatic 76, 3) := by decide +kernel
theorem dX5_next_145 : decode cX5_next 145 = .ok (.ifCond .eq 107, 3) := by decide +kernel
theorem dX5_next_148 : decode cX5_next 148 = .ok (.aload_n 0, 1) := by decide +kernel
theorem dX5_next_149 : decode cX5_next 149 = .ok (.iconst 2, 1) := by decide +kernel
theorem dX5_next_150 : decode cX5_next 150 = .ok (.putfield 151, 3) := by decide +kernel
theorem dX5_next_153 : decode cX5_next 153 = .ok (.aload_n 0, 1) := by decide +kernel
theorem dX5_next_154 : decode cX5_next 154 = .ok (.lconst 0, 1) := by decide +kernel
theorem dX5_next_155 : decode cX5_next 155 = .ok (.putfield 162, 3) := by decide +kernel
theorem dX5_next_158 : decode cX5_next 158 = .ok (.iconst 0, 1) := by decide +kernel
theorem dX5_next_159 : decode cX5_next 159 = .ok (.istore_n 2, 1) := by decide +kernel
theorem dX5_next_160 : decode cX5_next 160 = .ok (.aload_n 0, 1) := by decide +kernel
theorem dX5_next_161 : decode cX5_next 161 = .ok (.aload_n 0, 1) := by decide +kernel
theorem dX5_next_162 : decode cX5_next 162 = .ok (.getfield 142, 3) := by decide +kernel
theorem dX5_next_165 : decode cX5_next 165 = .ok (.invokevirtual 145, 3) := by decide +kernel
theorem dX5_next_168 : decode cX5_next 168 = .ok (.i2l, 1) := by decide +kernel
theorem dX5_next_169 : decode cX5_next 169 = .ok (.ldc2_w 158, 3) := by decide +kernel
theorem dX5_next_172 : decode cX5_next 172 = .ok (.ldc2_w 160, 3) := by decide +kernel
theorem dX5_next_175 : decode cX5_next 175 = .ok (.invokestatic 76, 3) := by decide +kernel
theorem dX5_next_178 : decode cX5_next 178 = .ok (.ifCond .eq 57, 3) := by decide +kernel
theorem dX5_next_181 : decode cX5_next 181 = .ok (.aload_n 0, 1) := by decide +kernel
theorem dX5_next_182 : decode cX5_next 182 = .ok (.iload_n 2, 1) := by decide +kernel
theorem dX5_next_183 : decode cX5_next 183 = .ok (.iconst 4, 1) := by decide +kernel
theorem dX5_next_184 : decode cX5_next 184 = .ok (.if_icmp .ge 28, 3) := by decide +kernel
theorem dX5_next_187 : decode cX5_next 187 = .ok (.ldc2_w 126, 3) := by decide +kernel
theorem dX5_next_190 : decode cX5_next 190 = .ok (.aload_n 0, 1) := by decide +kernel
theorem dX5_next_191 : decode cX5_next 191 = .ok (.getfield 162, 3) := by decide +kernel
theorem dX5_next_194 : decode cX5_next 194 = .ok (.lmul, 1) := by decide +kernel
theorem dX5_next_195 : decode cX5_next 195 = .ok (.aload_n 0, 1) := by decide +kernel
theorem dX5_next_196 : decode cX5_next 196 = .ok (.aload_n 0, 1) := by decide +kernel
theorem dX5_next_197 : decode cX5_next 197 = .ok (.getfield 142, 3) := by decide +kernel
theorem dX5_next_200 : decode cX5_next 200 = .ok (.invokevirtual 145, 3) := by decide +kernel
theorem dX5_next_203 : decode cX5_next 203 = .ok (.i2l, 1) := by decide +kernel
theorem dX5_next_204 : decode cX5_next 204 = .ok (.ladd, 1) := by decide +kernel
theorem dX5_next_205 : decode cX5_next 205 = .ok (.ldc2_w 158, 3) := by decide +kernel
theorem dX5_next_208 : decode cX5_next 208 = .ok (.lsub, 1) := by decide +kernel
theorem dX5_next_209 : decode cX5_next 209 = .ok (.goto 7, 3) := by decide +kernel
theorem dX5_next_212 : decode cX5_next 212 = .ok (.aload_n 0, 1) := by decide +kernel
theorem dX5_next_213 : decode cX5_next 213 = .ok (.getfield 162, 3) := by decide +kernel
theorem dX5_next_216 : decode cX5_next 216 = .ok (.putfield 162, 3) := by decide +kernel
theorem dX5_next_219 : decode cX5_next 219 = .ok (.iinc 2 1, 3) := by decide +kernel
theorem dX5_next_222 : decode cX5_next 222 = .ok (.aload_n 0, 1) := by decide +kernel
theorem dX5_next_223 : decode cX5_next 223 = .ok (.dup, 1) := by decide +kernel
theorem dX5_next_224 : decode cX5_next 224 = .ok (.getfield 142, 3) := by decide +kernel
theorem dX5_next_227 : decode cX5_next 227 = .ok (.iconst 1, 1) := by decide +kernel
theorem dX5_next_228 : decode cX5_next 228 = .ok (.iadd, 1) := by decide +kernel
theorem dX5_next_229 : decode cX5_next 229 = .ok (.putfield 142, 3) := by decide +kernel
theorem dX5_next_232 : decode cX5_next 232 = .ok (.goto (-72), 3) := by decide +kernel
theorem dX5_next_235 : decode cX5_next 235 = .ok (.aload_n 0, 1) := by decide +kernel
theorem dX5_next_236 : decode cX5_next 236 = .ok (.iload_n 2, 1) := by decide +kernel
theorem dX5_next_237 : decode cX5_next 237 = .ok (.iconst 4, 1) := by decide +kernel
theorem dX5_next_238 : decode cX5_next 238 = .ok (.if_icmp .le 7, 3) := by decide +kernel
theorem dX5_next_241 : decode cX5_next 241 = .ok (.iconst 4, 1) := by decide +kernel
theorem dX5_next_242 : decode cX5_next 242 = .ok (.goto 4, 3) := by decide +kernel
theorem dX5_next_245 : decode cX5_next 245 = .ok (.iconst 2, 1) := by decide +kernel
theorem dX5_next_246 : decode cX5_next 246 = .ok (.putfield 151, 3) := by decide +kernel
theorem dX5_next_249 : decode cX5_next 249 = .ok (.goto 72, 3) := by decide +kernel
theorem dX5_next_252 : decode cX5_next 252 = .ok (.iload_n 1, 1) := by decide +kernel
theorem dX5_next_253 : decode cX5_next 253 = .ok (.bipush 40, 2) := by decide +kernel
theorem dX5_next_255 : decode cX5_next 255 = .ok (.if_icmp .eq 45, 3) := by decide +kernel
theorem dX5_next_258 : decode cX5_next 258 = .ok (.iload_n 1, 1) := by decide +kernel
theorem dX5_next_259 : decode cX5_next 259 = .ok (.bipush 41, 2) := by decide +kernel
theorem dX5_next_261 : decode cX5_next 261 = .ok (.if_icmp .eq 39, 3) := by decide +kernel
theorem dX5_next_264 : decode cX5_next 264 = .ok (.iload_n 1, 1) := by decide +kernel
theorem dX5_next_265 : decode cX5_next 265 = .ok (.bipush 59, 2) := by decide +kernel
theorem dX5_next_267 : decode cX5_next 267 = .ok (.if_icmp .eq 33, 3) := by decide +kernel
theorem dX5_next_270 : decode cX5_next 270 = .ok (.iload_n 1, 1) := by decide +kernel
theorem dX5_next_271 : decode cX5_next 271 = .ok (.bipush 43, 2) := by decide +kernel
theorem dX5_next_273 : decode cX5_next 273 = .ok (.if_icmp .eq 27, 3) := by decide +kernel
theorem dX5_next_276 : decode cX5_next 276 = .ok (.iload_n 1, 1) := by decide +kernel
theorem dX5_next_277 : decode cX5_next 277 = .ok (.bipush 45, 2) := by decide +kernel
theorem dX5_next_279 : decode cX5_next 279 = .ok (.if_icmp .eq 21, 3) := by decide +kernel
theorem dX5_next_282 : decode cX5_next 282 = .ok (.iload_n 1, 1) := by decide +kernel
theorem dX5_next_283 : decode cX5_next 283 = .ok (.bipush 42, 2) := by decide +kernel
theorem dX5_next_285 : decode cX5_next 285 = .ok (.if_icmp .eq 15, 3) := by decide +kernel
theorem dX5_next_288 : decode cX5_next 288 = .ok (.iload_n 1, 1) := by decide +kernel
theorem dX5_next_289 : decode cX5_next 289 = .ok (.bipush 60, 2) := by decide +kernel
theorem dX5_next_291 : decode cX5_next 291 = .ok (.if_icmp .eq 9, 3) := by decide +kernel
theorem dX5_next_294 : decode cX5_next 294 = .ok (.iload_n 1, 1) := by decide +kernel
theorem dX5_next_295 : decode cX5_next 295 = .ok (.bipush 61, 2) := by decide +kernel
theorem dX5_next_297 : decode cX5_next 297 = .ok (.if_icmp .ne 24, 3) := by decide +kernel
theorem dX5_next_300 : decode cX5_next 300 = .ok (.aload_n 0, 1) := by decide +kernel
theorem dX5_next_301 : decode cX5_next 301 = .ok (.iconst 3, 1) := by decide +kernel
theorem dX5_next_302 : decode cX5_next 302 = .ok (.putfield 151, 3) := by decide +kernel
theorem dX5_next_305 : decode cX5_next 305 = .ok (.aload_n 0, 1) := by decide +kernel
theorem dX5_next_306 : decode cX5_next 306 = .ok (.iload_n 1, 1) := by decide +kernel
