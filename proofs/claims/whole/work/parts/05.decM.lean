theorem dX7_init_0 : decode cX7_init 0 = .ok (.aload_n 0, 1) := by decide +kernel
theorem dX7_init_1 : decode cX7_init 1 = .ok (.invokespecial 1, 3) := by decide +kernel
theorem dX7_init_4 : decode cX7_init 4 = .ok (.aload_n 0, 1) := by decide +kernel
theorem dX7_init_5 : decode cX7_init 5 = .ok (.iconst 4, 1) := by decide +kernel
theorem dX7_init_6 : decode cX7_init 6 = .ok (.newarray .int, 2) := by decide +kernel
theorem dX7_init_8 : decode cX7_init 8 = .ok (.putfield 7, 3) := by decide +kernel
theorem dX7_init_11 : decode cX7_init 11 = .ok (.aload_n 0, 1) := by decide +kernel
theorem dX7_init_12 : decode cX7_init 12 = .ok (.iconst 4, 1) := by decide +kernel
theorem dX7_init_13 : decode cX7_init 13 = .ok (.newarray .int, 2) := by decide +kernel
theorem dX7_init_15 : decode cX7_init 15 = .ok (.putfield 13, 3) := by decide +kernel
theorem dX7_init_18 : decode cX7_init 18 = .ok (.aload_n 0, 1) := by decide +kernel
theorem dX7_init_19 : decode cX7_init 19 = .ok (.bipush 60, 2) := by decide +kernel
theorem dX7_init_21 : decode cX7_init 21 = .ok (.newarray .int, 2) := by decide +kernel
theorem dX7_init_23 : decode cX7_init 23 = .ok (.putfield 16, 3) := by decide +kernel
theorem dX7_init_26 : decode cX7_init 26 = .ok (.aload_n 0, 1) := by decide +kernel
theorem dX7_init_27 : decode cX7_init 27 = .ok (.bipush 60, 2) := by decide +kernel
theorem dX7_init_29 : decode cX7_init 29 = .ok (.newarray .int, 2) := by decide +kernel
theorem dX7_init_31 : decode cX7_init 31 = .ok (.putfield 19, 3) := by decide +kernel
theorem dX7_init_34 : decode cX7_init 34 = .ok (.aload_n 0, 1) := by decide +kernel
theorem dX7_init_35 : decode cX7_init 35 = .ok (.bipush 60, 2) := by decide +kernel
theorem dX7_init_37 : decode cX7_init 37 = .ok (.newarray .int, 2) := by decide +kernel
theorem dX7_init_39 : decode cX7_init 39 = .ok (.putfield 22, 3) := by decide +kernel
theorem dX7_init_42 : decode cX7_init 42 = .ok (.aload_n 0, 1) := by decide +kernel
theorem dX7_init_43 : decode cX7_init 43 = .ok (.bipush 60, 2) := by decide +kernel
theorem dX7_init_45 : decode cX7_init 45 = .ok (.newarray .int, 2) := by decide +kernel
theorem dX7_init_47 : decode cX7_init 47 = .ok (.putfield 25, 3) := by decide +kernel
theorem dX7_init_50 : decode cX7_init 50 = .ok (.aload_n 0, 1) := by decide +kernel
theorem dX7_init_51 : decode cX7_init 51 = .ok (.bipush 60, 2) := by decide +kernel
theorem dX7_init_53 : decode cX7_init 53 = .ok (.newarray .int, 2) := by decide +kernel
theorem dX7_init_55 : decode cX7_init 55 = .ok (.putfield 28, 3) := by decide +kernel
theorem dX7_init_58 : decode cX7_init 58 = .ok (.aload_n 0, 1) := by decide +kernel
theorem dX7_init_59 : decode cX7_init 59 = .ok (.bipush 60, 2) := by decide +kernel
theorem dX7_init_61 : decode cX7_init 61 = .ok (.newarray .int, 2) := by decide +kernel
theorem dX7_init_63 : decode cX7_init 63 = .ok (.putfield 31, 3) := by decide +kernel
theorem dX7_init_66 : decode cX7_init 66 = .ok (.aload_n 0, 1) := by decide +kernel
theorem dX7_init_67 : decode cX7_init 67 = .ok (.bipush 60, 2) := by decide +kernel
theorem dX7_init_69 : decode cX7_init 69 = .ok (.newarray .int, 2) := by decide +kernel
theorem dX7_init_71 : decode cX7_init 71 = .ok (.putfield 34, 3) := by decide +kernel
theorem dX7_init_74 : decode cX7_init 74 = .ok (.aload_n 0, 1) := by decide +kernel
theorem dX7_init_75 : decode cX7_init 75 = .ok (.bipush 60, 2) := by decide +kernel
theorem dX7_init_77 : decode cX7_init 77 = .ok (.newarray .int, 2) := by decide +kernel
theorem dX7_init_79 : decode cX7_init 79 = .ok (.putfield 37, 3) := by decide +kernel
theorem dX7_init_82 : decode cX7_init 82 = .ok (.aload_n 0, 1) := by decide +kernel
theorem dX7_init_83 : decode cX7_init 83 = .ok (.bipush 60, 2) := by decide +kernel
theorem dX7_init_85 : decode cX7_init 85 = .ok (.newarray .int, 2) := by decide +kernel
theorem dX7_init_87 : decode cX7_init 87 = .ok (.putfield 40, 3) := by decide +kernel
theorem dX7_init_90 : decode cX7_init 90 = .ok (.aload_n 0, 1) := by decide +kernel
theorem dX7_init_91 : decode cX7_init 91 = .ok (.bipush 12, 2) := by decide +kernel
theorem dX7_init_93 : decode cX7_init 93 = .ok (.newarray .int, 2) := by decide +kernel
theorem dX7_init_95 : decode cX7_init 95 = .ok (.putfield 43, 3) := by decide +kernel
theorem dX7_init_98 : decode cX7_init 98 = .ok (.aload_n 0, 1) := by decide +kernel
theorem dX7_init_99 : decode cX7_init 99 = .ok (.bipush 12, 2) := by decide +kernel
theorem dX7_init_101 : decode cX7_init 101 = .ok (.newarray .int, 2) := by decide +kernel
theorem dX7_init_103 : decode cX7_init 103 = .ok (.putfield 46, 3) := by decide +kernel
theorem dX7_init_106 : decode cX7_init 106 = .ok (.aload_n 0, 1) := by decide +kernel
theorem dX7_init_107 : decode cX7_init 107 = .ok (.bipush 12, 2) := by decide +kernel
theorem dX7_init_109 : decode cX7_init 109 = .ok (.newarray .int, 2) := by decide +kernel
theorem dX7_init_111 : decode cX7_init 111 = .ok (.putfield 49, 3) := by decide +kernel
theorem dX7_init_114 : decode cX7_init 114 = .ok (.aload_n 0, 1) := by decide +kernel
theorem dX7_init_115 : decode cX7_init 115 = .ok (.iconst 3, 1) := by decide +kernel
theorem dX7_init_116 : decode cX7_init 116 = .ok (.putfield 52, 3) := by decide +kernel
theorem dX7_init_119 : decode cX7_init 119 = .ok (.aload_n 0, 1) := by decide +kernel
theorem dX7_init_120 : decode cX7_init 120 = .ok (.bipush 8, 2) := by decide +kernel
theorem dX7_init_122 : decode cX7_init 122 = .ok (.newarray .int, 2) := by decide +kernel
theorem dX7_init_124 : decode cX7_init 124 = .ok (.putfield 56, 3) := by decide +kernel
theorem dX7_init_127 : decode cX7_init 127 = .ok (.aload_n 0, 1) := by decide +kernel
theorem dX7_init_128 : decode cX7_init 128 = .ok (.bipush 64, 2) := by decide +kernel
theorem dX7_init_130 : decode cX7_init 130 = .ok (.newarray .int, 2) := by decide +kernel
theorem dX7_init_132 : decode cX7_init 132 = .ok (.putfield 59, 3) := by decide +kernel
theorem dX7_init_135 : decode cX7_init 135 = .ok (.aload_n 0, 1) := by decide +kernel
theorem dX7_init_136 : decode cX7_init 136 = .ok (.iconst 5, 1) := by decide +kernel
theorem dX7_init_137 : decode cX7_init 137 = .ok (.newarray .int, 2) := by decide +kernel
theorem dX7_init_139 : decode cX7_init 139 = .ok (.putfield 62, 3) := by decide +kernel
theorem dX7_init_142 : decode cX7_init 142 = .ok (.aload_n 0, 1) := by decide +kernel
theorem dX7_init_143 : decode cX7_init 143 = .ok (.iconst 5, 1) := by decide +kernel
theorem dX7_init_144 : decode cX7_init 144 = .ok (.newarray .int, 2) := by decide +kernel
theorem dX7_init_146 : decode cX7_init 146 = .ok (.putfield 65, 3) := by decide +kernel
theorem dX7_init_149 : decode cX7_init 149 = .ok (.aload_n 0, 1) := by decide +kernel
theorem dX7_init_150 : decode cX7_init 150 = .ok (.sipush 1100, 3) := by decide +kernel
theorem dX7_init_153 : decode cX7_init 153 = .ok (.newarray .boolean, 2) := by decide +kernel
theorem dX7_init_155 : decode cX7_init 155 = .ok (.putfield 68, 3) := by decide +kernel
theorem dX7_init_158 : decode cX7_init 158 = .ok (.aload_n 0, 1) := by decide +kernel
theorem dX7_init_159 : decode cX7_init 159 = .ok (.bipush 121, 2) := by decide +kernel
theorem dX7_init_161 : decode cX7_init 161 = .ok (.newarray .int, 2) := by decide +kernel
theorem dX7_init_163 : decode cX7_init 163 = .ok (.putfield 72, 3) := by decide +kernel
theorem dX7_init_166 : decode cX7_init 166 = .ok (.iconst 0, 1) := by decide +kernel
theorem dX7_init_167 : decode cX7_init 167 = .ok (.istore_n 1, 1) := by decide +kernel
theorem dX7_init_168 : decode cX7_init 168 = .ok (.iload_n 1, 1) := by decide +kernel
theorem dX7_init_169 : decode cX7_init 169 = .ok (.iconst 4, 1) := by decide +kernel
theorem dX7_init_170 : decode cX7_init 170 = .ok (.if_icmp .ge 25, 3) := by decide +kernel
theorem dX7_init_173 : decode cX7_init 173 = .ok (.aload_n 0, 1) := by decide +kernel
theorem dX7_init_174 : decode cX7_init 174 = .ok (.getfield 7, 3) := by decide +kernel
theorem dX7_init_177 : decode cX7_init 177 = .ok (.iload_n 1, 1) := by decide +kernel
theorem dX7_init_178 : decode cX7_init 178 = .ok (.bipush 100, 2) := by decide +kernel
theorem dX7_init_180 : decode cX7_init 180 = .ok (.iastore, 1) := by decide +kernel
theorem dX7_init_181 : decode cX7_init 181 = .ok (.aload_n 0, 1) := by decide +kernel
theorem dX7_init_182 : decode cX7_init 182 = .ok (.getfield 13, 3) := by decide +kernel
theorem dX7_init_185 : decode cX7_init 185 = .ok (.iload_n 1, 1) := by decide +kernel
theorem dX7_init_186 : decode cX7_init 186 = .ok (.bipush 20, 2) := by decide +kernel
theorem dX7_init_188 : decode cX7_init 188 = .ok (.iastore, 1) := by decide +kernel
theorem dX7_init_189 : decode cX7_init 189 = .ok (.iinc 1 1, 3) := by decide +kernel
theorem dX7_init_192 : decode cX7_init 192 = .ok (.goto (-24), 3) := by decide +kernel
theorem dX7_init_195 : decode cX7_init 195 = .ok (.aload_n 0, 1) := by decide +kernel
theorem dX7_init_196 : decode cX7_init 196 = .ok (.iconst 3, 1) := by decide +kernel
theorem dX7_init_197 : decode cX7_init 197 = .ok (.invokevirtual 75, 3) := by decide +kernel
theorem dX7_init_200 : decode cX7_init 200 = .ok (.return_, 1) := by decide +kernel
theorem dX7_thrown_0 : decode cX7_thrown 0 = .ok (.aload_n 0, 1) := by decide +kernel
theorem dX7_thrown_1 : decode cX7_thrown 1 = .ok (.getfield 79, 3) := by decide +kernel
theorem dX7_thrown_4 : decode cX7_thrown 4 = .ok (.ireturn, 1) := by decide +kernel
theorem dX7_refused_0 : decode cX7_refused 0 = .ok (.aload_n 0, 1) := by decide +kernel
theorem dX7_refused_1 : decode cX7_refused 1 = .ok (.iload_n 1, 1) := by decide +kernel
theorem dX7_refused_2 : decode cX7_refused 2 = .ok (.putfield 79, 3) := by decide +kernel
theorem dX7_refused_5 : decode cX7_refused 5 = .ok (.iload_n 1, 1) := by decide +kernel
theorem dX7_refused_6 : decode cX7_refused 6 = .ok (.ifCond .eq 7, 3) := by decide +kernel
theorem dX7_refused_9 : decode cX7_refused 9 = .ok (.iconst 1, 1) := by decide +kernel
theorem dX7_refused_10 : decode cX7_refused 10 = .ok (.goto 4, 3) := by decide +kernel
theorem dX7_refused_13 : decode cX7_refused 13 = .ok (.iconst 0, 1) := by decide +kernel
theorem dX7_refused_14 : decode cX7_refused 14 = .ok (.ireturn, 1) := by decide +kernel
theorem dX7_is_0 : decode cX7_is 0 = .ok (.iload_n 0, 1) := by decide +kernel
theorem dX7_is_1 : decode cX7_is 1 = .ok (.iload_n 1, 1) := by decide +kernel
theorem dX7_is_2 : decode cX7_is 2 = .ok (.if_icmp .lt 12, 3) := by decide +kernel
theorem dX7_is_5 : decode cX7_is 5 = .ok (.iload_n 0, 1) := by decide +kernel
theorem dX7_is_6 : decode cX7_is 6 = .ok (.iload_n 2, 1) := by decide +kernel
theorem dX7_is_7 : decode cX7_is 7 = .ok (.if_icmp .gt 7, 3) := by decide +kernel
theorem dX7_is_10 : decode cX7_is 10 = .ok (.iconst 1, 1) := by decide +kernel
theorem dX7_is_11 : decode cX7_is 11 = .ok (.goto 4, 3) := by decide +kernel
theorem dX7_is_14 : decode cX7_is 14 = .ok (.iconst 0, 1) := by decide +kernel
theorem dX7_is_15 : decode cX7_is 15 = .ok (.ireturn, 1) := by decide +kernel
theorem dX7_size_0 : decode cX7_size 0 = .ok (.iload_n 0, 1) := by decide +kernel
theorem dX7_size_1 : decode cX7_size 1 = .ok (.ifCond .ge 8, 3) := by decide +kernel
theorem dX7_size_4 : decode cX7_size 4 = .ok (.iload_n 0, 1) := by decide +kernel
theorem dX7_size_5 : decode cX7_size 5 = .ok (.ineg, 1) := by decide +kernel
theorem dX7_size_6 : decode cX7_size 6 = .ok (.goto 4, 3) := by decide +kernel
theorem dX7_size_9 : decode cX7_size 9 = .ok (.iload_n 0, 1) := by decide +kernel
theorem dX7_size_10 : decode cX7_size 10 = .ok (.ireturn, 1) := by decide +kernel
theorem dX7_isLine_0 : decode cX7_isLine 0 = .ok (.iload_n 1, 1) := by decide +kernel
theorem dX7_isLine_1 : decode cX7_isLine 1 = .ok (.iconst 0, 1) := by decide +kernel
theorem dX7_isLine_2 : decode cX7_isLine 2 = .ok (.aload_n 0, 1) := by decide +kernel
theorem dX7_isLine_3 : decode cX7_isLine 3 = .ok (.getfield 82, 3) := by decide +kernel
theorem dX7_isLine_6 : decode cX7_isLine 6 = .ok (.iconst 1, 1) := by decide +kernel
theorem dX7_isLine_7 : decode cX7_isLine 7 = .ok (.isub, 1) := by decide +kernel
theorem dX7_isLine_8 : decode cX7_isLine 8 = .ok (.invokestatic 85, 3) := by decide +kernel
theorem dX7_isLine_11 : decode cX7_isLine 11 = .ok (.ireturn, 1) := by decide +kernel
theorem dX7_fibre_0 : decode cX7_fibre 0 = .ok (.iload_n 2, 1) := by decide +kernel
theorem dX7_fibre_1 : decode cX7_fibre 1 = .ok (.iconst 1, 1) := by decide +kernel
theorem dX7_fibre_2 : decode cX7_fibre 2 = .ok (.sipush 1000, 3) := by decide +kernel
theorem dX7_fibre_5 : decode cX7_fibre 5 = .ok (.invokestatic 85, 3) := by decide +kernel
theorem dX7_fibre_8 : decode cX7_fibre 8 = .ok (.ifCond .eq 17, 3) := by decide +kernel
theorem dX7_fibre_11 : decode cX7_fibre 11 = .ok (.iload_n 3, 1) := by decide +kernel
theorem dX7_fibre_12 : decode cX7_fibre 12 = .ok (.iconst 1, 1) := by decide +kernel
theorem dX7_fibre_13 : decode cX7_fibre 13 = .ok (.bipush 100, 2) := by decide +kernel
theorem dX7_fibre_15 : decode cX7_fibre 15 = .ok (.invokestatic 85, 3) := by decide +kernel
theorem dX7_fibre_18 : decode cX7_fibre 18 = .ok (.ifCond .eq 7, 3) := by decide +kernel
theorem dX7_fibre_21 : decode cX7_fibre 21 = .ok (.iconst 1, 1) := by decide +kernel
theorem dX7_fibre_22 : decode cX7_fibre 22 = .ok (.goto 4, 3) := by decide +kernel
theorem dX7_fibre_25 : decode cX7_fibre 25 = .ok (.iconst 0, 1) := by decide +kernel
theorem dX7_fibre_26 : decode cX7_fibre 26 = .ok (.istore 4, 2) := by decide +kernel
theorem dX7_fibre_28 : decode cX7_fibre 28 = .ok (.aload_n 0, 1) := by decide +kernel
theorem dX7_fibre_29 : decode cX7_fibre 29 = .ok (.iload_n 1, 1) := by decide +kernel
theorem dX7_fibre_30 : decode cX7_fibre 30 = .ok (.iconst 0, 1) := by decide +kernel
theorem dX7_fibre_31 : decode cX7_fibre 31 = .ok (.iconst 3, 1) := by decide +kernel
theorem dX7_fibre_32 : decode cX7_fibre 32 = .ok (.invokestatic 85, 3) := by decide +kernel
theorem dX7_fibre_35 : decode cX7_fibre 35 = .ok (.ifCond .ne 7, 3) := by decide +kernel
theorem dX7_fibre_38 : decode cX7_fibre 38 = .ok (.iconst 1, 1) := by decide +kernel
theorem dX7_fibre_39 : decode cX7_fibre 39 = .ok (.goto 13, 3) := by decide +kernel
theorem dX7_fibre_42 : decode cX7_fibre 42 = .ok (.iload 4, 2) := by decide +kernel
theorem dX7_fibre_44 : decode cX7_fibre 44 = .ok (.ifCond .ne 7, 3) := by decide +kernel
theorem dX7_fibre_47 : decode cX7_fibre 47 = .ok (.iconst 2, 1) := by decide +kernel
theorem dX7_fibre_48 : decode cX7_fibre 48 = .ok (.goto 4, 3) := by decide +kernel
theorem dX7_fibre_51 : decode cX7_fibre 51 = .ok (.iconst 0, 1) := by decide +kernel
theorem dX7_fibre_52 : decode cX7_fibre 52 = .ok (.invokevirtual 89, 3) := by decide +kernel
theorem dX7_fibre_55 : decode cX7_fibre 55 = .ok (.ifCond .ne 17, 3) := by decide +kernel
theorem dX7_fibre_58 : decode cX7_fibre 58 = .ok (.aload_n 0, 1) := by decide +kernel
theorem dX7_fibre_59 : decode cX7_fibre 59 = .ok (.getfield 7, 3) := by decide +kernel
theorem dX7_fibre_62 : decode cX7_fibre 62 = .ok (.iload_n 1, 1) := by decide +kernel
theorem dX7_fibre_63 : decode cX7_fibre 63 = .ok (.iload_n 2, 1) := by decide +kernel
theorem dX7_fibre_64 : decode cX7_fibre 64 = .ok (.iastore, 1) := by decide +kernel
theorem dX7_fibre_65 : decode cX7_fibre 65 = .ok (.aload_n 0, 1) := by decide +kernel
theorem dX7_fibre_66 : decode cX7_fibre 66 = .ok (.getfield 13, 3) := by decide +kernel
theorem dX7_fibre_69 : decode cX7_fibre 69 = .ok (.iload_n 1, 1) := by decide +kernel
theorem dX7_fibre_70 : decode cX7_fibre 70 = .ok (.iload_n 3, 1) := by decide +kernel
theorem dX7_fibre_71 : decode cX7_fibre 71 = .ok (.iastore, 1) := by decide +kernel
theorem dX7_fibre_72 : decode cX7_fibre 72 = .ok (.return_, 1) := by decide +kernel
theorem dX7_add_0 : decode cX7_add 0 = .ok (.aload_n 0, 1) := by decide +kernel
theorem dX7_add_1 : decode cX7_add 1 = .ok (.getfield 16, 3) := by decide +kernel
theorem dX7_add_4 : decode cX7_add 4 = .ok (.aload_n 0, 1) := by decide +kernel
theorem dX7_add_5 : decode cX7_add 5 = .ok (.getfield 82, 3) := by decide +kernel
theorem dX7_add_8 : decode cX7_add 8 = .ok (.iload_n 1, 1) := by decide +kernel
theorem dX7_add_9 : decode cX7_add 9 = .ok (.iastore, 1) := by decide +kernel
theorem dX7_add_10 : decode cX7_add 10 = .ok (.aload_n 0, 1) := by decide +kernel
theorem dX7_add_11 : decode cX7_add 11 = .ok (.getfield 19, 3) := by decide +kernel
theorem dX7_add_14 : decode cX7_add 14 = .ok (.aload_n 0, 1) := by decide +kernel
theorem dX7_add_15 : decode cX7_add 15 = .ok (.getfield 82, 3) := by decide +kernel
theorem dX7_add_18 : decode cX7_add 18 = .ok (.iload_n 2, 1) := by decide +kernel
theorem dX7_add_19 : decode cX7_add 19 = .ok (.iastore, 1) := by decide +kernel
theorem dX7_add_20 : decode cX7_add 20 = .ok (.aload_n 0, 1) := by decide +kernel
theorem dX7_add_21 : decode cX7_add 21 = .ok (.getfield 22, 3) := by decide +kernel
theorem dX7_add_24 : decode cX7_add 24 = .ok (.aload_n 0, 1) := by decide +kernel
theorem dX7_add_25 : decode cX7_add 25 = .ok (.getfield 82, 3) := by decide +kernel
theorem dX7_add_28 : decode cX7_add 28 = .ok (.iload_n 3, 1) := by decide +kernel
theorem dX7_add_29 : decode cX7_add 29 = .ok (.iastore, 1) := by decide +kernel
theorem dX7_add_30 : decode cX7_add 30 = .ok (.aload_n 0, 1) := by decide +kernel
theorem dX7_add_31 : decode cX7_add 31 = .ok (.getfield 25, 3) := by decide +kernel
theorem dX7_add_34 : decode cX7_add 34 = .ok (.aload_n 0, 1) := by decide +kernel
theorem dX7_add_35 : decode cX7_add 35 = .ok (.getfield 82, 3) := by decide +kernel
theorem dX7_add_38 : decode cX7_add 38 = .ok (.iload 4, 2) := by decide +kernel
theorem dX7_add_40 : decode cX7_add 40 = .ok (.iastore, 1) := by decide +kernel
theorem dX7_add_41 : decode cX7_add 41 = .ok (.aload_n 0, 1) := by decide +kernel
theorem dX7_add_42 : decode cX7_add 42 = .ok (.getfield 28, 3) := by decide +kernel
theorem dX7_add_45 : decode cX7_add 45 = .ok (.aload_n 0, 1) := by decide +kernel
theorem dX7_add_46 : decode cX7_add 46 = .ok (.getfield 82, 3) := by decide +kernel
theorem dX7_add_49 : decode cX7_add 49 = .ok (.iload 5, 2) := by decide +kernel
theorem dX7_add_51 : decode cX7_add 51 = .ok (.iastore, 1) := by decide +kernel
theorem dX7_add_52 : decode cX7_add 52 = .ok (.aload_n 0, 1) := by decide +kernel
theorem dX7_add_53 : decode cX7_add 53 = .ok (.getfield 31, 3) := by decide +kernel
theorem dX7_add_56 : decode cX7_add 56 = .ok (.aload_n 0, 1) := by decide +kernel
theorem dX7_add_57 : decode cX7_add 57 = .ok (.getfield 82, 3) := by decide +kernel
theorem dX7_add_60 : decode cX7_add 60 = .ok (.iload 6, 2) := by decide +kernel
theorem dX7_add_62 : decode cX7_add 62 = .ok (.iastore, 1) := by decide +kernel
theorem dX7_add_63 : decode cX7_add 63 = .ok (.aload_n 0, 1) := by decide +kernel
theorem dX7_add_64 : decode cX7_add 64 = .ok (.dup, 1) := by decide +kernel
theorem dX7_add_65 : decode cX7_add 65 = .ok (.getfield 82, 3) := by decide +kernel
theorem dX7_add_68 : decode cX7_add 68 = .ok (.iconst 1, 1) := by decide +kernel
theorem dX7_add_69 : decode cX7_add 69 = .ok (.iadd, 1) := by decide +kernel
theorem dX7_add_70 : decode cX7_add 70 = .ok (.putfield 82, 3) := by decide +kernel
theorem dX7_add_73 : decode cX7_add 73 = .ok (.aload_n 0, 1) := by decide +kernel
theorem dX7_add_74 : decode cX7_add 74 = .ok (.getfield 82, 3) := by decide +kernel
theorem dX7_add_77 : decode cX7_add 77 = .ok (.iconst 1, 1) := by decide +kernel
theorem dX7_add_78 : decode cX7_add 78 = .ok (.isub, 1) := by decide +kernel
theorem dX7_add_79 : decode cX7_add 79 = .ok (.ireturn, 1) := by decide +kernel
theorem dX7_spin_0 : decode cX7_spin 0 = .ok (.iload_n 2, 1) := by decide +kernel
theorem dX7_spin_1 : decode cX7_spin 1 = .ok (.iconst 1, 1) := by decide +kernel
theorem dX7_spin_2 : decode cX7_spin 2 = .ok (.bipush 30, 2) := by decide +kernel
theorem dX7_spin_4 : decode cX7_spin 4 = .ok (.invokestatic 85, 3) := by decide +kernel
theorem dX7_spin_7 : decode cX7_spin 7 = .ok (.ifCond .eq 28, 3) := by decide +kernel
theorem dX7_spin_10 : decode cX7_spin 10 = .ok (.iload_n 3, 1) := by decide +kernel
theorem dX7_spin_11 : decode cX7_spin 11 = .ok (.iconst 0, 1) := by decide +kernel
theorem dX7_spin_12 : decode cX7_spin 12 = .ok (.iconst 1, 1) := by decide +kernel
theorem dX7_spin_13 : decode cX7_spin 13 = .ok (.invokestatic 85, 3) := by decide +kernel
theorem dX7_spin_16 : decode cX7_spin 16 = .ok (.ifCond .eq 19, 3) := by decide +kernel
theorem dX7_spin_19 : decode cX7_spin 19 = .ok (.iload 4, 2) := by decide +kernel
theorem dX7_spin_21 : decode cX7_spin 21 = .ok (.iconst 1, 1) := by decide +kernel
theorem dX7_spin_22 : decode cX7_spin 22 = .ok (.sipush 10000, 3) := by decide +kernel
theorem dX7_spin_25 : decode cX7_spin 25 = .ok (.invokestatic 85, 3) := by decide +kernel
theorem dX7_spin_28 : decode cX7_spin 28 = .ok (.ifCond .eq 7, 3) := by decide +kernel
theorem dX7_spin_31 : decode cX7_spin 31 = .ok (.iconst 1, 1) := by decide +kernel
theorem dX7_spin_32 : decode cX7_spin 32 = .ok (.goto 4, 3) := by decide +kernel
theorem dX7_spin_35 : decode cX7_spin 35 = .ok (.iconst 0, 1) := by decide +kernel
theorem dX7_spin_36 : decode cX7_spin 36 = .ok (.istore 5, 2) := by decide +kernel
theorem dX7_spin_38 : decode cX7_spin 38 = .ok (.aload_n 0, 1) := by decide +kernel
theorem dX7_spin_39 : decode cX7_spin 39 = .ok (.iload_n 1, 1) := by decide +kernel
theorem dX7_spin_40 : decode cX7_spin 40 = .ok (.iconst 0, 1) := by decide +kernel
theorem dX7_spin_41 : decode cX7_spin 41 = .ok (.iconst 3, 1) := by decide +kernel
theorem dX7_spin_42 : decode cX7_spin 42 = .ok (.invokestatic 85, 3) := by decide +kernel
theorem dX7_spin_45 : decode cX7_spin 45 = .ok (.ifCond .ne 7, 3) := by decide +kernel
theorem dX7_spin_48 : decode cX7_spin 48 = .ok (.iconst 1, 1) := by decide +kernel
theorem dX7_spin_49 : decode cX7_spin 49 = .ok (.goto 26, 3) := by decide +kernel
theorem dX7_spin_52 : decode cX7_spin 52 = .ok (.iload 5, 2) := by decide +kernel
theorem dX7_spin_54 : decode cX7_spin 54 = .ok (.ifCond .ne 7, 3) := by decide +kernel
theorem dX7_spin_57 : decode cX7_spin 57 = .ok (.iconst 2, 1) := by decide +kernel
theorem dX7_spin_58 : decode cX7_spin 58 = .ok (.goto 17, 3) := by decide +kernel
theorem dX7_spin_61 : decode cX7_spin 61 = .ok (.aload_n 0, 1) := by decide +kernel
theorem dX7_spin_62 : decode cX7_spin 62 = .ok (.getfield 82, 3) := by decide +kernel
theorem dX7_spin_65 : decode cX7_spin 65 = .ok (.bipush 60, 2) := by decide +kernel
theorem dX7_spin_67 : decode cX7_spin 67 = .ok (.if_icmp .ne 7, 3) := by decide +kernel
theorem dX7_spin_70 : decode cX7_spin 70 = .ok (.iconst 3, 1) := by decide +kernel
theorem dX7_spin_71 : decode cX7_spin 71 = .ok (.goto 4, 3) := by decide +kernel
theorem dX7_spin_74 : decode cX7_spin 74 = .ok (.iconst 0, 1) := by decide +kernel
theorem dX7_spin_75 : decode cX7_spin 75 = .ok (.invokevirtual 89, 3) := by decide +kernel
theorem dX7_spin_78 : decode cX7_spin 78 = .ok (.ifCond .eq 5, 3) := by decide +kernel
theorem dX7_spin_81 : decode cX7_spin 81 = .ok (.iconst 0, 1) := by decide +kernel
theorem dX7_spin_82 : decode cX7_spin 82 = .ok (.ireturn, 1) := by decide +kernel
theorem dX7_spin_83 : decode cX7_spin 83 = .ok (.bipush 100, 2) := by decide +kernel
theorem dX7_spin_85 : decode cX7_spin 85 = .ok (.iconst 3, 1) := by decide +kernel
theorem dX7_spin_86 : decode cX7_spin 86 = .ok (.iload_n 2, 1) := by decide +kernel
theorem dX7_spin_87 : decode cX7_spin 87 = .ok (.bipush 12, 2) := by decide +kernel
theorem dX7_spin_89 : decode cX7_spin 89 = .ok (.isub, 1) := by decide +kernel
theorem dX7_spin_90 : decode cX7_spin 90 = .ok (.invokestatic 93, 3) := by decide +kernel
theorem dX7_spin_93 : decode cX7_spin 93 = .ok (.imul, 1) := by decide +kernel
theorem dX7_spin_94 : decode cX7_spin 94 = .ok (.isub, 1) := by decide +kernel
theorem dX7_spin_95 : decode cX7_spin 95 = .ok (.istore 6, 2) := by decide +kernel
theorem dX7_spin_97 : decode cX7_spin 97 = .ok (.aload_n 0, 1) := by decide +kernel
theorem dX7_spin_98 : decode cX7_spin 98 = .ok (.getfield 7, 3) := by decide +kernel
theorem dX7_spin_101 : decode cX7_spin 101 = .ok (.iload_n 1, 1) := by decide +kernel
theorem dX7_spin_102 : decode cX7_spin 102 = .ok (.iaload, 1) := by decide +kernel
theorem dX7_spin_103 : decode cX7_spin 103 = .ok (.iload 6, 2) := by decide +kernel
theorem dX7_spin_105 : decode cX7_spin 105 = .ok (.bipush 10, 2) := by decide +kernel
theorem dX7_spin_107 : decode cX7_spin 107 = .ok (.if_icmp .ge 8, 3) := by decide +kernel
theorem dX7_spin_110 : decode cX7_spin 110 = .ok (.bipush 10, 2) := by decide +kernel
theorem dX7_spin_112 : decode cX7_spin 112 = .ok (.goto 5, 3) := by decide +kernel
theorem dX7_spin_115 : decode cX7_spin 115 = .ok (.iload 6, 2) := by decide +kernel
theorem dX7_spin_117 : decode cX7_spin 117 = .ok (.imul, 1) := by decide +kernel
theorem dX7_spin_118 : decode cX7_spin 118 = .ok (.bipush 100, 2) := by decide +kernel
theorem dX7_spin_120 : decode cX7_spin 120 = .ok (.idiv, 1) := by decide +kernel
theorem dX7_spin_121 : decode cX7_spin 121 = .ok (.istore 7, 2) := by decide +kernel
theorem dX7_spin_123 : decode cX7_spin 123 = .ok (.iload 7, 2) := by decide +kernel
theorem dX7_spin_125 : decode cX7_spin 125 = .ok (.aload_n 0, 1) := by decide +kernel
theorem dX7_spin_126 : decode cX7_spin 126 = .ok (.getfield 13, 3) := by decide +kernel
theorem dX7_spin_129 : decode cX7_spin 129 = .ok (.iload_n 1, 1) := by decide +kernel
theorem dX7_spin_130 : decode cX7_spin 130 = .ok (.iaload, 1) := by decide +kernel
theorem dX7_spin_131 : decode cX7_spin 131 = .ok (.imul, 1) := by decide +kernel
theorem dX7_spin_132 : decode cX7_spin 132 = .ok (.aload_n 0, 1) := by decide +kernel
theorem dX7_spin_133 : decode cX7_spin 133 = .ok (.getfield 13, 3) := by decide +kernel
theorem dX7_spin_136 : decode cX7_spin 136 = .ok (.iload_n 1, 1) := by decide +kernel
theorem dX7_spin_137 : decode cX7_spin 137 = .ok (.iaload, 1) := by decide +kernel
theorem dX7_spin_138 : decode cX7_spin 138 = .ok (.iconst 5, 1) := by decide +kernel
theorem dX7_spin_139 : decode cX7_spin 139 = .ok (.iadd, 1) := by decide +kernel
theorem dX7_spin_140 : decode cX7_spin 140 = .ok (.idiv, 1) := by decide +kernel
theorem dX7_spin_141 : decode cX7_spin 141 = .ok (.istore 7, 2) := by decide +kernel
theorem dX7_spin_143 : decode cX7_spin 143 = .ok (.aload_n 0, 1) := by decide +kernel
theorem dX7_spin_144 : decode cX7_spin 144 = .ok (.iconst 0, 1) := by decide +kernel
theorem dX7_spin_145 : decode cX7_spin 145 = .ok (.iload_n 3, 1) := by decide +kernel
theorem dX7_spin_146 : decode cX7_spin 146 = .ok (.iload 4, 2) := by decide +kernel
theorem dX7_spin_148 : decode cX7_spin 148 = .ok (.iload 7, 2) := by decide +kernel
theorem dX7_spin_150 : decode cX7_spin 150 = .ok (.iconst 1, 1) := by decide +kernel
theorem dX7_spin_151 : decode cX7_spin 151 = .ok (.if_icmp .ge 7, 3) := by decide +kernel
theorem dX7_spin_154 : decode cX7_spin 154 = .ok (.iconst 1, 1) := by decide +kernel
theorem dX7_spin_155 : decode cX7_spin 155 = .ok (.goto 5, 3) := by decide +kernel
theorem dX7_spin_158 : decode cX7_spin 158 = .ok (.iload 7, 2) := by decide +kernel
theorem dX7_spin_160 : decode cX7_spin 160 = .ok (.iconst 1, 1) := by decide +kernel
theorem dX7_spin_161 : decode cX7_spin 161 = .ok (.iload_n 3, 1) := by decide +kernel
theorem dX7_spin_162 : decode cX7_spin 162 = .ok (.ifCond .ne 8, 3) := by decide +kernel
theorem dX7_spin_165 : decode cX7_spin 165 = .ok (.iload_n 2, 1) := by decide +kernel
theorem dX7_spin_166 : decode cX7_spin 166 = .ok (.ineg, 1) := by decide +kernel
theorem dX7_spin_167 : decode cX7_spin 167 = .ok (.goto 4, 3) := by decide +kernel
theorem dX7_spin_170 : decode cX7_spin 170 = .ok (.iload_n 2, 1) := by decide +kernel
theorem dX7_spin_171 : decode cX7_spin 171 = .ok (.invokevirtual 97, 3) := by decide +kernel
theorem dX7_spin_174 : decode cX7_spin 174 = .ok (.istore 8, 2) := by decide +kernel
theorem dX7_spin_176 : decode cX7_spin 176 = .ok (.aload_n 0, 1) := by decide +kernel
theorem dX7_spin_177 : decode cX7_spin 177 = .ok (.getfield 40, 3) := by decide +kernel
theorem dX7_spin_180 : decode cX7_spin 180 = .ok (.iload 8, 2) := by decide +kernel
theorem dX7_spin_182 : decode cX7_spin 182 = .ok (.iconst 1, 1) := by decide +kernel
theorem dX7_spin_183 : decode cX7_spin 183 = .ok (.iastore, 1) := by decide +kernel
theorem dX7_spin_184 : decode cX7_spin 184 = .ok (.iload 8, 2) := by decide +kernel
theorem dX7_spin_186 : decode cX7_spin 186 = .ok (.ireturn, 1) := by decide +kernel
theorem dX7_bears_0 : decode cX7_bears 0 = .ok (.aload_n 0, 1) := by decide +kernel
theorem dX7_bears_1 : decode cX7_bears 1 = .ok (.getfield 25, 3) := by decide +kernel
theorem dX7_bears_4 : decode cX7_bears 4 = .ok (.iload_n 1, 1) := by decide +kernel
theorem dX7_bears_5 : decode cX7_bears 5 = .ok (.iaload, 1) := by decide +kernel
theorem dX7_bears_6 : decode cX7_bears 6 = .ok (.i2l, 1) := by decide +kernel
theorem dX7_bears_7 : decode cX7_bears 7 = .ok (.sipush 1000, 3) := by decide +kernel
theorem dX7_bears_10 : decode cX7_bears 10 = .ok (.aload_n 0, 1) := by decide +kernel
theorem dX7_bears_11 : decode cX7_bears 11 = .ok (.getfield 34, 3) := by decide +kernel
theorem dX7_bears_14 : decode cX7_bears 14 = .ok (.iload_n 1, 1) := by decide +kernel
theorem dX7_bears_15 : decode cX7_bears 15 = .ok (.iaload, 1) := by decide +kernel
theorem dX7_bears_16 : decode cX7_bears 16 = .ok (.isub, 1) := by decide +kernel
theorem dX7_bears_17 : decode cX7_bears 17 = .ok (.i2l, 1) := by decide +kernel
theorem dX7_bears_18 : decode cX7_bears 18 = .ok (.lmul, 1) := by decide +kernel
theorem dX7_bears_19 : decode cX7_bears 19 = .ok (.ldc2_w 101, 3) := by decide +kernel
theorem dX7_bears_22 : decode cX7_bears 22 = .ok (.ldiv, 1) := by decide +kernel
theorem dX7_bears_23 : decode cX7_bears 23 = .ok (.l2i, 1) := by decide +kernel
theorem dX7_bears_24 : decode cX7_bears 24 = .ok (.ireturn, 1) := by decide +kernel
theorem dX7_isBalanced_0 : decode cX7_isBalanced 0 = .ok (.aload_n 0, 1) := by decide +kernel
theorem dX7_isBalanced_1 : decode cX7_isBalanced 1 = .ok (.getfield 31, 3) := by decide +kernel
theorem dX7_isBalanced_4 : decode cX7_isBalanced 4 = .ok (.iload_n 1, 1) := by decide +kernel
theorem dX7_isBalanced_5 : decode cX7_isBalanced 5 = .ok (.iaload, 1) := by decide +kernel
theorem dX7_isBalanced_6 : decode cX7_isBalanced 6 = .ok (.invokestatic 93, 3) := by decide +kernel
theorem dX7_isBalanced_9 : decode cX7_isBalanced 9 = .ok (.iconst 2, 1) := by decide +kernel
theorem dX7_isBalanced_10 : decode cX7_isBalanced 10 = .ok (.aload_n 0, 1) := by decide +kernel
theorem dX7_isBalanced_11 : decode cX7_isBalanced 11 = .ok (.getfield 28, 3) := by decide +kernel
theorem dX7_isBalanced_14 : decode cX7_isBalanced 14 = .ok (.iload_n 1, 1) := by decide +kernel
theorem dX7_isBalanced_15 : decode cX7_isBalanced 15 = .ok (.iaload, 1) := by decide +kernel
theorem dX7_isBalanced_16 : decode cX7_isBalanced 16 = .ok (.imul, 1) := by decide +kernel
theorem dX7_isBalanced_17 : decode cX7_isBalanced 17 = .ok (.if_icmp .gt 7, 3) := by decide +kernel
theorem dX7_isBalanced_20 : decode cX7_isBalanced 20 = .ok (.iconst 1, 1) := by decide +kernel
theorem dX7_isBalanced_21 : decode cX7_isBalanced 21 = .ok (.goto 4, 3) := by decide +kernel
theorem dX7_isBalanced_24 : decode cX7_isBalanced 24 = .ok (.iconst 0, 1) := by decide +kernel
theorem dX7_isBalanced_25 : decode cX7_isBalanced 25 = .ok (.ireturn, 1) := by decide +kernel
theorem dX7_isFit_0 : decode cX7_isFit 0 = .ok (.aload_n 0, 1) := by decide +kernel
theorem dX7_isFit_1 : decode cX7_isFit 1 = .ok (.getfield 37, 3) := by decide +kernel
theorem dX7_isFit_4 : decode cX7_isFit 4 = .ok (.iload_n 1, 1) := by decide +kernel
theorem dX7_isFit_5 : decode cX7_isFit 5 = .ok (.iaload, 1) := by decide +kernel
theorem dX7_isFit_6 : decode cX7_isFit 6 = .ok (.ifCond .ne 24, 3) := by decide +kernel
theorem dX7_isFit_9 : decode cX7_isFit 9 = .ok (.aload_n 0, 1) := by decide +kernel
theorem dX7_isFit_10 : decode cX7_isFit 10 = .ok (.getfield 16, 3) := by decide +kernel
theorem dX7_isFit_13 : decode cX7_isFit 13 = .ok (.iload_n 1, 1) := by decide +kernel
theorem dX7_isFit_14 : decode cX7_isFit 14 = .ok (.iaload, 1) := by decide +kernel
theorem dX7_isFit_15 : decode cX7_isFit 15 = .ok (.ifCond .eq 11, 3) := by decide +kernel
theorem dX7_isFit_18 : decode cX7_isFit 18 = .ok (.aload_n 0, 1) := by decide +kernel
theorem dX7_isFit_19 : decode cX7_isFit 19 = .ok (.iload_n 1, 1) := by decide +kernel
theorem dX7_isFit_20 : decode cX7_isFit 20 = .ok (.invokevirtual 103, 3) := by decide +kernel
theorem dX7_isFit_23 : decode cX7_isFit 23 = .ok (.ifCond .eq 7, 3) := by decide +kernel
theorem dX7_isFit_26 : decode cX7_isFit 26 = .ok (.iconst 1, 1) := by decide +kernel
theorem dX7_isFit_27 : decode cX7_isFit 27 = .ok (.goto 4, 3) := by decide +kernel
theorem dX7_isFit_30 : decode cX7_isFit 30 = .ok (.iconst 0, 1) := by decide +kernel
theorem dX7_isFit_31 : decode cX7_isFit 31 = .ok (.ireturn, 1) := by decide +kernel
theorem dX7_areAlike_0 : decode cX7_areAlike 0 = .ok (.aload_n 0, 1) := by decide +kernel
theorem dX7_areAlike_1 : decode cX7_areAlike 1 = .ok (.getfield 16, 3) := by decide +kernel
theorem dX7_areAlike_4 : decode cX7_areAlike 4 = .ok (.iload_n 1, 1) := by decide +kernel
theorem dX7_areAlike_5 : decode cX7_areAlike 5 = .ok (.iaload, 1) := by decide +kernel
theorem dX7_areAlike_6 : decode cX7_areAlike 6 = .ok (.aload_n 0, 1) := by decide +kernel
theorem dX7_areAlike_7 : decode cX7_areAlike 7 = .ok (.getfield 16, 3) := by decide +kernel
theorem dX7_areAlike_10 : decode cX7_areAlike 10 = .ok (.iload_n 2, 1) := by decide +kernel
theorem dX7_areAlike_11 : decode cX7_areAlike 11 = .ok (.iaload, 1) := by decide +kernel
theorem dX7_areAlike_12 : decode cX7_areAlike 12 = .ok (.if_icmp .ne 22, 3) := by decide +kernel
theorem dX7_areAlike_15 : decode cX7_areAlike 15 = .ok (.aload_n 0, 1) := by decide +kernel
theorem dX7_areAlike_16 : decode cX7_areAlike 16 = .ok (.getfield 19, 3) := by decide +kernel
theorem dX7_areAlike_19 : decode cX7_areAlike 19 = .ok (.iload_n 1, 1) := by decide +kernel
theorem dX7_areAlike_20 : decode cX7_areAlike 20 = .ok (.iaload, 1) := by decide +kernel
theorem dX7_areAlike_21 : decode cX7_areAlike 21 = .ok (.aload_n 0, 1) := by decide +kernel
theorem dX7_areAlike_22 : decode cX7_areAlike 22 = .ok (.getfield 19, 3) := by decide +kernel
theorem dX7_areAlike_25 : decode cX7_areAlike 25 = .ok (.iload_n 2, 1) := by decide +kernel
theorem dX7_areAlike_26 : decode cX7_areAlike 26 = .ok (.iaload, 1) := by decide +kernel
theorem dX7_areAlike_27 : decode cX7_areAlike 27 = .ok (.if_icmp .ne 7, 3) := by decide +kernel
theorem dX7_areAlike_30 : decode cX7_areAlike 30 = .ok (.iconst 1, 1) := by decide +kernel
theorem dX7_areAlike_31 : decode cX7_areAlike 31 = .ok (.goto 4, 3) := by decide +kernel
theorem dX7_areAlike_34 : decode cX7_areAlike 34 = .ok (.iconst 0, 1) := by decide +kernel
theorem dX7_areAlike_35 : decode cX7_areAlike 35 = .ok (.ireturn, 1) := by decide +kernel
theorem dX7_lay_0 : decode cX7_lay 0 = .ok (.aload_n 0, 1) := by decide +kernel
theorem dX7_lay_1 : decode cX7_lay 1 = .ok (.iload_n 1, 1) := by decide +kernel
theorem dX7_lay_2 : decode cX7_lay 2 = .ok (.invokevirtual 106, 3) := by decide +kernel
theorem dX7_lay_5 : decode cX7_lay 5 = .ok (.ifCond .eq 23, 3) := by decide +kernel
theorem dX7_lay_8 : decode cX7_lay 8 = .ok (.aload_n 0, 1) := by decide +kernel
theorem dX7_lay_9 : decode cX7_lay 9 = .ok (.iload_n 2, 1) := by decide +kernel
theorem dX7_lay_10 : decode cX7_lay 10 = .ok (.invokevirtual 106, 3) := by decide +kernel
theorem dX7_lay_13 : decode cX7_lay 13 = .ok (.ifCond .eq 15, 3) := by decide +kernel
theorem dX7_lay_16 : decode cX7_lay 16 = .ok (.aload_n 0, 1) := by decide +kernel
theorem dX7_lay_17 : decode cX7_lay 17 = .ok (.iload_n 3, 1) := by decide +kernel
theorem dX7_lay_18 : decode cX7_lay 18 = .ok (.invokevirtual 106, 3) := by decide +kernel
theorem dX7_lay_21 : decode cX7_lay 21 = .ok (.ifCond .eq 7, 3) := by decide +kernel
theorem dX7_lay_24 : decode cX7_lay 24 = .ok (.iconst 1, 1) := by decide +kernel
theorem dX7_lay_25 : decode cX7_lay 25 = .ok (.goto 4, 3) := by decide +kernel
theorem dX7_lay_28 : decode cX7_lay 28 = .ok (.iconst 0, 1) := by decide +kernel
theorem dX7_lay_29 : decode cX7_lay 29 = .ok (.istore 5, 2) := by decide +kernel
theorem dX7_lay_31 : decode cX7_lay 31 = .ok (.iload_n 1, 1) := by decide +kernel
theorem dX7_lay_32 : decode cX7_lay 32 = .ok (.iload_n 2, 1) := by decide +kernel
theorem dX7_lay_33 : decode cX7_lay 33 = .ok (.if_icmp .eq 28, 3) := by decide +kernel
theorem dX7_lay_36 : decode cX7_lay 36 = .ok (.iload_n 2, 1) := by decide +kernel
theorem dX7_lay_37 : decode cX7_lay 37 = .ok (.iload_n 3, 1) := by decide +kernel
theorem dX7_lay_38 : decode cX7_lay 38 = .ok (.if_icmp .eq 23, 3) := by decide +kernel
theorem dX7_lay_41 : decode cX7_lay 41 = .ok (.iload_n 1, 1) := by decide +kernel
theorem dX7_lay_42 : decode cX7_lay 42 = .ok (.iload_n 3, 1) := by decide +kernel
theorem dX7_lay_43 : decode cX7_lay 43 = .ok (.if_icmp .eq 18, 3) := by decide +kernel
theorem dX7_lay_46 : decode cX7_lay 46 = .ok (.iload 4, 2) := by decide +kernel
theorem dX7_lay_48 : decode cX7_lay 48 = .ok (.iconst 1, 1) := by decide +kernel
theorem dX7_lay_49 : decode cX7_lay 49 = .ok (.bipush 30, 2) := by decide +kernel
theorem dX7_lay_51 : decode cX7_lay 51 = .ok (.invokestatic 85, 3) := by decide +kernel
theorem dX7_lay_54 : decode cX7_lay 54 = .ok (.ifCond .eq 7, 3) := by decide +kernel
theorem dX7_lay_57 : decode cX7_lay 57 = .ok (.iconst 1, 1) := by decide +kernel
theorem dX7_lay_58 : decode cX7_lay 58 = .ok (.goto 4, 3) := by decide +kernel
theorem dX7_lay_61 : decode cX7_lay 61 = .ok (.iconst 0, 1) := by decide +kernel
theorem dX7_lay_62 : decode cX7_lay 62 = .ok (.istore 6, 2) := by decide +kernel
theorem dX7_lay_64 : decode cX7_lay 64 = .ok (.aload_n 0, 1) := by decide +kernel
theorem dX7_lay_65 : decode cX7_lay 65 = .ok (.iload 5, 2) := by decide +kernel
theorem dX7_lay_67 : decode cX7_lay 67 = .ok (.ifCond .ne 7, 3) := by decide +kernel
theorem dX7_lay_70 : decode cX7_lay 70 = .ok (.iconst 1, 1) := by decide +kernel
theorem dX7_lay_71 : decode cX7_lay 71 = .ok (.goto 13, 3) := by decide +kernel
theorem dX7_lay_74 : decode cX7_lay 74 = .ok (.iload 6, 2) := by decide +kernel
theorem dX7_lay_76 : decode cX7_lay 76 = .ok (.ifCond .ne 7, 3) := by decide +kernel
theorem dX7_lay_79 : decode cX7_lay 79 = .ok (.iconst 2, 1) := by decide +kernel
theorem dX7_lay_80 : decode cX7_lay 80 = .ok (.goto 4, 3) := by decide +kernel
theorem dX7_lay_83 : decode cX7_lay 83 = .ok (.iconst 0, 1) := by decide +kernel
theorem dX7_lay_84 : decode cX7_lay 84 = .ok (.invokevirtual 89, 3) := by decide +kernel
theorem dX7_lay_87 : decode cX7_lay 87 = .ok (.ifCond .eq 5, 3) := by decide +kernel
theorem dX7_lay_90 : decode cX7_lay 90 = .ok (.iconst 0, 1) := by decide +kernel
theorem dX7_lay_91 : decode cX7_lay 91 = .ok (.ireturn, 1) := by decide +kernel
theorem dX7_lay_92 : decode cX7_lay 92 = .ok (.aload_n 0, 1) := by decide +kernel
theorem dX7_lay_93 : decode cX7_lay 93 = .ok (.getfield 37, 3) := by decide +kernel
theorem dX7_lay_96 : decode cX7_lay 96 = .ok (.iload_n 1, 1) := by decide +kernel
theorem dX7_lay_97 : decode cX7_lay 97 = .ok (.iaload, 1) := by decide +kernel
theorem dX7_lay_98 : decode cX7_lay 98 = .ok (.aload_n 0, 1) := by decide +kernel
theorem dX7_lay_99 : decode cX7_lay 99 = .ok (.getfield 37, 3) := by decide +kernel
theorem dX7_lay_102 : decode cX7_lay 102 = .ok (.iload_n 2, 1) := by decide +kernel
theorem dX7_lay_103 : decode cX7_lay 103 = .ok (.iaload, 1) := by decide +kernel
theorem dX7_lay_104 : decode cX7_lay 104 = .ok (.iadd, 1) := by decide +kernel
theorem dX7_lay_105 : decode cX7_lay 105 = .ok (.aload_n 0, 1) := by decide +kernel
theorem dX7_lay_106 : decode cX7_lay 106 = .ok (.getfield 37, 3) := by decide +kernel
theorem dX7_lay_109 : decode cX7_lay 109 = .ok (.iload_n 3, 1) := by decide +kernel
theorem dX7_lay_110 : decode cX7_lay 110 = .ok (.iaload, 1) := by decide +kernel
theorem dX7_lay_111 : decode cX7_lay 111 = .ok (.iadd, 1) := by decide +kernel
theorem dX7_lay_112 : decode cX7_lay 112 = .ok (.ifCond .ne 35, 3) := by decide +kernel
theorem dX7_lay_115 : decode cX7_lay 115 = .ok (.aload_n 0, 1) := by decide +kernel
theorem dX7_lay_116 : decode cX7_lay 116 = .ok (.iload_n 1, 1) := by decide +kernel
theorem dX7_lay_117 : decode cX7_lay 117 = .ok (.iload_n 2, 1) := by decide +kernel
theorem dX7_lay_118 : decode cX7_lay 118 = .ok (.invokevirtual 109, 3) := by decide +kernel
theorem dX7_lay_121 : decode cX7_lay 121 = .ok (.ifCond .eq 26, 3) := by decide +kernel
theorem dX7_lay_124 : decode cX7_lay 124 = .ok (.aload_n 0, 1) := by decide +kernel
theorem dX7_lay_125 : decode cX7_lay 125 = .ok (.iload_n 1, 1) := by decide +kernel
theorem dX7_lay_126 : decode cX7_lay 126 = .ok (.iload_n 3, 1) := by decide +kernel
theorem dX7_lay_127 : decode cX7_lay 127 = .ok (.invokevirtual 109, 3) := by decide +kernel
theorem dX7_lay_130 : decode cX7_lay 130 = .ok (.ifCond .eq 17, 3) := by decide +kernel
theorem dX7_lay_133 : decode cX7_lay 133 = .ok (.aload_n 0, 1) := by decide +kernel
theorem dX7_lay_134 : decode cX7_lay 134 = .ok (.getfield 16, 3) := by decide +kernel
theorem dX7_lay_137 : decode cX7_lay 137 = .ok (.iload_n 1, 1) := by decide +kernel
theorem dX7_lay_138 : decode cX7_lay 138 = .ok (.iaload, 1) := by decide +kernel
theorem dX7_lay_139 : decode cX7_lay 139 = .ok (.iconst 3, 1) := by decide +kernel
theorem dX7_lay_140 : decode cX7_lay 140 = .ok (.if_icmp .eq 7, 3) := by decide +kernel
theorem dX7_lay_143 : decode cX7_lay 143 = .ok (.iconst 1, 1) := by decide +kernel
theorem dX7_lay_144 : decode cX7_lay 144 = .ok (.goto 4, 3) := by decide +kernel
theorem dX7_lay_147 : decode cX7_lay 147 = .ok (.iconst 0, 1) := by decide +kernel
theorem dX7_lay_148 : decode cX7_lay 148 = .ok (.istore 7, 2) := by decide +kernel
theorem dX7_lay_150 : decode cX7_lay 150 = .ok (.aload_n 0, 1) := by decide +kernel
theorem dX7_lay_151 : decode cX7_lay 151 = .ok (.getfield 22, 3) := by decide +kernel
theorem dX7_lay_154 : decode cX7_lay 154 = .ok (.iload_n 1, 1) := by decide +kernel
theorem dX7_lay_155 : decode cX7_lay 155 = .ok (.iaload, 1) := by decide +kernel
theorem dX7_lay_156 : decode cX7_lay 156 = .ok (.aload_n 0, 1) := by decide +kernel
theorem dX7_lay_157 : decode cX7_lay 157 = .ok (.getfield 22, 3) := by decide +kernel
theorem dX7_lay_160 : decode cX7_lay 160 = .ok (.iload_n 2, 1) := by decide +kernel
theorem dX7_lay_161 : decode cX7_lay 161 = .ok (.iaload, 1) := by decide +kernel
theorem dX7_lay_162 : decode cX7_lay 162 = .ok (.if_icmp .ge 12, 3) := by decide +kernel
theorem dX7_lay_165 : decode cX7_lay 165 = .ok (.aload_n 0, 1) := by decide +kernel
theorem dX7_lay_166 : decode cX7_lay 166 = .ok (.getfield 22, 3) := by decide +kernel
theorem dX7_lay_169 : decode cX7_lay 169 = .ok (.iload_n 1, 1) := by decide +kernel
theorem dX7_lay_170 : decode cX7_lay 170 = .ok (.iaload, 1) := by decide +kernel
theorem dX7_lay_171 : decode cX7_lay 171 = .ok (.goto 9, 3) := by decide +kernel
theorem dX7_lay_174 : decode cX7_lay 174 = .ok (.aload_n 0, 1) := by decide +kernel
theorem dX7_lay_175 : decode cX7_lay 175 = .ok (.getfield 22, 3) := by decide +kernel
theorem dX7_lay_178 : decode cX7_lay 178 = .ok (.iload_n 2, 1) := by decide +kernel
theorem dX7_lay_179 : decode cX7_lay 179 = .ok (.iaload, 1) := by decide +kernel
theorem dX7_lay_180 : decode cX7_lay 180 = .ok (.istore 8, 2) := by decide +kernel
theorem dX7_lay_182 : decode cX7_lay 182 = .ok (.aload_n 0, 1) := by decide +kernel
theorem dX7_lay_183 : decode cX7_lay 183 = .ok (.getfield 22, 3) := by decide +kernel
theorem dX7_lay_186 : decode cX7_lay 186 = .ok (.iload_n 3, 1) := by decide +kernel
theorem dX7_lay_187 : decode cX7_lay 187 = .ok (.iaload, 1) := by decide +kernel
theorem dX7_lay_188 : decode cX7_lay 188 = .ok (.iload 8, 2) := by decide +kernel
theorem dX7_lay_190 : decode cX7_lay 190 = .ok (.if_icmp .ge 12, 3) := by decide +kernel
theorem dX7_lay_193 : decode cX7_lay 193 = .ok (.aload_n 0, 1) := by decide +kernel
theorem dX7_lay_194 : decode cX7_lay 194 = .ok (.getfield 22, 3) := by decide +kernel
theorem dX7_lay_197 : decode cX7_lay 197 = .ok (.iload_n 3, 1) := by decide +kernel
theorem dX7_lay_198 : decode cX7_lay 198 = .ok (.iaload, 1) := by decide +kernel
theorem dX7_lay_199 : decode cX7_lay 199 = .ok (.goto 5, 3) := by decide +kernel
theorem dX7_lay_202 : decode cX7_lay 202 = .ok (.iload 8, 2) := by decide +kernel
theorem dX7_lay_204 : decode cX7_lay 204 = .ok (.istore 8, 2) := by decide +kernel
theorem dX7_lay_206 : decode cX7_lay 206 = .ok (.iload 8, 2) := by decide +kernel
theorem dX7_lay_208 : decode cX7_lay 208 = .ok (.bipush 100, 2) := by decide +kernel
theorem dX7_lay_210 : decode cX7_lay 210 = .ok (.iload 4, 2) := by decide +kernel
theorem dX7_lay_212 : decode cX7_lay 212 = .ok (.isub, 1) := by decide +kernel
theorem dX7_lay_213 : decode cX7_lay 213 = .ok (.imul, 1) := by decide +kernel
theorem dX7_lay_214 : decode cX7_lay 214 = .ok (.bipush 100, 2) := by decide +kernel
theorem dX7_lay_216 : decode cX7_lay 216 = .ok (.idiv, 1) := by decide +kernel
theorem dX7_lay_217 : decode cX7_lay 217 = .ok (.istore 9, 2) := by decide +kernel
theorem dX7_lay_219 : decode cX7_lay 219 = .ok (.aload_n 0, 1) := by decide +kernel
theorem dX7_lay_220 : decode cX7_lay 220 = .ok (.iload 7, 2) := by decide +kernel
theorem dX7_lay_222 : decode cX7_lay 222 = .ok (.ifCond .eq 17, 3) := by decide +kernel
theorem dX7_lay_225 : decode cX7_lay 225 = .ok (.iload 9, 2) := by decide +kernel
theorem dX7_lay_227 : decode cX7_lay 227 = .ok (.ifCond .eq 12, 3) := by decide +kernel
theorem dX7_lay_230 : decode cX7_lay 230 = .ok (.aload_n 0, 1) := by decide +kernel
theorem dX7_lay_231 : decode cX7_lay 231 = .ok (.getfield 82, 3) := by decide +kernel
theorem dX7_lay_234 : decode cX7_lay 234 = .ok (.bipush 60, 2) := by decide +kernel
theorem dX7_lay_236 : decode cX7_lay 236 = .ok (.if_icmp .ne 7, 3) := by decide +kernel
theorem dX7_lay_239 : decode cX7_lay 239 = .ok (.iconst 3, 1) := by decide +kernel
theorem dX7_lay_240 : decode cX7_lay 240 = .ok (.goto 4, 3) := by decide +kernel
theorem dX7_lay_243 : decode cX7_lay 243 = .ok (.iconst 0, 1) := by decide +kernel
theorem dX7_lay_244 : decode cX7_lay 244 = .ok (.invokevirtual 89, 3) := by decide +kernel
theorem dX7_lay_247 : decode cX7_lay 247 = .ok (.ifCond .eq 5, 3) := by decide +kernel
theorem dX7_lay_250 : decode cX7_lay 250 = .ok (.iconst 0, 1) := by decide +kernel
theorem dX7_lay_251 : decode cX7_lay 251 = .ok (.ireturn, 1) := by decide +kernel
theorem dX7_lay_252 : decode cX7_lay 252 = .ok (.aload_n 0, 1) := by decide +kernel
theorem dX7_lay_253 : decode cX7_lay 253 = .ok (.getfield 28, 3) := by decide +kernel
theorem dX7_lay_256 : decode cX7_lay 256 = .ok (.iload_n 1, 1) := by decide +kernel
theorem dX7_lay_257 : decode cX7_lay 257 = .ok (.iaload, 1) := by decide +kernel
theorem dX7_lay_258 : decode cX7_lay 258 = .ok (.aload_n 0, 1) := by decide +kernel
theorem dX7_lay_259 : decode cX7_lay 259 = .ok (.getfield 28, 3) := by decide +kernel
theorem dX7_lay_262 : decode cX7_lay 262 = .ok (.iload_n 2, 1) := by decide +kernel
theorem dX7_lay_263 : decode cX7_lay 263 = .ok (.iaload, 1) := by decide +kernel
theorem dX7_lay_264 : decode cX7_lay 264 = .ok (.iadd, 1) := by decide +kernel
theorem dX7_lay_265 : decode cX7_lay 265 = .ok (.aload_n 0, 1) := by decide +kernel
theorem dX7_lay_266 : decode cX7_lay 266 = .ok (.getfield 28, 3) := by decide +kernel
theorem dX7_lay_269 : decode cX7_lay 269 = .ok (.iload_n 3, 1) := by decide +kernel
theorem dX7_lay_270 : decode cX7_lay 270 = .ok (.iaload, 1) := by decide +kernel
theorem dX7_lay_271 : decode cX7_lay 271 = .ok (.iadd, 1) := by decide +kernel
theorem dX7_lay_272 : decode cX7_lay 272 = .ok (.istore 10, 2) := by decide +kernel
theorem dX7_lay_274 : decode cX7_lay 274 = .ok (.aload_n 0, 1) := by decide +kernel
theorem dX7_lay_275 : decode cX7_lay 275 = .ok (.iload_n 1, 1) := by decide +kernel
theorem dX7_lay_276 : decode cX7_lay 276 = .ok (.invokevirtual 113, 3) := by decide +kernel
theorem dX7_lay_279 : decode cX7_lay 279 = .ok (.aload_n 0, 1) := by decide +kernel
theorem dX7_lay_280 : decode cX7_lay 280 = .ok (.iload_n 2, 1) := by decide +kernel
theorem dX7_lay_281 : decode cX7_lay 281 = .ok (.invokevirtual 113, 3) := by decide +kernel
theorem dX7_lay_284 : decode cX7_lay 284 = .ok (.iadd, 1) := by decide +kernel
theorem dX7_lay_285 : decode cX7_lay 285 = .ok (.aload_n 0, 1) := by decide +kernel
theorem dX7_lay_286 : decode cX7_lay 286 = .ok (.iload_n 3, 1) := by decide +kernel
theorem dX7_lay_287 : decode cX7_lay 287 = .ok (.invokevirtual 113, 3) := by decide +kernel
theorem dX7_lay_290 : decode cX7_lay 290 = .ok (.iadd, 1) := by decide +kernel
theorem dX7_lay_291 : decode cX7_lay 291 = .ok (.bipush 100, 2) := by decide +kernel
theorem dX7_lay_293 : decode cX7_lay 293 = .ok (.iload 4, 2) := by decide +kernel
theorem dX7_lay_295 : decode cX7_lay 295 = .ok (.isub, 1) := by decide +kernel
theorem dX7_lay_296 : decode cX7_lay 296 = .ok (.imul, 1) := by decide +kernel
theorem dX7_lay_297 : decode cX7_lay 297 = .ok (.bipush 100, 2) := by decide +kernel
theorem dX7_lay_299 : decode cX7_lay 299 = .ok (.idiv, 1) := by decide +kernel
theorem dX7_lay_300 : decode cX7_lay 300 = .ok (.istore 11, 2) := by decide +kernel
theorem dX7_lay_302 : decode cX7_lay 302 = .ok (.aload_n 0, 1) := by decide +kernel
theorem dX7_lay_303 : decode cX7_lay 303 = .ok (.getfield 31, 3) := by decide +kernel
theorem dX7_lay_306 : decode cX7_lay 306 = .ok (.iload_n 1, 1) := by decide +kernel
theorem dX7_lay_307 : decode cX7_lay 307 = .ok (.iaload, 1) := by decide +kernel
theorem dX7_lay_308 : decode cX7_lay 308 = .ok (.aload_n 0, 1) := by decide +kernel
theorem dX7_lay_309 : decode cX7_lay 309 = .ok (.getfield 31, 3) := by decide +kernel
theorem dX7_lay_312 : decode cX7_lay 312 = .ok (.iload_n 2, 1) := by decide +kernel
theorem dX7_lay_313 : decode cX7_lay 313 = .ok (.iaload, 1) := by decide +kernel
theorem dX7_lay_314 : decode cX7_lay 314 = .ok (.iadd, 1) := by decide +kernel
theorem dX7_lay_315 : decode cX7_lay 315 = .ok (.aload_n 0, 1) := by decide +kernel
theorem dX7_lay_316 : decode cX7_lay 316 = .ok (.getfield 31, 3) := by decide +kernel
theorem dX7_lay_319 : decode cX7_lay 319 = .ok (.iload_n 3, 1) := by decide +kernel
theorem dX7_lay_320 : decode cX7_lay 320 = .ok (.iaload, 1) := by decide +kernel
theorem dX7_lay_321 : decode cX7_lay 321 = .ok (.iadd, 1) := by decide +kernel
theorem dX7_lay_322 : decode cX7_lay 322 = .ok (.aload_n 0, 1) := by decide +kernel
theorem dX7_lay_323 : decode cX7_lay 323 = .ok (.getfield 19, 3) := by decide +kernel
theorem dX7_lay_326 : decode cX7_lay 326 = .ok (.iload_n 1, 1) := by decide +kernel
theorem dX7_lay_327 : decode cX7_lay 327 = .ok (.iaload, 1) := by decide +kernel
theorem dX7_lay_328 : decode cX7_lay 328 = .ok (.iconst 1, 1) := by decide +kernel
theorem dX7_lay_329 : decode cX7_lay 329 = .ok (.if_icmp .ne 7, 3) := by decide +kernel
theorem dX7_lay_332 : decode cX7_lay 332 = .ok (.iconst (-1), 1) := by decide +kernel
theorem dX7_lay_333 : decode cX7_lay 333 = .ok (.goto 4, 3) := by decide +kernel
theorem dX7_lay_336 : decode cX7_lay 336 = .ok (.iconst 1, 1) := by decide +kernel
theorem dX7_lay_337 : decode cX7_lay 337 = .ok (.iload 4, 2) := by decide +kernel
theorem dX7_lay_339 : decode cX7_lay 339 = .ok (.imul, 1) := by decide +kernel
theorem dX7_lay_340 : decode cX7_lay 340 = .ok (.iload 10, 2) := by decide +kernel
theorem dX7_lay_342 : decode cX7_lay 342 = .ok (.imul, 1) := by decide +kernel
theorem dX7_lay_343 : decode cX7_lay 343 = .ok (.iadd, 1) := by decide +kernel
theorem dX7_lay_344 : decode cX7_lay 344 = .ok (.istore 12, 2) := by decide +kernel
theorem dX7_lay_346 : decode cX7_lay 346 = .ok (.aload_n 0, 1) := by decide +kernel
theorem dX7_lay_347 : decode cX7_lay 347 = .ok (.aload_n 0, 1) := by decide +kernel
theorem dX7_lay_348 : decode cX7_lay 348 = .ok (.getfield 16, 3) := by decide +kernel
theorem dX7_lay_351 : decode cX7_lay 351 = .ok (.iload_n 1, 1) := by decide +kernel
theorem dX7_lay_352 : decode cX7_lay 352 = .ok (.iaload, 1) := by decide +kernel
theorem dX7_lay_353 : decode cX7_lay 353 = .ok (.iconst 1, 1) := by decide +kernel
theorem dX7_lay_354 : decode cX7_lay 354 = .ok (.iadd, 1) := by decide +kernel
theorem dX7_lay_355 : decode cX7_lay 355 = .ok (.iconst 1, 1) := by decide +kernel
theorem dX7_lay_356 : decode cX7_lay 356 = .ok (.aload_n 0, 1) := by decide +kernel
theorem dX7_lay_357 : decode cX7_lay 357 = .ok (.getfield 19, 3) := by decide +kernel
theorem dX7_lay_360 : decode cX7_lay 360 = .ok (.iload_n 1, 1) := by decide +kernel
theorem dX7_lay_361 : decode cX7_lay 361 = .ok (.iaload, 1) := by decide +kernel
theorem dX7_lay_362 : decode cX7_lay 362 = .ok (.isub, 1) := by decide +kernel
theorem dX7_lay_363 : decode cX7_lay 363 = .ok (.iload 9, 2) := by decide +kernel
theorem dX7_lay_365 : decode cX7_lay 365 = .ok (.iload 11, 2) := by decide +kernel
theorem dX7_lay_367 : decode cX7_lay 367 = .ok (.iload 10, 2) := by decide +kernel
theorem dX7_lay_369 : decode cX7_lay 369 = .ok (.iload 12, 2) := by decide +kernel
theorem dX7_lay_371 : decode cX7_lay 371 = .ok (.invokevirtual 97, 3) := by decide +kernel
theorem dX7_lay_374 : decode cX7_lay 374 = .ok (.istore 13, 2) := by decide +kernel
theorem dX7_lay_376 : decode cX7_lay 376 = .ok (.aload_n 0, 1) := by decide +kernel
theorem dX7_lay_377 : decode cX7_lay 377 = .ok (.getfield 40, 3) := by decide +kernel
theorem dX7_lay_380 : decode cX7_lay 380 = .ok (.iload 13, 2) := by decide +kernel
theorem dX7_lay_382 : decode cX7_lay 382 = .ok (.aload_n 0, 1) := by decide +kernel
theorem dX7_lay_383 : decode cX7_lay 383 = .ok (.getfield 40, 3) := by decide +kernel
theorem dX7_lay_386 : decode cX7_lay 386 = .ok (.iload_n 1, 1) := by decide +kernel
theorem dX7_lay_387 : decode cX7_lay 387 = .ok (.iaload, 1) := by decide +kernel
theorem dX7_lay_388 : decode cX7_lay 388 = .ok (.aload_n 0, 1) := by decide +kernel
theorem dX7_lay_389 : decode cX7_lay 389 = .ok (.getfield 40, 3) := by decide +kernel
theorem dX7_lay_392 : decode cX7_lay 392 = .ok (.iload_n 2, 1) := by decide +kernel
theorem dX7_lay_393 : decode cX7_lay 393 = .ok (.iaload, 1) := by decide +kernel
theorem dX7_lay_394 : decode cX7_lay 394 = .ok (.iadd, 1) := by decide +kernel
theorem dX7_lay_395 : decode cX7_lay 395 = .ok (.aload_n 0, 1) := by decide +kernel
theorem dX7_lay_396 : decode cX7_lay 396 = .ok (.getfield 40, 3) := by decide +kernel
theorem dX7_lay_399 : decode cX7_lay 399 = .ok (.iload_n 3, 1) := by decide +kernel
theorem dX7_lay_400 : decode cX7_lay 400 = .ok (.iaload, 1) := by decide +kernel
theorem dX7_lay_401 : decode cX7_lay 401 = .ok (.iadd, 1) := by decide +kernel
theorem dX7_lay_402 : decode cX7_lay 402 = .ok (.iastore, 1) := by decide +kernel
theorem dX7_lay_403 : decode cX7_lay 403 = .ok (.aload_n 0, 1) := by decide +kernel
theorem dX7_lay_404 : decode cX7_lay 404 = .ok (.getfield 37, 3) := by decide +kernel
theorem dX7_lay_407 : decode cX7_lay 407 = .ok (.iload_n 1, 1) := by decide +kernel
theorem dX7_lay_408 : decode cX7_lay 408 = .ok (.iconst 1, 1) := by decide +kernel
theorem dX7_lay_409 : decode cX7_lay 409 = .ok (.iastore, 1) := by decide +kernel
theorem dX7_lay_410 : decode cX7_lay 410 = .ok (.aload_n 0, 1) := by decide +kernel
theorem dX7_lay_411 : decode cX7_lay 411 = .ok (.getfield 37, 3) := by decide +kernel
theorem dX7_lay_414 : decode cX7_lay 414 = .ok (.iload_n 2, 1) := by decide +kernel
theorem dX7_lay_415 : decode cX7_lay 415 = .ok (.iconst 1, 1) := by decide +kernel
theorem dX7_lay_416 : decode cX7_lay 416 = .ok (.iastore, 1) := by decide +kernel
theorem dX7_lay_417 : decode cX7_lay 417 = .ok (.aload_n 0, 1) := by decide +kernel
theorem dX7_lay_418 : decode cX7_lay 418 = .ok (.getfield 37, 3) := by decide +kernel
theorem dX7_lay_421 : decode cX7_lay 421 = .ok (.iload_n 3, 1) := by decide +kernel
theorem dX7_lay_422 : decode cX7_lay 422 = .ok (.iconst 1, 1) := by decide +kernel
theorem dX7_lay_423 : decode cX7_lay 423 = .ok (.iastore, 1) := by decide +kernel
theorem dX7_lay_424 : decode cX7_lay 424 = .ok (.iload 13, 2) := by decide +kernel
theorem dX7_lay_426 : decode cX7_lay 426 = .ok (.ireturn, 1) := by decide +kernel
theorem dX7_cutOff_0 : decode cX7_cutOff 0 = .ok (.aload_n 0, 1) := by decide +kernel
theorem dX7_cutOff_1 : decode cX7_cutOff 1 = .ok (.aload_n 0, 1) := by decide +kernel
theorem dX7_cutOff_2 : decode cX7_cutOff 2 = .ok (.getfield 16, 3) := by decide +kernel
theorem dX7_cutOff_5 : decode cX7_cutOff 5 = .ok (.iload_n 1, 1) := by decide +kernel
theorem dX7_cutOff_6 : decode cX7_cutOff 6 = .ok (.iaload, 1) := by decide +kernel
theorem dX7_cutOff_7 : decode cX7_cutOff 7 = .ok (.aload_n 0, 1) := by decide +kernel
theorem dX7_cutOff_8 : decode cX7_cutOff 8 = .ok (.getfield 19, 3) := by decide +kernel
theorem dX7_cutOff_11 : decode cX7_cutOff 11 = .ok (.iload_n 1, 1) := by decide +kernel
theorem dX7_cutOff_12 : decode cX7_cutOff 12 = .ok (.iaload, 1) := by decide +kernel
theorem dX7_cutOff_13 : decode cX7_cutOff 13 = .ok (.iload_n 2, 1) := by decide +kernel
theorem dX7_cutOff_14 : decode cX7_cutOff 14 = .ok (.aload_n 0, 1) := by decide +kernel
theorem dX7_cutOff_15 : decode cX7_cutOff 15 = .ok (.getfield 25, 3) := by decide +kernel
theorem dX7_cutOff_18 : decode cX7_cutOff 18 = .ok (.iload_n 1, 1) := by decide +kernel
theorem dX7_cutOff_19 : decode cX7_cutOff 19 = .ok (.iaload, 1) := by decide +kernel
theorem dX7_cutOff_20 : decode cX7_cutOff 20 = .ok (.aload_n 0, 1) := by decide +kernel
theorem dX7_cutOff_21 : decode cX7_cutOff 21 = .ok (.getfield 28, 3) := by decide +kernel
theorem dX7_cutOff_24 : decode cX7_cutOff 24 = .ok (.iload_n 1, 1) := by decide +kernel
theorem dX7_cutOff_25 : decode cX7_cutOff 25 = .ok (.iaload, 1) := by decide +kernel
theorem dX7_cutOff_26 : decode cX7_cutOff 26 = .ok (.aload_n 0, 1) := by decide +kernel
theorem dX7_cutOff_27 : decode cX7_cutOff 27 = .ok (.getfield 31, 3) := by decide +kernel
theorem dX7_cutOff_30 : decode cX7_cutOff 30 = .ok (.iload_n 1, 1) := by decide +kernel
theorem dX7_cutOff_31 : decode cX7_cutOff 31 = .ok (.iaload, 1) := by decide +kernel
theorem dX7_cutOff_32 : decode cX7_cutOff 32 = .ok (.invokevirtual 97, 3) := by decide +kernel
theorem dX7_cutOff_35 : decode cX7_cutOff 35 = .ok (.istore_n 3, 1) := by decide +kernel
theorem dX7_cutOff_36 : decode cX7_cutOff 36 = .ok (.aload_n 0, 1) := by decide +kernel
theorem dX7_cutOff_37 : decode cX7_cutOff 37 = .ok (.getfield 34, 3) := by decide +kernel
theorem dX7_cutOff_40 : decode cX7_cutOff 40 = .ok (.iload_n 3, 1) := by decide +kernel
theorem dX7_cutOff_41 : decode cX7_cutOff 41 = .ok (.aload_n 0, 1) := by decide +kernel
theorem dX7_cutOff_42 : decode cX7_cutOff 42 = .ok (.getfield 34, 3) := by decide +kernel
theorem dX7_cutOff_45 : decode cX7_cutOff 45 = .ok (.iload_n 1, 1) := by decide +kernel
theorem dX7_cutOff_46 : decode cX7_cutOff 46 = .ok (.iaload, 1) := by decide +kernel
theorem dX7_cutOff_47 : decode cX7_cutOff 47 = .ok (.iastore, 1) := by decide +kernel
theorem dX7_cutOff_48 : decode cX7_cutOff 48 = .ok (.aload_n 0, 1) := by decide +kernel
theorem dX7_cutOff_49 : decode cX7_cutOff 49 = .ok (.getfield 40, 3) := by decide +kernel
theorem dX7_cutOff_52 : decode cX7_cutOff 52 = .ok (.iload_n 3, 1) := by decide +kernel
theorem dX7_cutOff_53 : decode cX7_cutOff 53 = .ok (.aload_n 0, 1) := by decide +kernel
theorem dX7_cutOff_54 : decode cX7_cutOff 54 = .ok (.getfield 40, 3) := by decide +kernel
theorem dX7_cutOff_57 : decode cX7_cutOff 57 = .ok (.iload_n 1, 1) := by decide +kernel
theorem dX7_cutOff_58 : decode cX7_cutOff 58 = .ok (.iaload, 1) := by decide +kernel
theorem dX7_cutOff_59 : decode cX7_cutOff 59 = .ok (.iastore, 1) := by decide +kernel
theorem dX7_cutOff_60 : decode cX7_cutOff 60 = .ok (.aload_n 0, 1) := by decide +kernel
theorem dX7_cutOff_61 : decode cX7_cutOff 61 = .ok (.getfield 22, 3) := by decide +kernel
theorem dX7_cutOff_64 : decode cX7_cutOff 64 = .ok (.iload_n 1, 1) := by decide +kernel
theorem dX7_cutOff_65 : decode cX7_cutOff 65 = .ok (.dup2, 1) := by decide +kernel
theorem dX7_cutOff_66 : decode cX7_cutOff 66 = .ok (.iaload, 1) := by decide +kernel
theorem dX7_cutOff_67 : decode cX7_cutOff 67 = .ok (.iload_n 2, 1) := by decide +kernel
theorem dX7_cutOff_68 : decode cX7_cutOff 68 = .ok (.isub, 1) := by decide +kernel
theorem dX7_cutOff_69 : decode cX7_cutOff 69 = .ok (.iastore, 1) := by decide +kernel
theorem dX7_cutOff_70 : decode cX7_cutOff 70 = .ok (.aload_n 0, 1) := by decide +kernel
theorem dX7_cutOff_71 : decode cX7_cutOff 71 = .ok (.getfield 37, 3) := by decide +kernel
theorem dX7_cutOff_74 : decode cX7_cutOff 74 = .ok (.iload_n 1, 1) := by decide +kernel
theorem dX7_cutOff_75 : decode cX7_cutOff 75 = .ok (.aload_n 0, 1) := by decide +kernel
theorem dX7_cutOff_76 : decode cX7_cutOff 76 = .ok (.getfield 22, 3) := by decide +kernel
theorem dX7_cutOff_79 : decode cX7_cutOff 79 = .ok (.iload_n 1, 1) := by decide +kernel
theorem dX7_cutOff_80 : decode cX7_cutOff 80 = .ok (.iaload, 1) := by decide +kernel
theorem dX7_cutOff_81 : decode cX7_cutOff 81 = .ok (.ifCond .ne 7, 3) := by decide +kernel
theorem dX7_cutOff_84 : decode cX7_cutOff 84 = .ok (.iconst 1, 1) := by decide +kernel
theorem dX7_cutOff_85 : decode cX7_cutOff 85 = .ok (.goto 4, 3) := by decide +kernel
theorem dX7_cutOff_88 : decode cX7_cutOff 88 = .ok (.iconst 0, 1) := by decide +kernel
theorem dX7_cutOff_89 : decode cX7_cutOff 89 = .ok (.iastore, 1) := by decide +kernel
theorem dX7_cutOff_90 : decode cX7_cutOff 90 = .ok (.iload_n 3, 1) := by decide +kernel
theorem dX7_cutOff_91 : decode cX7_cutOff 91 = .ok (.ireturn, 1) := by decide +kernel
theorem dX7_cut_0 : decode cX7_cut 0 = .ok (.aload_n 0, 1) := by decide +kernel
theorem dX7_cut_1 : decode cX7_cut 1 = .ok (.iload_n 1, 1) := by decide +kernel
theorem dX7_cut_2 : decode cX7_cut 2 = .ok (.invokevirtual 106, 3) := by decide +kernel
theorem dX7_cut_5 : decode cX7_cut 5 = .ok (.istore_n 3, 1) := by decide +kernel
theorem dX7_cut_6 : decode cX7_cut 6 = .ok (.aload_n 0, 1) := by decide +kernel
theorem dX7_cut_7 : decode cX7_cut 7 = .ok (.iload_n 3, 1) := by decide +kernel
theorem dX7_cut_8 : decode cX7_cut 8 = .ok (.ifCond .ne 7, 3) := by decide +kernel
theorem dX7_cut_11 : decode cX7_cut 11 = .ok (.iconst 1, 1) := by decide +kernel
theorem dX7_cut_12 : decode cX7_cut 12 = .ok (.goto 43, 3) := by decide +kernel
theorem dX7_cut_15 : decode cX7_cut 15 = .ok (.iload_n 2, 1) := by decide +kernel
theorem dX7_cut_16 : decode cX7_cut 16 = .ok (.iconst 1, 1) := by decide +kernel
theorem dX7_cut_17 : decode cX7_cut 17 = .ok (.aload_n 0, 1) := by decide +kernel
theorem dX7_cut_18 : decode cX7_cut 18 = .ok (.getfield 22, 3) := by decide +kernel
theorem dX7_cut_21 : decode cX7_cut 21 = .ok (.iload_n 1, 1) := by decide +kernel
theorem dX7_cut_22 : decode cX7_cut 22 = .ok (.iaload, 1) := by decide +kernel
theorem dX7_cut_23 : decode cX7_cut 23 = .ok (.invokestatic 85, 3) := by decide +kernel
theorem dX7_cut_26 : decode cX7_cut 26 = .ok (.ifCond .ne 7, 3) := by decide +kernel
theorem dX7_cut_29 : decode cX7_cut 29 = .ok (.iconst 2, 1) := by decide +kernel
theorem dX7_cut_30 : decode cX7_cut 30 = .ok (.goto 25, 3) := by decide +kernel
theorem dX7_cut_33 : decode cX7_cut 33 = .ok (.aload_n 0, 1) := by decide +kernel
theorem dX7_cut_34 : decode cX7_cut 34 = .ok (.iload_n 1, 1) := by decide +kernel
theorem dX7_cut_35 : decode cX7_cut 35 = .ok (.invokevirtual 116, 3) := by decide +kernel
theorem dX7_cut_38 : decode cX7_cut 38 = .ok (.ifCond .eq 12, 3) := by decide +kernel
theorem dX7_cut_41 : decode cX7_cut 41 = .ok (.aload_n 0, 1) := by decide +kernel
theorem dX7_cut_42 : decode cX7_cut 42 = .ok (.getfield 82, 3) := by decide +kernel
theorem dX7_cut_45 : decode cX7_cut 45 = .ok (.bipush 60, 2) := by decide +kernel
theorem dX7_cut_47 : decode cX7_cut 47 = .ok (.if_icmp .ne 7, 3) := by decide +kernel
theorem dX7_cut_50 : decode cX7_cut 50 = .ok (.iconst 3, 1) := by decide +kernel
theorem dX7_cut_51 : decode cX7_cut 51 = .ok (.goto 4, 3) := by decide +kernel
theorem dX7_cut_54 : decode cX7_cut 54 = .ok (.iconst 0, 1) := by decide +kernel
theorem dX7_cut_55 : decode cX7_cut 55 = .ok (.invokevirtual 89, 3) := by decide +kernel
theorem dX7_cut_58 : decode cX7_cut 58 = .ok (.ifCond .eq 5, 3) := by decide +kernel
theorem dX7_cut_61 : decode cX7_cut 61 = .ok (.iconst 0, 1) := by decide +kernel
theorem dX7_cut_62 : decode cX7_cut 62 = .ok (.ireturn, 1) := by decide +kernel
theorem dX7_cut_63 : decode cX7_cut 63 = .ok (.aload_n 0, 1) := by decide +kernel
theorem dX7_cut_64 : decode cX7_cut 64 = .ok (.iload_n 1, 1) := by decide +kernel
theorem dX7_cut_65 : decode cX7_cut 65 = .ok (.iload_n 2, 1) := by decide +kernel
theorem dX7_cut_66 : decode cX7_cut 66 = .ok (.invokevirtual 119, 3) := by decide +kernel
theorem dX7_cut_69 : decode cX7_cut 69 = .ok (.ireturn, 1) := by decide +kernel
theorem dX7_order_0 : decode cX7_order 0 = .ok (.iload_n 1, 1) := by decide +kernel
theorem dX7_order_1 : decode cX7_order 1 = .ok (.iconst 0, 1) := by decide +kernel
theorem dX7_order_2 : decode cX7_order 2 = .ok (.iconst 3, 1) := by decide +kernel
theorem dX7_order_3 : decode cX7_order 3 = .ok (.invokestatic 85, 3) := by decide +kernel
theorem dX7_order_6 : decode cX7_order 6 = .ok (.ifCond .eq 18, 3) := by decide +kernel
theorem dX7_order_9 : decode cX7_order 9 = .ok (.iload_n 2, 1) := by decide +kernel
theorem dX7_order_10 : decode cX7_order 10 = .ok (.iconst 1, 1) := by decide +kernel
theorem dX7_order_11 : decode cX7_order 11 = .ok (.sipush 10000, 3) := by decide +kernel
theorem dX7_order_14 : decode cX7_order 14 = .ok (.invokestatic 85, 3) := by decide +kernel
theorem dX7_order_17 : decode cX7_order 17 = .ok (.ifCond .eq 7, 3) := by decide +kernel
theorem dX7_order_20 : decode cX7_order 20 = .ok (.iconst 1, 1) := by decide +kernel
theorem dX7_order_21 : decode cX7_order 21 = .ok (.goto 4, 3) := by decide +kernel
theorem dX7_order_24 : decode cX7_order 24 = .ok (.iconst 0, 1) := by decide +kernel
theorem dX7_order_25 : decode cX7_order 25 = .ok (.istore_n 3, 1) := by decide +kernel
theorem dX7_order_26 : decode cX7_order 26 = .ok (.aload_n 0, 1) := by decide +kernel
theorem dX7_order_27 : decode cX7_order 27 = .ok (.iload_n 3, 1) := by decide +kernel
theorem dX7_order_28 : decode cX7_order 28 = .ok (.ifCond .ne 7, 3) := by decide +kernel
theorem dX7_order_31 : decode cX7_order 31 = .ok (.iconst 1, 1) := by decide +kernel
theorem dX7_order_32 : decode cX7_order 32 = .ok (.goto 17, 3) := by decide +kernel
theorem dX7_order_35 : decode cX7_order 35 = .ok (.aload_n 0, 1) := by decide +kernel
theorem dX7_order_36 : decode cX7_order 36 = .ok (.getfield 82, 3) := by decide +kernel
theorem dX7_order_39 : decode cX7_order 39 = .ok (.bipush 60, 2) := by decide +kernel
theorem dX7_order_41 : decode cX7_order 41 = .ok (.if_icmp .ne 7, 3) := by decide +kernel
theorem dX7_order_44 : decode cX7_order 44 = .ok (.iconst 2, 1) := by decide +kernel
theorem dX7_order_45 : decode cX7_order 45 = .ok (.goto 4, 3) := by decide +kernel
theorem dX7_order_48 : decode cX7_order 48 = .ok (.iconst 0, 1) := by decide +kernel
theorem dX7_order_49 : decode cX7_order 49 = .ok (.invokevirtual 89, 3) := by decide +kernel
theorem dX7_order_52 : decode cX7_order 52 = .ok (.ifCond .eq 5, 3) := by decide +kernel
theorem dX7_order_55 : decode cX7_order 55 = .ok (.iconst 0, 1) := by decide +kernel
theorem dX7_order_56 : decode cX7_order 56 = .ok (.ireturn, 1) := by decide +kernel
theorem dX7_order_57 : decode cX7_order 57 = .ok (.iconst (-1), 1) := by decide +kernel
theorem dX7_order_58 : decode cX7_order 58 = .ok (.istore 4, 2) := by decide +kernel
theorem dX7_order_60 : decode cX7_order 60 = .ok (.iconst 0, 1) := by decide +kernel
theorem dX7_order_61 : decode cX7_order 61 = .ok (.istore 5, 2) := by decide +kernel
theorem dX7_order_63 : decode cX7_order 63 = .ok (.iload 5, 2) := by decide +kernel
theorem dX7_order_65 : decode cX7_order 65 = .ok (.aload_n 0, 1) := by decide +kernel
theorem dX7_order_66 : decode cX7_order 66 = .ok (.getfield 82, 3) := by decide +kernel
theorem dX7_order_69 : decode cX7_order 69 = .ok (.if_icmp .ge 84, 3) := by decide +kernel
theorem dX7_order_72 : decode cX7_order 72 = .ok (.aload_n 0, 1) := by decide +kernel
theorem dX7_order_73 : decode cX7_order 73 = .ok (.getfield 16, 3) := by decide +kernel
theorem dX7_order_76 : decode cX7_order 76 = .ok (.iload 5, 2) := by decide +kernel
theorem dX7_order_78 : decode cX7_order 78 = .ok (.iaload, 1) := by decide +kernel
theorem dX7_order_79 : decode cX7_order 79 = .ok (.iload_n 1, 1) := by decide +kernel
theorem dX7_order_80 : decode cX7_order 80 = .ok (.if_icmp .ne 27, 3) := by decide +kernel
theorem dX7_order_83 : decode cX7_order 83 = .ok (.aload_n 0, 1) := by decide +kernel
theorem dX7_order_84 : decode cX7_order 84 = .ok (.iload 5, 2) := by decide +kernel
theorem dX7_order_86 : decode cX7_order 86 = .ok (.invokevirtual 116, 3) := by decide +kernel
theorem dX7_order_89 : decode cX7_order 89 = .ok (.ifCond .eq 18, 3) := by decide +kernel
theorem dX7_order_92 : decode cX7_order 92 = .ok (.aload_n 0, 1) := by decide +kernel
theorem dX7_order_93 : decode cX7_order 93 = .ok (.getfield 22, 3) := by decide +kernel
theorem dX7_order_96 : decode cX7_order 96 = .ok (.iload 5, 2) := by decide +kernel
theorem dX7_order_98 : decode cX7_order 98 = .ok (.iaload, 1) := by decide +kernel
theorem dX7_order_99 : decode cX7_order 99 = .ok (.iload_n 2, 1) := by decide +kernel
theorem dX7_order_100 : decode cX7_order 100 = .ok (.if_icmp .lt 7, 3) := by decide +kernel
theorem dX7_order_103 : decode cX7_order 103 = .ok (.iconst 1, 1) := by decide +kernel
theorem dX7_order_104 : decode cX7_order 104 = .ok (.goto 4, 3) := by decide +kernel
theorem dX7_order_107 : decode cX7_order 107 = .ok (.iconst 0, 1) := by decide +kernel
theorem dX7_order_108 : decode cX7_order 108 = .ok (.istore 6, 2) := by decide +kernel
theorem dX7_order_110 : decode cX7_order 110 = .ok (.iload 6, 2) := by decide +kernel
theorem dX7_order_112 : decode cX7_order 112 = .ok (.ifCond .eq 31, 3) := by decide +kernel
theorem dX7_order_115 : decode cX7_order 115 = .ok (.iload 4, 2) := by decide +kernel
theorem dX7_order_117 : decode cX7_order 117 = .ok (.iconst (-1), 1) := by decide +kernel
theorem dX7_order_118 : decode cX7_order 118 = .ok (.if_icmp .eq 20, 3) := by decide +kernel
theorem dX7_order_121 : decode cX7_order 121 = .ok (.aload_n 0, 1) := by decide +kernel
theorem dX7_order_122 : decode cX7_order 122 = .ok (.getfield 22, 3) := by decide +kernel
theorem dX7_order_125 : decode cX7_order 125 = .ok (.iload 5, 2) := by decide +kernel
theorem dX7_order_127 : decode cX7_order 127 = .ok (.iaload, 1) := by decide +kernel
theorem dX7_order_128 : decode cX7_order 128 = .ok (.aload_n 0, 1) := by decide +kernel
theorem dX7_order_129 : decode cX7_order 129 = .ok (.getfield 22, 3) := by decide +kernel
theorem dX7_order_132 : decode cX7_order 132 = .ok (.iload 4, 2) := by decide +kernel
theorem dX7_order_134 : decode cX7_order 134 = .ok (.iaload, 1) := by decide +kernel
theorem dX7_order_135 : decode cX7_order 135 = .ok (.if_icmp .ge 8, 3) := by decide +kernel
theorem dX7_order_138 : decode cX7_order 138 = .ok (.iload 5, 2) := by decide +kernel
theorem dX7_order_140 : decode cX7_order 140 = .ok (.goto 5, 3) := by decide +kernel
theorem dX7_order_143 : decode cX7_order 143 = .ok (.iload 4, 2) := by decide +kernel
theorem dX7_order_145 : decode cX7_order 145 = .ok (.istore 4, 2) := by decide +kernel
theorem dX7_order_147 : decode cX7_order 147 = .ok (.iinc 5 1, 3) := by decide +kernel
theorem dX7_order_150 : decode cX7_order 150 = .ok (.goto (-87), 3) := by decide +kernel
theorem dX7_order_153 : decode cX7_order 153 = .ok (.iload 4, 2) := by decide +kernel
theorem dX7_order_155 : decode cX7_order 155 = .ok (.iconst (-1), 1) := by decide +kernel
theorem dX7_order_156 : decode cX7_order 156 = .ok (.if_icmp .ne 7, 3) := by decide +kernel
theorem dX7_order_159 : decode cX7_order 159 = .ok (.iconst (-1), 1) := by decide +kernel
theorem dX7_order_160 : decode cX7_order 160 = .ok (.goto 10, 3) := by decide +kernel
theorem dX7_order_163 : decode cX7_order 163 = .ok (.aload_n 0, 1) := by decide +kernel
theorem dX7_order_164 : decode cX7_order 164 = .ok (.iload 4, 2) := by decide +kernel
theorem dX7_order_166 : decode cX7_order 166 = .ok (.iload_n 2, 1) := by decide +kernel
theorem dX7_order_167 : decode cX7_order 167 = .ok (.invokevirtual 119, 3) := by decide +kernel
theorem dX7_order_170 : decode cX7_order 170 = .ok (.ireturn, 1) := by decide +kernel
theorem dX7_splice_0 : decode cX7_splice 0 = .ok (.aload_n 0, 1) := by decide +kernel
theorem dX7_splice_1 : decode cX7_splice 1 = .ok (.iload_n 1, 1) := by decide +kernel
theorem dX7_splice_2 : decode cX7_splice 2 = .ok (.invokevirtual 106, 3) := by decide +kernel
theorem dX7_splice_5 : decode cX7_splice 5 = .ok (.ifCond .eq 15, 3) := by decide +kernel
theorem dX7_splice_8 : decode cX7_splice 8 = .ok (.aload_n 0, 1) := by decide +kernel
theorem dX7_splice_9 : decode cX7_splice 9 = .ok (.iload_n 2, 1) := by decide +kernel
theorem dX7_splice_10 : decode cX7_splice 10 = .ok (.invokevirtual 106, 3) := by decide +kernel
theorem dX7_splice_13 : decode cX7_splice 13 = .ok (.ifCond .eq 7, 3) := by decide +kernel
theorem dX7_splice_16 : decode cX7_splice 16 = .ok (.iconst 1, 1) := by decide +kernel
theorem dX7_splice_17 : decode cX7_splice 17 = .ok (.goto 4, 3) := by decide +kernel
theorem dX7_splice_20 : decode cX7_splice 20 = .ok (.iconst 0, 1) := by decide +kernel
theorem dX7_splice_21 : decode cX7_splice 21 = .ok (.istore 4, 2) := by decide +kernel
theorem dX7_splice_23 : decode cX7_splice 23 = .ok (.aload_n 0, 1) := by decide +kernel
theorem dX7_splice_24 : decode cX7_splice 24 = .ok (.iload 4, 2) := by decide +kernel
theorem dX7_splice_26 : decode cX7_splice 26 = .ok (.ifCond .ne 7, 3) := by decide +kernel
theorem dX7_splice_29 : decode cX7_splice 29 = .ok (.iconst 1, 1) := by decide +kernel
theorem dX7_splice_30 : decode cX7_splice 30 = .ok (.goto 23, 3) := by decide +kernel
theorem dX7_splice_33 : decode cX7_splice 33 = .ok (.iload_n 1, 1) := by decide +kernel
theorem dX7_splice_34 : decode cX7_splice 34 = .ok (.iload_n 2, 1) := by decide +kernel
theorem dX7_splice_35 : decode cX7_splice 35 = .ok (.if_icmp .eq 13, 3) := by decide +kernel
theorem dX7_splice_38 : decode cX7_splice 38 = .ok (.iload_n 3, 1) := by decide +kernel
theorem dX7_splice_39 : decode cX7_splice 39 = .ok (.iconst 2, 1) := by decide +kernel
theorem dX7_splice_40 : decode cX7_splice 40 = .ok (.bipush 6, 2) := by decide +kernel
theorem dX7_splice_42 : decode cX7_splice 42 = .ok (.invokestatic 85, 3) := by decide +kernel
theorem dX7_splice_45 : decode cX7_splice 45 = .ok (.ifCond .ne 7, 3) := by decide +kernel
theorem dX7_splice_48 : decode cX7_splice 48 = .ok (.iconst 2, 1) := by decide +kernel
theorem dX7_splice_49 : decode cX7_splice 49 = .ok (.goto 4, 3) := by decide +kernel
theorem dX7_splice_52 : decode cX7_splice 52 = .ok (.iconst 0, 1) := by decide +kernel
theorem dX7_splice_53 : decode cX7_splice 53 = .ok (.invokevirtual 89, 3) := by decide +kernel
theorem dX7_splice_56 : decode cX7_splice 56 = .ok (.ifCond .eq 5, 3) := by decide +kernel
theorem dX7_splice_59 : decode cX7_splice 59 = .ok (.iconst 0, 1) := by decide +kernel
theorem dX7_splice_60 : decode cX7_splice 60 = .ok (.ireturn, 1) := by decide +kernel
theorem dX7_splice_61 : decode cX7_splice 61 = .ok (.aload_n 0, 1) := by decide +kernel
theorem dX7_splice_62 : decode cX7_splice 62 = .ok (.getfield 22, 3) := by decide +kernel
theorem dX7_splice_65 : decode cX7_splice 65 = .ok (.iload_n 1, 1) := by decide +kernel
theorem dX7_splice_66 : decode cX7_splice 66 = .ok (.iaload, 1) := by decide +kernel
theorem dX7_splice_67 : decode cX7_splice 67 = .ok (.aload_n 0, 1) := by decide +kernel
theorem dX7_splice_68 : decode cX7_splice 68 = .ok (.getfield 22, 3) := by decide +kernel
theorem dX7_splice_71 : decode cX7_splice 71 = .ok (.iload_n 2, 1) := by decide +kernel
theorem dX7_splice_72 : decode cX7_splice 72 = .ok (.iaload, 1) := by decide +kernel
theorem dX7_splice_73 : decode cX7_splice 73 = .ok (.iadd, 1) := by decide +kernel
theorem dX7_splice_74 : decode cX7_splice 74 = .ok (.iload_n 3, 1) := by decide +kernel
theorem dX7_splice_75 : decode cX7_splice 75 = .ok (.isub, 1) := by decide +kernel
theorem dX7_splice_76 : decode cX7_splice 76 = .ok (.istore 5, 2) := by decide +kernel
theorem dX7_splice_78 : decode cX7_splice 78 = .ok (.aload_n 0, 1) := by decide +kernel
theorem dX7_splice_79 : decode cX7_splice 79 = .ok (.iload_n 1, 1) := by decide +kernel
theorem dX7_splice_80 : decode cX7_splice 80 = .ok (.invokevirtual 116, 3) := by decide +kernel
theorem dX7_splice_83 : decode cX7_splice 83 = .ok (.ifCond .eq 38, 3) := by decide +kernel
theorem dX7_splice_86 : decode cX7_splice 86 = .ok (.aload_n 0, 1) := by decide +kernel
theorem dX7_splice_87 : decode cX7_splice 87 = .ok (.iload_n 2, 1) := by decide +kernel
theorem dX7_splice_88 : decode cX7_splice 88 = .ok (.invokevirtual 116, 3) := by decide +kernel
theorem dX7_splice_91 : decode cX7_splice 91 = .ok (.ifCond .eq 30, 3) := by decide +kernel
theorem dX7_splice_94 : decode cX7_splice 94 = .ok (.aload_n 0, 1) := by decide +kernel
theorem dX7_splice_95 : decode cX7_splice 95 = .ok (.iload_n 1, 1) := by decide +kernel
theorem dX7_splice_96 : decode cX7_splice 96 = .ok (.iload_n 2, 1) := by decide +kernel
theorem dX7_splice_97 : decode cX7_splice 97 = .ok (.invokevirtual 109, 3) := by decide +kernel
theorem dX7_splice_100 : decode cX7_splice 100 = .ok (.ifCond .eq 21, 3) := by decide +kernel
theorem dX7_splice_103 : decode cX7_splice 103 = .ok (.iload 5, 2) := by decide +kernel
theorem dX7_splice_105 : decode cX7_splice 105 = .ok (.ifCond .le 16, 3) := by decide +kernel
theorem dX7_splice_108 : decode cX7_splice 108 = .ok (.aload_n 0, 1) := by decide +kernel
theorem dX7_splice_109 : decode cX7_splice 109 = .ok (.getfield 82, 3) := by decide +kernel
theorem dX7_splice_112 : decode cX7_splice 112 = .ok (.bipush 60, 2) := by decide +kernel
theorem dX7_splice_114 : decode cX7_splice 114 = .ok (.if_icmp .ge 7, 3) := by decide +kernel
theorem dX7_splice_117 : decode cX7_splice 117 = .ok (.iconst 1, 1) := by decide +kernel
theorem dX7_splice_118 : decode cX7_splice 118 = .ok (.goto 4, 3) := by decide +kernel
theorem dX7_splice_121 : decode cX7_splice 121 = .ok (.iconst 0, 1) := by decide +kernel
theorem dX7_splice_122 : decode cX7_splice 122 = .ok (.istore 6, 2) := by decide +kernel
theorem dX7_splice_124 : decode cX7_splice 124 = .ok (.aload_n 0, 1) := by decide +kernel
theorem dX7_splice_125 : decode cX7_splice 125 = .ok (.iload 6, 2) := by decide +kernel
theorem dX7_splice_127 : decode cX7_splice 127 = .ok (.ifCond .eq 7, 3) := by decide +kernel
theorem dX7_splice_130 : decode cX7_splice 130 = .ok (.iconst 0, 1) := by decide +kernel
theorem dX7_splice_131 : decode cX7_splice 131 = .ok (.goto 4, 3) := by decide +kernel
theorem dX7_splice_134 : decode cX7_splice 134 = .ok (.iconst 3, 1) := by decide +kernel
theorem dX7_splice_135 : decode cX7_splice 135 = .ok (.invokevirtual 89, 3) := by decide +kernel
theorem dX7_splice_138 : decode cX7_splice 138 = .ok (.ifCond .eq 5, 3) := by decide +kernel
theorem dX7_splice_141 : decode cX7_splice 141 = .ok (.iconst 0, 1) := by decide +kernel
theorem dX7_splice_142 : decode cX7_splice 142 = .ok (.ireturn, 1) := by decide +kernel
theorem dX7_splice_143 : decode cX7_splice 143 = .ok (.aload_n 0, 1) := by decide +kernel
theorem dX7_splice_144 : decode cX7_splice 144 = .ok (.iload_n 1, 1) := by decide +kernel
theorem dX7_splice_145 : decode cX7_splice 145 = .ok (.invokevirtual 113, 3) := by decide +kernel
theorem dX7_splice_148 : decode cX7_splice 148 = .ok (.aload_n 0, 1) := by decide +kernel
theorem dX7_splice_149 : decode cX7_splice 149 = .ok (.iload_n 2, 1) := by decide +kernel
theorem dX7_splice_150 : decode cX7_splice 150 = .ok (.invokevirtual 113, 3) := by decide +kernel
theorem dX7_splice_153 : decode cX7_splice 153 = .ok (.if_icmp .ge 11, 3) := by decide +kernel
theorem dX7_splice_156 : decode cX7_splice 156 = .ok (.aload_n 0, 1) := by decide +kernel
theorem dX7_splice_157 : decode cX7_splice 157 = .ok (.iload_n 1, 1) := by decide +kernel
theorem dX7_splice_158 : decode cX7_splice 158 = .ok (.invokevirtual 113, 3) := by decide +kernel
theorem dX7_splice_161 : decode cX7_splice 161 = .ok (.goto 8, 3) := by decide +kernel
theorem dX7_splice_164 : decode cX7_splice 164 = .ok (.aload_n 0, 1) := by decide +kernel
theorem dX7_splice_165 : decode cX7_splice 165 = .ok (.iload_n 2, 1) := by decide +kernel
theorem dX7_splice_166 : decode cX7_splice 166 = .ok (.invokevirtual 113, 3) := by decide +kernel
theorem dX7_splice_169 : decode cX7_splice 169 = .ok (.istore 7, 2) := by decide +kernel
theorem dX7_splice_171 : decode cX7_splice 171 = .ok (.aload_n 0, 1) := by decide +kernel
theorem dX7_splice_172 : decode cX7_splice 172 = .ok (.getfield 28, 3) := by decide +kernel
theorem dX7_splice_175 : decode cX7_splice 175 = .ok (.iload_n 1, 1) := by decide +kernel
theorem dX7_splice_176 : decode cX7_splice 176 = .ok (.iaload, 1) := by decide +kernel
theorem dX7_splice_177 : decode cX7_splice 177 = .ok (.aload_n 0, 1) := by decide +kernel
theorem dX7_splice_178 : decode cX7_splice 178 = .ok (.getfield 28, 3) := by decide +kernel
theorem dX7_splice_181 : decode cX7_splice 181 = .ok (.iload_n 2, 1) := by decide +kernel
theorem dX7_splice_182 : decode cX7_splice 182 = .ok (.iaload, 1) := by decide +kernel
theorem dX7_splice_183 : decode cX7_splice 183 = .ok (.if_icmp .le 12, 3) := by decide +kernel
theorem dX7_splice_186 : decode cX7_splice 186 = .ok (.aload_n 0, 1) := by decide +kernel
theorem dX7_splice_187 : decode cX7_splice 187 = .ok (.getfield 28, 3) := by decide +kernel
theorem dX7_splice_190 : decode cX7_splice 190 = .ok (.iload_n 1, 1) := by decide +kernel
theorem dX7_splice_191 : decode cX7_splice 191 = .ok (.iaload, 1) := by decide +kernel
theorem dX7_splice_192 : decode cX7_splice 192 = .ok (.goto 9, 3) := by decide +kernel
theorem dX7_splice_195 : decode cX7_splice 195 = .ok (.aload_n 0, 1) := by decide +kernel
theorem dX7_splice_196 : decode cX7_splice 196 = .ok (.getfield 28, 3) := by decide +kernel
theorem dX7_splice_199 : decode cX7_splice 199 = .ok (.iload_n 2, 1) := by decide +kernel
theorem dX7_splice_200 : decode cX7_splice 200 = .ok (.iaload, 1) := by decide +kernel
theorem dX7_splice_201 : decode cX7_splice 201 = .ok (.istore 8, 2) := by decide +kernel
theorem dX7_splice_203 : decode cX7_splice 203 = .ok (.aload_n 0, 1) := by decide +kernel
theorem dX7_splice_204 : decode cX7_splice 204 = .ok (.aload_n 0, 1) := by decide +kernel
theorem dX7_splice_205 : decode cX7_splice 205 = .ok (.getfield 16, 3) := by decide +kernel
theorem dX7_splice_208 : decode cX7_splice 208 = .ok (.iload_n 1, 1) := by decide +kernel
theorem dX7_splice_209 : decode cX7_splice 209 = .ok (.iaload, 1) := by decide +kernel
theorem dX7_splice_210 : decode cX7_splice 210 = .ok (.aload_n 0, 1) := by decide +kernel
theorem dX7_splice_211 : decode cX7_splice 211 = .ok (.getfield 19, 3) := by decide +kernel
theorem dX7_splice_214 : decode cX7_splice 214 = .ok (.iload_n 1, 1) := by decide +kernel
theorem dX7_splice_215 : decode cX7_splice 215 = .ok (.iaload, 1) := by decide +kernel
theorem dX7_splice_216 : decode cX7_splice 216 = .ok (.iload 5, 2) := by decide +kernel
theorem dX7_splice_218 : decode cX7_splice 218 = .ok (.iload 7, 2) := by decide +kernel
theorem dX7_splice_220 : decode cX7_splice 220 = .ok (.bipush 70, 2) := by decide +kernel
theorem dX7_splice_222 : decode cX7_splice 222 = .ok (.iconst 5, 1) := by decide +kernel
theorem dX7_splice_223 : decode cX7_splice 223 = .ok (.iload_n 3, 1) := by decide +kernel
theorem dX7_splice_224 : decode cX7_splice 224 = .ok (.imul, 1) := by decide +kernel
theorem dX7_splice_225 : decode cX7_splice 225 = .ok (.iadd, 1) := by decide +kernel
theorem dX7_splice_226 : decode cX7_splice 226 = .ok (.imul, 1) := by decide +kernel
theorem dX7_splice_227 : decode cX7_splice 227 = .ok (.bipush 100, 2) := by decide +kernel
theorem dX7_splice_229 : decode cX7_splice 229 = .ok (.idiv, 1) := by decide +kernel
theorem dX7_splice_230 : decode cX7_splice 230 = .ok (.iload 8, 2) := by decide +kernel
theorem dX7_splice_232 : decode cX7_splice 232 = .ok (.aload_n 0, 1) := by decide +kernel
theorem dX7_splice_233 : decode cX7_splice 233 = .ok (.getfield 31, 3) := by decide +kernel
theorem dX7_splice_236 : decode cX7_splice 236 = .ok (.iload_n 1, 1) := by decide +kernel
theorem dX7_splice_237 : decode cX7_splice 237 = .ok (.iaload, 1) := by decide +kernel
theorem dX7_splice_238 : decode cX7_splice 238 = .ok (.invokevirtual 97, 3) := by decide +kernel
theorem dX7_splice_241 : decode cX7_splice 241 = .ok (.istore 9, 2) := by decide +kernel
theorem dX7_splice_243 : decode cX7_splice 243 = .ok (.aload_n 0, 1) := by decide +kernel
theorem dX7_splice_244 : decode cX7_splice 244 = .ok (.getfield 40, 3) := by decide +kernel
theorem dX7_splice_247 : decode cX7_splice 247 = .ok (.iload 9, 2) := by decide +kernel
theorem dX7_splice_249 : decode cX7_splice 249 = .ok (.aload_n 0, 1) := by decide +kernel
theorem dX7_splice_250 : decode cX7_splice 250 = .ok (.getfield 40, 3) := by decide +kernel
theorem dX7_splice_253 : decode cX7_splice 253 = .ok (.iload_n 1, 1) := by decide +kernel
theorem dX7_splice_254 : decode cX7_splice 254 = .ok (.iaload, 1) := by decide +kernel
theorem dX7_splice_255 : decode cX7_splice 255 = .ok (.iastore, 1) := by decide +kernel
theorem dX7_splice_256 : decode cX7_splice 256 = .ok (.aload_n 0, 1) := by decide +kernel
theorem dX7_splice_257 : decode cX7_splice 257 = .ok (.getfield 37, 3) := by decide +kernel
theorem dX7_splice_260 : decode cX7_splice 260 = .ok (.iload_n 1, 1) := by decide +kernel
theorem dX7_splice_261 : decode cX7_splice 261 = .ok (.iconst 1, 1) := by decide +kernel
theorem dX7_splice_262 : decode cX7_splice 262 = .ok (.iastore, 1) := by decide +kernel
theorem dX7_splice_263 : decode cX7_splice 263 = .ok (.aload_n 0, 1) := by decide +kernel
theorem dX7_splice_264 : decode cX7_splice 264 = .ok (.getfield 37, 3) := by decide +kernel
theorem dX7_splice_267 : decode cX7_splice 267 = .ok (.iload_n 2, 1) := by decide +kernel
theorem dX7_splice_268 : decode cX7_splice 268 = .ok (.iconst 1, 1) := by decide +kernel
theorem dX7_splice_269 : decode cX7_splice 269 = .ok (.iastore, 1) := by decide +kernel
theorem dX7_splice_270 : decode cX7_splice 270 = .ok (.iload 9, 2) := by decide +kernel
theorem dX7_splice_272 : decode cX7_splice 272 = .ok (.ireturn, 1) := by decide +kernel
theorem dX7_wear_0 : decode cX7_wear 0 = .ok (.ldc2_w 123, 3) := by decide +kernel
theorem dX7_wear_3 : decode cX7_wear 3 = .ok (.iload_n 2, 1) := by decide +kernel
theorem dX7_wear_4 : decode cX7_wear 4 = .ok (.i2l, 1) := by decide +kernel
theorem dX7_wear_5 : decode cX7_wear 5 = .ok (.lmul, 1) := by decide +kernel
theorem dX7_wear_6 : decode cX7_wear 6 = .ok (.aload_n 0, 1) := by decide +kernel
theorem dX7_wear_7 : decode cX7_wear 7 = .ok (.iload_n 1, 1) := by decide +kernel
theorem dX7_wear_8 : decode cX7_wear 8 = .ok (.invokevirtual 113, 3) := by decide +kernel
theorem dX7_wear_11 : decode cX7_wear 11 = .ok (.i2l, 1) := by decide +kernel
theorem dX7_wear_12 : decode cX7_wear 12 = .ok (.ldiv, 1) := by decide +kernel
theorem dX7_wear_13 : decode cX7_wear 13 = .ok (.l2i, 1) := by decide +kernel
theorem dX7_wear_14 : decode cX7_wear 14 = .ok (.istore_n 3, 1) := by decide +kernel
theorem dX7_wear_15 : decode cX7_wear 15 = .ok (.aload_n 0, 1) := by decide +kernel
theorem dX7_wear_16 : decode cX7_wear 16 = .ok (.iload_n 1, 1) := by decide +kernel
theorem dX7_wear_17 : decode cX7_wear 17 = .ok (.iload_n 3, 1) := by decide +kernel
theorem dX7_wear_18 : decode cX7_wear 18 = .ok (.iload_n 3, 1) := by decide +kernel
theorem dX7_wear_19 : decode cX7_wear 19 = .ok (.imul, 1) := by decide +kernel
theorem dX7_wear_20 : decode cX7_wear 20 = .ok (.invokevirtual 125, 3) := by decide +kernel
theorem dX7_wear_23 : decode cX7_wear 23 = .ok (.pop, 1) := by decide +kernel
theorem dX7_wear_24 : decode cX7_wear 24 = .ok (.return_, 1) := by decide +kernel
theorem dX7_harm_0 : decode cX7_harm 0 = .ok (.aload_n 0, 1) := by decide +kernel
theorem dX7_harm_1 : decode cX7_harm 1 = .ok (.getfield 34, 3) := by decide +kernel
theorem dX7_harm_4 : decode cX7_harm 4 = .ok (.iload_n 1, 1) := by decide +kernel
theorem dX7_harm_5 : decode cX7_harm 5 = .ok (.aload_n 0, 1) := by decide +kernel
theorem dX7_harm_6 : decode cX7_harm 6 = .ok (.getfield 34, 3) := by decide +kernel
theorem dX7_harm_9 : decode cX7_harm 9 = .ok (.iload_n 1, 1) := by decide +kernel
theorem dX7_harm_10 : decode cX7_harm 10 = .ok (.iaload, 1) := by decide +kernel
theorem dX7_harm_11 : decode cX7_harm 11 = .ok (.iload_n 2, 1) := by decide +kernel
theorem dX7_harm_12 : decode cX7_harm 12 = .ok (.iadd, 1) := by decide +kernel
theorem dX7_harm_13 : decode cX7_harm 13 = .ok (.sipush 1000, 3) := by decide +kernel
theorem dX7_harm_16 : decode cX7_harm 16 = .ok (.if_icmp .le 9, 3) := by decide +kernel
theorem dX7_harm_19 : decode cX7_harm 19 = .ok (.sipush 1000, 3) := by decide +kernel
theorem dX7_harm_22 : decode cX7_harm 22 = .ok (.goto 11, 3) := by decide +kernel
theorem dX7_harm_25 : decode cX7_harm 25 = .ok (.aload_n 0, 1) := by decide +kernel
theorem dX7_harm_26 : decode cX7_harm 26 = .ok (.getfield 34, 3) := by decide +kernel
theorem dX7_harm_29 : decode cX7_harm 29 = .ok (.iload_n 1, 1) := by decide +kernel
theorem dX7_harm_30 : decode cX7_harm 30 = .ok (.iaload, 1) := by decide +kernel
theorem dX7_harm_31 : decode cX7_harm 31 = .ok (.iload_n 2, 1) := by decide +kernel
theorem dX7_harm_32 : decode cX7_harm 32 = .ok (.iadd, 1) := by decide +kernel
theorem dX7_harm_33 : decode cX7_harm 33 = .ok (.iastore, 1) := by decide +kernel
theorem dX7_harm_34 : decode cX7_harm 34 = .ok (.aload_n 0, 1) := by decide +kernel
theorem dX7_harm_35 : decode cX7_harm 35 = .ok (.getfield 37, 3) := by decide +kernel
theorem dX7_harm_38 : decode cX7_harm 38 = .ok (.iload_n 1, 1) := by decide +kernel
theorem dX7_harm_39 : decode cX7_harm 39 = .ok (.aload_n 0, 1) := by decide +kernel
theorem dX7_harm_40 : decode cX7_harm 40 = .ok (.getfield 34, 3) := by decide +kernel
theorem dX7_harm_43 : decode cX7_harm 43 = .ok (.iload_n 1, 1) := by decide +kernel
theorem dX7_harm_44 : decode cX7_harm 44 = .ok (.iaload, 1) := by decide +kernel
theorem dX7_harm_45 : decode cX7_harm 45 = .ok (.sipush 300, 3) := by decide +kernel
theorem dX7_harm_48 : decode cX7_harm 48 = .ok (.if_icmp .lt 7, 3) := by decide +kernel
theorem dX7_harm_51 : decode cX7_harm 51 = .ok (.iconst 3, 1) := by decide +kernel
theorem dX7_harm_52 : decode cX7_harm 52 = .ok (.goto 9, 3) := by decide +kernel
theorem dX7_harm_55 : decode cX7_harm 55 = .ok (.aload_n 0, 1) := by decide +kernel
theorem dX7_harm_56 : decode cX7_harm 56 = .ok (.getfield 37, 3) := by decide +kernel
theorem dX7_harm_59 : decode cX7_harm 59 = .ok (.iload_n 1, 1) := by decide +kernel
theorem dX7_harm_60 : decode cX7_harm 60 = .ok (.iaload, 1) := by decide +kernel
theorem dX7_harm_61 : decode cX7_harm 61 = .ok (.iastore, 1) := by decide +kernel
theorem dX7_harm_62 : decode cX7_harm 62 = .ok (.aload_n 0, 1) := by decide +kernel
theorem dX7_harm_63 : decode cX7_harm 63 = .ok (.getfield 37, 3) := by decide +kernel
theorem dX7_harm_66 : decode cX7_harm 66 = .ok (.iload_n 1, 1) := by decide +kernel
theorem dX7_harm_67 : decode cX7_harm 67 = .ok (.iaload, 1) := by decide +kernel
theorem dX7_harm_68 : decode cX7_harm 68 = .ok (.iconst 3, 1) := by decide +kernel
theorem dX7_harm_69 : decode cX7_harm 69 = .ok (.if_icmp .ne 7, 3) := by decide +kernel
theorem dX7_harm_72 : decode cX7_harm 72 = .ok (.iconst 1, 1) := by decide +kernel
theorem dX7_harm_73 : decode cX7_harm 73 = .ok (.goto 4, 3) := by decide +kernel
theorem dX7_harm_76 : decode cX7_harm 76 = .ok (.iconst 0, 1) := by decide +kernel
theorem dX7_harm_77 : decode cX7_harm 77 = .ok (.ireturn, 1) := by decide +kernel
theorem dX7_load_0 : decode cX7_load 0 = .ok (.aload_n 0, 1) := by decide +kernel
theorem dX7_load_1 : decode cX7_load 1 = .ok (.iload_n 1, 1) := by decide +kernel
theorem dX7_load_2 : decode cX7_load 2 = .ok (.invokevirtual 106, 3) := by decide +kernel
theorem dX7_load_5 : decode cX7_load 5 = .ok (.istore_n 3, 1) := by decide +kernel
theorem dX7_load_6 : decode cX7_load 6 = .ok (.aload_n 0, 1) := by decide +kernel
theorem dX7_load_7 : decode cX7_load 7 = .ok (.iload_n 3, 1) := by decide +kernel
theorem dX7_load_8 : decode cX7_load 8 = .ok (.ifCond .ne 7, 3) := by decide +kernel
theorem dX7_load_11 : decode cX7_load 11 = .ok (.iconst 1, 1) := by decide +kernel
theorem dX7_load_12 : decode cX7_load 12 = .ok (.goto 30, 3) := by decide +kernel
theorem dX7_load_15 : decode cX7_load 15 = .ok (.iload_n 2, 1) := by decide +kernel
theorem dX7_load_16 : decode cX7_load 16 = .ok (.iconst 1, 1) := by decide +kernel
theorem dX7_load_17 : decode cX7_load 17 = .ok (.ldc 128, 2) := by decide +kernel
theorem dX7_load_19 : decode cX7_load 19 = .ok (.invokestatic 85, 3) := by decide +kernel
theorem dX7_load_22 : decode cX7_load 22 = .ok (.ifCond .ne 7, 3) := by decide +kernel
theorem dX7_load_25 : decode cX7_load 25 = .ok (.iconst 2, 1) := by decide +kernel
theorem dX7_load_26 : decode cX7_load 26 = .ok (.goto 16, 3) := by decide +kernel
theorem dX7_load_29 : decode cX7_load 29 = .ok (.aload_n 0, 1) := by decide +kernel
theorem dX7_load_30 : decode cX7_load 30 = .ok (.iload_n 1, 1) := by decide +kernel
theorem dX7_load_31 : decode cX7_load 31 = .ok (.invokevirtual 116, 3) := by decide +kernel
theorem dX7_load_34 : decode cX7_load 34 = .ok (.ifCond .ne 7, 3) := by decide +kernel
theorem dX7_load_37 : decode cX7_load 37 = .ok (.iconst 3, 1) := by decide +kernel
theorem dX7_load_38 : decode cX7_load 38 = .ok (.goto 4, 3) := by decide +kernel
theorem dX7_load_41 : decode cX7_load 41 = .ok (.iconst 0, 1) := by decide +kernel
theorem dX7_load_42 : decode cX7_load 42 = .ok (.invokevirtual 89, 3) := by decide +kernel
theorem dX7_load_45 : decode cX7_load 45 = .ok (.ifCond .eq 5, 3) := by decide +kernel
theorem dX7_load_48 : decode cX7_load 48 = .ok (.iconst 0, 1) := by decide +kernel
theorem dX7_load_49 : decode cX7_load 49 = .ok (.ireturn, 1) := by decide +kernel
theorem dX7_load_50 : decode cX7_load 50 = .ok (.iload_n 2, 1) := by decide +kernel
theorem dX7_load_51 : decode cX7_load 51 = .ok (.aload_n 0, 1) := by decide +kernel
theorem dX7_load_52 : decode cX7_load 52 = .ok (.iload_n 1, 1) := by decide +kernel
theorem dX7_load_53 : decode cX7_load 53 = .ok (.invokevirtual 113, 3) := by decide +kernel
theorem dX7_load_56 : decode cX7_load 56 = .ok (.if_icmp .le 12, 3) := by decide +kernel
theorem dX7_load_59 : decode cX7_load 59 = .ok (.aload_n 0, 1) := by decide +kernel
theorem dX7_load_60 : decode cX7_load 60 = .ok (.getfield 37, 3) := by decide +kernel
theorem dX7_load_63 : decode cX7_load 63 = .ok (.iload_n 1, 1) := by decide +kernel
theorem dX7_load_64 : decode cX7_load 64 = .ok (.iconst 2, 1) := by decide +kernel
theorem dX7_load_65 : decode cX7_load 65 = .ok (.iastore, 1) := by decide +kernel
theorem dX7_load_66 : decode cX7_load 66 = .ok (.iconst (-1), 1) := by decide +kernel
theorem dX7_load_67 : decode cX7_load 67 = .ok (.ireturn, 1) := by decide +kernel
theorem dX7_load_68 : decode cX7_load 68 = .ok (.aload_n 0, 1) := by decide +kernel
theorem dX7_load_69 : decode cX7_load 69 = .ok (.iload_n 1, 1) := by decide +kernel
theorem dX7_load_70 : decode cX7_load 70 = .ok (.iload_n 2, 1) := by decide +kernel
theorem dX7_load_71 : decode cX7_load 71 = .ok (.invokevirtual 129, 3) := by decide +kernel
theorem dX7_load_74 : decode cX7_load 74 = .ok (.aload_n 0, 1) := by decide +kernel
theorem dX7_load_75 : decode cX7_load 75 = .ok (.getfield 34, 3) := by decide +kernel
theorem dX7_load_78 : decode cX7_load 78 = .ok (.iload_n 1, 1) := by decide +kernel
theorem dX7_load_79 : decode cX7_load 79 = .ok (.iaload, 1) := by decide +kernel
theorem dX7_load_80 : decode cX7_load 80 = .ok (.ireturn, 1) := by decide +kernel
theorem dX7_sun_0 : decode cX7_sun 0 = .ok (.aload_n 0, 1) := by decide +kernel
theorem dX7_sun_1 : decode cX7_sun 1 = .ok (.iload_n 1, 1) := by decide +kernel
theorem dX7_sun_2 : decode cX7_sun 2 = .ok (.iconst 1, 1) := by decide +kernel
theorem dX7_sun_3 : decode cX7_sun 3 = .ok (.sipush 1000, 3) := by decide +kernel
theorem dX7_sun_6 : decode cX7_sun 6 = .ok (.invokestatic 85, 3) := by decide +kernel
theorem dX7_sun_9 : decode cX7_sun 9 = .ok (.ifCond .eq 7, 3) := by decide +kernel
theorem dX7_sun_12 : decode cX7_sun 12 = .ok (.iconst 0, 1) := by decide +kernel
theorem dX7_sun_13 : decode cX7_sun 13 = .ok (.goto 4, 3) := by decide +kernel
theorem dX7_sun_16 : decode cX7_sun 16 = .ok (.iconst 1, 1) := by decide +kernel
theorem dX7_sun_17 : decode cX7_sun 17 = .ok (.invokevirtual 89, 3) := by decide +kernel
theorem dX7_sun_20 : decode cX7_sun 20 = .ok (.ifCond .eq 5, 3) := by decide +kernel
theorem dX7_sun_23 : decode cX7_sun 23 = .ok (.iconst 0, 1) := by decide +kernel
theorem dX7_sun_24 : decode cX7_sun 24 = .ok (.ireturn, 1) := by decide +kernel
theorem dX7_sun_25 : decode cX7_sun 25 = .ok (.iconst 0, 1) := by decide +kernel
theorem dX7_sun_26 : decode cX7_sun 26 = .ok (.istore_n 2, 1) := by decide +kernel
theorem dX7_sun_27 : decode cX7_sun 27 = .ok (.iconst 0, 1) := by decide +kernel
theorem dX7_sun_28 : decode cX7_sun 28 = .ok (.istore_n 3, 1) := by decide +kernel
theorem dX7_sun_29 : decode cX7_sun 29 = .ok (.iload_n 3, 1) := by decide +kernel
theorem dX7_sun_30 : decode cX7_sun 30 = .ok (.aload_n 0, 1) := by decide +kernel
theorem dX7_sun_31 : decode cX7_sun 31 = .ok (.getfield 82, 3) := by decide +kernel
theorem dX7_sun_34 : decode cX7_sun 34 = .ok (.if_icmp .ge 38, 3) := by decide +kernel
theorem dX7_sun_37 : decode cX7_sun 37 = .ok (.iload_n 2, 1) := by decide +kernel
theorem dX7_sun_38 : decode cX7_sun 38 = .ok (.aload_n 0, 1) := by decide +kernel
theorem dX7_sun_39 : decode cX7_sun 39 = .ok (.getfield 37, 3) := by decide +kernel
theorem dX7_sun_42 : decode cX7_sun 42 = .ok (.iload_n 3, 1) := by decide +kernel
theorem dX7_sun_43 : decode cX7_sun 43 = .ok (.iaload, 1) := by decide +kernel
theorem dX7_sun_44 : decode cX7_sun 44 = .ok (.ifCond .ne 19, 3) := by decide +kernel
theorem dX7_sun_47 : decode cX7_sun 47 = .ok (.aload_n 0, 1) := by decide +kernel
theorem dX7_sun_48 : decode cX7_sun 48 = .ok (.iload_n 3, 1) := by decide +kernel
theorem dX7_sun_49 : decode cX7_sun 49 = .ok (.iload_n 1, 1) := by decide +kernel
theorem dX7_sun_50 : decode cX7_sun 50 = .ok (.bipush 10, 2) := by decide +kernel
theorem dX7_sun_52 : decode cX7_sun 52 = .ok (.idiv, 1) := by decide +kernel
theorem dX7_sun_53 : decode cX7_sun 53 = .ok (.invokevirtual 125, 3) := by decide +kernel
theorem dX7_sun_56 : decode cX7_sun 56 = .ok (.ifCond .eq 7, 3) := by decide +kernel
theorem dX7_sun_59 : decode cX7_sun 59 = .ok (.iconst 1, 1) := by decide +kernel
theorem dX7_sun_60 : decode cX7_sun 60 = .ok (.goto 4, 3) := by decide +kernel
theorem dX7_sun_63 : decode cX7_sun 63 = .ok (.iconst 0, 1) := by decide +kernel
theorem dX7_sun_64 : decode cX7_sun 64 = .ok (.iadd, 1) := by decide +kernel
theorem dX7_sun_65 : decode cX7_sun 65 = .ok (.istore_n 2, 1) := by decide +kernel
theorem dX7_sun_66 : decode cX7_sun 66 = .ok (.iinc 3 1, 3) := by decide +kernel
theorem dX7_sun_69 : decode cX7_sun 69 = .ok (.goto (-40), 3) := by decide +kernel
theorem dX7_sun_72 : decode cX7_sun 72 = .ok (.iload_n 2, 1) := by decide +kernel
theorem dX7_sun_73 : decode cX7_sun 73 = .ok (.ireturn, 1) := by decide +kernel
theorem dX7_lineOf_0 : decode cX7_lineOf 0 = .ok (.aload_n 0, 1) := by decide +kernel
theorem dX7_lineOf_1 : decode cX7_lineOf 1 = .ok (.aload_n 0, 1) := by decide +kernel
theorem dX7_lineOf_2 : decode cX7_lineOf 2 = .ok (.iload_n 1, 1) := by decide +kernel
theorem dX7_lineOf_3 : decode cX7_lineOf 3 = .ok (.invokevirtual 106, 3) := by decide +kernel
theorem dX7_lineOf_6 : decode cX7_lineOf 6 = .ok (.ifCond .ne 7, 3) := by decide +kernel
theorem dX7_lineOf_9 : decode cX7_lineOf 9 = .ok (.iconst 1, 1) := by decide +kernel
theorem dX7_lineOf_10 : decode cX7_lineOf 10 = .ok (.goto 18, 3) := by decide +kernel
theorem dX7_lineOf_13 : decode cX7_lineOf 13 = .ok (.iload_n 2, 1) := by decide +kernel
theorem dX7_lineOf_14 : decode cX7_lineOf 14 = .ok (.iconst 0, 1) := by decide +kernel
theorem dX7_lineOf_15 : decode cX7_lineOf 15 = .ok (.bipush 9, 2) := by decide +kernel
theorem dX7_lineOf_17 : decode cX7_lineOf 17 = .ok (.invokestatic 85, 3) := by decide +kernel
theorem dX7_lineOf_20 : decode cX7_lineOf 20 = .ok (.ifCond .ne 7, 3) := by decide +kernel
theorem dX7_lineOf_23 : decode cX7_lineOf 23 = .ok (.iconst 2, 1) := by decide +kernel
theorem dX7_lineOf_24 : decode cX7_lineOf 24 = .ok (.goto 4, 3) := by decide +kernel
theorem dX7_lineOf_27 : decode cX7_lineOf 27 = .ok (.iconst 0, 1) := by decide +kernel
theorem dX7_lineOf_28 : decode cX7_lineOf 28 = .ok (.invokevirtual 89, 3) := by decide +kernel
theorem dX7_lineOf_31 : decode cX7_lineOf 31 = .ok (.ifCond .eq 5, 3) := by decide +kernel
theorem dX7_lineOf_34 : decode cX7_lineOf 34 = .ok (.iconst 0, 1) := by decide +kernel
theorem dX7_lineOf_35 : decode cX7_lineOf 35 = .ok (.ireturn, 1) := by decide +kernel
theorem dX7_lineOf_36 : decode cX7_lineOf 36 = .ok (.iload_n 2, 1) := by decide +kernel
theorem dX7_lineOf_37 : decode cX7_lineOf 37 = .ok (.iconst 5, 1) := by decide +kernel
theorem dX7_lineOf_38 : decode cX7_lineOf 38 = .ok (.if_icmp .ge 65, 3) := by decide +kernel
theorem dX7_lineOf_41 : decode cX7_lineOf 41 = .ok (.iload_n 2, 1) := by decide +kernel
theorem dX7_lineOf_42 : decode cX7_lineOf 42 = .ok (.ifCond .ne 12, 3) := by decide +kernel
theorem dX7_lineOf_45 : decode cX7_lineOf 45 = .ok (.aload_n 0, 1) := by decide +kernel
theorem dX7_lineOf_46 : decode cX7_lineOf 46 = .ok (.getfield 16, 3) := by decide +kernel
theorem dX7_lineOf_49 : decode cX7_lineOf 49 = .ok (.iload_n 1, 1) := by decide +kernel
theorem dX7_lineOf_50 : decode cX7_lineOf 50 = .ok (.iaload, 1) := by decide +kernel
theorem dX7_lineOf_51 : decode cX7_lineOf 51 = .ok (.goto 51, 3) := by decide +kernel
theorem dX7_lineOf_54 : decode cX7_lineOf 54 = .ok (.iload_n 2, 1) := by decide +kernel
theorem dX7_lineOf_55 : decode cX7_lineOf 55 = .ok (.iconst 1, 1) := by decide +kernel
theorem dX7_lineOf_56 : decode cX7_lineOf 56 = .ok (.if_icmp .ne 12, 3) := by decide +kernel
theorem dX7_lineOf_59 : decode cX7_lineOf 59 = .ok (.aload_n 0, 1) := by decide +kernel
theorem dX7_lineOf_60 : decode cX7_lineOf 60 = .ok (.getfield 19, 3) := by decide +kernel
theorem dX7_lineOf_63 : decode cX7_lineOf 63 = .ok (.iload_n 1, 1) := by decide +kernel
theorem dX7_lineOf_64 : decode cX7_lineOf 64 = .ok (.iaload, 1) := by decide +kernel
theorem dX7_lineOf_65 : decode cX7_lineOf 65 = .ok (.goto 37, 3) := by decide +kernel
theorem dX7_lineOf_68 : decode cX7_lineOf 68 = .ok (.iload_n 2, 1) := by decide +kernel
theorem dX7_lineOf_69 : decode cX7_lineOf 69 = .ok (.iconst 2, 1) := by decide +kernel
theorem dX7_lineOf_70 : decode cX7_lineOf 70 = .ok (.if_icmp .ne 12, 3) := by decide +kernel
theorem dX7_lineOf_73 : decode cX7_lineOf 73 = .ok (.aload_n 0, 1) := by decide +kernel
theorem dX7_lineOf_74 : decode cX7_lineOf 74 = .ok (.getfield 22, 3) := by decide +kernel
theorem dX7_lineOf_77 : decode cX7_lineOf 77 = .ok (.iload_n 1, 1) := by decide +kernel
theorem dX7_lineOf_78 : decode cX7_lineOf 78 = .ok (.iaload, 1) := by decide +kernel
theorem dX7_lineOf_79 : decode cX7_lineOf 79 = .ok (.goto 23, 3) := by decide +kernel
theorem dX7_lineOf_82 : decode cX7_lineOf 82 = .ok (.iload_n 2, 1) := by decide +kernel
theorem dX7_lineOf_83 : decode cX7_lineOf 83 = .ok (.iconst 3, 1) := by decide +kernel
theorem dX7_lineOf_84 : decode cX7_lineOf 84 = .ok (.if_icmp .ne 12, 3) := by decide +kernel
theorem dX7_lineOf_87 : decode cX7_lineOf 87 = .ok (.aload_n 0, 1) := by decide +kernel
theorem dX7_lineOf_88 : decode cX7_lineOf 88 = .ok (.getfield 25, 3) := by decide +kernel
theorem dX7_lineOf_91 : decode cX7_lineOf 91 = .ok (.iload_n 1, 1) := by decide +kernel
theorem dX7_lineOf_92 : decode cX7_lineOf 92 = .ok (.iaload, 1) := by decide +kernel
theorem dX7_lineOf_93 : decode cX7_lineOf 93 = .ok (.goto 9, 3) := by decide +kernel
theorem dX7_lineOf_96 : decode cX7_lineOf 96 = .ok (.aload_n 0, 1) := by decide +kernel
theorem dX7_lineOf_97 : decode cX7_lineOf 97 = .ok (.getfield 28, 3) := by decide +kernel
theorem dX7_lineOf_100 : decode cX7_lineOf 100 = .ok (.iload_n 1, 1) := by decide +kernel
theorem dX7_lineOf_101 : decode cX7_lineOf 101 = .ok (.iaload, 1) := by decide +kernel
theorem dX7_lineOf_102 : decode cX7_lineOf 102 = .ok (.ireturn, 1) := by decide +kernel
theorem dX7_lineOf_103 : decode cX7_lineOf 103 = .ok (.iload_n 2, 1) := by decide +kernel
theorem dX7_lineOf_104 : decode cX7_lineOf 104 = .ok (.bipush 8, 2) := by decide +kernel
theorem dX7_lineOf_106 : decode cX7_lineOf 106 = .ok (.if_icmp .ge 39, 3) := by decide +kernel
theorem dX7_lineOf_109 : decode cX7_lineOf 109 = .ok (.iload_n 2, 1) := by decide +kernel
theorem dX7_lineOf_110 : decode cX7_lineOf 110 = .ok (.iconst 5, 1) := by decide +kernel
theorem dX7_lineOf_111 : decode cX7_lineOf 111 = .ok (.if_icmp .ne 12, 3) := by decide +kernel
theorem dX7_lineOf_114 : decode cX7_lineOf 114 = .ok (.aload_n 0, 1) := by decide +kernel
theorem dX7_lineOf_115 : decode cX7_lineOf 115 = .ok (.getfield 31, 3) := by decide +kernel
theorem dX7_lineOf_118 : decode cX7_lineOf 118 = .ok (.iload_n 1, 1) := by decide +kernel
theorem dX7_lineOf_119 : decode cX7_lineOf 119 = .ok (.iaload, 1) := by decide +kernel
theorem dX7_lineOf_120 : decode cX7_lineOf 120 = .ok (.goto 24, 3) := by decide +kernel
theorem dX7_lineOf_123 : decode cX7_lineOf 123 = .ok (.iload_n 2, 1) := by decide +kernel
theorem dX7_lineOf_124 : decode cX7_lineOf 124 = .ok (.bipush 6, 2) := by decide +kernel
theorem dX7_lineOf_126 : decode cX7_lineOf 126 = .ok (.if_icmp .ne 12, 3) := by decide +kernel
theorem dX7_lineOf_129 : decode cX7_lineOf 129 = .ok (.aload_n 0, 1) := by decide +kernel
theorem dX7_lineOf_130 : decode cX7_lineOf 130 = .ok (.getfield 34, 3) := by decide +kernel
theorem dX7_lineOf_133 : decode cX7_lineOf 133 = .ok (.iload_n 1, 1) := by decide +kernel
theorem dX7_lineOf_134 : decode cX7_lineOf 134 = .ok (.iaload, 1) := by decide +kernel
theorem dX7_lineOf_135 : decode cX7_lineOf 135 = .ok (.goto 9, 3) := by decide +kernel
theorem dX7_lineOf_138 : decode cX7_lineOf 138 = .ok (.aload_n 0, 1) := by decide +kernel
theorem dX7_lineOf_139 : decode cX7_lineOf 139 = .ok (.getfield 37, 3) := by decide +kernel
theorem dX7_lineOf_142 : decode cX7_lineOf 142 = .ok (.iload_n 1, 1) := by decide +kernel
theorem dX7_lineOf_143 : decode cX7_lineOf 143 = .ok (.iaload, 1) := by decide +kernel
theorem dX7_lineOf_144 : decode cX7_lineOf 144 = .ok (.ireturn, 1) := by decide +kernel
theorem dX7_lineOf_145 : decode cX7_lineOf 145 = .ok (.iload_n 2, 1) := by decide +kernel
theorem dX7_lineOf_146 : decode cX7_lineOf 146 = .ok (.bipush 8, 2) := by decide +kernel
theorem dX7_lineOf_148 : decode cX7_lineOf 148 = .ok (.if_icmp .ne 11, 3) := by decide +kernel
theorem dX7_lineOf_151 : decode cX7_lineOf 151 = .ok (.aload_n 0, 1) := by decide +kernel
theorem dX7_lineOf_152 : decode cX7_lineOf 152 = .ok (.iload_n 1, 1) := by decide +kernel
theorem dX7_lineOf_153 : decode cX7_lineOf 153 = .ok (.invokevirtual 113, 3) := by decide +kernel
theorem dX7_lineOf_156 : decode cX7_lineOf 156 = .ok (.goto 16, 3) := by decide +kernel
theorem dX7_lineOf_159 : decode cX7_lineOf 159 = .ok (.aload_n 0, 1) := by decide +kernel
theorem dX7_lineOf_160 : decode cX7_lineOf 160 = .ok (.iload_n 1, 1) := by decide +kernel
theorem dX7_lineOf_161 : decode cX7_lineOf 161 = .ok (.invokevirtual 103, 3) := by decide +kernel
theorem dX7_lineOf_164 : decode cX7_lineOf 164 = .ok (.ifCond .eq 7, 3) := by decide +kernel
theorem dX7_lineOf_167 : decode cX7_lineOf 167 = .ok (.iconst 1, 1) := by decide +kernel
theorem dX7_lineOf_168 : decode cX7_lineOf 168 = .ok (.goto 4, 3) := by decide +kernel
theorem dX7_lineOf_171 : decode cX7_lineOf 171 = .ok (.iconst 0, 1) := by decide +kernel
theorem dX7_lineOf_172 : decode cX7_lineOf 172 = .ok (.ireturn, 1) := by decide +kernel
theorem dX7_yarns_0 : decode cX7_yarns 0 = .ok (.aload_n 0, 1) := by decide +kernel
theorem dX7_yarns_1 : decode cX7_yarns 1 = .ok (.aload_n 0, 1) := by decide +kernel
theorem dX7_yarns_2 : decode cX7_yarns 2 = .ok (.iload_n 1, 1) := by decide +kernel
theorem dX7_yarns_3 : decode cX7_yarns 3 = .ok (.invokevirtual 106, 3) := by decide +kernel
theorem dX7_yarns_6 : decode cX7_yarns 6 = .ok (.ifCond .eq 7, 3) := by decide +kernel
theorem dX7_yarns_9 : decode cX7_yarns 9 = .ok (.iconst 0, 1) := by decide +kernel
theorem dX7_yarns_10 : decode cX7_yarns 10 = .ok (.goto 4, 3) := by decide +kernel
theorem dX7_yarns_13 : decode cX7_yarns 13 = .ok (.iconst 1, 1) := by decide +kernel
theorem dX7_yarns_14 : decode cX7_yarns 14 = .ok (.invokevirtual 89, 3) := by decide +kernel
theorem dX7_yarns_17 : decode cX7_yarns 17 = .ok (.ifCond .eq 7, 3) := by decide +kernel
theorem dX7_yarns_20 : decode cX7_yarns 20 = .ok (.iconst 0, 1) := by decide +kernel
theorem dX7_yarns_21 : decode cX7_yarns 21 = .ok (.goto 9, 3) := by decide +kernel
theorem dX7_yarns_24 : decode cX7_yarns 24 = .ok (.aload_n 0, 1) := by decide +kernel
theorem dX7_yarns_25 : decode cX7_yarns 25 = .ok (.getfield 40, 3) := by decide +kernel
theorem dX7_yarns_28 : decode cX7_yarns 28 = .ok (.iload_n 1, 1) := by decide +kernel
theorem dX7_yarns_29 : decode cX7_yarns 29 = .ok (.iaload, 1) := by decide +kernel
theorem dX7_yarns_30 : decode cX7_yarns 30 = .ok (.ireturn, 1) := by decide +kernel
theorem dX7_rig_0 : decode cX7_rig 0 = .ok (.iload_n 2, 1) := by decide +kernel
theorem dX7_rig_1 : decode cX7_rig 1 = .ok (.iconst 1, 1) := by decide +kernel
theorem dX7_rig_2 : decode cX7_rig 2 = .ok (.bipush 6, 2) := by decide +kernel
theorem dX7_rig_4 : decode cX7_rig 4 = .ok (.invokestatic 85, 3) := by decide +kernel
theorem dX7_rig_7 : decode cX7_rig 7 = .ok (.ifCond .eq 17, 3) := by decide +kernel
theorem dX7_rig_10 : decode cX7_rig 10 = .ok (.iload_n 3, 1) := by decide +kernel
theorem dX7_rig_11 : decode cX7_rig 11 = .ok (.iconst 0, 1) := by decide +kernel
theorem dX7_rig_12 : decode cX7_rig 12 = .ok (.bipush 50, 2) := by decide +kernel
theorem dX7_rig_14 : decode cX7_rig 14 = .ok (.invokestatic 85, 3) := by decide +kernel
theorem dX7_rig_17 : decode cX7_rig 17 = .ok (.ifCond .eq 7, 3) := by decide +kernel
theorem dX7_rig_20 : decode cX7_rig 20 = .ok (.iconst 1, 1) := by decide +kernel
theorem dX7_rig_21 : decode cX7_rig 21 = .ok (.goto 4, 3) := by decide +kernel
theorem dX7_rig_24 : decode cX7_rig 24 = .ok (.iconst 0, 1) := by decide +kernel
theorem dX7_rig_25 : decode cX7_rig 25 = .ok (.istore 4, 2) := by decide +kernel
theorem dX7_rig_27 : decode cX7_rig 27 = .ok (.aload_n 0, 1) := by decide +kernel
theorem dX7_rig_28 : decode cX7_rig 28 = .ok (.iload_n 1, 1) := by decide +kernel
theorem dX7_rig_29 : decode cX7_rig 29 = .ok (.invokevirtual 106, 3) := by decide +kernel
theorem dX7_rig_32 : decode cX7_rig 32 = .ok (.istore 5, 2) := by decide +kernel
theorem dX7_rig_34 : decode cX7_rig 34 = .ok (.aload_n 0, 1) := by decide +kernel
theorem dX7_rig_35 : decode cX7_rig 35 = .ok (.iload 5, 2) := by decide +kernel
theorem dX7_rig_37 : decode cX7_rig 37 = .ok (.ifCond .ne 7, 3) := by decide +kernel
theorem dX7_rig_40 : decode cX7_rig 40 = .ok (.iconst 1, 1) := by decide +kernel
theorem dX7_rig_41 : decode cX7_rig 41 = .ok (.goto 34, 3) := by decide +kernel
theorem dX7_rig_44 : decode cX7_rig 44 = .ok (.iload 4, 2) := by decide +kernel
theorem dX7_rig_46 : decode cX7_rig 46 = .ok (.ifCond .ne 7, 3) := by decide +kernel
theorem dX7_rig_49 : decode cX7_rig 49 = .ok (.iconst 2, 1) := by decide +kernel
theorem dX7_rig_50 : decode cX7_rig 50 = .ok (.goto 25, 3) := by decide +kernel
theorem dX7_rig_53 : decode cX7_rig 53 = .ok (.aload_n 0, 1) := by decide +kernel
theorem dX7_rig_54 : decode cX7_rig 54 = .ok (.iload_n 1, 1) := by decide +kernel
theorem dX7_rig_55 : decode cX7_rig 55 = .ok (.invokevirtual 116, 3) := by decide +kernel
theorem dX7_rig_58 : decode cX7_rig 58 = .ok (.ifCond .eq 12, 3) := by decide +kernel
theorem dX7_rig_61 : decode cX7_rig 61 = .ok (.aload_n 0, 1) := by decide +kernel
theorem dX7_rig_62 : decode cX7_rig 62 = .ok (.getfield 133, 3) := by decide +kernel
theorem dX7_rig_65 : decode cX7_rig 65 = .ok (.bipush 12, 2) := by decide +kernel
theorem dX7_rig_67 : decode cX7_rig 67 = .ok (.if_icmp .ne 7, 3) := by decide +kernel
theorem dX7_rig_70 : decode cX7_rig 70 = .ok (.iconst 3, 1) := by decide +kernel
theorem dX7_rig_71 : decode cX7_rig 71 = .ok (.goto 4, 3) := by decide +kernel
theorem dX7_rig_74 : decode cX7_rig 74 = .ok (.iconst 0, 1) := by decide +kernel
theorem dX7_rig_75 : decode cX7_rig 75 = .ok (.invokevirtual 89, 3) := by decide +kernel
theorem dX7_rig_78 : decode cX7_rig 78 = .ok (.ifCond .eq 5, 3) := by decide +kernel
theorem dX7_rig_81 : decode cX7_rig 81 = .ok (.iconst 0, 1) := by decide +kernel
theorem dX7_rig_82 : decode cX7_rig 82 = .ok (.ireturn, 1) := by decide +kernel
theorem dX7_rig_83 : decode cX7_rig 83 = .ok (.aload_n 0, 1) := by decide +kernel
theorem dX7_rig_84 : decode cX7_rig 84 = .ok (.getfield 43, 3) := by decide +kernel
theorem dX7_rig_87 : decode cX7_rig 87 = .ok (.aload_n 0, 1) := by decide +kernel
theorem dX7_rig_88 : decode cX7_rig 88 = .ok (.getfield 133, 3) := by decide +kernel
theorem dX7_rig_91 : decode cX7_rig 91 = .ok (.iload_n 1, 1) := by decide +kernel
theorem dX7_rig_92 : decode cX7_rig 92 = .ok (.iastore, 1) := by decide +kernel
theorem dX7_rig_93 : decode cX7_rig 93 = .ok (.aload_n 0, 1) := by decide +kernel
theorem dX7_rig_94 : decode cX7_rig 94 = .ok (.getfield 46, 3) := by decide +kernel
theorem dX7_rig_97 : decode cX7_rig 97 = .ok (.aload_n 0, 1) := by decide +kernel
theorem dX7_rig_98 : decode cX7_rig 98 = .ok (.getfield 133, 3) := by decide +kernel
theorem dX7_rig_101 : decode cX7_rig 101 = .ok (.iload_n 2, 1) := by decide +kernel
theorem dX7_rig_102 : decode cX7_rig 102 = .ok (.iastore, 1) := by decide +kernel
theorem dX7_rig_103 : decode cX7_rig 103 = .ok (.aload_n 0, 1) := by decide +kernel
theorem dX7_rig_104 : decode cX7_rig 104 = .ok (.getfield 49, 3) := by decide +kernel
theorem dX7_rig_107 : decode cX7_rig 107 = .ok (.aload_n 0, 1) := by decide +kernel
theorem dX7_rig_108 : decode cX7_rig 108 = .ok (.getfield 133, 3) := by decide +kernel
theorem dX7_rig_111 : decode cX7_rig 111 = .ok (.iload_n 3, 1) := by decide +kernel
theorem dX7_rig_112 : decode cX7_rig 112 = .ok (.iastore, 1) := by decide +kernel
theorem dX7_rig_113 : decode cX7_rig 113 = .ok (.aload_n 0, 1) := by decide +kernel
theorem dX7_rig_114 : decode cX7_rig 114 = .ok (.dup, 1) := by decide +kernel
theorem dX7_rig_115 : decode cX7_rig 115 = .ok (.getfield 133, 3) := by decide +kernel
theorem dX7_rig_118 : decode cX7_rig 118 = .ok (.iconst 1, 1) := by decide +kernel
theorem dX7_rig_119 : decode cX7_rig 119 = .ok (.iadd, 1) := by decide +kernel
theorem dX7_rig_120 : decode cX7_rig 120 = .ok (.putfield 133, 3) := by decide +kernel
theorem dX7_rig_123 : decode cX7_rig 123 = .ok (.aload_n 0, 1) := by decide +kernel
theorem dX7_rig_124 : decode cX7_rig 124 = .ok (.getfield 133, 3) := by decide +kernel
theorem dX7_rig_127 : decode cX7_rig 127 = .ok (.iconst 1, 1) := by decide +kernel
theorem dX7_rig_128 : decode cX7_rig 128 = .ok (.isub, 1) := by decide +kernel
theorem dX7_rig_129 : decode cX7_rig 129 = .ok (.ireturn, 1) := by decide +kernel
theorem dX7_carried_0 : decode cX7_carried 0 = .ok (.lconst 0, 1) := by decide +kernel
theorem dX7_carried_1 : decode cX7_carried 1 = .ok (.lstore_n 3, 1) := by decide +kernel
theorem dX7_carried_2 : decode cX7_carried 2 = .ok (.iload_n 2, 1) := by decide +kernel
theorem dX7_carried_3 : decode cX7_carried 3 = .ok (.i2l, 1) := by decide +kernel
theorem dX7_carried_4 : decode cX7_carried 4 = .ok (.lstore 5, 2) := by decide +kernel
theorem dX7_carried_6 : decode cX7_carried 6 = .ok (.iconst 0, 1) := by decide +kernel
theorem dX7_carried_7 : decode cX7_carried 7 = .ok (.istore 7, 2) := by decide +kernel
theorem dX7_carried_9 : decode cX7_carried 9 = .ok (.iload 7, 2) := by decide +kernel
theorem dX7_carried_11 : decode cX7_carried 11 = .ok (.aload_n 0, 1) := by decide +kernel
theorem dX7_carried_12 : decode cX7_carried 12 = .ok (.getfield 46, 3) := by decide +kernel
theorem dX7_carried_15 : decode cX7_carried 15 = .ok (.iload_n 1, 1) := by decide +kernel
theorem dX7_carried_16 : decode cX7_carried 16 = .ok (.iaload, 1) := by decide +kernel
theorem dX7_carried_17 : decode cX7_carried 17 = .ok (.if_icmp .ge 33, 3) := by decide +kernel
theorem dX7_carried_20 : decode cX7_carried 20 = .ok (.lload_n 3, 1) := by decide +kernel
theorem dX7_carried_21 : decode cX7_carried 21 = .ok (.lload 5, 2) := by decide +kernel
theorem dX7_carried_23 : decode cX7_carried 23 = .ok (.ladd, 1) := by decide +kernel
theorem dX7_carried_24 : decode cX7_carried 24 = .ok (.lstore_n 3, 1) := by decide +kernel
theorem dX7_carried_25 : decode cX7_carried 25 = .ok (.lload 5, 2) := by decide +kernel
theorem dX7_carried_27 : decode cX7_carried 27 = .ok (.bipush 100, 2) := by decide +kernel
theorem dX7_carried_29 : decode cX7_carried 29 = .ok (.aload_n 0, 1) := by decide +kernel
theorem dX7_carried_30 : decode cX7_carried 30 = .ok (.getfield 49, 3) := by decide +kernel
theorem dX7_carried_33 : decode cX7_carried 33 = .ok (.iload_n 1, 1) := by decide +kernel
theorem dX7_carried_34 : decode cX7_carried 34 = .ok (.iaload, 1) := by decide +kernel
theorem dX7_carried_35 : decode cX7_carried 35 = .ok (.isub, 1) := by decide +kernel
theorem dX7_carried_36 : decode cX7_carried 36 = .ok (.i2l, 1) := by decide +kernel
theorem dX7_carried_37 : decode cX7_carried 37 = .ok (.lmul, 1) := by decide +kernel
theorem dX7_carried_38 : decode cX7_carried 38 = .ok (.ldc2_w 136, 3) := by decide +kernel
theorem dX7_carried_41 : decode cX7_carried 41 = .ok (.ldiv, 1) := by decide +kernel
theorem dX7_carried_42 : decode cX7_carried 42 = .ok (.lstore 5, 2) := by decide +kernel
theorem dX7_carried_44 : decode cX7_carried 44 = .ok (.iinc 7 1, 3) := by decide +kernel
theorem dX7_carried_47 : decode cX7_carried 47 = .ok (.goto (-38), 3) := by decide +kernel
theorem dX7_carried_50 : decode cX7_carried 50 = .ok (.lload_n 3, 1) := by decide +kernel
theorem dX7_carried_51 : decode cX7_carried 51 = .ok (.lreturn, 1) := by decide +kernel
theorem dX7_pullFor_0 : decode cX7_pullFor 0 = .ok (.iconst 0, 1) := by decide +kernel
theorem dX7_pullFor_1 : decode cX7_pullFor 1 = .ok (.istore_n 3, 1) := by decide +kernel
theorem dX7_pullFor_2 : decode cX7_pullFor 2 = .ok (.iload_n 2, 1) := by decide +kernel
theorem dX7_pullFor_3 : decode cX7_pullFor 3 = .ok (.istore 4, 2) := by decide +kernel
theorem dX7_pullFor_5 : decode cX7_pullFor 5 = .ok (.iload_n 3, 1) := by decide +kernel
theorem dX7_pullFor_6 : decode cX7_pullFor 6 = .ok (.iload 4, 2) := by decide +kernel
theorem dX7_pullFor_8 : decode cX7_pullFor 8 = .ok (.if_icmp .ge 62, 3) := by decide +kernel
theorem dX7_pullFor_11 : decode cX7_pullFor 11 = .ok (.iload_n 3, 1) := by decide +kernel
theorem dX7_pullFor_12 : decode cX7_pullFor 12 = .ok (.iload 4, 2) := by decide +kernel
theorem dX7_pullFor_14 : decode cX7_pullFor 14 = .ok (.iadd, 1) := by decide +kernel
theorem dX7_pullFor_15 : decode cX7_pullFor 15 = .ok (.iconst 2, 1) := by decide +kernel
theorem dX7_pullFor_16 : decode cX7_pullFor 16 = .ok (.idiv, 1) := by decide +kernel
theorem dX7_pullFor_17 : decode cX7_pullFor 17 = .ok (.istore 5, 2) := by decide +kernel
theorem dX7_pullFor_19 : decode cX7_pullFor 19 = .ok (.aload_n 0, 1) := by decide +kernel
theorem dX7_pullFor_20 : decode cX7_pullFor 20 = .ok (.iload_n 1, 1) := by decide +kernel
theorem dX7_pullFor_21 : decode cX7_pullFor 21 = .ok (.iload 5, 2) := by decide +kernel
theorem dX7_pullFor_23 : decode cX7_pullFor 23 = .ok (.invokevirtual 138, 3) := by decide +kernel
theorem dX7_pullFor_26 : decode cX7_pullFor 26 = .ok (.iload_n 2, 1) := by decide +kernel
theorem dX7_pullFor_27 : decode cX7_pullFor 27 = .ok (.i2l, 1) := by decide +kernel
theorem dX7_pullFor_28 : decode cX7_pullFor 28 = .ok (.lcmp, 1) := by decide +kernel
theorem dX7_pullFor_29 : decode cX7_pullFor 29 = .ok (.ifCond .lt 7, 3) := by decide +kernel
theorem dX7_pullFor_32 : decode cX7_pullFor 32 = .ok (.iconst 1, 1) := by decide +kernel
theorem dX7_pullFor_33 : decode cX7_pullFor 33 = .ok (.goto 4, 3) := by decide +kernel
theorem dX7_pullFor_36 : decode cX7_pullFor 36 = .ok (.iconst 0, 1) := by decide +kernel
theorem dX7_pullFor_37 : decode cX7_pullFor 37 = .ok (.istore 6, 2) := by decide +kernel
theorem dX7_pullFor_39 : decode cX7_pullFor 39 = .ok (.iload 6, 2) := by decide +kernel
theorem dX7_pullFor_41 : decode cX7_pullFor 41 = .ok (.ifCond .eq 7, 3) := by decide +kernel
theorem dX7_pullFor_44 : decode cX7_pullFor 44 = .ok (.iload_n 3, 1) := by decide +kernel
theorem dX7_pullFor_45 : decode cX7_pullFor 45 = .ok (.goto 7, 3) := by decide +kernel
theorem dX7_pullFor_48 : decode cX7_pullFor 48 = .ok (.iload 5, 2) := by decide +kernel
theorem dX7_pullFor_50 : decode cX7_pullFor 50 = .ok (.iconst 1, 1) := by decide +kernel
theorem dX7_pullFor_51 : decode cX7_pullFor 51 = .ok (.iadd, 1) := by decide +kernel
theorem dX7_pullFor_52 : decode cX7_pullFor 52 = .ok (.istore_n 3, 1) := by decide +kernel
theorem dX7_pullFor_53 : decode cX7_pullFor 53 = .ok (.iload 6, 2) := by decide +kernel
theorem dX7_pullFor_55 : decode cX7_pullFor 55 = .ok (.ifCond .eq 8, 3) := by decide +kernel
theorem dX7_pullFor_58 : decode cX7_pullFor 58 = .ok (.iload 5, 2) := by decide +kernel
theorem dX7_pullFor_60 : decode cX7_pullFor 60 = .ok (.goto 5, 3) := by decide +kernel
theorem dX7_pullFor_63 : decode cX7_pullFor 63 = .ok (.iload 4, 2) := by decide +kernel
theorem dX7_pullFor_65 : decode cX7_pullFor 65 = .ok (.istore 4, 2) := by decide +kernel
theorem dX7_pullFor_67 : decode cX7_pullFor 67 = .ok (.goto (-62), 3) := by decide +kernel
theorem dX7_pullFor_70 : decode cX7_pullFor 70 = .ok (.iload_n 3, 1) := by decide +kernel
theorem dX7_pullFor_71 : decode cX7_pullFor 71 = .ok (.ireturn, 1) := by decide +kernel
theorem dX7_isRig_0 : decode cX7_isRig 0 = .ok (.iload_n 1, 1) := by decide +kernel
theorem dX7_isRig_1 : decode cX7_isRig 1 = .ok (.iconst 0, 1) := by decide +kernel
theorem dX7_isRig_2 : decode cX7_isRig 2 = .ok (.aload_n 0, 1) := by decide +kernel
theorem dX7_isRig_3 : decode cX7_isRig 3 = .ok (.getfield 133, 3) := by decide +kernel
theorem dX7_isRig_6 : decode cX7_isRig 6 = .ok (.iconst 1, 1) := by decide +kernel
theorem dX7_isRig_7 : decode cX7_isRig 7 = .ok (.isub, 1) := by decide +kernel
theorem dX7_isRig_8 : decode cX7_isRig 8 = .ok (.invokestatic 85, 3) := by decide +kernel
theorem dX7_isRig_11 : decode cX7_isRig 11 = .ok (.ireturn, 1) := by decide +kernel
theorem dX7_pull_0 : decode cX7_pull 0 = .ok (.aload_n 0, 1) := by decide +kernel
theorem dX7_pull_1 : decode cX7_pull 1 = .ok (.aload_n 0, 1) := by decide +kernel
theorem dX7_pull_2 : decode cX7_pull 2 = .ok (.iload_n 1, 1) := by decide +kernel
theorem dX7_pull_3 : decode cX7_pull 3 = .ok (.invokevirtual 142, 3) := by decide +kernel
theorem dX7_pull_6 : decode cX7_pull 6 = .ok (.ifCond .ne 7, 3) := by decide +kernel
theorem dX7_pull_9 : decode cX7_pull 9 = .ok (.iconst 1, 1) := by decide +kernel
theorem dX7_pull_10 : decode cX7_pull 10 = .ok (.goto 18, 3) := by decide +kernel
theorem dX7_pull_13 : decode cX7_pull 13 = .ok (.iload_n 2, 1) := by decide +kernel
theorem dX7_pull_14 : decode cX7_pull 14 = .ok (.iconst 0, 1) := by decide +kernel
theorem dX7_pull_15 : decode cX7_pull 15 = .ok (.ldc 128, 2) := by decide +kernel
theorem dX7_pull_17 : decode cX7_pull 17 = .ok (.invokestatic 85, 3) := by decide +kernel
theorem dX7_pull_20 : decode cX7_pull 20 = .ok (.ifCond .ne 7, 3) := by decide +kernel
theorem dX7_pull_23 : decode cX7_pull 23 = .ok (.iconst 2, 1) := by decide +kernel
theorem dX7_pull_24 : decode cX7_pull 24 = .ok (.goto 4, 3) := by decide +kernel
theorem dX7_pull_27 : decode cX7_pull 27 = .ok (.iconst 0, 1) := by decide +kernel
theorem dX7_pull_28 : decode cX7_pull 28 = .ok (.invokevirtual 89, 3) := by decide +kernel
theorem dX7_pull_31 : decode cX7_pull 31 = .ok (.ifCond .eq 5, 3) := by decide +kernel
theorem dX7_pull_34 : decode cX7_pull 34 = .ok (.iconst 0, 1) := by decide +kernel
theorem dX7_pull_35 : decode cX7_pull 35 = .ok (.ireturn, 1) := by decide +kernel
theorem dX7_pull_36 : decode cX7_pull 36 = .ok (.aload_n 0, 1) := by decide +kernel
theorem dX7_pull_37 : decode cX7_pull 37 = .ok (.iload_n 1, 1) := by decide +kernel
theorem dX7_pull_38 : decode cX7_pull 38 = .ok (.iload_n 2, 1) := by decide +kernel
theorem dX7_pull_39 : decode cX7_pull 39 = .ok (.invokevirtual 145, 3) := by decide +kernel
theorem dX7_pull_42 : decode cX7_pull 42 = .ok (.ireturn, 1) := by decide +kernel
theorem dX7_may_0 : decode cX7_may 0 = .ok (.aload_n 0, 1) := by decide +kernel
theorem dX7_may_1 : decode cX7_may 1 = .ok (.getfield 43, 3) := by decide +kernel
theorem dX7_may_4 : decode cX7_may 4 = .ok (.iload_n 1, 1) := by decide +kernel
theorem dX7_may_5 : decode cX7_may 5 = .ok (.iaload, 1) := by decide +kernel
theorem dX7_may_6 : decode cX7_may 6 = .ok (.istore_n 3, 1) := by decide +kernel
theorem dX7_may_7 : decode cX7_may 7 = .ok (.aload_n 0, 1) := by decide +kernel
theorem dX7_may_8 : decode cX7_may 8 = .ok (.getfield 37, 3) := by decide +kernel
theorem dX7_may_11 : decode cX7_may 11 = .ok (.iload_n 3, 1) := by decide +kernel
theorem dX7_may_12 : decode cX7_may 12 = .ok (.iaload, 1) := by decide +kernel
theorem dX7_may_13 : decode cX7_may 13 = .ok (.ifCond .ne 18, 3) := by decide +kernel
theorem dX7_may_16 : decode cX7_may 16 = .ok (.iload_n 2, 1) := by decide +kernel
theorem dX7_may_17 : decode cX7_may 17 = .ok (.aload_n 0, 1) := by decide +kernel
theorem dX7_may_18 : decode cX7_may 18 = .ok (.iload_n 3, 1) := by decide +kernel
theorem dX7_may_19 : decode cX7_may 19 = .ok (.invokevirtual 113, 3) := by decide +kernel
theorem dX7_may_22 : decode cX7_may 22 = .ok (.iconst 5, 1) := by decide +kernel
theorem dX7_may_23 : decode cX7_may 23 = .ok (.idiv, 1) := by decide +kernel
theorem dX7_may_24 : decode cX7_may 24 = .ok (.if_icmp .gt 7, 3) := by decide +kernel
theorem dX7_may_27 : decode cX7_may 27 = .ok (.iconst 1, 1) := by decide +kernel
theorem dX7_may_28 : decode cX7_may 28 = .ok (.goto 4, 3) := by decide +kernel
theorem dX7_may_31 : decode cX7_may 31 = .ok (.iconst 0, 1) := by decide +kernel
theorem dX7_may_32 : decode cX7_may 32 = .ok (.ireturn, 1) := by decide +kernel
theorem dX7_lift_0 : decode cX7_lift 0 = .ok (.aload_n 0, 1) := by decide +kernel
theorem dX7_lift_1 : decode cX7_lift 1 = .ok (.aload_n 0, 1) := by decide +kernel
theorem dX7_lift_2 : decode cX7_lift 2 = .ok (.iload_n 1, 1) := by decide +kernel
theorem dX7_lift_3 : decode cX7_lift 3 = .ok (.invokevirtual 142, 3) := by decide +kernel
theorem dX7_lift_6 : decode cX7_lift 6 = .ok (.ifCond .ne 7, 3) := by decide +kernel
theorem dX7_lift_9 : decode cX7_lift 9 = .ok (.iconst 1, 1) := by decide +kernel
theorem dX7_lift_10 : decode cX7_lift 10 = .ok (.goto 18, 3) := by decide +kernel
theorem dX7_lift_13 : decode cX7_lift 13 = .ok (.iload_n 2, 1) := by decide +kernel
theorem dX7_lift_14 : decode cX7_lift 14 = .ok (.iconst 1, 1) := by decide +kernel
theorem dX7_lift_15 : decode cX7_lift 15 = .ok (.ldc 128, 2) := by decide +kernel
theorem dX7_lift_17 : decode cX7_lift 17 = .ok (.invokestatic 85, 3) := by decide +kernel
theorem dX7_lift_20 : decode cX7_lift 20 = .ok (.ifCond .ne 7, 3) := by decide +kernel
theorem dX7_lift_23 : decode cX7_lift 23 = .ok (.iconst 2, 1) := by decide +kernel
theorem dX7_lift_24 : decode cX7_lift 24 = .ok (.goto 4, 3) := by decide +kernel
theorem dX7_lift_27 : decode cX7_lift 27 = .ok (.iconst 0, 1) := by decide +kernel
theorem dX7_lift_28 : decode cX7_lift 28 = .ok (.invokevirtual 89, 3) := by decide +kernel
theorem dX7_lift_31 : decode cX7_lift 31 = .ok (.ifCond .eq 5, 3) := by decide +kernel
theorem dX7_lift_34 : decode cX7_lift 34 = .ok (.iconst 0, 1) := by decide +kernel
theorem dX7_lift_35 : decode cX7_lift 35 = .ok (.ireturn, 1) := by decide +kernel
theorem dX7_lift_36 : decode cX7_lift 36 = .ok (.aload_n 0, 1) := by decide +kernel
theorem dX7_lift_37 : decode cX7_lift 37 = .ok (.iload_n 1, 1) := by decide +kernel
theorem dX7_lift_38 : decode cX7_lift 38 = .ok (.iload_n 2, 1) := by decide +kernel
theorem dX7_lift_39 : decode cX7_lift 39 = .ok (.invokevirtual 145, 3) := by decide +kernel
theorem dX7_lift_42 : decode cX7_lift 42 = .ok (.istore_n 3, 1) := by decide +kernel
theorem dX7_lift_43 : decode cX7_lift 43 = .ok (.aload_n 0, 1) := by decide +kernel
theorem dX7_lift_44 : decode cX7_lift 44 = .ok (.iload_n 1, 1) := by decide +kernel
theorem dX7_lift_45 : decode cX7_lift 45 = .ok (.iload_n 3, 1) := by decide +kernel
theorem dX7_lift_46 : decode cX7_lift 46 = .ok (.invokevirtual 148, 3) := by decide +kernel
theorem dX7_lift_49 : decode cX7_lift 49 = .ok (.ifCond .ne 5, 3) := by decide +kernel
theorem dX7_lift_52 : decode cX7_lift 52 = .ok (.iconst 0, 1) := by decide +kernel
theorem dX7_lift_53 : decode cX7_lift 53 = .ok (.ireturn, 1) := by decide +kernel
theorem dX7_lift_54 : decode cX7_lift 54 = .ok (.aload_n 0, 1) := by decide +kernel
theorem dX7_lift_55 : decode cX7_lift 55 = .ok (.aload_n 0, 1) := by decide +kernel
theorem dX7_lift_56 : decode cX7_lift 56 = .ok (.getfield 43, 3) := by decide +kernel
theorem dX7_lift_59 : decode cX7_lift 59 = .ok (.iload_n 1, 1) := by decide +kernel
theorem dX7_lift_60 : decode cX7_lift 60 = .ok (.iaload, 1) := by decide +kernel
theorem dX7_lift_61 : decode cX7_lift 61 = .ok (.iload_n 3, 1) := by decide +kernel
theorem dX7_lift_62 : decode cX7_lift 62 = .ok (.invokevirtual 129, 3) := by decide +kernel
theorem dX7_lift_65 : decode cX7_lift 65 = .ok (.iconst 1, 1) := by decide +kernel
theorem dX7_lift_66 : decode cX7_lift 66 = .ok (.ireturn, 1) := by decide +kernel
theorem dX7_series_0 : decode cX7_series 0 = .ok (.aload_n 0, 1) := by decide +kernel
theorem dX7_series_1 : decode cX7_series 1 = .ok (.iload_n 1, 1) := by decide +kernel
theorem dX7_series_2 : decode cX7_series 2 = .ok (.invokevirtual 142, 3) := by decide +kernel
theorem dX7_series_5 : decode cX7_series 5 = .ok (.ifCond .eq 15, 3) := by decide +kernel
theorem dX7_series_8 : decode cX7_series 8 = .ok (.aload_n 0, 1) := by decide +kernel
theorem dX7_series_9 : decode cX7_series 9 = .ok (.iload_n 2, 1) := by decide +kernel
theorem dX7_series_10 : decode cX7_series 10 = .ok (.invokevirtual 142, 3) := by decide +kernel
theorem dX7_series_13 : decode cX7_series 13 = .ok (.ifCond .eq 7, 3) := by decide +kernel
theorem dX7_series_16 : decode cX7_series 16 = .ok (.iconst 1, 1) := by decide +kernel
theorem dX7_series_17 : decode cX7_series 17 = .ok (.goto 4, 3) := by decide +kernel
theorem dX7_series_20 : decode cX7_series 20 = .ok (.iconst 0, 1) := by decide +kernel
theorem dX7_series_21 : decode cX7_series 21 = .ok (.istore 4, 2) := by decide +kernel
theorem dX7_series_23 : decode cX7_series 23 = .ok (.aload_n 0, 1) := by decide +kernel
theorem dX7_series_24 : decode cX7_series 24 = .ok (.iload 4, 2) := by decide +kernel
theorem dX7_series_26 : decode cX7_series 26 = .ok (.ifCond .ne 7, 3) := by decide +kernel
theorem dX7_series_29 : decode cX7_series 29 = .ok (.iconst 1, 1) := by decide +kernel
theorem dX7_series_30 : decode cX7_series 30 = .ok (.goto 23, 3) := by decide +kernel
theorem dX7_series_33 : decode cX7_series 33 = .ok (.iload_n 1, 1) := by decide +kernel
theorem dX7_series_34 : decode cX7_series 34 = .ok (.iload_n 2, 1) := by decide +kernel
theorem dX7_series_35 : decode cX7_series 35 = .ok (.if_icmp .eq 13, 3) := by decide +kernel
theorem dX7_series_38 : decode cX7_series 38 = .ok (.iload_n 3, 1) := by decide +kernel
theorem dX7_series_39 : decode cX7_series 39 = .ok (.iconst 0, 1) := by decide +kernel
theorem dX7_series_40 : decode cX7_series 40 = .ok (.ldc 128, 2) := by decide +kernel
theorem dX7_series_42 : decode cX7_series 42 = .ok (.invokestatic 85, 3) := by decide +kernel
theorem dX7_series_45 : decode cX7_series 45 = .ok (.ifCond .ne 7, 3) := by decide +kernel
theorem dX7_series_48 : decode cX7_series 48 = .ok (.iconst 2, 1) := by decide +kernel
theorem dX7_series_49 : decode cX7_series 49 = .ok (.goto 4, 3) := by decide +kernel
theorem dX7_series_52 : decode cX7_series 52 = .ok (.iconst 0, 1) := by decide +kernel
theorem dX7_series_53 : decode cX7_series 53 = .ok (.invokevirtual 89, 3) := by decide +kernel
theorem dX7_series_56 : decode cX7_series 56 = .ok (.ifCond .eq 5, 3) := by decide +kernel
theorem dX7_series_59 : decode cX7_series 59 = .ok (.iconst 0, 1) := by decide +kernel
theorem dX7_series_60 : decode cX7_series 60 = .ok (.ireturn, 1) := by decide +kernel
theorem dX7_series_61 : decode cX7_series 61 = .ok (.aload_n 0, 1) := by decide +kernel
theorem dX7_series_62 : decode cX7_series 62 = .ok (.iload_n 2, 1) := by decide +kernel
theorem dX7_series_63 : decode cX7_series 63 = .ok (.iload_n 3, 1) := by decide +kernel
theorem dX7_series_64 : decode cX7_series 64 = .ok (.invokevirtual 145, 3) := by decide +kernel
theorem dX7_series_67 : decode cX7_series 67 = .ok (.istore 5, 2) := by decide +kernel
theorem dX7_series_69 : decode cX7_series 69 = .ok (.aload_n 0, 1) := by decide +kernel
theorem dX7_series_70 : decode cX7_series 70 = .ok (.iload_n 1, 1) := by decide +kernel
theorem dX7_series_71 : decode cX7_series 71 = .ok (.iload 5, 2) := by decide +kernel
theorem dX7_series_73 : decode cX7_series 73 = .ok (.invokevirtual 145, 3) := by decide +kernel
theorem dX7_series_76 : decode cX7_series 76 = .ok (.istore 6, 2) := by decide +kernel
theorem dX7_series_78 : decode cX7_series 78 = .ok (.aload_n 0, 1) := by decide +kernel
theorem dX7_series_79 : decode cX7_series 79 = .ok (.iload_n 2, 1) := by decide +kernel
theorem dX7_series_80 : decode cX7_series 80 = .ok (.iload 5, 2) := by decide +kernel
theorem dX7_series_82 : decode cX7_series 82 = .ok (.invokevirtual 148, 3) := by decide +kernel
theorem dX7_series_85 : decode cX7_series 85 = .ok (.ifCond .eq 18, 3) := by decide +kernel
theorem dX7_series_88 : decode cX7_series 88 = .ok (.aload_n 0, 1) := by decide +kernel
theorem dX7_series_89 : decode cX7_series 89 = .ok (.iload_n 1, 1) := by decide +kernel
theorem dX7_series_90 : decode cX7_series 90 = .ok (.iload 6, 2) := by decide +kernel
theorem dX7_series_92 : decode cX7_series 92 = .ok (.invokevirtual 148, 3) := by decide +kernel
theorem dX7_series_95 : decode cX7_series 95 = .ok (.ifCond .eq 8, 3) := by decide +kernel
theorem dX7_series_98 : decode cX7_series 98 = .ok (.iload 6, 2) := by decide +kernel
theorem dX7_series_100 : decode cX7_series 100 = .ok (.goto 4, 3) := by decide +kernel
theorem dX7_series_103 : decode cX7_series 103 = .ok (.iconst (-1), 1) := by decide +kernel
theorem dX7_series_104 : decode cX7_series 104 = .ok (.ireturn, 1) := by decide +kernel
theorem dX7_holds_0 : decode cX7_holds 0 = .ok (.iload_n 1, 1) := by decide +kernel
theorem dX7_holds_1 : decode cX7_holds 1 = .ok (.iconst 0, 1) := by decide +kernel
theorem dX7_holds_2 : decode cX7_holds 2 = .ok (.bipush 20, 2) := by decide +kernel
theorem dX7_holds_4 : decode cX7_holds 4 = .ok (.invokestatic 85, 3) := by decide +kernel
theorem dX7_holds_7 : decode cX7_holds 7 = .ok (.ifCond .eq 39, 3) := by decide +kernel
theorem dX7_holds_10 : decode cX7_holds 10 = .ok (.iload_n 2, 1) := by decide +kernel
theorem dX7_holds_11 : decode cX7_holds 11 = .ok (.iconst 0, 1) := by decide +kernel
theorem dX7_holds_12 : decode cX7_holds 12 = .ok (.bipush 100, 2) := by decide +kernel
theorem dX7_holds_14 : decode cX7_holds 14 = .ok (.invokestatic 85, 3) := by decide +kernel
theorem dX7_holds_17 : decode cX7_holds 17 = .ok (.ifCond .eq 29, 3) := by decide +kernel
theorem dX7_holds_20 : decode cX7_holds 20 = .ok (.iload_n 3, 1) := by decide +kernel
theorem dX7_holds_21 : decode cX7_holds 21 = .ok (.iconst 0, 1) := by decide +kernel
theorem dX7_holds_22 : decode cX7_holds 22 = .ok (.sipush 1000, 3) := by decide +kernel
theorem dX7_holds_25 : decode cX7_holds 25 = .ok (.invokestatic 85, 3) := by decide +kernel
theorem dX7_holds_28 : decode cX7_holds 28 = .ok (.ifCond .eq 18, 3) := by decide +kernel
theorem dX7_holds_31 : decode cX7_holds 31 = .ok (.iload 4, 2) := by decide +kernel
theorem dX7_holds_33 : decode cX7_holds 33 = .ok (.iconst 0, 1) := by decide +kernel
theorem dX7_holds_34 : decode cX7_holds 34 = .ok (.bipush 50, 2) := by decide +kernel
theorem dX7_holds_36 : decode cX7_holds 36 = .ok (.invokestatic 85, 3) := by decide +kernel
theorem dX7_holds_39 : decode cX7_holds 39 = .ok (.ifCond .eq 7, 3) := by decide +kernel
theorem dX7_holds_42 : decode cX7_holds 42 = .ok (.iconst 1, 1) := by decide +kernel
theorem dX7_holds_43 : decode cX7_holds 43 = .ok (.goto 4, 3) := by decide +kernel
theorem dX7_holds_46 : decode cX7_holds 46 = .ok (.iconst 0, 1) := by decide +kernel
theorem dX7_holds_47 : decode cX7_holds 47 = .ok (.istore 5, 2) := by decide +kernel
theorem dX7_holds_49 : decode cX7_holds 49 = .ok (.aload_n 0, 1) := by decide +kernel
theorem dX7_holds_50 : decode cX7_holds 50 = .ok (.iload 5, 2) := by decide +kernel
theorem dX7_holds_52 : decode cX7_holds 52 = .ok (.ifCond .eq 7, 3) := by decide +kernel
theorem dX7_holds_55 : decode cX7_holds 55 = .ok (.iconst 0, 1) := by decide +kernel
theorem dX7_holds_56 : decode cX7_holds 56 = .ok (.goto 4, 3) := by decide +kernel
theorem dX7_holds_59 : decode cX7_holds 59 = .ok (.iconst 1, 1) := by decide +kernel
theorem dX7_holds_60 : decode cX7_holds 60 = .ok (.invokevirtual 89, 3) := by decide +kernel
theorem dX7_holds_63 : decode cX7_holds 63 = .ok (.ifCond .eq 5, 3) := by decide +kernel
theorem dX7_holds_66 : decode cX7_holds 66 = .ok (.lconst 0, 1) := by decide +kernel
theorem dX7_holds_67 : decode cX7_holds 67 = .ok (.lreturn, 1) := by decide +kernel
theorem dX7_holds_68 : decode cX7_holds 68 = .ok (.iload_n 3, 1) := by decide +kernel
theorem dX7_holds_69 : decode cX7_holds 69 = .ok (.i2l, 1) := by decide +kernel
theorem dX7_holds_70 : decode cX7_holds 70 = .ok (.lstore 6, 2) := by decide +kernel
theorem dX7_holds_72 : decode cX7_holds 72 = .ok (.iconst 0, 1) := by decide +kernel
theorem dX7_holds_73 : decode cX7_holds 73 = .ok (.istore 8, 2) := by decide +kernel
theorem dX7_holds_75 : decode cX7_holds 75 = .ok (.iload 8, 2) := by decide +kernel
theorem dX7_holds_77 : decode cX7_holds 77 = .ok (.iload 4, 2) := by decide +kernel
theorem dX7_holds_79 : decode cX7_holds 79 = .ok (.if_icmp .ge 20, 3) := by decide +kernel
theorem dX7_holds_82 : decode cX7_holds 82 = .ok (.lload 6, 2) := by decide +kernel
theorem dX7_holds_84 : decode cX7_holds 84 = .ok (.lload 6, 2) := by decide +kernel
theorem dX7_holds_86 : decode cX7_holds 86 = .ok (.ldc2_w 123, 3) := by decide +kernel
theorem dX7_holds_89 : decode cX7_holds 89 = .ok (.ldiv, 1) := by decide +kernel
theorem dX7_holds_90 : decode cX7_holds 90 = .ok (.lsub, 1) := by decide +kernel
theorem dX7_holds_91 : decode cX7_holds 91 = .ok (.lstore 6, 2) := by decide +kernel
theorem dX7_holds_93 : decode cX7_holds 93 = .ok (.iinc 8 1, 3) := by decide +kernel
theorem dX7_holds_96 : decode cX7_holds 96 = .ok (.goto (-21), 3) := by decide +kernel
theorem dX7_holds_99 : decode cX7_holds 99 = .ok (.iconst 0, 1) := by decide +kernel
theorem dX7_holds_100 : decode cX7_holds 100 = .ok (.istore 8, 2) := by decide +kernel
theorem dX7_holds_102 : decode cX7_holds 102 = .ok (.iload 8, 2) := by decide +kernel
theorem dX7_holds_104 : decode cX7_holds 104 = .ok (.iload_n 1, 1) := by decide +kernel
theorem dX7_holds_105 : decode cX7_holds 105 = .ok (.if_icmp .ge 23, 3) := by decide +kernel
theorem dX7_holds_108 : decode cX7_holds 108 = .ok (.lload 6, 2) := by decide +kernel
theorem dX7_holds_110 : decode cX7_holds 110 = .ok (.bipush 100, 2) := by decide +kernel
theorem dX7_holds_112 : decode cX7_holds 112 = .ok (.iload_n 2, 1) := by decide +kernel
theorem dX7_holds_113 : decode cX7_holds 113 = .ok (.iadd, 1) := by decide +kernel
theorem dX7_holds_114 : decode cX7_holds 114 = .ok (.i2l, 1) := by decide +kernel
theorem dX7_holds_115 : decode cX7_holds 115 = .ok (.lmul, 1) := by decide +kernel
theorem dX7_holds_116 : decode cX7_holds 116 = .ok (.ldc2_w 136, 3) := by decide +kernel
theorem dX7_holds_119 : decode cX7_holds 119 = .ok (.ldiv, 1) := by decide +kernel
theorem dX7_holds_120 : decode cX7_holds 120 = .ok (.lstore 6, 2) := by decide +kernel
theorem dX7_holds_122 : decode cX7_holds 122 = .ok (.iinc 8 1, 3) := by decide +kernel
theorem dX7_holds_125 : decode cX7_holds 125 = .ok (.goto (-23), 3) := by decide +kernel
theorem dX7_holds_128 : decode cX7_holds 128 = .ok (.lload 6, 2) := by decide +kernel
theorem dX7_holds_130 : decode cX7_holds 130 = .ok (.ldc2_w 151, 3) := by decide +kernel
theorem dX7_holds_133 : decode cX7_holds 133 = .ok (.lcmp, 1) := by decide +kernel
theorem dX7_holds_134 : decode cX7_holds 134 = .ok (.ifCond .le 9, 3) := by decide +kernel
theorem dX7_holds_137 : decode cX7_holds 137 = .ok (.ldc2_w 151, 3) := by decide +kernel
theorem dX7_holds_140 : decode cX7_holds 140 = .ok (.goto 5, 3) := by decide +kernel
theorem dX7_holds_143 : decode cX7_holds 143 = .ok (.lload 6, 2) := by decide +kernel
theorem dX7_holds_145 : decode cX7_holds 145 = .ok (.lreturn, 1) := by decide +kernel
theorem dX7_begin_0 : decode cX7_begin 0 = .ok (.aload_n 0, 1) := by decide +kernel
theorem dX7_begin_1 : decode cX7_begin 1 = .ok (.iload_n 1, 1) := by decide +kernel
theorem dX7_begin_2 : decode cX7_begin 2 = .ok (.putfield 52, 3) := by decide +kernel
theorem dX7_begin_5 : decode cX7_begin 5 = .ok (.aload_n 0, 1) := by decide +kernel
theorem dX7_begin_6 : decode cX7_begin 6 = .ok (.iconst 0, 1) := by decide +kernel
theorem dX7_begin_7 : decode cX7_begin 7 = .ok (.putfield 153, 3) := by decide +kernel
theorem dX7_begin_10 : decode cX7_begin 10 = .ok (.iconst 0, 1) := by decide +kernel
theorem dX7_begin_11 : decode cX7_begin 11 = .ok (.istore_n 2, 1) := by decide +kernel
theorem dX7_begin_12 : decode cX7_begin 12 = .ok (.iload_n 2, 1) := by decide +kernel
theorem dX7_begin_13 : decode cX7_begin 13 = .ok (.bipush 8, 2) := by decide +kernel
theorem dX7_begin_15 : decode cX7_begin 15 = .ok (.if_icmp .ge 16, 3) := by decide +kernel
theorem dX7_begin_18 : decode cX7_begin 18 = .ok (.aload_n 0, 1) := by decide +kernel
theorem dX7_begin_19 : decode cX7_begin 19 = .ok (.getfield 56, 3) := by decide +kernel
theorem dX7_begin_22 : decode cX7_begin 22 = .ok (.iload_n 2, 1) := by decide +kernel
theorem dX7_begin_23 : decode cX7_begin 23 = .ok (.iload_n 2, 1) := by decide +kernel
theorem dX7_begin_24 : decode cX7_begin 24 = .ok (.iastore, 1) := by decide +kernel
theorem dX7_begin_25 : decode cX7_begin 25 = .ok (.iinc 2 1, 3) := by decide +kernel
theorem dX7_begin_28 : decode cX7_begin 28 = .ok (.goto (-16), 3) := by decide +kernel
theorem dX7_begin_31 : decode cX7_begin 31 = .ok (.iconst 0, 1) := by decide +kernel
theorem dX7_begin_32 : decode cX7_begin 32 = .ok (.istore_n 2, 1) := by decide +kernel
theorem dX7_begin_33 : decode cX7_begin 33 = .ok (.iload_n 2, 1) := by decide +kernel
theorem dX7_begin_34 : decode cX7_begin 34 = .ok (.bipush 64, 2) := by decide +kernel
theorem dX7_begin_36 : decode cX7_begin 36 = .ok (.if_icmp .ge 16, 3) := by decide +kernel
theorem dX7_begin_39 : decode cX7_begin 39 = .ok (.aload_n 0, 1) := by decide +kernel
theorem dX7_begin_40 : decode cX7_begin 40 = .ok (.getfield 59, 3) := by decide +kernel
theorem dX7_begin_43 : decode cX7_begin 43 = .ok (.iload_n 2, 1) := by decide +kernel
theorem dX7_begin_44 : decode cX7_begin 44 = .ok (.iconst 0, 1) := by decide +kernel
theorem dX7_begin_45 : decode cX7_begin 45 = .ok (.iastore, 1) := by decide +kernel
theorem dX7_begin_46 : decode cX7_begin 46 = .ok (.iinc 2 1, 3) := by decide +kernel
theorem dX7_begin_49 : decode cX7_begin 49 = .ok (.goto (-16), 3) := by decide +kernel
theorem dX7_begin_52 : decode cX7_begin 52 = .ok (.return_, 1) := by decide +kernel
theorem dX7_braid_0 : decode cX7_braid 0 = .ok (.aload_n 0, 1) := by decide +kernel
theorem dX7_braid_1 : decode cX7_braid 1 = .ok (.iload_n 1, 1) := by decide +kernel
theorem dX7_braid_2 : decode cX7_braid 2 = .ok (.iconst 3, 1) := by decide +kernel
theorem dX7_braid_3 : decode cX7_braid 3 = .ok (.bipush 8, 2) := by decide +kernel
theorem dX7_braid_5 : decode cX7_braid 5 = .ok (.invokestatic 85, 3) := by decide +kernel
theorem dX7_braid_8 : decode cX7_braid 8 = .ok (.ifCond .eq 7, 3) := by decide +kernel
theorem dX7_braid_11 : decode cX7_braid 11 = .ok (.iconst 0, 1) := by decide +kernel
theorem dX7_braid_12 : decode cX7_braid 12 = .ok (.goto 4, 3) := by decide +kernel
theorem dX7_braid_15 : decode cX7_braid 15 = .ok (.iconst 1, 1) := by decide +kernel
theorem dX7_braid_16 : decode cX7_braid 16 = .ok (.invokevirtual 89, 3) := by decide +kernel
theorem dX7_braid_19 : decode cX7_braid 19 = .ok (.ifCond .eq 5, 3) := by decide +kernel
theorem dX7_braid_22 : decode cX7_braid 22 = .ok (.iconst 0, 1) := by decide +kernel
theorem dX7_braid_23 : decode cX7_braid 23 = .ok (.ireturn, 1) := by decide +kernel
theorem dX7_braid_24 : decode cX7_braid 24 = .ok (.aload_n 0, 1) := by decide +kernel
theorem dX7_braid_25 : decode cX7_braid 25 = .ok (.getfield 153, 3) := by decide +kernel
theorem dX7_braid_28 : decode cX7_braid 28 = .ok (.istore_n 2, 1) := by decide +kernel
theorem dX7_braid_29 : decode cX7_braid 29 = .ok (.aload_n 0, 1) := by decide +kernel
theorem dX7_braid_30 : decode cX7_braid 30 = .ok (.iload_n 1, 1) := by decide +kernel
theorem dX7_braid_31 : decode cX7_braid 31 = .ok (.invokevirtual 75, 3) := by decide +kernel
theorem dX7_braid_34 : decode cX7_braid 34 = .ok (.iload_n 2, 1) := by decide +kernel
theorem dX7_braid_35 : decode cX7_braid 35 = .ok (.ireturn, 1) := by decide +kernel
theorem dX7_cross_0 : decode cX7_cross 0 = .ok (.aload_n 0, 1) := by decide +kernel
theorem dX7_cross_1 : decode cX7_cross 1 = .ok (.iload_n 1, 1) := by decide +kernel
theorem dX7_cross_2 : decode cX7_cross 2 = .ok (.iconst 0, 1) := by decide +kernel
theorem dX7_cross_3 : decode cX7_cross 3 = .ok (.aload_n 0, 1) := by decide +kernel
theorem dX7_cross_4 : decode cX7_cross 4 = .ok (.getfield 52, 3) := by decide +kernel
theorem dX7_cross_7 : decode cX7_cross 7 = .ok (.iconst 2, 1) := by decide +kernel
theorem dX7_cross_8 : decode cX7_cross 8 = .ok (.isub, 1) := by decide +kernel
theorem dX7_cross_9 : decode cX7_cross 9 = .ok (.invokestatic 85, 3) := by decide +kernel
theorem dX7_cross_12 : decode cX7_cross 12 = .ok (.ifCond .ne 7, 3) := by decide +kernel
theorem dX7_cross_15 : decode cX7_cross 15 = .ok (.iconst 1, 1) := by decide +kernel
theorem dX7_cross_16 : decode cX7_cross 16 = .ok (.goto 17, 3) := by decide +kernel
theorem dX7_cross_19 : decode cX7_cross 19 = .ok (.aload_n 0, 1) := by decide +kernel
theorem dX7_cross_20 : decode cX7_cross 20 = .ok (.getfield 153, 3) := by decide +kernel
theorem dX7_cross_23 : decode cX7_cross 23 = .ok (.bipush 60, 2) := by decide +kernel
theorem dX7_cross_25 : decode cX7_cross 25 = .ok (.if_icmp .ne 7, 3) := by decide +kernel
theorem dX7_cross_28 : decode cX7_cross 28 = .ok (.iconst 2, 1) := by decide +kernel
theorem dX7_cross_29 : decode cX7_cross 29 = .ok (.goto 4, 3) := by decide +kernel
theorem dX7_cross_32 : decode cX7_cross 32 = .ok (.iconst 0, 1) := by decide +kernel
theorem dX7_cross_33 : decode cX7_cross 33 = .ok (.invokevirtual 89, 3) := by decide +kernel
theorem dX7_cross_36 : decode cX7_cross 36 = .ok (.ifCond .eq 5, 3) := by decide +kernel
theorem dX7_cross_39 : decode cX7_cross 39 = .ok (.iconst 0, 1) := by decide +kernel
theorem dX7_cross_40 : decode cX7_cross 40 = .ok (.ireturn, 1) := by decide +kernel
theorem dX7_cross_41 : decode cX7_cross 41 = .ok (.aload_n 0, 1) := by decide +kernel
theorem dX7_cross_42 : decode cX7_cross 42 = .ok (.getfield 56, 3) := by decide +kernel
theorem dX7_cross_45 : decode cX7_cross 45 = .ok (.iload_n 1, 1) := by decide +kernel
theorem dX7_cross_46 : decode cX7_cross 46 = .ok (.iaload, 1) := by decide +kernel
theorem dX7_cross_47 : decode cX7_cross 47 = .ok (.istore_n 3, 1) := by decide +kernel
theorem dX7_cross_48 : decode cX7_cross 48 = .ok (.aload_n 0, 1) := by decide +kernel
theorem dX7_cross_49 : decode cX7_cross 49 = .ok (.getfield 56, 3) := by decide +kernel
theorem dX7_cross_52 : decode cX7_cross 52 = .ok (.iload_n 1, 1) := by decide +kernel
theorem dX7_cross_53 : decode cX7_cross 53 = .ok (.iconst 1, 1) := by decide +kernel
theorem dX7_cross_54 : decode cX7_cross 54 = .ok (.iadd, 1) := by decide +kernel
theorem dX7_cross_55 : decode cX7_cross 55 = .ok (.iaload, 1) := by decide +kernel
theorem dX7_cross_56 : decode cX7_cross 56 = .ok (.istore 4, 2) := by decide +kernel
theorem dX7_cross_58 : decode cX7_cross 58 = .ok (.aload_n 0, 1) := by decide +kernel
theorem dX7_cross_59 : decode cX7_cross 59 = .ok (.getfield 56, 3) := by decide +kernel
theorem dX7_cross_62 : decode cX7_cross 62 = .ok (.iload_n 1, 1) := by decide +kernel
theorem dX7_cross_63 : decode cX7_cross 63 = .ok (.iload 4, 2) := by decide +kernel
theorem dX7_cross_65 : decode cX7_cross 65 = .ok (.iastore, 1) := by decide +kernel
theorem dX7_cross_66 : decode cX7_cross 66 = .ok (.aload_n 0, 1) := by decide +kernel
theorem dX7_cross_67 : decode cX7_cross 67 = .ok (.getfield 56, 3) := by decide +kernel
theorem dX7_cross_70 : decode cX7_cross 70 = .ok (.iload_n 1, 1) := by decide +kernel
theorem dX7_cross_71 : decode cX7_cross 71 = .ok (.iconst 1, 1) := by decide +kernel
theorem dX7_cross_72 : decode cX7_cross 72 = .ok (.iadd, 1) := by decide +kernel
theorem dX7_cross_73 : decode cX7_cross 73 = .ok (.iload_n 3, 1) := by decide +kernel
theorem dX7_cross_74 : decode cX7_cross 74 = .ok (.iastore, 1) := by decide +kernel
theorem dX7_cross_75 : decode cX7_cross 75 = .ok (.aload_n 0, 1) := by decide +kernel
theorem dX7_cross_76 : decode cX7_cross 76 = .ok (.getfield 59, 3) := by decide +kernel
theorem dX7_cross_79 : decode cX7_cross 79 = .ok (.bipush 8, 2) := by decide +kernel
theorem dX7_cross_81 : decode cX7_cross 81 = .ok (.iload_n 3, 1) := by decide +kernel
theorem dX7_cross_82 : decode cX7_cross 82 = .ok (.imul, 1) := by decide +kernel
theorem dX7_cross_83 : decode cX7_cross 83 = .ok (.iload 4, 2) := by decide +kernel
theorem dX7_cross_85 : decode cX7_cross 85 = .ok (.iadd, 1) := by decide +kernel
theorem dX7_cross_86 : decode cX7_cross 86 = .ok (.dup2, 1) := by decide +kernel
theorem dX7_cross_87 : decode cX7_cross 87 = .ok (.iaload, 1) := by decide +kernel
theorem dX7_cross_88 : decode cX7_cross 88 = .ok (.iload_n 2, 1) := by decide +kernel
theorem dX7_cross_89 : decode cX7_cross 89 = .ok (.ifCond .eq 7, 3) := by decide +kernel
theorem dX7_cross_92 : decode cX7_cross 92 = .ok (.iconst 1, 1) := by decide +kernel
theorem dX7_cross_93 : decode cX7_cross 93 = .ok (.goto 4, 3) := by decide +kernel
theorem dX7_cross_96 : decode cX7_cross 96 = .ok (.iconst (-1), 1) := by decide +kernel
theorem dX7_cross_97 : decode cX7_cross 97 = .ok (.iadd, 1) := by decide +kernel
theorem dX7_cross_98 : decode cX7_cross 98 = .ok (.iastore, 1) := by decide +kernel
theorem dX7_cross_99 : decode cX7_cross 99 = .ok (.aload_n 0, 1) := by decide +kernel
theorem dX7_cross_100 : decode cX7_cross 100 = .ok (.getfield 59, 3) := by decide +kernel
theorem dX7_cross_103 : decode cX7_cross 103 = .ok (.bipush 8, 2) := by decide +kernel
theorem dX7_cross_105 : decode cX7_cross 105 = .ok (.iload 4, 2) := by decide +kernel
theorem dX7_cross_107 : decode cX7_cross 107 = .ok (.imul, 1) := by decide +kernel
theorem dX7_cross_108 : decode cX7_cross 108 = .ok (.iload_n 3, 1) := by decide +kernel
theorem dX7_cross_109 : decode cX7_cross 109 = .ok (.iadd, 1) := by decide +kernel
theorem dX7_cross_110 : decode cX7_cross 110 = .ok (.dup2, 1) := by decide +kernel
theorem dX7_cross_111 : decode cX7_cross 111 = .ok (.iaload, 1) := by decide +kernel
theorem dX7_cross_112 : decode cX7_cross 112 = .ok (.iload_n 2, 1) := by decide +kernel
theorem dX7_cross_113 : decode cX7_cross 113 = .ok (.ifCond .eq 7, 3) := by decide +kernel
theorem dX7_cross_116 : decode cX7_cross 116 = .ok (.iconst 1, 1) := by decide +kernel
theorem dX7_cross_117 : decode cX7_cross 117 = .ok (.goto 4, 3) := by decide +kernel
theorem dX7_cross_120 : decode cX7_cross 120 = .ok (.iconst (-1), 1) := by decide +kernel
theorem dX7_cross_121 : decode cX7_cross 121 = .ok (.isub, 1) := by decide +kernel
theorem dX7_cross_122 : decode cX7_cross 122 = .ok (.iastore, 1) := by decide +kernel
theorem dX7_cross_123 : decode cX7_cross 123 = .ok (.aload_n 0, 1) := by decide +kernel
theorem dX7_cross_124 : decode cX7_cross 124 = .ok (.dup, 1) := by decide +kernel
theorem dX7_cross_125 : decode cX7_cross 125 = .ok (.getfield 153, 3) := by decide +kernel
theorem dX7_cross_128 : decode cX7_cross 128 = .ok (.iconst 1, 1) := by decide +kernel
theorem dX7_cross_129 : decode cX7_cross 129 = .ok (.iadd, 1) := by decide +kernel
theorem dX7_cross_130 : decode cX7_cross 130 = .ok (.putfield 153, 3) := by decide +kernel
theorem dX7_cross_133 : decode cX7_cross 133 = .ok (.aload_n 0, 1) := by decide +kernel
theorem dX7_cross_134 : decode cX7_cross 134 = .ok (.getfield 153, 3) := by decide +kernel
theorem dX7_cross_137 : decode cX7_cross 137 = .ok (.ireturn, 1) := by decide +kernel
theorem dX7_carrier_0 : decode cX7_carrier 0 = .ok (.aload_n 0, 1) := by decide +kernel
theorem dX7_carrier_1 : decode cX7_carrier 1 = .ok (.iload_n 1, 1) := by decide +kernel
theorem dX7_carrier_2 : decode cX7_carrier 2 = .ok (.iconst 0, 1) := by decide +kernel
theorem dX7_carrier_3 : decode cX7_carrier 3 = .ok (.aload_n 0, 1) := by decide +kernel
theorem dX7_carrier_4 : decode cX7_carrier 4 = .ok (.getfield 52, 3) := by decide +kernel
theorem dX7_carrier_7 : decode cX7_carrier 7 = .ok (.iconst 1, 1) := by decide +kernel
theorem dX7_carrier_8 : decode cX7_carrier 8 = .ok (.isub, 1) := by decide +kernel
theorem dX7_carrier_9 : decode cX7_carrier 9 = .ok (.invokestatic 85, 3) := by decide +kernel
theorem dX7_carrier_12 : decode cX7_carrier 12 = .ok (.ifCond .eq 7, 3) := by decide +kernel
theorem dX7_carrier_15 : decode cX7_carrier 15 = .ok (.iconst 0, 1) := by decide +kernel
theorem dX7_carrier_16 : decode cX7_carrier 16 = .ok (.goto 4, 3) := by decide +kernel
theorem dX7_carrier_19 : decode cX7_carrier 19 = .ok (.iconst 1, 1) := by decide +kernel
theorem dX7_carrier_20 : decode cX7_carrier 20 = .ok (.invokevirtual 89, 3) := by decide +kernel
theorem dX7_carrier_23 : decode cX7_carrier 23 = .ok (.ifCond .eq 7, 3) := by decide +kernel
theorem dX7_carrier_26 : decode cX7_carrier 26 = .ok (.iconst 0, 1) := by decide +kernel
theorem dX7_carrier_27 : decode cX7_carrier 27 = .ok (.goto 9, 3) := by decide +kernel
theorem dX7_carrier_30 : decode cX7_carrier 30 = .ok (.aload_n 0, 1) := by decide +kernel
theorem dX7_carrier_31 : decode cX7_carrier 31 = .ok (.getfield 56, 3) := by decide +kernel
theorem dX7_carrier_34 : decode cX7_carrier 34 = .ok (.iload_n 1, 1) := by decide +kernel
theorem dX7_carrier_35 : decode cX7_carrier 35 = .ok (.iaload, 1) := by decide +kernel
theorem dX7_carrier_36 : decode cX7_carrier 36 = .ok (.ireturn, 1) := by decide +kernel
theorem dX7_shared_0 : decode cX7_shared 0 = .ok (.iload_n 0, 1) := by decide +kernel
theorem dX7_shared_1 : decode cX7_shared 1 = .ok (.istore_n 2, 1) := by decide +kernel
theorem dX7_shared_2 : decode cX7_shared 2 = .ok (.iload_n 1, 1) := by decide +kernel
theorem dX7_shared_3 : decode cX7_shared 3 = .ok (.istore_n 3, 1) := by decide +kernel
theorem dX7_shared_4 : decode cX7_shared 4 = .ok (.iload_n 3, 1) := by decide +kernel
theorem dX7_shared_5 : decode cX7_shared 5 = .ok (.ifCond .le 16, 3) := by decide +kernel
theorem dX7_shared_8 : decode cX7_shared 8 = .ok (.iload_n 2, 1) := by decide +kernel
theorem dX7_shared_9 : decode cX7_shared 9 = .ok (.iload_n 3, 1) := by decide +kernel
theorem dX7_shared_10 : decode cX7_shared 10 = .ok (.irem, 1) := by decide +kernel
theorem dX7_shared_11 : decode cX7_shared 11 = .ok (.istore 4, 2) := by decide +kernel
theorem dX7_shared_13 : decode cX7_shared 13 = .ok (.iload_n 3, 1) := by decide +kernel
theorem dX7_shared_14 : decode cX7_shared 14 = .ok (.istore_n 2, 1) := by decide +kernel
theorem dX7_shared_15 : decode cX7_shared 15 = .ok (.iload 4, 2) := by decide +kernel
theorem dX7_shared_17 : decode cX7_shared 17 = .ok (.istore_n 3, 1) := by decide +kernel
theorem dX7_shared_18 : decode cX7_shared 18 = .ok (.goto (-14), 3) := by decide +kernel
theorem dX7_shared_21 : decode cX7_shared 21 = .ok (.iload_n 2, 1) := by decide +kernel
theorem dX7_shared_22 : decode cX7_shared 22 = .ok (.ireturn, 1) := by decide +kernel
theorem dX7_orderOf_0 : decode cX7_orderOf 0 = .ok (.aload_n 0, 1) := by decide +kernel
theorem dX7_orderOf_1 : decode cX7_orderOf 1 = .ok (.iconst 0, 1) := by decide +kernel
theorem dX7_orderOf_2 : decode cX7_orderOf 2 = .ok (.putfield 79, 3) := by decide +kernel
theorem dX7_orderOf_5 : decode cX7_orderOf 5 = .ok (.iconst 1, 1) := by decide +kernel
theorem dX7_orderOf_6 : decode cX7_orderOf 6 = .ok (.istore_n 1, 1) := by decide +kernel
theorem dX7_orderOf_7 : decode cX7_orderOf 7 = .ok (.iconst 0, 1) := by decide +kernel
theorem dX7_orderOf_8 : decode cX7_orderOf 8 = .ok (.istore_n 2, 1) := by decide +kernel
theorem dX7_orderOf_9 : decode cX7_orderOf 9 = .ok (.iload_n 2, 1) := by decide +kernel
theorem dX7_orderOf_10 : decode cX7_orderOf 10 = .ok (.aload_n 0, 1) := by decide +kernel
theorem dX7_orderOf_11 : decode cX7_orderOf 11 = .ok (.getfield 52, 3) := by decide +kernel
theorem dX7_orderOf_14 : decode cX7_orderOf 14 = .ok (.if_icmp .ge 50, 3) := by decide +kernel
theorem dX7_orderOf_17 : decode cX7_orderOf 17 = .ok (.iconst 1, 1) := by decide +kernel
theorem dX7_orderOf_18 : decode cX7_orderOf 18 = .ok (.istore_n 3, 1) := by decide +kernel
theorem dX7_orderOf_19 : decode cX7_orderOf 19 = .ok (.aload_n 0, 1) := by decide +kernel
theorem dX7_orderOf_20 : decode cX7_orderOf 20 = .ok (.getfield 56, 3) := by decide +kernel
theorem dX7_orderOf_23 : decode cX7_orderOf 23 = .ok (.iload_n 2, 1) := by decide +kernel
theorem dX7_orderOf_24 : decode cX7_orderOf 24 = .ok (.iaload, 1) := by decide +kernel
theorem dX7_orderOf_25 : decode cX7_orderOf 25 = .ok (.istore 4, 2) := by decide +kernel
theorem dX7_orderOf_27 : decode cX7_orderOf 27 = .ok (.iload 4, 2) := by decide +kernel
theorem dX7_orderOf_29 : decode cX7_orderOf 29 = .ok (.iload_n 2, 1) := by decide +kernel
theorem dX7_orderOf_30 : decode cX7_orderOf 30 = .ok (.if_icmp .eq 18, 3) := by decide +kernel
theorem dX7_orderOf_33 : decode cX7_orderOf 33 = .ok (.iinc 3 1, 3) := by decide +kernel
theorem dX7_orderOf_36 : decode cX7_orderOf 36 = .ok (.aload_n 0, 1) := by decide +kernel
theorem dX7_orderOf_37 : decode cX7_orderOf 37 = .ok (.getfield 56, 3) := by decide +kernel
theorem dX7_orderOf_40 : decode cX7_orderOf 40 = .ok (.iload 4, 2) := by decide +kernel
theorem dX7_orderOf_42 : decode cX7_orderOf 42 = .ok (.iaload, 1) := by decide +kernel
theorem dX7_orderOf_43 : decode cX7_orderOf 43 = .ok (.istore 4, 2) := by decide +kernel
theorem dX7_orderOf_45 : decode cX7_orderOf 45 = .ok (.goto (-18), 3) := by decide +kernel
theorem dX7_orderOf_48 : decode cX7_orderOf 48 = .ok (.iload_n 1, 1) := by decide +kernel
theorem dX7_orderOf_49 : decode cX7_orderOf 49 = .ok (.iload_n 1, 1) := by decide +kernel
theorem dX7_orderOf_50 : decode cX7_orderOf 50 = .ok (.iload_n 3, 1) := by decide +kernel
theorem dX7_orderOf_51 : decode cX7_orderOf 51 = .ok (.invokestatic 156, 3) := by decide +kernel
theorem dX7_orderOf_54 : decode cX7_orderOf 54 = .ok (.idiv, 1) := by decide +kernel
theorem dX7_orderOf_55 : decode cX7_orderOf 55 = .ok (.iload_n 3, 1) := by decide +kernel
theorem dX7_orderOf_56 : decode cX7_orderOf 56 = .ok (.imul, 1) := by decide +kernel
theorem dX7_orderOf_57 : decode cX7_orderOf 57 = .ok (.istore_n 1, 1) := by decide +kernel
theorem dX7_orderOf_58 : decode cX7_orderOf 58 = .ok (.iinc 2 1, 3) := by decide +kernel
theorem dX7_orderOf_61 : decode cX7_orderOf 61 = .ok (.goto (-52), 3) := by decide +kernel
theorem dX7_orderOf_64 : decode cX7_orderOf 64 = .ok (.iload_n 1, 1) := by decide +kernel
theorem dX7_orderOf_65 : decode cX7_orderOf 65 = .ok (.ireturn, 1) := by decide +kernel
theorem dX7_orderAnew_0 : decode cX7_orderAnew 0 = .ok (.aload_n 0, 1) := by decide +kernel
theorem dX7_orderAnew_1 : decode cX7_orderAnew 1 = .ok (.invokevirtual 159, 3) := by decide +kernel
theorem dX7_orderAnew_4 : decode cX7_orderAnew 4 = .ok (.ireturn, 1) := by decide +kernel
theorem dX7_over_0 : decode cX7_over 0 = .ok (.iload_n 1, 1) := by decide +kernel
theorem dX7_over_1 : decode cX7_over 1 = .ok (.iconst 0, 1) := by decide +kernel
theorem dX7_over_2 : decode cX7_over 2 = .ok (.aload_n 0, 1) := by decide +kernel
theorem dX7_over_3 : decode cX7_over 3 = .ok (.getfield 52, 3) := by decide +kernel
theorem dX7_over_6 : decode cX7_over 6 = .ok (.iconst 1, 1) := by decide +kernel
theorem dX7_over_7 : decode cX7_over 7 = .ok (.isub, 1) := by decide +kernel
theorem dX7_over_8 : decode cX7_over 8 = .ok (.invokestatic 85, 3) := by decide +kernel
theorem dX7_over_11 : decode cX7_over 11 = .ok (.ifCond .eq 21, 3) := by decide +kernel
theorem dX7_over_14 : decode cX7_over 14 = .ok (.iload_n 2, 1) := by decide +kernel
theorem dX7_over_15 : decode cX7_over 15 = .ok (.iconst 0, 1) := by decide +kernel
theorem dX7_over_16 : decode cX7_over 16 = .ok (.aload_n 0, 1) := by decide +kernel
theorem dX7_over_17 : decode cX7_over 17 = .ok (.getfield 52, 3) := by decide +kernel
theorem dX7_over_20 : decode cX7_over 20 = .ok (.iconst 1, 1) := by decide +kernel
theorem dX7_over_21 : decode cX7_over 21 = .ok (.isub, 1) := by decide +kernel
theorem dX7_over_22 : decode cX7_over 22 = .ok (.invokestatic 85, 3) := by decide +kernel
theorem dX7_over_25 : decode cX7_over 25 = .ok (.ifCond .eq 7, 3) := by decide +kernel
theorem dX7_over_28 : decode cX7_over 28 = .ok (.iconst 1, 1) := by decide +kernel
theorem dX7_over_29 : decode cX7_over 29 = .ok (.goto 4, 3) := by decide +kernel
theorem dX7_over_32 : decode cX7_over 32 = .ok (.iconst 0, 1) := by decide +kernel
theorem dX7_over_33 : decode cX7_over 33 = .ok (.istore_n 3, 1) := by decide +kernel
theorem dX7_over_34 : decode cX7_over 34 = .ok (.aload_n 0, 1) := by decide +kernel
theorem dX7_over_35 : decode cX7_over 35 = .ok (.iload_n 3, 1) := by decide +kernel
theorem dX7_over_36 : decode cX7_over 36 = .ok (.ifCond .ne 7, 3) := by decide +kernel
theorem dX7_over_39 : decode cX7_over 39 = .ok (.iconst 1, 1) := by decide +kernel
theorem dX7_over_40 : decode cX7_over 40 = .ok (.goto 13, 3) := by decide +kernel
theorem dX7_over_43 : decode cX7_over 43 = .ok (.iload_n 1, 1) := by decide +kernel
theorem dX7_over_44 : decode cX7_over 44 = .ok (.iload_n 2, 1) := by decide +kernel
theorem dX7_over_45 : decode cX7_over 45 = .ok (.if_icmp .ne 7, 3) := by decide +kernel
theorem dX7_over_48 : decode cX7_over 48 = .ok (.iconst 2, 1) := by decide +kernel
theorem dX7_over_49 : decode cX7_over 49 = .ok (.goto 4, 3) := by decide +kernel
theorem dX7_over_52 : decode cX7_over 52 = .ok (.iconst 0, 1) := by decide +kernel
theorem dX7_over_53 : decode cX7_over 53 = .ok (.invokevirtual 89, 3) := by decide +kernel
theorem dX7_over_56 : decode cX7_over 56 = .ok (.ifCond .eq 7, 3) := by decide +kernel
theorem dX7_over_59 : decode cX7_over 59 = .ok (.iconst 0, 1) := by decide +kernel
theorem dX7_over_60 : decode cX7_over 60 = .ok (.goto 14, 3) := by decide +kernel
theorem dX7_over_63 : decode cX7_over 63 = .ok (.aload_n 0, 1) := by decide +kernel
theorem dX7_over_64 : decode cX7_over 64 = .ok (.getfield 59, 3) := by decide +kernel
theorem dX7_over_67 : decode cX7_over 67 = .ok (.bipush 8, 2) := by decide +kernel
theorem dX7_over_69 : decode cX7_over 69 = .ok (.iload_n 1, 1) := by decide +kernel
theorem dX7_over_70 : decode cX7_over 70 = .ok (.imul, 1) := by decide +kernel
theorem dX7_over_71 : decode cX7_over 71 = .ok (.iload_n 2, 1) := by decide +kernel
theorem dX7_over_72 : decode cX7_over 72 = .ok (.iadd, 1) := by decide +kernel
theorem dX7_over_73 : decode cX7_over 73 = .ok (.iaload, 1) := by decide +kernel
theorem dX7_over_74 : decode cX7_over 74 = .ok (.ireturn, 1) := by decide +kernel
theorem dX7_net_0 : decode cX7_net 0 = .ok (.iload_n 1, 1) := by decide +kernel
theorem dX7_net_1 : decode cX7_net 1 = .ok (.iconst 1, 1) := by decide +kernel
theorem dX7_net_2 : decode cX7_net 2 = .ok (.bipush 10, 2) := by decide +kernel
theorem dX7_net_4 : decode cX7_net 4 = .ok (.invokestatic 85, 3) := by decide +kernel
theorem dX7_net_7 : decode cX7_net 7 = .ok (.ifCond .eq 17, 3) := by decide +kernel
theorem dX7_net_10 : decode cX7_net 10 = .ok (.iload_n 2, 1) := by decide +kernel
theorem dX7_net_11 : decode cX7_net 11 = .ok (.iconst 1, 1) := by decide +kernel
theorem dX7_net_12 : decode cX7_net 12 = .ok (.bipush 10, 2) := by decide +kernel
theorem dX7_net_14 : decode cX7_net 14 = .ok (.invokestatic 85, 3) := by decide +kernel
theorem dX7_net_17 : decode cX7_net 17 = .ok (.ifCond .eq 7, 3) := by decide +kernel
theorem dX7_net_20 : decode cX7_net 20 = .ok (.iconst 1, 1) := by decide +kernel
theorem dX7_net_21 : decode cX7_net 21 = .ok (.goto 4, 3) := by decide +kernel
theorem dX7_net_24 : decode cX7_net 24 = .ok (.iconst 0, 1) := by decide +kernel
theorem dX7_net_25 : decode cX7_net 25 = .ok (.istore_n 3, 1) := by decide +kernel
theorem dX7_net_26 : decode cX7_net 26 = .ok (.aload_n 0, 1) := by decide +kernel
theorem dX7_net_27 : decode cX7_net 27 = .ok (.iload_n 3, 1) := by decide +kernel
theorem dX7_net_28 : decode cX7_net 28 = .ok (.ifCond .ne 7, 3) := by decide +kernel
theorem dX7_net_31 : decode cX7_net 31 = .ok (.iconst 1, 1) := by decide +kernel
theorem dX7_net_32 : decode cX7_net 32 = .ok (.goto 16, 3) := by decide +kernel
theorem dX7_net_35 : decode cX7_net 35 = .ok (.aload_n 0, 1) := by decide +kernel
theorem dX7_net_36 : decode cX7_net 36 = .ok (.getfield 163, 3) := by decide +kernel
theorem dX7_net_39 : decode cX7_net 39 = .ok (.iconst 5, 1) := by decide +kernel
theorem dX7_net_40 : decode cX7_net 40 = .ok (.if_icmp .ne 7, 3) := by decide +kernel
theorem dX7_net_43 : decode cX7_net 43 = .ok (.iconst 2, 1) := by decide +kernel
theorem dX7_net_44 : decode cX7_net 44 = .ok (.goto 4, 3) := by decide +kernel
theorem dX7_net_47 : decode cX7_net 47 = .ok (.iconst 0, 1) := by decide +kernel
theorem dX7_net_48 : decode cX7_net 48 = .ok (.invokevirtual 89, 3) := by decide +kernel
theorem dX7_net_51 : decode cX7_net 51 = .ok (.ifCond .eq 5, 3) := by decide +kernel
theorem dX7_net_54 : decode cX7_net 54 = .ok (.iconst 0, 1) := by decide +kernel
theorem dX7_net_55 : decode cX7_net 55 = .ok (.ireturn, 1) := by decide +kernel
theorem dX7_net_56 : decode cX7_net 56 = .ok (.aload_n 0, 1) := by decide +kernel
theorem dX7_net_57 : decode cX7_net 57 = .ok (.getfield 62, 3) := by decide +kernel
theorem dX7_net_60 : decode cX7_net 60 = .ok (.aload_n 0, 1) := by decide +kernel
theorem dX7_net_61 : decode cX7_net 61 = .ok (.getfield 163, 3) := by decide +kernel
theorem dX7_net_64 : decode cX7_net 64 = .ok (.iload_n 1, 1) := by decide +kernel
theorem dX7_net_65 : decode cX7_net 65 = .ok (.iastore, 1) := by decide +kernel
theorem dX7_net_66 : decode cX7_net 66 = .ok (.aload_n 0, 1) := by decide +kernel
theorem dX7_net_67 : decode cX7_net 67 = .ok (.getfield 65, 3) := by decide +kernel
theorem dX7_net_70 : decode cX7_net 70 = .ok (.aload_n 0, 1) := by decide +kernel
theorem dX7_net_71 : decode cX7_net 71 = .ok (.getfield 163, 3) := by decide +kernel
theorem dX7_net_74 : decode cX7_net 74 = .ok (.iload_n 2, 1) := by decide +kernel
theorem dX7_net_75 : decode cX7_net 75 = .ok (.iastore, 1) := by decide +kernel
theorem dX7_net_76 : decode cX7_net 76 = .ok (.aload_n 0, 1) := by decide +kernel
theorem dX7_net_77 : decode cX7_net 77 = .ok (.dup, 1) := by decide +kernel
theorem dX7_net_78 : decode cX7_net 78 = .ok (.getfield 163, 3) := by decide +kernel
theorem dX7_net_81 : decode cX7_net 81 = .ok (.iconst 1, 1) := by decide +kernel
theorem dX7_net_82 : decode cX7_net 82 = .ok (.iadd, 1) := by decide +kernel
theorem dX7_net_83 : decode cX7_net 83 = .ok (.putfield 163, 3) := by decide +kernel
theorem dX7_net_86 : decode cX7_net 86 = .ok (.aload_n 0, 1) := by decide +kernel
theorem dX7_net_87 : decode cX7_net 87 = .ok (.getfield 163, 3) := by decide +kernel
theorem dX7_net_90 : decode cX7_net 90 = .ok (.iconst 1, 1) := by decide +kernel
theorem dX7_net_91 : decode cX7_net 91 = .ok (.isub, 1) := by decide +kernel
theorem dX7_net_92 : decode cX7_net 92 = .ok (.ireturn, 1) := by decide +kernel
theorem dX7_isNet_0 : decode cX7_isNet 0 = .ok (.iload_n 1, 1) := by decide +kernel
theorem dX7_isNet_1 : decode cX7_isNet 1 = .ok (.iconst 0, 1) := by decide +kernel
theorem dX7_isNet_2 : decode cX7_isNet 2 = .ok (.aload_n 0, 1) := by decide +kernel
theorem dX7_isNet_3 : decode cX7_isNet 3 = .ok (.getfield 163, 3) := by decide +kernel
theorem dX7_isNet_6 : decode cX7_isNet 6 = .ok (.iconst 1, 1) := by decide +kernel
theorem dX7_isNet_7 : decode cX7_isNet 7 = .ok (.isub, 1) := by decide +kernel
theorem dX7_isNet_8 : decode cX7_isNet 8 = .ok (.invokestatic 85, 3) := by decide +kernel
theorem dX7_isNet_11 : decode cX7_isNet 11 = .ok (.ireturn, 1) := by decide +kernel
theorem dX7_isBar_0 : decode cX7_isBar 0 = .ok (.iload 4, 2) := by decide +kernel
theorem dX7_isBar_2 : decode cX7_isBar 2 = .ok (.ifCond .eq 9, 3) := by decide +kernel
theorem dX7_isBar_5 : decode cX7_isBar 5 = .ok (.iload_n 3, 1) := by decide +kernel
theorem dX7_isBar_6 : decode cX7_isBar 6 = .ok (.iconst 1, 1) := by decide +kernel
theorem dX7_isBar_7 : decode cX7_isBar 7 = .ok (.iadd, 1) := by decide +kernel
theorem dX7_isBar_8 : decode cX7_isBar 8 = .ok (.goto 6, 3) := by decide +kernel
theorem dX7_isBar_11 : decode cX7_isBar 11 = .ok (.iload_n 3, 1) := by decide +kernel
theorem dX7_isBar_12 : decode cX7_isBar 12 = .ok (.iconst 1, 1) := by decide +kernel
theorem dX7_isBar_13 : decode cX7_isBar 13 = .ok (.isub, 1) := by decide +kernel
theorem dX7_isBar_14 : decode cX7_isBar 14 = .ok (.istore 5, 2) := by decide +kernel
theorem dX7_isBar_16 : decode cX7_isBar 16 = .ok (.iload_n 2, 1) := by decide +kernel
theorem dX7_isBar_17 : decode cX7_isBar 17 = .ok (.iconst 0, 1) := by decide +kernel
theorem dX7_isBar_18 : decode cX7_isBar 18 = .ok (.aload_n 0, 1) := by decide +kernel
theorem dX7_isBar_19 : decode cX7_isBar 19 = .ok (.getfield 62, 3) := by decide +kernel
theorem dX7_isBar_22 : decode cX7_isBar 22 = .ok (.iload_n 1, 1) := by decide +kernel
theorem dX7_isBar_23 : decode cX7_isBar 23 = .ok (.iaload, 1) := by decide +kernel
theorem dX7_isBar_24 : decode cX7_isBar 24 = .ok (.iconst 1, 1) := by decide +kernel
theorem dX7_isBar_25 : decode cX7_isBar 25 = .ok (.isub, 1) := by decide +kernel
theorem dX7_isBar_26 : decode cX7_isBar 26 = .ok (.invokestatic 85, 3) := by decide +kernel
theorem dX7_isBar_29 : decode cX7_isBar 29 = .ok (.ifCond .eq 29, 3) := by decide +kernel
theorem dX7_isBar_32 : decode cX7_isBar 32 = .ok (.iload_n 3, 1) := by decide +kernel
theorem dX7_isBar_33 : decode cX7_isBar 33 = .ok (.iconst 0, 1) := by decide +kernel
theorem dX7_isBar_34 : decode cX7_isBar 34 = .ok (.aload_n 0, 1) := by decide +kernel
theorem dX7_isBar_35 : decode cX7_isBar 35 = .ok (.getfield 65, 3) := by decide +kernel
theorem dX7_isBar_38 : decode cX7_isBar 38 = .ok (.iload_n 1, 1) := by decide +kernel
theorem dX7_isBar_39 : decode cX7_isBar 39 = .ok (.iaload, 1) := by decide +kernel
theorem dX7_isBar_40 : decode cX7_isBar 40 = .ok (.invokestatic 85, 3) := by decide +kernel
theorem dX7_isBar_43 : decode cX7_isBar 43 = .ok (.ifCond .eq 15, 3) := by decide +kernel
theorem dX7_isBar_46 : decode cX7_isBar 46 = .ok (.iload_n 2, 1) := by decide +kernel
theorem dX7_isBar_47 : decode cX7_isBar 47 = .ok (.iload_n 3, 1) := by decide +kernel
theorem dX7_isBar_48 : decode cX7_isBar 48 = .ok (.iadd, 1) := by decide +kernel
theorem dX7_isBar_49 : decode cX7_isBar 49 = .ok (.iconst 2, 1) := by decide +kernel
theorem dX7_isBar_50 : decode cX7_isBar 50 = .ok (.irem, 1) := by decide +kernel
theorem dX7_isBar_51 : decode cX7_isBar 51 = .ok (.ifCond .ne 7, 3) := by decide +kernel
theorem dX7_isBar_54 : decode cX7_isBar 54 = .ok (.iconst 1, 1) := by decide +kernel
theorem dX7_isBar_55 : decode cX7_isBar 55 = .ok (.goto 4, 3) := by decide +kernel
theorem dX7_isBar_58 : decode cX7_isBar 58 = .ok (.iconst 0, 1) := by decide +kernel
theorem dX7_isBar_59 : decode cX7_isBar 59 = .ok (.istore 6, 2) := by decide +kernel
theorem dX7_isBar_61 : decode cX7_isBar 61 = .ok (.iload 6, 2) := by decide +kernel
theorem dX7_isBar_63 : decode cX7_isBar 63 = .ok (.ifCond .eq 22, 3) := by decide +kernel
theorem dX7_isBar_66 : decode cX7_isBar 66 = .ok (.iload 5, 2) := by decide +kernel
theorem dX7_isBar_68 : decode cX7_isBar 68 = .ok (.iconst 0, 1) := by decide +kernel
theorem dX7_isBar_69 : decode cX7_isBar 69 = .ok (.aload_n 0, 1) := by decide +kernel
theorem dX7_isBar_70 : decode cX7_isBar 70 = .ok (.getfield 65, 3) := by decide +kernel
theorem dX7_isBar_73 : decode cX7_isBar 73 = .ok (.iload_n 1, 1) := by decide +kernel
theorem dX7_isBar_74 : decode cX7_isBar 74 = .ok (.iaload, 1) := by decide +kernel
theorem dX7_isBar_75 : decode cX7_isBar 75 = .ok (.invokestatic 85, 3) := by decide +kernel
theorem dX7_isBar_78 : decode cX7_isBar 78 = .ok (.ifCond .eq 7, 3) := by decide +kernel
theorem dX7_isBar_81 : decode cX7_isBar 81 = .ok (.iconst 1, 1) := by decide +kernel
theorem dX7_isBar_82 : decode cX7_isBar 82 = .ok (.goto 4, 3) := by decide +kernel
theorem dX7_isBar_85 : decode cX7_isBar 85 = .ok (.iconst 0, 1) := by decide +kernel
theorem dX7_isBar_86 : decode cX7_isBar 86 = .ok (.ireturn, 1) := by decide +kernel
theorem dX7_bar_0 : decode cX7_bar 0 = .ok (.sipush 220, 3) := by decide +kernel
theorem dX7_bar_3 : decode cX7_bar 3 = .ok (.iload_n 0, 1) := by decide +kernel
theorem dX7_bar_4 : decode cX7_bar 4 = .ok (.imul, 1) := by decide +kernel
theorem dX7_bar_5 : decode cX7_bar 5 = .ok (.bipush 22, 2) := by decide +kernel
theorem dX7_bar_7 : decode cX7_bar 7 = .ok (.iload_n 1, 1) := by decide +kernel
theorem dX7_bar_8 : decode cX7_bar 8 = .ok (.imul, 1) := by decide +kernel
theorem dX7_bar_9 : decode cX7_bar 9 = .ok (.iadd, 1) := by decide +kernel
theorem dX7_bar_10 : decode cX7_bar 10 = .ok (.iconst 2, 1) := by decide +kernel
theorem dX7_bar_11 : decode cX7_bar 11 = .ok (.iload_n 2, 1) := by decide +kernel
theorem dX7_bar_12 : decode cX7_bar 12 = .ok (.imul, 1) := by decide +kernel
theorem dX7_bar_13 : decode cX7_bar 13 = .ok (.iadd, 1) := by decide +kernel
theorem dX7_bar_14 : decode cX7_bar 14 = .ok (.iload_n 3, 1) := by decide +kernel
theorem dX7_bar_15 : decode cX7_bar 15 = .ok (.ifCond .eq 7, 3) := by decide +kernel
theorem dX7_bar_18 : decode cX7_bar 18 = .ok (.iconst 1, 1) := by decide +kernel
theorem dX7_bar_19 : decode cX7_bar 19 = .ok (.goto 4, 3) := by decide +kernel
theorem dX7_bar_22 : decode cX7_bar 22 = .ok (.iconst 0, 1) := by decide +kernel
theorem dX7_bar_23 : decode cX7_bar 23 = .ok (.iadd, 1) := by decide +kernel
theorem dX7_bar_24 : decode cX7_bar 24 = .ok (.ireturn, 1) := by decide +kernel
theorem dX7_tornOf_0 : decode cX7_tornOf 0 = .ok (.iconst 0, 1) := by decide +kernel
theorem dX7_tornOf_1 : decode cX7_tornOf 1 = .ok (.istore_n 2, 1) := by decide +kernel
theorem dX7_tornOf_2 : decode cX7_tornOf 2 = .ok (.sipush 220, 3) := by decide +kernel
theorem dX7_tornOf_5 : decode cX7_tornOf 5 = .ok (.iload_n 1, 1) := by decide +kernel
theorem dX7_tornOf_6 : decode cX7_tornOf 6 = .ok (.imul, 1) := by decide +kernel
theorem dX7_tornOf_7 : decode cX7_tornOf 7 = .ok (.istore_n 3, 1) := by decide +kernel
theorem dX7_tornOf_8 : decode cX7_tornOf 8 = .ok (.iload_n 3, 1) := by decide +kernel
theorem dX7_tornOf_9 : decode cX7_tornOf 9 = .ok (.sipush 220, 3) := by decide +kernel
theorem dX7_tornOf_12 : decode cX7_tornOf 12 = .ok (.iload_n 1, 1) := by decide +kernel
theorem dX7_tornOf_13 : decode cX7_tornOf 13 = .ok (.imul, 1) := by decide +kernel
theorem dX7_tornOf_14 : decode cX7_tornOf 14 = .ok (.sipush 220, 3) := by decide +kernel
theorem dX7_tornOf_17 : decode cX7_tornOf 17 = .ok (.iadd, 1) := by decide +kernel
theorem dX7_tornOf_18 : decode cX7_tornOf 18 = .ok (.if_icmp .ge 26, 3) := by decide +kernel
theorem dX7_tornOf_21 : decode cX7_tornOf 21 = .ok (.iload_n 2, 1) := by decide +kernel
theorem dX7_tornOf_22 : decode cX7_tornOf 22 = .ok (.aload_n 0, 1) := by decide +kernel
theorem dX7_tornOf_23 : decode cX7_tornOf 23 = .ok (.getfield 68, 3) := by decide +kernel
theorem dX7_tornOf_26 : decode cX7_tornOf 26 = .ok (.iload_n 3, 1) := by decide +kernel
theorem dX7_tornOf_27 : decode cX7_tornOf 27 = .ok (.baload, 1) := by decide +kernel
theorem dX7_tornOf_28 : decode cX7_tornOf 28 = .ok (.ifCond .eq 7, 3) := by decide +kernel
theorem dX7_tornOf_31 : decode cX7_tornOf 31 = .ok (.iconst 1, 1) := by decide +kernel
theorem dX7_tornOf_32 : decode cX7_tornOf 32 = .ok (.goto 4, 3) := by decide +kernel
theorem dX7_tornOf_35 : decode cX7_tornOf 35 = .ok (.iconst 0, 1) := by decide +kernel
theorem dX7_tornOf_36 : decode cX7_tornOf 36 = .ok (.iadd, 1) := by decide +kernel
theorem dX7_tornOf_37 : decode cX7_tornOf 37 = .ok (.istore_n 2, 1) := by decide +kernel
theorem dX7_tornOf_38 : decode cX7_tornOf 38 = .ok (.iinc 3 1, 3) := by decide +kernel
theorem dX7_tornOf_41 : decode cX7_tornOf 41 = .ok (.goto (-33), 3) := by decide +kernel
theorem dX7_tornOf_44 : decode cX7_tornOf 44 = .ok (.iload_n 2, 1) := by decide +kernel
theorem dX7_tornOf_45 : decode cX7_tornOf 45 = .ok (.ireturn, 1) := by decide +kernel
theorem dX7_tear_0 : decode cX7_tear 0 = .ok (.aload_n 0, 1) := by decide +kernel
theorem dX7_tear_1 : decode cX7_tear 1 = .ok (.iload_n 1, 1) := by decide +kernel
theorem dX7_tear_2 : decode cX7_tear 2 = .ok (.invokevirtual 166, 3) := by decide +kernel
theorem dX7_tear_5 : decode cX7_tear 5 = .ok (.ifCond .eq 19, 3) := by decide +kernel
theorem dX7_tear_8 : decode cX7_tear 8 = .ok (.aload_n 0, 1) := by decide +kernel
theorem dX7_tear_9 : decode cX7_tear 9 = .ok (.iload_n 1, 1) := by decide +kernel
theorem dX7_tear_10 : decode cX7_tear 10 = .ok (.iload_n 2, 1) := by decide +kernel
theorem dX7_tear_11 : decode cX7_tear 11 = .ok (.iload_n 3, 1) := by decide +kernel
theorem dX7_tear_12 : decode cX7_tear 12 = .ok (.iload 4, 2) := by decide +kernel
theorem dX7_tear_14 : decode cX7_tear 14 = .ok (.invokevirtual 169, 3) := by decide +kernel
theorem dX7_tear_17 : decode cX7_tear 17 = .ok (.ifCond .eq 7, 3) := by decide +kernel
theorem dX7_tear_20 : decode cX7_tear 20 = .ok (.iconst 1, 1) := by decide +kernel
theorem dX7_tear_21 : decode cX7_tear 21 = .ok (.goto 4, 3) := by decide +kernel
theorem dX7_tear_24 : decode cX7_tear 24 = .ok (.iconst 0, 1) := by decide +kernel
theorem dX7_tear_25 : decode cX7_tear 25 = .ok (.istore 5, 2) := by decide +kernel
theorem dX7_tear_27 : decode cX7_tear 27 = .ok (.iload 5, 2) := by decide +kernel
theorem dX7_tear_29 : decode cX7_tear 29 = .ok (.ifCond .eq 19, 3) := by decide +kernel
theorem dX7_tear_32 : decode cX7_tear 32 = .ok (.aload_n 0, 1) := by decide +kernel
theorem dX7_tear_33 : decode cX7_tear 33 = .ok (.getfield 68, 3) := by decide +kernel
theorem dX7_tear_36 : decode cX7_tear 36 = .ok (.iload_n 1, 1) := by decide +kernel
theorem dX7_tear_37 : decode cX7_tear 37 = .ok (.iload_n 2, 1) := by decide +kernel
theorem dX7_tear_38 : decode cX7_tear 38 = .ok (.iload_n 3, 1) := by decide +kernel
theorem dX7_tear_39 : decode cX7_tear 39 = .ok (.iload 4, 2) := by decide +kernel
theorem dX7_tear_41 : decode cX7_tear 41 = .ok (.invokestatic 173, 3) := by decide +kernel
theorem dX7_tear_44 : decode cX7_tear 44 = .ok (.baload, 1) := by decide +kernel
theorem dX7_tear_45 : decode cX7_tear 45 = .ok (.ifCond .eq 20, 3) := by decide +kernel
theorem dX7_tear_48 : decode cX7_tear 48 = .ok (.aload_n 0, 1) := by decide +kernel
theorem dX7_tear_49 : decode cX7_tear 49 = .ok (.iload 5, 2) := by decide +kernel
theorem dX7_tear_51 : decode cX7_tear 51 = .ok (.ifCond .eq 7, 3) := by decide +kernel
theorem dX7_tear_54 : decode cX7_tear 54 = .ok (.iconst 2, 1) := by decide +kernel
theorem dX7_tear_55 : decode cX7_tear 55 = .ok (.goto 4, 3) := by decide +kernel
theorem dX7_tear_58 : decode cX7_tear 58 = .ok (.iconst 1, 1) := by decide +kernel
theorem dX7_tear_59 : decode cX7_tear 59 = .ok (.invokevirtual 89, 3) := by decide +kernel
theorem dX7_tear_62 : decode cX7_tear 62 = .ok (.pop, 1) := by decide +kernel
theorem dX7_tear_63 : decode cX7_tear 63 = .ok (.iconst 0, 1) := by decide +kernel
theorem dX7_tear_64 : decode cX7_tear 64 = .ok (.ireturn, 1) := by decide +kernel
theorem dX7_tear_65 : decode cX7_tear 65 = .ok (.aload_n 0, 1) := by decide +kernel
theorem dX7_tear_66 : decode cX7_tear 66 = .ok (.iconst 0, 1) := by decide +kernel
theorem dX7_tear_67 : decode cX7_tear 67 = .ok (.putfield 79, 3) := by decide +kernel
theorem dX7_tear_70 : decode cX7_tear 70 = .ok (.aload_n 0, 1) := by decide +kernel
theorem dX7_tear_71 : decode cX7_tear 71 = .ok (.getfield 68, 3) := by decide +kernel
theorem dX7_tear_74 : decode cX7_tear 74 = .ok (.iload_n 1, 1) := by decide +kernel
theorem dX7_tear_75 : decode cX7_tear 75 = .ok (.iload_n 2, 1) := by decide +kernel
theorem dX7_tear_76 : decode cX7_tear 76 = .ok (.iload_n 3, 1) := by decide +kernel
theorem dX7_tear_77 : decode cX7_tear 77 = .ok (.iload 4, 2) := by decide +kernel
theorem dX7_tear_79 : decode cX7_tear 79 = .ok (.invokestatic 173, 3) := by decide +kernel
theorem dX7_tear_82 : decode cX7_tear 82 = .ok (.iconst 1, 1) := by decide +kernel
theorem dX7_tear_83 : decode cX7_tear 83 = .ok (.bastore, 1) := by decide +kernel
theorem dX7_tear_84 : decode cX7_tear 84 = .ok (.aload_n 0, 1) := by decide +kernel
theorem dX7_tear_85 : decode cX7_tear 85 = .ok (.iload_n 1, 1) := by decide +kernel
theorem dX7_tear_86 : decode cX7_tear 86 = .ok (.invokevirtual 177, 3) := by decide +kernel
theorem dX7_tear_89 : decode cX7_tear 89 = .ok (.ireturn, 1) := by decide +kernel
theorem dX7_hole_0 : decode cX7_hole 0 = .ok (.iload_n 2, 1) := by decide +kernel
theorem dX7_hole_1 : decode cX7_hole 1 = .ok (.iconst 0, 1) := by decide +kernel
theorem dX7_hole_2 : decode cX7_hole 2 = .ok (.bipush 10, 2) := by decide +kernel
theorem dX7_hole_4 : decode cX7_hole 4 = .ok (.invokestatic 85, 3) := by decide +kernel
theorem dX7_hole_7 : decode cX7_hole 7 = .ok (.ifCond .eq 39, 3) := by decide +kernel
theorem dX7_hole_10 : decode cX7_hole 10 = .ok (.iload_n 3, 1) := by decide +kernel
theorem dX7_hole_11 : decode cX7_hole 11 = .ok (.iconst 0, 1) := by decide +kernel
theorem dX7_hole_12 : decode cX7_hole 12 = .ok (.bipush 10, 2) := by decide +kernel
theorem dX7_hole_14 : decode cX7_hole 14 = .ok (.invokestatic 85, 3) := by decide +kernel
theorem dX7_hole_17 : decode cX7_hole 17 = .ok (.ifCond .eq 29, 3) := by decide +kernel
theorem dX7_hole_20 : decode cX7_hole 20 = .ok (.iload 4, 2) := by decide +kernel
theorem dX7_hole_22 : decode cX7_hole 22 = .ok (.iload_n 2, 1) := by decide +kernel
theorem dX7_hole_23 : decode cX7_hole 23 = .ok (.bipush 10, 2) := by decide +kernel
theorem dX7_hole_25 : decode cX7_hole 25 = .ok (.invokestatic 85, 3) := by decide +kernel
theorem dX7_hole_28 : decode cX7_hole 28 = .ok (.ifCond .eq 18, 3) := by decide +kernel
theorem dX7_hole_31 : decode cX7_hole 31 = .ok (.iload 5, 2) := by decide +kernel
theorem dX7_hole_33 : decode cX7_hole 33 = .ok (.iload_n 3, 1) := by decide +kernel
theorem dX7_hole_34 : decode cX7_hole 34 = .ok (.bipush 10, 2) := by decide +kernel
theorem dX7_hole_36 : decode cX7_hole 36 = .ok (.invokestatic 85, 3) := by decide +kernel
theorem dX7_hole_39 : decode cX7_hole 39 = .ok (.ifCond .eq 7, 3) := by decide +kernel
theorem dX7_hole_42 : decode cX7_hole 42 = .ok (.iconst 1, 1) := by decide +kernel
theorem dX7_hole_43 : decode cX7_hole 43 = .ok (.goto 4, 3) := by decide +kernel
theorem dX7_hole_46 : decode cX7_hole 46 = .ok (.iconst 0, 1) := by decide +kernel
theorem dX7_hole_47 : decode cX7_hole 47 = .ok (.istore 6, 2) := by decide +kernel
theorem dX7_hole_49 : decode cX7_hole 49 = .ok (.aload_n 0, 1) := by decide +kernel
theorem dX7_hole_50 : decode cX7_hole 50 = .ok (.aload_n 0, 1) := by decide +kernel
theorem dX7_hole_51 : decode cX7_hole 51 = .ok (.iload_n 1, 1) := by decide +kernel
theorem dX7_hole_52 : decode cX7_hole 52 = .ok (.invokevirtual 166, 3) := by decide +kernel
theorem dX7_hole_55 : decode cX7_hole 55 = .ok (.ifCond .ne 7, 3) := by decide +kernel
theorem dX7_hole_58 : decode cX7_hole 58 = .ok (.iconst 1, 1) := by decide +kernel
theorem dX7_hole_59 : decode cX7_hole 59 = .ok (.goto 13, 3) := by decide +kernel
theorem dX7_hole_62 : decode cX7_hole 62 = .ok (.iload 6, 2) := by decide +kernel
theorem dX7_hole_64 : decode cX7_hole 64 = .ok (.ifCond .ne 7, 3) := by decide +kernel
theorem dX7_hole_67 : decode cX7_hole 67 = .ok (.iconst 2, 1) := by decide +kernel
theorem dX7_hole_68 : decode cX7_hole 68 = .ok (.goto 4, 3) := by decide +kernel
theorem dX7_hole_71 : decode cX7_hole 71 = .ok (.iconst 0, 1) := by decide +kernel
theorem dX7_hole_72 : decode cX7_hole 72 = .ok (.invokevirtual 89, 3) := by decide +kernel
theorem dX7_hole_75 : decode cX7_hole 75 = .ok (.ifCond .eq 5, 3) := by decide +kernel
theorem dX7_hole_78 : decode cX7_hole 78 = .ok (.iconst 0, 1) := by decide +kernel
theorem dX7_hole_79 : decode cX7_hole 79 = .ok (.ireturn, 1) := by decide +kernel
theorem dX7_hole_80 : decode cX7_hole 80 = .ok (.aload_n 0, 1) := by decide +kernel
theorem dX7_hole_81 : decode cX7_hole 81 = .ok (.iload_n 1, 1) := by decide +kernel
theorem dX7_hole_82 : decode cX7_hole 82 = .ok (.invokevirtual 177, 3) := by decide +kernel
theorem dX7_hole_85 : decode cX7_hole 85 = .ok (.istore 7, 2) := by decide +kernel
theorem dX7_hole_87 : decode cX7_hole 87 = .ok (.iload_n 2, 1) := by decide +kernel
theorem dX7_hole_88 : decode cX7_hole 88 = .ok (.istore 8, 2) := by decide +kernel
theorem dX7_hole_90 : decode cX7_hole 90 = .ok (.iload 8, 2) := by decide +kernel
theorem dX7_hole_92 : decode cX7_hole 92 = .ok (.iload 4, 2) := by decide +kernel
theorem dX7_hole_94 : decode cX7_hole 94 = .ok (.if_icmp .ge 94, 3) := by decide +kernel
theorem dX7_hole_97 : decode cX7_hole 97 = .ok (.iload_n 3, 1) := by decide +kernel
theorem dX7_hole_98 : decode cX7_hole 98 = .ok (.istore 9, 2) := by decide +kernel
theorem dX7_hole_100 : decode cX7_hole 100 = .ok (.iload 9, 2) := by decide +kernel
theorem dX7_hole_102 : decode cX7_hole 102 = .ok (.iload 5, 2) := by decide +kernel
theorem dX7_hole_104 : decode cX7_hole 104 = .ok (.if_icmp .gt 78, 3) := by decide +kernel
theorem dX7_hole_107 : decode cX7_hole 107 = .ok (.iload 9, 2) := by decide +kernel
theorem dX7_hole_109 : decode cX7_hole 109 = .ok (.iload 5, 2) := by decide +kernel
theorem dX7_hole_111 : decode cX7_hole 111 = .ok (.if_icmp .ge 31, 3) := by decide +kernel
theorem dX7_hole_114 : decode cX7_hole 114 = .ok (.aload_n 0, 1) := by decide +kernel
theorem dX7_hole_115 : decode cX7_hole 115 = .ok (.iload_n 1, 1) := by decide +kernel
theorem dX7_hole_116 : decode cX7_hole 116 = .ok (.iload 8, 2) := by decide +kernel
theorem dX7_hole_118 : decode cX7_hole 118 = .ok (.iload 9, 2) := by decide +kernel
theorem dX7_hole_120 : decode cX7_hole 120 = .ok (.iconst 1, 1) := by decide +kernel
theorem dX7_hole_121 : decode cX7_hole 121 = .ok (.invokevirtual 169, 3) := by decide +kernel
theorem dX7_hole_124 : decode cX7_hole 124 = .ok (.ifCond .eq 18, 3) := by decide +kernel
theorem dX7_hole_127 : decode cX7_hole 127 = .ok (.aload_n 0, 1) := by decide +kernel
theorem dX7_hole_128 : decode cX7_hole 128 = .ok (.getfield 68, 3) := by decide +kernel
theorem dX7_hole_131 : decode cX7_hole 131 = .ok (.iload_n 1, 1) := by decide +kernel
theorem dX7_hole_132 : decode cX7_hole 132 = .ok (.iload 8, 2) := by decide +kernel
theorem dX7_hole_134 : decode cX7_hole 134 = .ok (.iload 9, 2) := by decide +kernel
theorem dX7_hole_136 : decode cX7_hole 136 = .ok (.iconst 1, 1) := by decide +kernel
theorem dX7_hole_137 : decode cX7_hole 137 = .ok (.invokestatic 173, 3) := by decide +kernel
theorem dX7_hole_140 : decode cX7_hole 140 = .ok (.iconst 1, 1) := by decide +kernel
theorem dX7_hole_141 : decode cX7_hole 141 = .ok (.bastore, 1) := by decide +kernel
theorem dX7_hole_142 : decode cX7_hole 142 = .ok (.iload 9, 2) := by decide +kernel
theorem dX7_hole_144 : decode cX7_hole 144 = .ok (.iload_n 3, 1) := by decide +kernel
theorem dX7_hole_145 : decode cX7_hole 145 = .ok (.if_icmp .le 31, 3) := by decide +kernel
theorem dX7_hole_148 : decode cX7_hole 148 = .ok (.aload_n 0, 1) := by decide +kernel
theorem dX7_hole_149 : decode cX7_hole 149 = .ok (.iload_n 1, 1) := by decide +kernel
theorem dX7_hole_150 : decode cX7_hole 150 = .ok (.iload 8, 2) := by decide +kernel
theorem dX7_hole_152 : decode cX7_hole 152 = .ok (.iload 9, 2) := by decide +kernel
theorem dX7_hole_154 : decode cX7_hole 154 = .ok (.iconst 0, 1) := by decide +kernel
theorem dX7_hole_155 : decode cX7_hole 155 = .ok (.invokevirtual 169, 3) := by decide +kernel
theorem dX7_hole_158 : decode cX7_hole 158 = .ok (.ifCond .eq 18, 3) := by decide +kernel
theorem dX7_hole_161 : decode cX7_hole 161 = .ok (.aload_n 0, 1) := by decide +kernel
theorem dX7_hole_162 : decode cX7_hole 162 = .ok (.getfield 68, 3) := by decide +kernel
theorem dX7_hole_165 : decode cX7_hole 165 = .ok (.iload_n 1, 1) := by decide +kernel
theorem dX7_hole_166 : decode cX7_hole 166 = .ok (.iload 8, 2) := by decide +kernel
theorem dX7_hole_168 : decode cX7_hole 168 = .ok (.iload 9, 2) := by decide +kernel
theorem dX7_hole_170 : decode cX7_hole 170 = .ok (.iconst 0, 1) := by decide +kernel
theorem dX7_hole_171 : decode cX7_hole 171 = .ok (.invokestatic 173, 3) := by decide +kernel
theorem dX7_hole_174 : decode cX7_hole 174 = .ok (.iconst 1, 1) := by decide +kernel
theorem dX7_hole_175 : decode cX7_hole 175 = .ok (.bastore, 1) := by decide +kernel
theorem dX7_hole_176 : decode cX7_hole 176 = .ok (.iinc 9 1, 3) := by decide +kernel
theorem dX7_hole_179 : decode cX7_hole 179 = .ok (.goto (-79), 3) := by decide +kernel
theorem dX7_hole_182 : decode cX7_hole 182 = .ok (.iinc 8 1, 3) := by decide +kernel
theorem dX7_hole_185 : decode cX7_hole 185 = .ok (.goto (-95), 3) := by decide +kernel
theorem dX7_hole_188 : decode cX7_hole 188 = .ok (.aload_n 0, 1) := by decide +kernel
theorem dX7_hole_189 : decode cX7_hole 189 = .ok (.iload_n 1, 1) := by decide +kernel
theorem dX7_hole_190 : decode cX7_hole 190 = .ok (.invokevirtual 177, 3) := by decide +kernel
theorem dX7_hole_193 : decode cX7_hole 193 = .ok (.iload 7, 2) := by decide +kernel
theorem dX7_hole_195 : decode cX7_hole 195 = .ok (.isub, 1) := by decide +kernel
theorem dX7_hole_196 : decode cX7_hole 196 = .ok (.ireturn, 1) := by decide +kernel
theorem dX7_lower_0 : decode cX7_lower 0 = .ok (.bipush 11, 2) := by decide +kernel
theorem dX7_lower_2 : decode cX7_lower 2 = .ok (.iload_n 0, 1) := by decide +kernel
theorem dX7_lower_3 : decode cX7_lower 3 = .ok (.bipush 22, 2) := by decide +kernel
theorem dX7_lower_5 : decode cX7_lower 5 = .ok (.idiv, 1) := by decide +kernel
theorem dX7_lower_6 : decode cX7_lower 6 = .ok (.iconst 1, 1) := by decide +kernel
theorem dX7_lower_7 : decode cX7_lower 7 = .ok (.iadd, 1) := by decide +kernel
theorem dX7_lower_8 : decode cX7_lower 8 = .ok (.imul, 1) := by decide +kernel
theorem dX7_lower_9 : decode cX7_lower 9 = .ok (.iload_n 0, 1) := by decide +kernel
theorem dX7_lower_10 : decode cX7_lower 10 = .ok (.bipush 22, 2) := by decide +kernel
theorem dX7_lower_12 : decode cX7_lower 12 = .ok (.irem, 1) := by decide +kernel
theorem dX7_lower_13 : decode cX7_lower 13 = .ok (.iconst 2, 1) := by decide +kernel
theorem dX7_lower_14 : decode cX7_lower 14 = .ok (.idiv, 1) := by decide +kernel
theorem dX7_lower_15 : decode cX7_lower 15 = .ok (.iadd, 1) := by decide +kernel
theorem dX7_lower_16 : decode cX7_lower 16 = .ok (.iload_n 0, 1) := by decide +kernel
theorem dX7_lower_17 : decode cX7_lower 17 = .ok (.iconst 2, 1) := by decide +kernel
theorem dX7_lower_18 : decode cX7_lower 18 = .ok (.irem, 1) := by decide +kernel
theorem dX7_lower_19 : decode cX7_lower 19 = .ok (.iconst 1, 1) := by decide +kernel
theorem dX7_lower_20 : decode cX7_lower 20 = .ok (.if_icmp .ne 7, 3) := by decide +kernel
theorem dX7_lower_23 : decode cX7_lower 23 = .ok (.iconst 1, 1) := by decide +kernel
theorem dX7_lower_24 : decode cX7_lower 24 = .ok (.goto 4, 3) := by decide +kernel
theorem dX7_lower_27 : decode cX7_lower 27 = .ok (.iconst (-1), 1) := by decide +kernel
theorem dX7_lower_28 : decode cX7_lower 28 = .ok (.iadd, 1) := by decide +kernel
theorem dX7_lower_29 : decode cX7_lower 29 = .ok (.ireturn, 1) := by decide +kernel
theorem dX7_upper_0 : decode cX7_upper 0 = .ok (.bipush 11, 2) := by decide +kernel
theorem dX7_upper_2 : decode cX7_upper 2 = .ok (.iload_n 0, 1) := by decide +kernel
theorem dX7_upper_3 : decode cX7_upper 3 = .ok (.bipush 22, 2) := by decide +kernel
theorem dX7_upper_5 : decode cX7_upper 5 = .ok (.idiv, 1) := by decide +kernel
theorem dX7_upper_6 : decode cX7_upper 6 = .ok (.imul, 1) := by decide +kernel
theorem dX7_upper_7 : decode cX7_upper 7 = .ok (.iload_n 0, 1) := by decide +kernel
theorem dX7_upper_8 : decode cX7_upper 8 = .ok (.bipush 22, 2) := by decide +kernel
theorem dX7_upper_10 : decode cX7_upper 10 = .ok (.irem, 1) := by decide +kernel
theorem dX7_upper_11 : decode cX7_upper 11 = .ok (.iconst 2, 1) := by decide +kernel
theorem dX7_upper_12 : decode cX7_upper 12 = .ok (.idiv, 1) := by decide +kernel
theorem dX7_upper_13 : decode cX7_upper 13 = .ok (.iadd, 1) := by decide +kernel
theorem dX7_upper_14 : decode cX7_upper 14 = .ok (.ireturn, 1) := by decide +kernel
theorem dX7_fewest_0 : decode cX7_fewest 0 = .ok (.iconst 0, 1) := by decide +kernel
theorem dX7_fewest_1 : decode cX7_fewest 1 = .ok (.istore_n 2, 1) := by decide +kernel
theorem dX7_fewest_2 : decode cX7_fewest 2 = .ok (.iload_n 2, 1) := by decide +kernel
theorem dX7_fewest_3 : decode cX7_fewest 3 = .ok (.bipush 121, 2) := by decide +kernel
theorem dX7_fewest_5 : decode cX7_fewest 5 = .ok (.if_icmp .ge 16, 3) := by decide +kernel
theorem dX7_fewest_8 : decode cX7_fewest 8 = .ok (.aload_n 0, 1) := by decide +kernel
theorem dX7_fewest_9 : decode cX7_fewest 9 = .ok (.getfield 72, 3) := by decide +kernel
theorem dX7_fewest_12 : decode cX7_fewest 12 = .ok (.iload_n 2, 1) := by decide +kernel
theorem dX7_fewest_13 : decode cX7_fewest 13 = .ok (.iload_n 2, 1) := by decide +kernel
theorem dX7_fewest_14 : decode cX7_fewest 14 = .ok (.iastore, 1) := by decide +kernel
theorem dX7_fewest_15 : decode cX7_fewest 15 = .ok (.iinc 2 1, 3) := by decide +kernel
theorem dX7_fewest_18 : decode cX7_fewest 18 = .ok (.goto (-16), 3) := by decide +kernel
theorem dX7_fewest_21 : decode cX7_fewest 21 = .ok (.iconst 1, 1) := by decide +kernel
theorem dX7_fewest_22 : decode cX7_fewest 22 = .ok (.istore_n 2, 1) := by decide +kernel
theorem dX7_fewest_23 : decode cX7_fewest 23 = .ok (.iload_n 2, 1) := by decide +kernel
theorem dX7_fewest_24 : decode cX7_fewest 24 = .ok (.ifCond .eq 127, 3) := by decide +kernel
theorem dX7_fewest_27 : decode cX7_fewest 27 = .ok (.iconst 0, 1) := by decide +kernel
theorem dX7_fewest_28 : decode cX7_fewest 28 = .ok (.istore_n 2, 1) := by decide +kernel
theorem dX7_fewest_29 : decode cX7_fewest 29 = .ok (.iconst 0, 1) := by decide +kernel
theorem dX7_fewest_30 : decode cX7_fewest 30 = .ok (.istore_n 3, 1) := by decide +kernel
theorem dX7_fewest_31 : decode cX7_fewest 31 = .ok (.iload_n 3, 1) := by decide +kernel
theorem dX7_fewest_32 : decode cX7_fewest 32 = .ok (.sipush 220, 3) := by decide +kernel
theorem dX7_fewest_35 : decode cX7_fewest 35 = .ok (.if_icmp .ge 113, 3) := by decide +kernel
theorem dX7_fewest_38 : decode cX7_fewest 38 = .ok (.aload_n 0, 1) := by decide +kernel
theorem dX7_fewest_39 : decode cX7_fewest 39 = .ok (.getfield 68, 3) := by decide +kernel
theorem dX7_fewest_42 : decode cX7_fewest 42 = .ok (.sipush 220, 3) := by decide +kernel
theorem dX7_fewest_45 : decode cX7_fewest 45 = .ok (.iload_n 1, 1) := by decide +kernel
theorem dX7_fewest_46 : decode cX7_fewest 46 = .ok (.imul, 1) := by decide +kernel
theorem dX7_fewest_47 : decode cX7_fewest 47 = .ok (.iload_n 3, 1) := by decide +kernel
theorem dX7_fewest_48 : decode cX7_fewest 48 = .ok (.iadd, 1) := by decide +kernel
theorem dX7_fewest_49 : decode cX7_fewest 49 = .ok (.baload, 1) := by decide +kernel
theorem dX7_fewest_50 : decode cX7_fewest 50 = .ok (.ifCond .eq 92, 3) := by decide +kernel
theorem dX7_fewest_53 : decode cX7_fewest 53 = .ok (.aload_n 0, 1) := by decide +kernel
theorem dX7_fewest_54 : decode cX7_fewest 54 = .ok (.getfield 72, 3) := by decide +kernel
theorem dX7_fewest_57 : decode cX7_fewest 57 = .ok (.iload_n 3, 1) := by decide +kernel
theorem dX7_fewest_58 : decode cX7_fewest 58 = .ok (.invokestatic 180, 3) := by decide +kernel
theorem dX7_fewest_61 : decode cX7_fewest 61 = .ok (.iaload, 1) := by decide +kernel
theorem dX7_fewest_62 : decode cX7_fewest 62 = .ok (.aload_n 0, 1) := by decide +kernel
theorem dX7_fewest_63 : decode cX7_fewest 63 = .ok (.getfield 72, 3) := by decide +kernel
theorem dX7_fewest_66 : decode cX7_fewest 66 = .ok (.iload_n 3, 1) := by decide +kernel
theorem dX7_fewest_67 : decode cX7_fewest 67 = .ok (.invokestatic 183, 3) := by decide +kernel
theorem dX7_fewest_70 : decode cX7_fewest 70 = .ok (.iaload, 1) := by decide +kernel
theorem dX7_fewest_71 : decode cX7_fewest 71 = .ok (.if_icmp .eq 71, 3) := by decide +kernel
theorem dX7_fewest_74 : decode cX7_fewest 74 = .ok (.aload_n 0, 1) := by decide +kernel
theorem dX7_fewest_75 : decode cX7_fewest 75 = .ok (.getfield 72, 3) := by decide +kernel
theorem dX7_fewest_78 : decode cX7_fewest 78 = .ok (.iload_n 3, 1) := by decide +kernel
theorem dX7_fewest_79 : decode cX7_fewest 79 = .ok (.invokestatic 180, 3) := by decide +kernel
theorem dX7_fewest_82 : decode cX7_fewest 82 = .ok (.iaload, 1) := by decide +kernel
theorem dX7_fewest_83 : decode cX7_fewest 83 = .ok (.aload_n 0, 1) := by decide +kernel
theorem dX7_fewest_84 : decode cX7_fewest 84 = .ok (.getfield 72, 3) := by decide +kernel
theorem dX7_fewest_87 : decode cX7_fewest 87 = .ok (.iload_n 3, 1) := by decide +kernel
theorem dX7_fewest_88 : decode cX7_fewest 88 = .ok (.invokestatic 183, 3) := by decide +kernel
theorem dX7_fewest_91 : decode cX7_fewest 91 = .ok (.iaload, 1) := by decide +kernel
theorem dX7_fewest_92 : decode cX7_fewest 92 = .ok (.if_icmp .ge 15, 3) := by decide +kernel
theorem dX7_fewest_95 : decode cX7_fewest 95 = .ok (.aload_n 0, 1) := by decide +kernel
theorem dX7_fewest_96 : decode cX7_fewest 96 = .ok (.getfield 72, 3) := by decide +kernel
theorem dX7_fewest_99 : decode cX7_fewest 99 = .ok (.iload_n 3, 1) := by decide +kernel
theorem dX7_fewest_100 : decode cX7_fewest 100 = .ok (.invokestatic 180, 3) := by decide +kernel
theorem dX7_fewest_103 : decode cX7_fewest 103 = .ok (.iaload, 1) := by decide +kernel
theorem dX7_fewest_104 : decode cX7_fewest 104 = .ok (.goto 12, 3) := by decide +kernel
theorem dX7_fewest_107 : decode cX7_fewest 107 = .ok (.aload_n 0, 1) := by decide +kernel
theorem dX7_fewest_108 : decode cX7_fewest 108 = .ok (.getfield 72, 3) := by decide +kernel
theorem dX7_fewest_111 : decode cX7_fewest 111 = .ok (.iload_n 3, 1) := by decide +kernel
theorem dX7_fewest_112 : decode cX7_fewest 112 = .ok (.invokestatic 183, 3) := by decide +kernel
theorem dX7_fewest_115 : decode cX7_fewest 115 = .ok (.iaload, 1) := by decide +kernel
theorem dX7_fewest_116 : decode cX7_fewest 116 = .ok (.istore 4, 2) := by decide +kernel
theorem dX7_fewest_118 : decode cX7_fewest 118 = .ok (.aload_n 0, 1) := by decide +kernel
theorem dX7_fewest_119 : decode cX7_fewest 119 = .ok (.getfield 72, 3) := by decide +kernel
theorem dX7_fewest_122 : decode cX7_fewest 122 = .ok (.iload_n 3, 1) := by decide +kernel
theorem dX7_fewest_123 : decode cX7_fewest 123 = .ok (.invokestatic 180, 3) := by decide +kernel
theorem dX7_fewest_126 : decode cX7_fewest 126 = .ok (.iload 4, 2) := by decide +kernel
theorem dX7_fewest_128 : decode cX7_fewest 128 = .ok (.iastore, 1) := by decide +kernel
theorem dX7_fewest_129 : decode cX7_fewest 129 = .ok (.aload_n 0, 1) := by decide +kernel
theorem dX7_fewest_130 : decode cX7_fewest 130 = .ok (.getfield 72, 3) := by decide +kernel
theorem dX7_fewest_133 : decode cX7_fewest 133 = .ok (.iload_n 3, 1) := by decide +kernel
theorem dX7_fewest_134 : decode cX7_fewest 134 = .ok (.invokestatic 183, 3) := by decide +kernel
theorem dX7_fewest_137 : decode cX7_fewest 137 = .ok (.iload 4, 2) := by decide +kernel
theorem dX7_fewest_139 : decode cX7_fewest 139 = .ok (.iastore, 1) := by decide +kernel
theorem dX7_fewest_140 : decode cX7_fewest 140 = .ok (.iconst 1, 1) := by decide +kernel
theorem dX7_fewest_141 : decode cX7_fewest 141 = .ok (.istore_n 2, 1) := by decide +kernel
theorem dX7_fewest_142 : decode cX7_fewest 142 = .ok (.iinc 3 1, 3) := by decide +kernel
theorem dX7_fewest_145 : decode cX7_fewest 145 = .ok (.goto (-114), 3) := by decide +kernel
theorem dX7_fewest_148 : decode cX7_fewest 148 = .ok (.goto (-125), 3) := by decide +kernel
theorem dX7_fewest_151 : decode cX7_fewest 151 = .ok (.iconst 0, 1) := by decide +kernel
theorem dX7_fewest_152 : decode cX7_fewest 152 = .ok (.istore_n 3, 1) := by decide +kernel
theorem dX7_fewest_153 : decode cX7_fewest 153 = .ok (.iconst 0, 1) := by decide +kernel
theorem dX7_fewest_154 : decode cX7_fewest 154 = .ok (.istore 4, 2) := by decide +kernel
theorem dX7_fewest_156 : decode cX7_fewest 156 = .ok (.iload 4, 2) := by decide +kernel
theorem dX7_fewest_158 : decode cX7_fewest 158 = .ok (.bipush 121, 2) := by decide +kernel
theorem dX7_fewest_160 : decode cX7_fewest 160 = .ok (.if_icmp .ge 19, 3) := by decide +kernel
theorem dX7_fewest_163 : decode cX7_fewest 163 = .ok (.iload_n 3, 1) := by decide +kernel
theorem dX7_fewest_164 : decode cX7_fewest 164 = .ok (.aload_n 0, 1) := by decide +kernel
theorem dX7_fewest_165 : decode cX7_fewest 165 = .ok (.iload_n 1, 1) := by decide +kernel
theorem dX7_fewest_166 : decode cX7_fewest 166 = .ok (.iload 4, 2) := by decide +kernel
theorem dX7_fewest_168 : decode cX7_fewest 168 = .ok (.invokevirtual 186, 3) := by decide +kernel
theorem dX7_fewest_171 : decode cX7_fewest 171 = .ok (.iadd, 1) := by decide +kernel
theorem dX7_fewest_172 : decode cX7_fewest 172 = .ok (.istore_n 3, 1) := by decide +kernel
theorem dX7_fewest_173 : decode cX7_fewest 173 = .ok (.iinc 4 1, 3) := by decide +kernel
theorem dX7_fewest_176 : decode cX7_fewest 176 = .ok (.goto (-20), 3) := by decide +kernel
theorem dX7_fewest_179 : decode cX7_fewest 179 = .ok (.iload_n 3, 1) := by decide +kernel
theorem dX7_fewest_180 : decode cX7_fewest 180 = .ok (.ireturn, 1) := by decide +kernel
theorem dX7_part_0 : decode cX7_part 0 = .ok (.iconst 0, 1) := by decide +kernel
theorem dX7_part_1 : decode cX7_part 1 = .ok (.istore_n 3, 1) := by decide +kernel
theorem dX7_part_2 : decode cX7_part 2 = .ok (.iconst 0, 1) := by decide +kernel
theorem dX7_part_3 : decode cX7_part 3 = .ok (.istore 4, 2) := by decide +kernel
theorem dX7_part_5 : decode cX7_part 5 = .ok (.iconst 0, 1) := by decide +kernel
theorem dX7_part_6 : decode cX7_part 6 = .ok (.istore 5, 2) := by decide +kernel
theorem dX7_part_8 : decode cX7_part 8 = .ok (.iload 5, 2) := by decide +kernel
theorem dX7_part_10 : decode cX7_part 10 = .ok (.bipush 121, 2) := by decide +kernel
theorem dX7_part_12 : decode cX7_part 12 = .ok (.if_icmp .ge 110, 3) := by decide +kernel
theorem dX7_part_15 : decode cX7_part 15 = .ok (.iconst 0, 1) := by decide +kernel
theorem dX7_part_16 : decode cX7_part 16 = .ok (.istore 6, 2) := by decide +kernel
theorem dX7_part_18 : decode cX7_part 18 = .ok (.iconst 0, 1) := by decide +kernel
theorem dX7_part_19 : decode cX7_part 19 = .ok (.istore 7, 2) := by decide +kernel
theorem dX7_part_21 : decode cX7_part 21 = .ok (.iload 7, 2) := by decide +kernel
theorem dX7_part_23 : decode cX7_part 23 = .ok (.sipush 220, 3) := by decide +kernel
theorem dX7_part_26 : decode cX7_part 26 = .ok (.if_icmp .ge 66, 3) := by decide +kernel
theorem dX7_part_29 : decode cX7_part 29 = .ok (.aload_n 0, 1) := by decide +kernel
theorem dX7_part_30 : decode cX7_part 30 = .ok (.getfield 72, 3) := by decide +kernel
theorem dX7_part_33 : decode cX7_part 33 = .ok (.iload 5, 2) := by decide +kernel
theorem dX7_part_35 : decode cX7_part 35 = .ok (.iaload, 1) := by decide +kernel
theorem dX7_part_36 : decode cX7_part 36 = .ok (.iload_n 2, 1) := by decide +kernel
theorem dX7_part_37 : decode cX7_part 37 = .ok (.if_icmp .ne 55, 3) := by decide +kernel
theorem dX7_part_40 : decode cX7_part 40 = .ok (.iload 6, 2) := by decide +kernel
theorem dX7_part_42 : decode cX7_part 42 = .ok (.aload_n 0, 1) := by decide +kernel
theorem dX7_part_43 : decode cX7_part 43 = .ok (.getfield 68, 3) := by decide +kernel
theorem dX7_part_46 : decode cX7_part 46 = .ok (.sipush 220, 3) := by decide +kernel
theorem dX7_part_49 : decode cX7_part 49 = .ok (.iload_n 1, 1) := by decide +kernel
theorem dX7_part_50 : decode cX7_part 50 = .ok (.imul, 1) := by decide +kernel
theorem dX7_part_51 : decode cX7_part 51 = .ok (.iload 7, 2) := by decide +kernel
theorem dX7_part_53 : decode cX7_part 53 = .ok (.iadd, 1) := by decide +kernel
theorem dX7_part_54 : decode cX7_part 54 = .ok (.baload, 1) := by decide +kernel
theorem dX7_part_55 : decode cX7_part 55 = .ok (.ifCond .eq 27, 3) := by decide +kernel
theorem dX7_part_58 : decode cX7_part 58 = .ok (.iload 7, 2) := by decide +kernel
theorem dX7_part_60 : decode cX7_part 60 = .ok (.invokestatic 180, 3) := by decide +kernel
theorem dX7_part_63 : decode cX7_part 63 = .ok (.iload 5, 2) := by decide +kernel
theorem dX7_part_65 : decode cX7_part 65 = .ok (.if_icmp .eq 13, 3) := by decide +kernel
theorem dX7_part_68 : decode cX7_part 68 = .ok (.iload 7, 2) := by decide +kernel
theorem dX7_part_70 : decode cX7_part 70 = .ok (.invokestatic 183, 3) := by decide +kernel
theorem dX7_part_73 : decode cX7_part 73 = .ok (.iload 5, 2) := by decide +kernel
theorem dX7_part_75 : decode cX7_part 75 = .ok (.if_icmp .ne 7, 3) := by decide +kernel
theorem dX7_part_78 : decode cX7_part 78 = .ok (.iconst 1, 1) := by decide +kernel
theorem dX7_part_79 : decode cX7_part 79 = .ok (.goto 4, 3) := by decide +kernel
theorem dX7_part_82 : decode cX7_part 82 = .ok (.iconst 0, 1) := by decide +kernel
theorem dX7_part_83 : decode cX7_part 83 = .ok (.iadd, 1) := by decide +kernel
theorem dX7_part_84 : decode cX7_part 84 = .ok (.istore 6, 2) := by decide +kernel
theorem dX7_part_86 : decode cX7_part 86 = .ok (.iinc 7 1, 3) := by decide +kernel
theorem dX7_part_89 : decode cX7_part 89 = .ok (.goto (-68), 3) := by decide +kernel
theorem dX7_part_92 : decode cX7_part 92 = .ok (.iload_n 3, 1) := by decide +kernel
theorem dX7_part_93 : decode cX7_part 93 = .ok (.iload 6, 2) := by decide +kernel
theorem dX7_part_95 : decode cX7_part 95 = .ok (.iconst 2, 1) := by decide +kernel
theorem dX7_part_96 : decode cX7_part 96 = .ok (.irem, 1) := by decide +kernel
theorem dX7_part_97 : decode cX7_part 97 = .ok (.iadd, 1) := by decide +kernel
theorem dX7_part_98 : decode cX7_part 98 = .ok (.istore_n 3, 1) := by decide +kernel
theorem dX7_part_99 : decode cX7_part 99 = .ok (.iload 4, 2) := by decide +kernel
theorem dX7_part_101 : decode cX7_part 101 = .ok (.ifCond .ne 8, 3) := by decide +kernel
theorem dX7_part_104 : decode cX7_part 104 = .ok (.iload 6, 2) := by decide +kernel
theorem dX7_part_106 : decode cX7_part 106 = .ok (.ifCond .le 7, 3) := by decide +kernel
theorem dX7_part_109 : decode cX7_part 109 = .ok (.iconst 1, 1) := by decide +kernel
theorem dX7_part_110 : decode cX7_part 110 = .ok (.goto 4, 3) := by decide +kernel
theorem dX7_part_113 : decode cX7_part 113 = .ok (.iconst 0, 1) := by decide +kernel
theorem dX7_part_114 : decode cX7_part 114 = .ok (.istore 4, 2) := by decide +kernel
theorem dX7_part_116 : decode cX7_part 116 = .ok (.iinc 5 1, 3) := by decide +kernel
theorem dX7_part_119 : decode cX7_part 119 = .ok (.goto (-111), 3) := by decide +kernel
theorem dX7_part_122 : decode cX7_part 122 = .ok (.iload 4, 2) := by decide +kernel
theorem dX7_part_124 : decode cX7_part 124 = .ok (.ifCond .ne 7, 3) := by decide +kernel
theorem dX7_part_127 : decode cX7_part 127 = .ok (.iconst 0, 1) := by decide +kernel
theorem dX7_part_128 : decode cX7_part 128 = .ok (.goto 14, 3) := by decide +kernel
theorem dX7_part_131 : decode cX7_part 131 = .ok (.iload_n 3, 1) := by decide +kernel
theorem dX7_part_132 : decode cX7_part 132 = .ok (.ifCond .ne 7, 3) := by decide +kernel
theorem dX7_part_135 : decode cX7_part 135 = .ok (.iconst 1, 1) := by decide +kernel
theorem dX7_part_136 : decode cX7_part 136 = .ok (.goto 6, 3) := by decide +kernel
theorem dX7_part_139 : decode cX7_part 139 = .ok (.iload_n 3, 1) := by decide +kernel
theorem dX7_part_140 : decode cX7_part 140 = .ok (.iconst 2, 1) := by decide +kernel
theorem dX7_part_141 : decode cX7_part 141 = .ok (.idiv, 1) := by decide +kernel
theorem dX7_part_142 : decode cX7_part 142 = .ok (.ireturn, 1) := by decide +kernel
theorem dX7_twines_0 : decode cX7_twines 0 = .ok (.aload_n 0, 1) := by decide +kernel
theorem dX7_twines_1 : decode cX7_twines 1 = .ok (.aload_n 0, 1) := by decide +kernel
theorem dX7_twines_2 : decode cX7_twines 2 = .ok (.iload_n 1, 1) := by decide +kernel
theorem dX7_twines_3 : decode cX7_twines 3 = .ok (.invokevirtual 166, 3) := by decide +kernel
theorem dX7_twines_6 : decode cX7_twines 6 = .ok (.ifCond .eq 7, 3) := by decide +kernel
theorem dX7_twines_9 : decode cX7_twines 9 = .ok (.iconst 0, 1) := by decide +kernel
theorem dX7_twines_10 : decode cX7_twines 10 = .ok (.goto 4, 3) := by decide +kernel
theorem dX7_twines_13 : decode cX7_twines 13 = .ok (.iconst 1, 1) := by decide +kernel
theorem dX7_twines_14 : decode cX7_twines 14 = .ok (.invokevirtual 89, 3) := by decide +kernel
theorem dX7_twines_17 : decode cX7_twines 17 = .ok (.ifCond .eq 7, 3) := by decide +kernel
theorem dX7_twines_20 : decode cX7_twines 20 = .ok (.iconst 0, 1) := by decide +kernel
theorem dX7_twines_21 : decode cX7_twines 21 = .ok (.goto 8, 3) := by decide +kernel
theorem dX7_twines_24 : decode cX7_twines 24 = .ok (.aload_n 0, 1) := by decide +kernel
theorem dX7_twines_25 : decode cX7_twines 25 = .ok (.iload_n 1, 1) := by decide +kernel
theorem dX7_twines_26 : decode cX7_twines 26 = .ok (.invokevirtual 189, 3) := by decide +kernel
theorem dX7_twines_29 : decode cX7_twines 29 = .ok (.ireturn, 1) := by decide +kernel
theorem dX7_twinesAnew_0 : decode cX7_twinesAnew 0 = .ok (.aload_n 0, 1) := by decide +kernel
theorem dX7_twinesAnew_1 : decode cX7_twinesAnew 1 = .ok (.iload_n 1, 1) := by decide +kernel
theorem dX7_twinesAnew_2 : decode cX7_twinesAnew 2 = .ok (.invokevirtual 192, 3) := by decide +kernel
theorem dX7_twinesAnew_5 : decode cX7_twinesAnew 5 = .ok (.ireturn, 1) := by decide +kernel
theorem dX7_mend_0 : decode cX7_mend 0 = .ok (.aload_n 0, 1) := by decide +kernel
theorem dX7_mend_1 : decode cX7_mend 1 = .ok (.aload_n 0, 1) := by decide +kernel
theorem dX7_mend_2 : decode cX7_mend 2 = .ok (.iload_n 1, 1) := by decide +kernel
theorem dX7_mend_3 : decode cX7_mend 3 = .ok (.invokevirtual 166, 3) := by decide +kernel
theorem dX7_mend_6 : decode cX7_mend 6 = .ok (.ifCond .ne 7, 3) := by decide +kernel
theorem dX7_mend_9 : decode cX7_mend 9 = .ok (.iconst 1, 1) := by decide +kernel
theorem dX7_mend_10 : decode cX7_mend 10 = .ok (.goto 19, 3) := by decide +kernel
theorem dX7_mend_13 : decode cX7_mend 13 = .ok (.iload_n 2, 1) := by decide +kernel
theorem dX7_mend_14 : decode cX7_mend 14 = .ok (.iconst 0, 1) := by decide +kernel
theorem dX7_mend_15 : decode cX7_mend 15 = .ok (.sipush 200, 3) := by decide +kernel
theorem dX7_mend_18 : decode cX7_mend 18 = .ok (.invokestatic 85, 3) := by decide +kernel
theorem dX7_mend_21 : decode cX7_mend 21 = .ok (.ifCond .ne 7, 3) := by decide +kernel
theorem dX7_mend_24 : decode cX7_mend 24 = .ok (.iconst 2, 1) := by decide +kernel
theorem dX7_mend_25 : decode cX7_mend 25 = .ok (.goto 4, 3) := by decide +kernel
theorem dX7_mend_28 : decode cX7_mend 28 = .ok (.iconst 0, 1) := by decide +kernel
theorem dX7_mend_29 : decode cX7_mend 29 = .ok (.invokevirtual 89, 3) := by decide +kernel
theorem dX7_mend_32 : decode cX7_mend 32 = .ok (.ifCond .eq 5, 3) := by decide +kernel
theorem dX7_mend_35 : decode cX7_mend 35 = .ok (.iconst 0, 1) := by decide +kernel
theorem dX7_mend_36 : decode cX7_mend 36 = .ok (.ireturn, 1) := by decide +kernel
theorem dX7_mend_37 : decode cX7_mend 37 = .ok (.aload_n 0, 1) := by decide +kernel
theorem dX7_mend_38 : decode cX7_mend 38 = .ok (.iload_n 1, 1) := by decide +kernel
theorem dX7_mend_39 : decode cX7_mend 39 = .ok (.invokevirtual 177, 3) := by decide +kernel
theorem dX7_mend_42 : decode cX7_mend 42 = .ok (.istore_n 3, 1) := by decide +kernel
theorem dX7_mend_43 : decode cX7_mend 43 = .ok (.iload_n 2, 1) := by decide +kernel
theorem dX7_mend_44 : decode cX7_mend 44 = .ok (.aload_n 0, 1) := by decide +kernel
theorem dX7_mend_45 : decode cX7_mend 45 = .ok (.iload_n 1, 1) := by decide +kernel
theorem dX7_mend_46 : decode cX7_mend 46 = .ok (.invokevirtual 189, 3) := by decide +kernel
theorem dX7_mend_49 : decode cX7_mend 49 = .ok (.if_icmp .ge 5, 3) := by decide +kernel
theorem dX7_mend_52 : decode cX7_mend 52 = .ok (.iconst 0, 1) := by decide +kernel
theorem dX7_mend_53 : decode cX7_mend 53 = .ok (.ireturn, 1) := by decide +kernel
theorem dX7_mend_54 : decode cX7_mend 54 = .ok (.sipush 220, 3) := by decide +kernel
theorem dX7_mend_57 : decode cX7_mend 57 = .ok (.iload_n 1, 1) := by decide +kernel
theorem dX7_mend_58 : decode cX7_mend 58 = .ok (.imul, 1) := by decide +kernel
theorem dX7_mend_59 : decode cX7_mend 59 = .ok (.istore 4, 2) := by decide +kernel
theorem dX7_mend_61 : decode cX7_mend 61 = .ok (.iload 4, 2) := by decide +kernel
theorem dX7_mend_63 : decode cX7_mend 63 = .ok (.sipush 220, 3) := by decide +kernel
theorem dX7_mend_66 : decode cX7_mend 66 = .ok (.iload_n 1, 1) := by decide +kernel
theorem dX7_mend_67 : decode cX7_mend 67 = .ok (.imul, 1) := by decide +kernel
theorem dX7_mend_68 : decode cX7_mend 68 = .ok (.sipush 220, 3) := by decide +kernel
theorem dX7_mend_71 : decode cX7_mend 71 = .ok (.iadd, 1) := by decide +kernel
theorem dX7_mend_72 : decode cX7_mend 72 = .ok (.if_icmp .ge 17, 3) := by decide +kernel
theorem dX7_mend_75 : decode cX7_mend 75 = .ok (.aload_n 0, 1) := by decide +kernel
theorem dX7_mend_76 : decode cX7_mend 76 = .ok (.getfield 68, 3) := by decide +kernel
theorem dX7_mend_79 : decode cX7_mend 79 = .ok (.iload 4, 2) := by decide +kernel
theorem dX7_mend_81 : decode cX7_mend 81 = .ok (.iconst 0, 1) := by decide +kernel
theorem dX7_mend_82 : decode cX7_mend 82 = .ok (.bastore, 1) := by decide +kernel
theorem dX7_mend_83 : decode cX7_mend 83 = .ok (.iinc 4 1, 3) := by decide +kernel
theorem dX7_mend_86 : decode cX7_mend 86 = .ok (.goto (-25), 3) := by decide +kernel
theorem dX7_mend_89 : decode cX7_mend 89 = .ok (.iload_n 3, 1) := by decide +kernel
theorem dX7_mend_90 : decode cX7_mend 90 = .ok (.ireturn, 1) := by decide +kernel
theorem dX7_join_0 : decode cX7_join 0 = .ok (.iload_n 1, 1) := by decide +kernel
theorem dX7_join_1 : decode cX7_join 1 = .ok (.iconst 1, 1) := by decide +kernel
theorem dX7_join_2 : decode cX7_join 2 = .ok (.sipush 10000, 3) := by decide +kernel
theorem dX7_join_5 : decode cX7_join 5 = .ok (.invokestatic 85, 3) := by decide +kernel
theorem dX7_join_8 : decode cX7_join 8 = .ok (.ifCond .eq 29, 3) := by decide +kernel
theorem dX7_join_11 : decode cX7_join 11 = .ok (.iload_n 2, 1) := by decide +kernel
theorem dX7_join_12 : decode cX7_join 12 = .ok (.iconst 1, 1) := by decide +kernel
theorem dX7_join_13 : decode cX7_join 13 = .ok (.sipush 10000, 3) := by decide +kernel
theorem dX7_join_16 : decode cX7_join 16 = .ok (.invokestatic 85, 3) := by decide +kernel
theorem dX7_join_19 : decode cX7_join 19 = .ok (.ifCond .eq 18, 3) := by decide +kernel
theorem dX7_join_22 : decode cX7_join 22 = .ok (.iload_n 3, 1) := by decide +kernel
theorem dX7_join_23 : decode cX7_join 23 = .ok (.iconst 0, 1) := by decide +kernel
theorem dX7_join_24 : decode cX7_join 24 = .ok (.iload_n 2, 1) := by decide +kernel
theorem dX7_join_25 : decode cX7_join 25 = .ok (.iconst 1, 1) := by decide +kernel
theorem dX7_join_26 : decode cX7_join 26 = .ok (.isub, 1) := by decide +kernel
theorem dX7_join_27 : decode cX7_join 27 = .ok (.invokestatic 85, 3) := by decide +kernel
theorem dX7_join_30 : decode cX7_join 30 = .ok (.ifCond .eq 7, 3) := by decide +kernel
theorem dX7_join_33 : decode cX7_join 33 = .ok (.iconst 1, 1) := by decide +kernel
theorem dX7_join_34 : decode cX7_join 34 = .ok (.goto 4, 3) := by decide +kernel
theorem dX7_join_37 : decode cX7_join 37 = .ok (.iconst 0, 1) := by decide +kernel
theorem dX7_join_38 : decode cX7_join 38 = .ok (.istore 4, 2) := by decide +kernel
theorem dX7_join_40 : decode cX7_join 40 = .ok (.aload_n 0, 1) := by decide +kernel
theorem dX7_join_41 : decode cX7_join 41 = .ok (.iload 4, 2) := by decide +kernel
theorem dX7_join_43 : decode cX7_join 43 = .ok (.ifCond .eq 7, 3) := by decide +kernel
theorem dX7_join_46 : decode cX7_join 46 = .ok (.iconst 0, 1) := by decide +kernel
theorem dX7_join_47 : decode cX7_join 47 = .ok (.goto 4, 3) := by decide +kernel
theorem dX7_join_50 : decode cX7_join 50 = .ok (.iconst 1, 1) := by decide +kernel
theorem dX7_join_51 : decode cX7_join 51 = .ok (.invokevirtual 89, 3) := by decide +kernel
theorem dX7_join_54 : decode cX7_join 54 = .ok (.ifCond .eq 7, 3) := by decide +kernel
theorem dX7_join_57 : decode cX7_join 57 = .ok (.iconst 0, 1) := by decide +kernel
theorem dX7_join_58 : decode cX7_join 58 = .ok (.goto 16, 3) := by decide +kernel
theorem dX7_join_61 : decode cX7_join 61 = .ok (.iload_n 3, 1) := by decide +kernel
theorem dX7_join_62 : decode cX7_join 62 = .ok (.iconst 1, 1) := by decide +kernel
theorem dX7_join_63 : decode cX7_join 63 = .ok (.iadd, 1) := by decide +kernel
theorem dX7_join_64 : decode cX7_join 64 = .ok (.iload_n 1, 1) := by decide +kernel
theorem dX7_join_65 : decode cX7_join 65 = .ok (.imul, 1) := by decide +kernel
theorem dX7_join_66 : decode cX7_join 66 = .ok (.iload_n 2, 1) := by decide +kernel
theorem dX7_join_67 : decode cX7_join 67 = .ok (.idiv, 1) := by decide +kernel
theorem dX7_join_68 : decode cX7_join 68 = .ok (.iload_n 3, 1) := by decide +kernel
theorem dX7_join_69 : decode cX7_join 69 = .ok (.iload_n 1, 1) := by decide +kernel
theorem dX7_join_70 : decode cX7_join 70 = .ok (.imul, 1) := by decide +kernel
theorem dX7_join_71 : decode cX7_join 71 = .ok (.iload_n 2, 1) := by decide +kernel
theorem dX7_join_72 : decode cX7_join 72 = .ok (.idiv, 1) := by decide +kernel
theorem dX7_join_73 : decode cX7_join 73 = .ok (.isub, 1) := by decide +kernel
theorem dX7_join_74 : decode cX7_join 74 = .ok (.ireturn, 1) := by decide +kernel
theorem dX7_depth_0 : decode cX7_depth 0 = .ok (.iload_n 1, 1) := by decide +kernel
theorem dX7_depth_1 : decode cX7_depth 1 = .ok (.iconst 1, 1) := by decide +kernel
theorem dX7_depth_2 : decode cX7_depth 2 = .ok (.sipush 1000, 3) := by decide +kernel
theorem dX7_depth_5 : decode cX7_depth 5 = .ok (.invokestatic 85, 3) := by decide +kernel
theorem dX7_depth_8 : decode cX7_depth 8 = .ok (.ifCond .eq 28, 3) := by decide +kernel
theorem dX7_depth_11 : decode cX7_depth 11 = .ok (.iload_n 2, 1) := by decide +kernel
theorem dX7_depth_12 : decode cX7_depth 12 = .ok (.iconst 1, 1) := by decide +kernel
theorem dX7_depth_13 : decode cX7_depth 13 = .ok (.sipush 1000, 3) := by decide +kernel
theorem dX7_depth_16 : decode cX7_depth 16 = .ok (.invokestatic 85, 3) := by decide +kernel
theorem dX7_depth_19 : decode cX7_depth 19 = .ok (.ifCond .eq 17, 3) := by decide +kernel
theorem dX7_depth_22 : decode cX7_depth 22 = .ok (.iload_n 3, 1) := by decide +kernel
theorem dX7_depth_23 : decode cX7_depth 23 = .ok (.iconst 1, 1) := by decide +kernel
theorem dX7_depth_24 : decode cX7_depth 24 = .ok (.bipush 99, 2) := by decide +kernel
theorem dX7_depth_26 : decode cX7_depth 26 = .ok (.invokestatic 85, 3) := by decide +kernel
theorem dX7_depth_29 : decode cX7_depth 29 = .ok (.ifCond .eq 7, 3) := by decide +kernel
theorem dX7_depth_32 : decode cX7_depth 32 = .ok (.iconst 1, 1) := by decide +kernel
theorem dX7_depth_33 : decode cX7_depth 33 = .ok (.goto 4, 3) := by decide +kernel
theorem dX7_depth_36 : decode cX7_depth 36 = .ok (.iconst 0, 1) := by decide +kernel
theorem dX7_depth_37 : decode cX7_depth 37 = .ok (.istore 4, 2) := by decide +kernel
theorem dX7_depth_39 : decode cX7_depth 39 = .ok (.aload_n 0, 1) := by decide +kernel
theorem dX7_depth_40 : decode cX7_depth 40 = .ok (.iload 4, 2) := by decide +kernel
theorem dX7_depth_42 : decode cX7_depth 42 = .ok (.ifCond .eq 7, 3) := by decide +kernel
theorem dX7_depth_45 : decode cX7_depth 45 = .ok (.iconst 0, 1) := by decide +kernel
theorem dX7_depth_46 : decode cX7_depth 46 = .ok (.goto 4, 3) := by decide +kernel
theorem dX7_depth_49 : decode cX7_depth 49 = .ok (.iconst 1, 1) := by decide +kernel
theorem dX7_depth_50 : decode cX7_depth 50 = .ok (.invokevirtual 89, 3) := by decide +kernel
theorem dX7_depth_53 : decode cX7_depth 53 = .ok (.ifCond .eq 5, 3) := by decide +kernel
theorem dX7_depth_56 : decode cX7_depth 56 = .ok (.iconst 0, 1) := by decide +kernel
theorem dX7_depth_57 : decode cX7_depth 57 = .ok (.ireturn, 1) := by decide +kernel
theorem dX7_depth_58 : decode cX7_depth 58 = .ok (.iconst 0, 1) := by decide +kernel
theorem dX7_depth_59 : decode cX7_depth 59 = .ok (.istore 5, 2) := by decide +kernel
theorem dX7_depth_61 : decode cX7_depth 61 = .ok (.iload 5, 2) := by decide +kernel
theorem dX7_depth_63 : decode cX7_depth 63 = .ok (.iconst 1, 1) := by decide +kernel
theorem dX7_depth_64 : decode cX7_depth 64 = .ok (.iadd, 1) := by decide +kernel
theorem dX7_depth_65 : decode cX7_depth 65 = .ok (.iload 5, 2) := by decide +kernel
theorem dX7_depth_67 : decode cX7_depth 67 = .ok (.iconst 1, 1) := by decide +kernel
theorem dX7_depth_68 : decode cX7_depth 68 = .ok (.iadd, 1) := by decide +kernel
theorem dX7_depth_69 : decode cX7_depth 69 = .ok (.imul, 1) := by decide +kernel
theorem dX7_depth_70 : decode cX7_depth 70 = .ok (.sipush 10000, 3) := by decide +kernel
theorem dX7_depth_73 : decode cX7_depth 73 = .ok (.iload_n 3, 1) := by decide +kernel
theorem dX7_depth_74 : decode cX7_depth 74 = .ok (.iload_n 3, 1) := by decide +kernel
theorem dX7_depth_75 : decode cX7_depth 75 = .ok (.imul, 1) := by decide +kernel
theorem dX7_depth_76 : decode cX7_depth 76 = .ok (.isub, 1) := by decide +kernel
theorem dX7_depth_77 : decode cX7_depth 77 = .ok (.if_icmp .gt 9, 3) := by decide +kernel
theorem dX7_depth_80 : decode cX7_depth 80 = .ok (.iinc 5 1, 3) := by decide +kernel
theorem dX7_depth_83 : decode cX7_depth 83 = .ok (.goto (-22), 3) := by decide +kernel
theorem dX7_depth_86 : decode cX7_depth 86 = .ok (.iload_n 1, 1) := by decide +kernel
theorem dX7_depth_87 : decode cX7_depth 87 = .ok (.iload_n 2, 1) := by decide +kernel
theorem dX7_depth_88 : decode cX7_depth 88 = .ok (.imul, 1) := by decide +kernel
theorem dX7_depth_89 : decode cX7_depth 89 = .ok (.iload 5, 2) := by decide +kernel
theorem dX7_depth_91 : decode cX7_depth 91 = .ok (.imul, 1) := by decide +kernel
theorem dX7_depth_92 : decode cX7_depth 92 = .ok (.bipush 100, 2) := by decide +kernel
theorem dX7_depth_94 : decode cX7_depth 94 = .ok (.idiv, 1) := by decide +kernel
theorem dX7_depth_95 : decode cX7_depth 95 = .ok (.ireturn, 1) := by decide +kernel
