theorem dX0_init_0 : decode cX0_init 0 = .ok (.aload_n 0, 1) := by decide +kernel
theorem dX0_init_1 : decode cX0_init 1 = .ok (.invokespecial 3, 3) := by decide +kernel
theorem dX0_init_4 : decode cX0_init 4 = .ok (.aload_n 0, 1) := by decide +kernel
theorem dX0_init_5 : decode cX0_init 5 = .ok (.sipush 408, 3) := by decide +kernel
theorem dX0_init_8 : decode cX0_init 8 = .ok (.newarray .int, 2) := by decide +kernel
theorem dX0_init_10 : decode cX0_init 10 = .ok (.putfield 11, 3) := by decide +kernel
theorem dX0_init_13 : decode cX0_init 13 = .ok (.aload_n 0, 1) := by decide +kernel
theorem dX0_init_14 : decode cX0_init 14 = .ok (.iconst 0, 1) := by decide +kernel
theorem dX0_init_15 : decode cX0_init 15 = .ok (.putfield 15, 3) := by decide +kernel
theorem dX0_init_18 : decode cX0_init 18 = .ok (.aload_n 0, 1) := by decide +kernel
theorem dX0_init_19 : decode cX0_init 19 = .ok (.iconst 4, 1) := by decide +kernel
theorem dX0_init_20 : decode cX0_init 20 = .ok (.newarray .int, 2) := by decide +kernel
theorem dX0_init_22 : decode cX0_init 22 = .ok (.putfield 19, 3) := by decide +kernel
theorem dX0_init_25 : decode cX0_init 25 = .ok (.aload_n 0, 1) := by decide +kernel
theorem dX0_init_26 : decode cX0_init 26 = .ok (.bipush 9, 2) := by decide +kernel
theorem dX0_init_28 : decode cX0_init 28 = .ok (.newarray .int, 2) := by decide +kernel
theorem dX0_init_30 : decode cX0_init 30 = .ok (.putfield 22, 3) := by decide +kernel
theorem dX0_init_33 : decode cX0_init 33 = .ok (.aload_n 0, 1) := by decide +kernel
theorem dX0_init_34 : decode cX0_init 34 = .ok (.bipush 24, 2) := by decide +kernel
theorem dX0_init_36 : decode cX0_init 36 = .ok (.newarray .int, 2) := by decide +kernel
theorem dX0_init_38 : decode cX0_init 38 = .ok (.putfield 25, 3) := by decide +kernel
theorem dX0_init_41 : decode cX0_init 41 = .ok (.aload_n 0, 1) := by decide +kernel
theorem dX0_init_42 : decode cX0_init 42 = .ok (.invokevirtual 28, 3) := by decide +kernel
theorem dX0_init_45 : decode cX0_init 45 = .ok (.return_, 1) := by decide +kernel
theorem dX0_clear_0 : decode cX0_clear 0 = .ok (.aload_n 0, 1) := by decide +kernel
theorem dX0_clear_1 : decode cX0_clear 1 = .ok (.iconst 0, 1) := by decide +kernel
theorem dX0_clear_2 : decode cX0_clear 2 = .ok (.putfield 15, 3) := by decide +kernel
theorem dX0_clear_5 : decode cX0_clear 5 = .ok (.aload_n 0, 1) := by decide +kernel
theorem dX0_clear_6 : decode cX0_clear 6 = .ok (.iconst 0, 1) := by decide +kernel
theorem dX0_clear_7 : decode cX0_clear 7 = .ok (.iconst 0, 1) := by decide +kernel
theorem dX0_clear_8 : decode cX0_clear 8 = .ok (.iconst 1, 1) := by decide +kernel
theorem dX0_clear_9 : decode cX0_clear 9 = .ok (.invokevirtual 31, 3) := by decide +kernel
theorem dX0_clear_12 : decode cX0_clear 12 = .ok (.aload_n 0, 1) := by decide +kernel
theorem dX0_clear_13 : decode cX0_clear 13 = .ok (.iconst 1, 1) := by decide +kernel
theorem dX0_clear_14 : decode cX0_clear 14 = .ok (.iconst 1, 1) := by decide +kernel
theorem dX0_clear_15 : decode cX0_clear 15 = .ok (.iconst 2, 1) := by decide +kernel
theorem dX0_clear_16 : decode cX0_clear 16 = .ok (.invokevirtual 31, 3) := by decide +kernel
theorem dX0_clear_19 : decode cX0_clear 19 = .ok (.aload_n 0, 1) := by decide +kernel
theorem dX0_clear_20 : decode cX0_clear 20 = .ok (.iconst 2, 1) := by decide +kernel
theorem dX0_clear_21 : decode cX0_clear 21 = .ok (.iconst 1, 1) := by decide +kernel
theorem dX0_clear_22 : decode cX0_clear 22 = .ok (.bipush 6, 2) := by decide +kernel
theorem dX0_clear_24 : decode cX0_clear 24 = .ok (.invokevirtual 31, 3) := by decide +kernel
theorem dX0_clear_27 : decode cX0_clear 27 = .ok (.aload_n 0, 1) := by decide +kernel
theorem dX0_clear_28 : decode cX0_clear 28 = .ok (.iconst 3, 1) := by decide +kernel
theorem dX0_clear_29 : decode cX0_clear 29 = .ok (.iconst 0, 1) := by decide +kernel
theorem dX0_clear_30 : decode cX0_clear 30 = .ok (.iconst 0, 1) := by decide +kernel
theorem dX0_clear_31 : decode cX0_clear 31 = .ok (.invokevirtual 31, 3) := by decide +kernel
theorem dX0_clear_34 : decode cX0_clear 34 = .ok (.return_, 1) := by decide +kernel
theorem dX0_putDefault_0 : decode cX0_putDefault 0 = .ok (.aload_n 0, 1) := by decide +kernel
theorem dX0_putDefault_1 : decode cX0_putDefault 1 = .ok (.getfield 19, 3) := by decide +kernel
theorem dX0_putDefault_4 : decode cX0_putDefault 4 = .ok (.iload_n 1, 1) := by decide +kernel
theorem dX0_putDefault_5 : decode cX0_putDefault 5 = .ok (.aload_n 0, 1) := by decide +kernel
theorem dX0_putDefault_6 : decode cX0_putDefault 6 = .ok (.getfield 15, 3) := by decide +kernel
theorem dX0_putDefault_9 : decode cX0_putDefault 9 = .ok (.iastore, 1) := by decide +kernel
theorem dX0_putDefault_10 : decode cX0_putDefault 10 = .ok (.aload_n 0, 1) := by decide +kernel
theorem dX0_putDefault_11 : decode cX0_putDefault 11 = .ok (.iload_n 2, 1) := by decide +kernel
theorem dX0_putDefault_12 : decode cX0_putDefault 12 = .ok (.iload_n 3, 1) := by decide +kernel
theorem dX0_putDefault_13 : decode cX0_putDefault 13 = .ok (.invokevirtual 35, 3) := by decide +kernel
theorem dX0_putDefault_16 : decode cX0_putDefault 16 = .ok (.pop, 1) := by decide +kernel
theorem dX0_putDefault_17 : decode cX0_putDefault 17 = .ok (.aload_n 0, 1) := by decide +kernel
theorem dX0_putDefault_18 : decode cX0_putDefault 18 = .ok (.bipush 7, 2) := by decide +kernel
theorem dX0_putDefault_20 : decode cX0_putDefault 20 = .ok (.iconst 0, 1) := by decide +kernel
theorem dX0_putDefault_21 : decode cX0_putDefault 21 = .ok (.invokevirtual 35, 3) := by decide +kernel
theorem dX0_putDefault_24 : decode cX0_putDefault 24 = .ok (.pop, 1) := by decide +kernel
theorem dX0_putDefault_25 : decode cX0_putDefault 25 = .ok (.return_, 1) := by decide +kernel
theorem dX0_put_0 : decode cX0_put 0 = .ok (.aload_n 0, 1) := by decide +kernel
theorem dX0_put_1 : decode cX0_put 1 = .ok (.getfield 15, 3) := by decide +kernel
theorem dX0_put_4 : decode cX0_put 4 = .ok (.istore_n 3, 1) := by decide +kernel
theorem dX0_put_5 : decode cX0_put 5 = .ok (.aload_n 0, 1) := by decide +kernel
theorem dX0_put_6 : decode cX0_put 6 = .ok (.getfield 15, 3) := by decide +kernel
theorem dX0_put_9 : decode cX0_put 9 = .ok (.sipush 408, 3) := by decide +kernel
theorem dX0_put_12 : decode cX0_put 12 = .ok (.if_icmp .ge 27, 3) := by decide +kernel
theorem dX0_put_15 : decode cX0_put 15 = .ok (.aload_n 0, 1) := by decide +kernel
theorem dX0_put_16 : decode cX0_put 16 = .ok (.getfield 11, 3) := by decide +kernel
theorem dX0_put_19 : decode cX0_put 19 = .ok (.aload_n 0, 1) := by decide +kernel
theorem dX0_put_20 : decode cX0_put 20 = .ok (.getfield 15, 3) := by decide +kernel
theorem dX0_put_23 : decode cX0_put 23 = .ok (.iload_n 1, 1) := by decide +kernel
theorem dX0_put_24 : decode cX0_put 24 = .ok (.iload_n 2, 1) := by decide +kernel
theorem dX0_put_25 : decode cX0_put 25 = .ok (.iconst 4, 1) := by decide +kernel
theorem dX0_put_26 : decode cX0_put 26 = .ok (.ishl, 1) := by decide +kernel
theorem dX0_put_27 : decode cX0_put 27 = .ok (.ior, 1) := by decide +kernel
theorem dX0_put_28 : decode cX0_put 28 = .ok (.iastore, 1) := by decide +kernel
theorem dX0_put_29 : decode cX0_put 29 = .ok (.aload_n 0, 1) := by decide +kernel
theorem dX0_put_30 : decode cX0_put 30 = .ok (.dup, 1) := by decide +kernel
theorem dX0_put_31 : decode cX0_put 31 = .ok (.getfield 15, 3) := by decide +kernel
theorem dX0_put_34 : decode cX0_put 34 = .ok (.iconst 1, 1) := by decide +kernel
theorem dX0_put_35 : decode cX0_put 35 = .ok (.iadd, 1) := by decide +kernel
theorem dX0_put_36 : decode cX0_put 36 = .ok (.putfield 15, 3) := by decide +kernel
theorem dX0_put_39 : decode cX0_put 39 = .ok (.iload_n 3, 1) := by decide +kernel
theorem dX0_put_40 : decode cX0_put 40 = .ok (.ireturn, 1) := by decide +kernel
theorem dX0_jumpToHere_0 : decode cX0_jumpToHere 0 = .ok (.iload_n 1, 1) := by decide +kernel
theorem dX0_jumpToHere_1 : decode cX0_jumpToHere 1 = .ok (.ifCond .lt 26, 3) := by decide +kernel
theorem dX0_jumpToHere_4 : decode cX0_jumpToHere 4 = .ok (.iload_n 1, 1) := by decide +kernel
theorem dX0_jumpToHere_5 : decode cX0_jumpToHere 5 = .ok (.aload_n 0, 1) := by decide +kernel
theorem dX0_jumpToHere_6 : decode cX0_jumpToHere 6 = .ok (.getfield 15, 3) := by decide +kernel
theorem dX0_jumpToHere_9 : decode cX0_jumpToHere 9 = .ok (.if_icmp .ge 18, 3) := by decide +kernel
theorem dX0_jumpToHere_12 : decode cX0_jumpToHere 12 = .ok (.aload_n 0, 1) := by decide +kernel
theorem dX0_jumpToHere_13 : decode cX0_jumpToHere 13 = .ok (.getfield 11, 3) := by decide +kernel
theorem dX0_jumpToHere_16 : decode cX0_jumpToHere 16 = .ok (.iload_n 1, 1) := by decide +kernel
theorem dX0_jumpToHere_17 : decode cX0_jumpToHere 17 = .ok (.bipush 6, 2) := by decide +kernel
theorem dX0_jumpToHere_19 : decode cX0_jumpToHere 19 = .ok (.aload_n 0, 1) := by decide +kernel
theorem dX0_jumpToHere_20 : decode cX0_jumpToHere 20 = .ok (.getfield 15, 3) := by decide +kernel
theorem dX0_jumpToHere_23 : decode cX0_jumpToHere 23 = .ok (.iconst 4, 1) := by decide +kernel
theorem dX0_jumpToHere_24 : decode cX0_jumpToHere 24 = .ok (.ishl, 1) := by decide +kernel
theorem dX0_jumpToHere_25 : decode cX0_jumpToHere 25 = .ok (.ior, 1) := by decide +kernel
theorem dX0_jumpToHere_26 : decode cX0_jumpToHere 26 = .ok (.iastore, 1) := by decide +kernel
theorem dX0_jumpToHere_27 : decode cX0_jumpToHere 27 = .ok (.return_, 1) := by decide +kernel
theorem dX0_valueOf_0 : decode cX0_valueOf 0 = .ok (.aload_n 0, 1) := by decide +kernel
theorem dX0_valueOf_1 : decode cX0_valueOf 1 = .ok (.getfield 19, 3) := by decide +kernel
theorem dX0_valueOf_4 : decode cX0_valueOf 4 = .ok (.iload_n 1, 1) := by decide +kernel
theorem dX0_valueOf_5 : decode cX0_valueOf 5 = .ok (.iaload, 1) := by decide +kernel
theorem dX0_valueOf_6 : decode cX0_valueOf 6 = .ok (.istore_n 2, 1) := by decide +kernel
theorem dX0_valueOf_7 : decode cX0_valueOf 7 = .ok (.iconst 0, 1) := by decide +kernel
theorem dX0_valueOf_8 : decode cX0_valueOf 8 = .ok (.istore_n 3, 1) := by decide +kernel
theorem dX0_valueOf_9 : decode cX0_valueOf 9 = .ok (.iload_n 2, 1) := by decide +kernel
theorem dX0_valueOf_10 : decode cX0_valueOf 10 = .ok (.aload_n 0, 1) := by decide +kernel
theorem dX0_valueOf_11 : decode cX0_valueOf 11 = .ok (.getfield 15, 3) := by decide +kernel
theorem dX0_valueOf_14 : decode cX0_valueOf 14 = .ok (.if_icmp .ge 217, 3) := by decide +kernel
theorem dX0_valueOf_17 : decode cX0_valueOf 17 = .ok (.aload_n 0, 1) := by decide +kernel
theorem dX0_valueOf_18 : decode cX0_valueOf 18 = .ok (.getfield 11, 3) := by decide +kernel
theorem dX0_valueOf_21 : decode cX0_valueOf 21 = .ok (.iload_n 2, 1) := by decide +kernel
theorem dX0_valueOf_22 : decode cX0_valueOf 22 = .ok (.iaload, 1) := by decide +kernel
theorem dX0_valueOf_23 : decode cX0_valueOf 23 = .ok (.bipush 15, 2) := by decide +kernel
theorem dX0_valueOf_25 : decode cX0_valueOf 25 = .ok (.iand, 1) := by decide +kernel
theorem dX0_valueOf_26 : decode cX0_valueOf 26 = .ok (.istore 4, 2) := by decide +kernel
theorem dX0_valueOf_28 : decode cX0_valueOf 28 = .ok (.aload_n 0, 1) := by decide +kernel
theorem dX0_valueOf_29 : decode cX0_valueOf 29 = .ok (.getfield 11, 3) := by decide +kernel
theorem dX0_valueOf_32 : decode cX0_valueOf 32 = .ok (.iload_n 2, 1) := by decide +kernel
theorem dX0_valueOf_33 : decode cX0_valueOf 33 = .ok (.iaload, 1) := by decide +kernel
theorem dX0_valueOf_34 : decode cX0_valueOf 34 = .ok (.iconst 4, 1) := by decide +kernel
theorem dX0_valueOf_35 : decode cX0_valueOf 35 = .ok (.ishr, 1) := by decide +kernel
theorem dX0_valueOf_36 : decode cX0_valueOf 36 = .ok (.istore 5, 2) := by decide +kernel
theorem dX0_valueOf_38 : decode cX0_valueOf 38 = .ok (.iinc 2 1, 3) := by decide +kernel
theorem dX0_valueOf_41 : decode cX0_valueOf 41 = .ok (.iload 4, 2) := by decide +kernel
theorem dX0_valueOf_43 : decode cX0_valueOf 43 = .ok (.ifCond .eq 9, 3) := by decide +kernel
theorem dX0_valueOf_46 : decode cX0_valueOf 46 = .ok (.iload 4, 2) := by decide +kernel
theorem dX0_valueOf_48 : decode cX0_valueOf 48 = .ok (.iconst 1, 1) := by decide +kernel
theorem dX0_valueOf_49 : decode cX0_valueOf 49 = .ok (.if_icmp .ne 58, 3) := by decide +kernel
theorem dX0_valueOf_52 : decode cX0_valueOf 52 = .ok (.iload_n 3, 1) := by decide +kernel
theorem dX0_valueOf_53 : decode cX0_valueOf 53 = .ok (.bipush 24, 2) := by decide +kernel
theorem dX0_valueOf_55 : decode cX0_valueOf 55 = .ok (.if_icmp .ge 21, 3) := by decide +kernel
theorem dX0_valueOf_58 : decode cX0_valueOf 58 = .ok (.iload 4, 2) := by decide +kernel
theorem dX0_valueOf_60 : decode cX0_valueOf 60 = .ok (.iconst 1, 1) := by decide +kernel
theorem dX0_valueOf_61 : decode cX0_valueOf 61 = .ok (.if_icmp .ne 17, 3) := by decide +kernel
theorem dX0_valueOf_64 : decode cX0_valueOf 64 = .ok (.iload 5, 2) := by decide +kernel
theorem dX0_valueOf_66 : decode cX0_valueOf 66 = .ok (.ifCond .lt 10, 3) := by decide +kernel
theorem dX0_valueOf_69 : decode cX0_valueOf 69 = .ok (.iload 5, 2) := by decide +kernel
theorem dX0_valueOf_71 : decode cX0_valueOf 71 = .ok (.bipush 9, 2) := by decide +kernel
theorem dX0_valueOf_73 : decode cX0_valueOf 73 = .ok (.if_icmp .lt 5, 3) := by decide +kernel
theorem dX0_valueOf_76 : decode cX0_valueOf 76 = .ok (.iconst 0, 1) := by decide +kernel
theorem dX0_valueOf_77 : decode cX0_valueOf 77 = .ok (.ireturn, 1) := by decide +kernel
theorem dX0_valueOf_78 : decode cX0_valueOf 78 = .ok (.aload_n 0, 1) := by decide +kernel
theorem dX0_valueOf_79 : decode cX0_valueOf 79 = .ok (.getfield 25, 3) := by decide +kernel
theorem dX0_valueOf_82 : decode cX0_valueOf 82 = .ok (.iload_n 3, 1) := by decide +kernel
theorem dX0_valueOf_83 : decode cX0_valueOf 83 = .ok (.iload 4, 2) := by decide +kernel
theorem dX0_valueOf_85 : decode cX0_valueOf 85 = .ok (.ifCond .ne 8, 3) := by decide +kernel
theorem dX0_valueOf_88 : decode cX0_valueOf 88 = .ok (.iload 5, 2) := by decide +kernel
theorem dX0_valueOf_90 : decode cX0_valueOf 90 = .ok (.goto 10, 3) := by decide +kernel
theorem dX0_valueOf_93 : decode cX0_valueOf 93 = .ok (.aload_n 0, 1) := by decide +kernel
theorem dX0_valueOf_94 : decode cX0_valueOf 94 = .ok (.getfield 22, 3) := by decide +kernel
theorem dX0_valueOf_97 : decode cX0_valueOf 97 = .ok (.iload 5, 2) := by decide +kernel
theorem dX0_valueOf_99 : decode cX0_valueOf 99 = .ok (.iaload, 1) := by decide +kernel
theorem dX0_valueOf_100 : decode cX0_valueOf 100 = .ok (.iastore, 1) := by decide +kernel
theorem dX0_valueOf_101 : decode cX0_valueOf 101 = .ok (.iinc 3 1, 3) := by decide +kernel
theorem dX0_valueOf_104 : decode cX0_valueOf 104 = .ok (.goto 124, 3) := by decide +kernel
theorem dX0_valueOf_107 : decode cX0_valueOf 107 = .ok (.iload 4, 2) := by decide +kernel
theorem dX0_valueOf_109 : decode cX0_valueOf 109 = .ok (.bipush 7, 2) := by decide +kernel
theorem dX0_valueOf_111 : decode cX0_valueOf 111 = .ok (.if_icmp .ne 20, 3) := by decide +kernel
theorem dX0_valueOf_114 : decode cX0_valueOf 114 = .ok (.iload_n 3, 1) := by decide +kernel
theorem dX0_valueOf_115 : decode cX0_valueOf 115 = .ok (.ifCond .le 14, 3) := by decide +kernel
theorem dX0_valueOf_118 : decode cX0_valueOf 118 = .ok (.aload_n 0, 1) := by decide +kernel
theorem dX0_valueOf_119 : decode cX0_valueOf 119 = .ok (.getfield 25, 3) := by decide +kernel
theorem dX0_valueOf_122 : decode cX0_valueOf 122 = .ok (.iload_n 3, 1) := by decide +kernel
theorem dX0_valueOf_123 : decode cX0_valueOf 123 = .ok (.iconst 1, 1) := by decide +kernel
theorem dX0_valueOf_124 : decode cX0_valueOf 124 = .ok (.isub, 1) := by decide +kernel
theorem dX0_valueOf_125 : decode cX0_valueOf 125 = .ok (.iaload, 1) := by decide +kernel
theorem dX0_valueOf_126 : decode cX0_valueOf 126 = .ok (.goto 4, 3) := by decide +kernel
theorem dX0_valueOf_129 : decode cX0_valueOf 129 = .ok (.iconst 0, 1) := by decide +kernel
theorem dX0_valueOf_130 : decode cX0_valueOf 130 = .ok (.ireturn, 1) := by decide +kernel
theorem dX0_valueOf_131 : decode cX0_valueOf 131 = .ok (.iload_n 3, 1) := by decide +kernel
theorem dX0_valueOf_132 : decode cX0_valueOf 132 = .ok (.iconst 2, 1) := by decide +kernel
theorem dX0_valueOf_133 : decode cX0_valueOf 133 = .ok (.if_icmp .ge 5, 3) := by decide +kernel
theorem dX0_valueOf_136 : decode cX0_valueOf 136 = .ok (.iconst 0, 1) := by decide +kernel
theorem dX0_valueOf_137 : decode cX0_valueOf 137 = .ok (.ireturn, 1) := by decide +kernel
theorem dX0_valueOf_138 : decode cX0_valueOf 138 = .ok (.iload 4, 2) := by decide +kernel
theorem dX0_valueOf_140 : decode cX0_valueOf 140 = .ok (.bipush 6, 2) := by decide +kernel
theorem dX0_valueOf_142 : decode cX0_valueOf 142 = .ok (.if_icmp .ne 37, 3) := by decide +kernel
theorem dX0_valueOf_145 : decode cX0_valueOf 145 = .ok (.iinc 3 (-2), 3) := by decide +kernel
theorem dX0_valueOf_148 : decode cX0_valueOf 148 = .ok (.aload_n 0, 1) := by decide +kernel
theorem dX0_valueOf_149 : decode cX0_valueOf 149 = .ok (.getfield 25, 3) := by decide +kernel
theorem dX0_valueOf_152 : decode cX0_valueOf 152 = .ok (.iload_n 3, 1) := by decide +kernel
theorem dX0_valueOf_153 : decode cX0_valueOf 153 = .ok (.iaload, 1) := by decide +kernel
theorem dX0_valueOf_154 : decode cX0_valueOf 154 = .ok (.aload_n 0, 1) := by decide +kernel
theorem dX0_valueOf_155 : decode cX0_valueOf 155 = .ok (.getfield 25, 3) := by decide +kernel
theorem dX0_valueOf_158 : decode cX0_valueOf 158 = .ok (.iload_n 3, 1) := by decide +kernel
theorem dX0_valueOf_159 : decode cX0_valueOf 159 = .ok (.iconst 1, 1) := by decide +kernel
theorem dX0_valueOf_160 : decode cX0_valueOf 160 = .ok (.iadd, 1) := by decide +kernel
theorem dX0_valueOf_161 : decode cX0_valueOf 161 = .ok (.iaload, 1) := by decide +kernel
theorem dX0_valueOf_162 : decode cX0_valueOf 162 = .ok (.if_icmp .ge 7, 3) := by decide +kernel
theorem dX0_valueOf_165 : decode cX0_valueOf 165 = .ok (.iload_n 2, 1) := by decide +kernel
theorem dX0_valueOf_166 : decode cX0_valueOf 166 = .ok (.goto 9, 3) := by decide +kernel
theorem dX0_valueOf_169 : decode cX0_valueOf 169 = .ok (.iload_n 2, 1) := by decide +kernel
theorem dX0_valueOf_170 : decode cX0_valueOf 170 = .ok (.iload 5, 2) := by decide +kernel
theorem dX0_valueOf_172 : decode cX0_valueOf 172 = .ok (.invokestatic 39, 3) := by decide +kernel
theorem dX0_valueOf_175 : decode cX0_valueOf 175 = .ok (.istore_n 2, 1) := by decide +kernel
theorem dX0_valueOf_176 : decode cX0_valueOf 176 = .ok (.goto 52, 3) := by decide +kernel
theorem dX0_valueOf_179 : decode cX0_valueOf 179 = .ok (.iload 4, 2) := by decide +kernel
theorem dX0_valueOf_181 : decode cX0_valueOf 181 = .ok (.iconst 5, 1) := by decide +kernel
theorem dX0_valueOf_182 : decode cX0_valueOf 182 = .ok (.if_icmp .ne 16, 3) := by decide +kernel
theorem dX0_valueOf_185 : decode cX0_valueOf 185 = .ok (.aload_n 0, 1) := by decide +kernel
theorem dX0_valueOf_186 : decode cX0_valueOf 186 = .ok (.getfield 25, 3) := by decide +kernel
theorem dX0_valueOf_189 : decode cX0_valueOf 189 = .ok (.iload_n 3, 1) := by decide +kernel
theorem dX0_valueOf_190 : decode cX0_valueOf 190 = .ok (.iconst 1, 1) := by decide +kernel
theorem dX0_valueOf_191 : decode cX0_valueOf 191 = .ok (.isub, 1) := by decide +kernel
theorem dX0_valueOf_192 : decode cX0_valueOf 192 = .ok (.iaload, 1) := by decide +kernel
theorem dX0_valueOf_193 : decode cX0_valueOf 193 = .ok (.ifCond .ne 5, 3) := by decide +kernel
theorem dX0_valueOf_196 : decode cX0_valueOf 196 = .ok (.iconst 0, 1) := by decide +kernel
theorem dX0_valueOf_197 : decode cX0_valueOf 197 = .ok (.ireturn, 1) := by decide +kernel
theorem dX0_valueOf_198 : decode cX0_valueOf 198 = .ok (.iinc 3 (-1), 3) := by decide +kernel
theorem dX0_valueOf_201 : decode cX0_valueOf 201 = .ok (.aload_n 0, 1) := by decide +kernel
theorem dX0_valueOf_202 : decode cX0_valueOf 202 = .ok (.getfield 25, 3) := by decide +kernel
theorem dX0_valueOf_205 : decode cX0_valueOf 205 = .ok (.iload_n 3, 1) := by decide +kernel
theorem dX0_valueOf_206 : decode cX0_valueOf 206 = .ok (.iconst 1, 1) := by decide +kernel
theorem dX0_valueOf_207 : decode cX0_valueOf 207 = .ok (.isub, 1) := by decide +kernel
theorem dX0_valueOf_208 : decode cX0_valueOf 208 = .ok (.iload 4, 2) := by decide +kernel
theorem dX0_valueOf_210 : decode cX0_valueOf 210 = .ok (.aload_n 0, 1) := by decide +kernel
theorem dX0_valueOf_211 : decode cX0_valueOf 211 = .ok (.getfield 25, 3) := by decide +kernel
theorem dX0_valueOf_214 : decode cX0_valueOf 214 = .ok (.iload_n 3, 1) := by decide +kernel
theorem dX0_valueOf_215 : decode cX0_valueOf 215 = .ok (.iconst 1, 1) := by decide +kernel
theorem dX0_valueOf_216 : decode cX0_valueOf 216 = .ok (.isub, 1) := by decide +kernel
theorem dX0_valueOf_217 : decode cX0_valueOf 217 = .ok (.iaload, 1) := by decide +kernel
theorem dX0_valueOf_218 : decode cX0_valueOf 218 = .ok (.aload_n 0, 1) := by decide +kernel
theorem dX0_valueOf_219 : decode cX0_valueOf 219 = .ok (.getfield 25, 3) := by decide +kernel
theorem dX0_valueOf_222 : decode cX0_valueOf 222 = .ok (.iload_n 3, 1) := by decide +kernel
theorem dX0_valueOf_223 : decode cX0_valueOf 223 = .ok (.iaload, 1) := by decide +kernel
theorem dX0_valueOf_224 : decode cX0_valueOf 224 = .ok (.invokestatic 44, 3) := by decide +kernel
theorem dX0_valueOf_227 : decode cX0_valueOf 227 = .ok (.iastore, 1) := by decide +kernel
theorem dX0_valueOf_228 : decode cX0_valueOf 228 = .ok (.goto (-219), 3) := by decide +kernel
theorem dX0_valueOf_231 : decode cX0_valueOf 231 = .ok (.iconst 0, 1) := by decide +kernel
theorem dX0_valueOf_232 : decode cX0_valueOf 232 = .ok (.ireturn, 1) := by decide +kernel
theorem dX0_joined_0 : decode cX0_joined 0 = .ok (.iload_n 0, 1) := by decide +kernel
theorem dX0_joined_1 : decode cX0_joined 1 = .ok (.tableswitch 39 2 4 #[27, 31, 35], 27) := by decide +kernel
theorem dX0_joined_28 : decode cX0_joined 28 = .ok (.iload_n 1, 1) := by decide +kernel
theorem dX0_joined_29 : decode cX0_joined 29 = .ok (.iload_n 2, 1) := by decide +kernel
theorem dX0_joined_30 : decode cX0_joined 30 = .ok (.iadd, 1) := by decide +kernel
theorem dX0_joined_31 : decode cX0_joined 31 = .ok (.ireturn, 1) := by decide +kernel
theorem dX0_joined_32 : decode cX0_joined 32 = .ok (.iload_n 1, 1) := by decide +kernel
theorem dX0_joined_33 : decode cX0_joined 33 = .ok (.iload_n 2, 1) := by decide +kernel
theorem dX0_joined_34 : decode cX0_joined 34 = .ok (.isub, 1) := by decide +kernel
theorem dX0_joined_35 : decode cX0_joined 35 = .ok (.ireturn, 1) := by decide +kernel
theorem dX0_joined_36 : decode cX0_joined 36 = .ok (.iload_n 1, 1) := by decide +kernel
theorem dX0_joined_37 : decode cX0_joined 37 = .ok (.iload_n 2, 1) := by decide +kernel
theorem dX0_joined_38 : decode cX0_joined 38 = .ok (.imul, 1) := by decide +kernel
theorem dX0_joined_39 : decode cX0_joined 39 = .ok (.ireturn, 1) := by decide +kernel
theorem dX0_joined_40 : decode cX0_joined 40 = .ok (.iload_n 2, 1) := by decide +kernel
theorem dX0_joined_41 : decode cX0_joined 41 = .ok (.ifCond .ne 7, 3) := by decide +kernel
theorem dX0_joined_44 : decode cX0_joined 44 = .ok (.iconst 0, 1) := by decide +kernel
theorem dX0_joined_45 : decode cX0_joined 45 = .ok (.goto 6, 3) := by decide +kernel
theorem dX0_joined_48 : decode cX0_joined 48 = .ok (.iload_n 1, 1) := by decide +kernel
theorem dX0_joined_49 : decode cX0_joined 49 = .ok (.iload_n 2, 1) := by decide +kernel
theorem dX0_joined_50 : decode cX0_joined 50 = .ok (.idiv, 1) := by decide +kernel
theorem dX0_joined_51 : decode cX0_joined 51 = .ok (.ireturn, 1) := by decide +kernel
theorem dX1_init_0 : decode cX1_init 0 = .ok (.aload_n 0, 1) := by decide +kernel
theorem dX1_init_1 : decode cX1_init 1 = .ok (.invokespecial 3, 3) := by decide +kernel
theorem dX1_init_4 : decode cX1_init 4 = .ok (.aload_n 0, 1) := by decide +kernel
theorem dX1_init_5 : decode cX1_init 5 = .ok (.new 9, 3) := by decide +kernel
theorem dX1_init_8 : decode cX1_init 8 = .ok (.dup, 1) := by decide +kernel
theorem dX1_init_9 : decode cX1_init 9 = .ok (.invokespecial 11, 3) := by decide +kernel
theorem dX1_init_12 : decode cX1_init 12 = .ok (.putfield 12, 3) := by decide +kernel
theorem dX1_init_15 : decode cX1_init 15 = .ok (.aload_n 0, 1) := by decide +kernel
theorem dX1_init_16 : decode cX1_init 16 = .ok (.iconst 0, 1) := by decide +kernel
theorem dX1_init_17 : decode cX1_init 17 = .ok (.putfield 18, 3) := by decide +kernel
theorem dX1_init_20 : decode cX1_init 20 = .ok (.aload_n 0, 1) := by decide +kernel
theorem dX1_init_21 : decode cX1_init 21 = .ok (.iconst 0, 1) := by decide +kernel
theorem dX1_init_22 : decode cX1_init 22 = .ok (.putfield 22, 3) := by decide +kernel
theorem dX1_init_25 : decode cX1_init 25 = .ok (.aload_n 0, 1) := by decide +kernel
theorem dX1_init_26 : decode cX1_init 26 = .ok (.iconst (-1), 1) := by decide +kernel
theorem dX1_init_27 : decode cX1_init 27 = .ok (.putfield 25, 3) := by decide +kernel
theorem dX1_init_30 : decode cX1_init 30 = .ok (.aload_n 0, 1) := by decide +kernel
theorem dX1_init_31 : decode cX1_init 31 = .ok (.iconst 0, 1) := by decide +kernel
theorem dX1_init_32 : decode cX1_init 32 = .ok (.putfield 28, 3) := by decide +kernel
theorem dX1_init_35 : decode cX1_init 35 = .ok (.aload_n 0, 1) := by decide +kernel
theorem dX1_init_36 : decode cX1_init 36 = .ok (.iconst (-1), 1) := by decide +kernel
theorem dX1_init_37 : decode cX1_init 37 = .ok (.putfield 31, 3) := by decide +kernel
theorem dX1_init_40 : decode cX1_init 40 = .ok (.aload_n 0, 1) := by decide +kernel
theorem dX1_init_41 : decode cX1_init 41 = .ok (.aload_n 1, 1) := by decide +kernel
theorem dX1_init_42 : decode cX1_init 42 = .ok (.putfield 34, 3) := by decide +kernel
theorem dX1_init_45 : decode cX1_init 45 = .ok (.return_, 1) := by decide +kernel
theorem dX1_readText_0 : decode cX1_readText 0 = .ok (.aload_n 0, 1) := by decide +kernel
theorem dX1_readText_1 : decode cX1_readText 1 = .ok (.getfield 12, 3) := by decide +kernel
theorem dX1_readText_4 : decode cX1_readText 4 = .ok (.aload_n 1, 1) := by decide +kernel
theorem dX1_readText_5 : decode cX1_readText 5 = .ok (.iload_n 2, 1) := by decide +kernel
theorem dX1_readText_6 : decode cX1_readText 6 = .ok (.invokevirtual 38, 3) := by decide +kernel
theorem dX1_readText_9 : decode cX1_readText 9 = .ok (.aload_n 0, 1) := by decide +kernel
theorem dX1_readText_10 : decode cX1_readText 10 = .ok (.iconst 0, 1) := by decide +kernel
theorem dX1_readText_11 : decode cX1_readText 11 = .ok (.putfield 18, 3) := by decide +kernel
theorem dX1_readText_14 : decode cX1_readText 14 = .ok (.aload_n 0, 1) := by decide +kernel
theorem dX1_readText_15 : decode cX1_readText 15 = .ok (.aload_n 3, 1) := by decide +kernel
theorem dX1_readText_16 : decode cX1_readText 16 = .ok (.putfield 34, 3) := by decide +kernel
theorem dX1_readText_19 : decode cX1_readText 19 = .ok (.aload_n 0, 1) := by decide +kernel
theorem dX1_readText_20 : decode cX1_readText 20 = .ok (.getfield 34, 3) := by decide +kernel
theorem dX1_readText_23 : decode cX1_readText 23 = .ok (.invokevirtual 42, 3) := by decide +kernel
theorem dX1_readText_26 : decode cX1_readText 26 = .ok (.aload_n 0, 1) := by decide +kernel
theorem dX1_readText_27 : decode cX1_readText 27 = .ok (.iconst 0, 1) := by decide +kernel
theorem dX1_readText_28 : decode cX1_readText 28 = .ok (.putfield 22, 3) := by decide +kernel
theorem dX1_readText_31 : decode cX1_readText 31 = .ok (.aload_n 0, 1) := by decide +kernel
theorem dX1_readText_32 : decode cX1_readText 32 = .ok (.iconst (-1), 1) := by decide +kernel
theorem dX1_readText_33 : decode cX1_readText 33 = .ok (.putfield 25, 3) := by decide +kernel
theorem dX1_readText_36 : decode cX1_readText 36 = .ok (.aload_n 0, 1) := by decide +kernel
theorem dX1_readText_37 : decode cX1_readText 37 = .ok (.iconst 0, 1) := by decide +kernel
theorem dX1_readText_38 : decode cX1_readText 38 = .ok (.putfield 28, 3) := by decide +kernel
theorem dX1_readText_41 : decode cX1_readText 41 = .ok (.aload_n 0, 1) := by decide +kernel
theorem dX1_readText_42 : decode cX1_readText 42 = .ok (.iconst (-1), 1) := by decide +kernel
theorem dX1_readText_43 : decode cX1_readText 43 = .ok (.putfield 31, 3) := by decide +kernel
theorem dX1_readText_46 : decode cX1_readText 46 = .ok (.iconst 1, 1) := by decide +kernel
theorem dX1_readText_47 : decode cX1_readText 47 = .ok (.istore 4, 2) := by decide +kernel
theorem dX1_readText_49 : decode cX1_readText 49 = .ok (.iconst 0, 1) := by decide +kernel
theorem dX1_readText_50 : decode cX1_readText 50 = .ok (.istore 5, 2) := by decide +kernel
theorem dX1_readText_52 : decode cX1_readText 52 = .ok (.iload 5, 2) := by decide +kernel
theorem dX1_readText_54 : decode cX1_readText 54 = .ok (.sipush 400, 3) := by decide +kernel
theorem dX1_readText_57 : decode cX1_readText 57 = .ok (.if_icmp .gt 37, 3) := by decide +kernel
theorem dX1_readText_60 : decode cX1_readText 60 = .ok (.iload 4, 2) := by decide +kernel
theorem dX1_readText_62 : decode cX1_readText 62 = .ok (.ifCond .eq 32, 3) := by decide +kernel
theorem dX1_readText_65 : decode cX1_readText 65 = .ok (.aload_n 0, 1) := by decide +kernel
theorem dX1_readText_66 : decode cX1_readText 66 = .ok (.invokevirtual 47, 3) := by decide +kernel
theorem dX1_readText_69 : decode cX1_readText 69 = .ok (.bipush 31, 2) := by decide +kernel
theorem dX1_readText_71 : decode cX1_readText 71 = .ok (.if_icmp .eq 14, 3) := by decide +kernel
theorem dX1_readText_74 : decode cX1_readText 74 = .ok (.aload_n 0, 1) := by decide +kernel
theorem dX1_readText_75 : decode cX1_readText 75 = .ok (.invokevirtual 51, 3) := by decide +kernel
theorem dX1_readText_78 : decode cX1_readText 78 = .ok (.ifCond .eq 7, 3) := by decide +kernel
theorem dX1_readText_81 : decode cX1_readText 81 = .ok (.iconst 1, 1) := by decide +kernel
theorem dX1_readText_82 : decode cX1_readText 82 = .ok (.goto 4, 3) := by decide +kernel
theorem dX1_readText_85 : decode cX1_readText 85 = .ok (.iconst 0, 1) := by decide +kernel
theorem dX1_readText_86 : decode cX1_readText 86 = .ok (.istore 4, 2) := by decide +kernel
theorem dX1_readText_88 : decode cX1_readText 88 = .ok (.iinc 5 1, 3) := by decide +kernel
theorem dX1_readText_91 : decode cX1_readText 91 = .ok (.goto (-39), 3) := by decide +kernel
theorem dX1_readText_94 : decode cX1_readText 94 = .ok (.aload_n 0, 1) := by decide +kernel
theorem dX1_readText_95 : decode cX1_readText 95 = .ok (.getfield 22, 3) := by decide +kernel
theorem dX1_readText_98 : decode cX1_readText 98 = .ok (.ifCond .ne 19, 3) := by decide +kernel
theorem dX1_readText_101 : decode cX1_readText 101 = .ok (.aload_n 0, 1) := by decide +kernel
theorem dX1_readText_102 : decode cX1_readText 102 = .ok (.aload_n 0, 1) := by decide +kernel
theorem dX1_readText_103 : decode cX1_readText 103 = .ok (.getfield 28, 3) := by decide +kernel
theorem dX1_readText_106 : decode cX1_readText 106 = .ok (.putfield 22, 3) := by decide +kernel
theorem dX1_readText_109 : decode cX1_readText 109 = .ok (.aload_n 0, 1) := by decide +kernel
theorem dX1_readText_110 : decode cX1_readText 110 = .ok (.aload_n 0, 1) := by decide +kernel
theorem dX1_readText_111 : decode cX1_readText 111 = .ok (.getfield 31, 3) := by decide +kernel
theorem dX1_readText_114 : decode cX1_readText 114 = .ok (.putfield 25, 3) := by decide +kernel
theorem dX1_readText_117 : decode cX1_readText 117 = .ok (.aload_n 0, 1) := by decide +kernel
theorem dX1_readText_118 : decode cX1_readText 118 = .ok (.getfield 22, 3) := by decide +kernel
theorem dX1_readText_121 : decode cX1_readText 121 = .ok (.ireturn, 1) := by decide +kernel
theorem dX1_readTell_0 : decode cX1_readTell 0 = .ok (.aload_n 0, 1) := by decide +kernel
theorem dX1_readTell_1 : decode cX1_readTell 1 = .ok (.invokevirtual 47, 3) := by decide +kernel
theorem dX1_readTell_4 : decode cX1_readTell 4 = .ok (.istore_n 1, 1) := by decide +kernel
theorem dX1_readTell_5 : decode cX1_readTell 5 = .ok (.iload_n 1, 1) := by decide +kernel
theorem dX1_readTell_6 : decode cX1_readTell 6 = .ok (.ifCond .ne 8, 3) := by decide +kernel
theorem dX1_readTell_9 : decode cX1_readTell 9 = .ok (.aload_n 0, 1) := by decide +kernel
theorem dX1_readTell_10 : decode cX1_readTell 10 = .ok (.invokevirtual 55, 3) := by decide +kernel
theorem dX1_readTell_13 : decode cX1_readTell 13 = .ok (.ireturn, 1) := by decide +kernel
theorem dX1_readTell_14 : decode cX1_readTell 14 = .ok (.iload_n 1, 1) := by decide +kernel
theorem dX1_readTell_15 : decode cX1_readTell 15 = .ok (.iconst 1, 1) := by decide +kernel
theorem dX1_readTell_16 : decode cX1_readTell 16 = .ok (.if_icmp .ne 8, 3) := by decide +kernel
theorem dX1_readTell_19 : decode cX1_readTell 19 = .ok (.aload_n 0, 1) := by decide +kernel
theorem dX1_readTell_20 : decode cX1_readTell 20 = .ok (.invokevirtual 58, 3) := by decide +kernel
theorem dX1_readTell_23 : decode cX1_readTell 23 = .ok (.ireturn, 1) := by decide +kernel
theorem dX1_readTell_24 : decode cX1_readTell 24 = .ok (.iload_n 1, 1) := by decide +kernel
theorem dX1_readTell_25 : decode cX1_readTell 25 = .ok (.iconst 2, 1) := by decide +kernel
theorem dX1_readTell_26 : decode cX1_readTell 26 = .ok (.if_icmp .ne 8, 3) := by decide +kernel
theorem dX1_readTell_29 : decode cX1_readTell 29 = .ok (.aload_n 0, 1) := by decide +kernel
theorem dX1_readTell_30 : decode cX1_readTell 30 = .ok (.invokevirtual 61, 3) := by decide +kernel
theorem dX1_readTell_33 : decode cX1_readTell 33 = .ok (.ireturn, 1) := by decide +kernel
theorem dX1_readTell_34 : decode cX1_readTell 34 = .ok (.iload_n 1, 1) := by decide +kernel
theorem dX1_readTell_35 : decode cX1_readTell 35 = .ok (.iconst 3, 1) := by decide +kernel
theorem dX1_readTell_36 : decode cX1_readTell 36 = .ok (.if_icmp .lt 17, 3) := by decide +kernel
theorem dX1_readTell_39 : decode cX1_readTell 39 = .ok (.iload_n 1, 1) := by decide +kernel
theorem dX1_readTell_40 : decode cX1_readTell 40 = .ok (.bipush 6, 2) := by decide +kernel
theorem dX1_readTell_42 : decode cX1_readTell 42 = .ok (.if_icmp .gt 11, 3) := by decide +kernel
theorem dX1_readTell_45 : decode cX1_readTell 45 = .ok (.aload_n 0, 1) := by decide +kernel
theorem dX1_readTell_46 : decode cX1_readTell 46 = .ok (.iload_n 1, 1) := by decide +kernel
theorem dX1_readTell_47 : decode cX1_readTell 47 = .ok (.iconst 3, 1) := by decide +kernel
theorem dX1_readTell_48 : decode cX1_readTell 48 = .ok (.isub, 1) := by decide +kernel
theorem dX1_readTell_49 : decode cX1_readTell 49 = .ok (.invokevirtual 64, 3) := by decide +kernel
theorem dX1_readTell_52 : decode cX1_readTell 52 = .ok (.ireturn, 1) := by decide +kernel
theorem dX1_readTell_53 : decode cX1_readTell 53 = .ok (.iload_n 1, 1) := by decide +kernel
theorem dX1_readTell_54 : decode cX1_readTell 54 = .ok (.bipush 7, 2) := by decide +kernel
theorem dX1_readTell_56 : decode cX1_readTell 56 = .ok (.if_icmp .ne 8, 3) := by decide +kernel
theorem dX1_readTell_59 : decode cX1_readTell 59 = .ok (.aload_n 0, 1) := by decide +kernel
theorem dX1_readTell_60 : decode cX1_readTell 60 = .ok (.invokevirtual 68, 3) := by decide +kernel
theorem dX1_readTell_63 : decode cX1_readTell 63 = .ok (.ireturn, 1) := by decide +kernel
theorem dX1_readTell_64 : decode cX1_readTell 64 = .ok (.aload_n 0, 1) := by decide +kernel
theorem dX1_readTell_65 : decode cX1_readTell 65 = .ok (.iconst 1, 1) := by decide +kernel
theorem dX1_readTell_66 : decode cX1_readTell 66 = .ok (.invokevirtual 71, 3) := by decide +kernel
theorem dX1_readTell_69 : decode cX1_readTell 69 = .ok (.ireturn, 1) := by decide +kernel
theorem dX1_readHouse_0 : decode cX1_readHouse 0 = .ok (.aload_n 0, 1) := by decide +kernel
theorem dX1_readHouse_1 : decode cX1_readHouse 1 = .ok (.getfield 34, 3) := by decide +kernel
theorem dX1_readHouse_4 : decode cX1_readHouse 4 = .ok (.getfield 74, 3) := by decide +kernel
theorem dX1_readHouse_7 : decode cX1_readHouse 7 = .ok (.bipush 8, 2) := by decide +kernel
theorem dX1_readHouse_9 : decode cX1_readHouse 9 = .ok (.if_icmp .lt 9, 3) := by decide +kernel
theorem dX1_readHouse_12 : decode cX1_readHouse 12 = .ok (.aload_n 0, 1) := by decide +kernel
theorem dX1_readHouse_13 : decode cX1_readHouse 13 = .ok (.iconst 2, 1) := by decide +kernel
theorem dX1_readHouse_14 : decode cX1_readHouse 14 = .ok (.invokevirtual 71, 3) := by decide +kernel
theorem dX1_readHouse_17 : decode cX1_readHouse 17 = .ok (.ireturn, 1) := by decide +kernel
theorem dX1_readHouse_18 : decode cX1_readHouse 18 = .ok (.aload_n 0, 1) := by decide +kernel
theorem dX1_readHouse_19 : decode cX1_readHouse 19 = .ok (.getfield 34, 3) := by decide +kernel
theorem dX1_readHouse_22 : decode cX1_readHouse 22 = .ok (.getfield 74, 3) := by decide +kernel
theorem dX1_readHouse_25 : decode cX1_readHouse 25 = .ok (.istore_n 1, 1) := by decide +kernel
theorem dX1_readHouse_26 : decode cX1_readHouse 26 = .ok (.aload_n 0, 1) := by decide +kernel
theorem dX1_readHouse_27 : decode cX1_readHouse 27 = .ok (.iconst 0, 1) := by decide +kernel
theorem dX1_readHouse_28 : decode cX1_readHouse 28 = .ok (.invokevirtual 77, 3) := by decide +kernel
theorem dX1_readHouse_31 : decode cX1_readHouse 31 = .ok (.ifCond .ne 5, 3) := by decide +kernel
theorem dX1_readHouse_34 : decode cX1_readHouse 34 = .ok (.iconst 0, 1) := by decide +kernel
theorem dX1_readHouse_35 : decode cX1_readHouse 35 = .ok (.ireturn, 1) := by decide +kernel
theorem dX1_readHouse_36 : decode cX1_readHouse 36 = .ok (.aload_n 0, 1) := by decide +kernel
theorem dX1_readHouse_37 : decode cX1_readHouse 37 = .ok (.getfield 34, 3) := by decide +kernel
theorem dX1_readHouse_40 : decode cX1_readHouse 40 = .ok (.getfield 80, 3) := by decide +kernel
theorem dX1_readHouse_43 : decode cX1_readHouse 43 = .ok (.iload_n 1, 1) := by decide +kernel
theorem dX1_readHouse_44 : decode cX1_readHouse 44 = .ok (.aload_n 0, 1) := by decide +kernel
theorem dX1_readHouse_45 : decode cX1_readHouse 45 = .ok (.invokevirtual 84, 3) := by decide +kernel
theorem dX1_readHouse_48 : decode cX1_readHouse 48 = .ok (.lastore, 1) := by decide +kernel
theorem dX1_readHouse_49 : decode cX1_readHouse 49 = .ok (.aload_n 0, 1) := by decide +kernel
theorem dX1_readHouse_50 : decode cX1_readHouse 50 = .ok (.invokevirtual 47, 3) := by decide +kernel
theorem dX1_readHouse_53 : decode cX1_readHouse 53 = .ok (.bipush 20, 2) := by decide +kernel
theorem dX1_readHouse_55 : decode cX1_readHouse 55 = .ok (.if_icmp .ne 23, 3) := by decide +kernel
theorem dX1_readHouse_58 : decode cX1_readHouse 58 = .ok (.aload_n 0, 1) := by decide +kernel
theorem dX1_readHouse_59 : decode cX1_readHouse 59 = .ok (.getfield 34, 3) := by decide +kernel
theorem dX1_readHouse_62 : decode cX1_readHouse 62 = .ok (.aload_n 0, 1) := by decide +kernel
theorem dX1_readHouse_63 : decode cX1_readHouse 63 = .ok (.invokevirtual 84, 3) := by decide +kernel
theorem dX1_readHouse_66 : decode cX1_readHouse 66 = .ok (.invokevirtual 88, 3) := by decide +kernel
theorem dX1_readHouse_69 : decode cX1_readHouse 69 = .ok (.iconst (-1), 1) := by decide +kernel
theorem dX1_readHouse_70 : decode cX1_readHouse 70 = .ok (.if_icmp .eq 8, 3) := by decide +kernel
theorem dX1_readHouse_73 : decode cX1_readHouse 73 = .ok (.aload_n 0, 1) := by decide +kernel
theorem dX1_readHouse_74 : decode cX1_readHouse 74 = .ok (.iconst 3, 1) := by decide +kernel
theorem dX1_readHouse_75 : decode cX1_readHouse 75 = .ok (.invokevirtual 92, 3) := by decide +kernel
theorem dX1_readHouse_78 : decode cX1_readHouse 78 = .ok (.aload_n 0, 1) := by decide +kernel
theorem dX1_readHouse_79 : decode cX1_readHouse 79 = .ok (.bipush 20, 2) := by decide +kernel
theorem dX1_readHouse_81 : decode cX1_readHouse 81 = .ok (.invokevirtual 77, 3) := by decide +kernel
theorem dX1_readHouse_84 : decode cX1_readHouse 84 = .ok (.ifCond .ne 5, 3) := by decide +kernel
theorem dX1_readHouse_87 : decode cX1_readHouse 87 = .ok (.iconst 0, 1) := by decide +kernel
theorem dX1_readHouse_88 : decode cX1_readHouse 88 = .ok (.ireturn, 1) := by decide +kernel
theorem dX1_readHouse_89 : decode cX1_readHouse 89 = .ok (.aload_n 0, 1) := by decide +kernel
theorem dX1_readHouse_90 : decode cX1_readHouse 90 = .ok (.getfield 34, 3) := by decide +kernel
theorem dX1_readHouse_93 : decode cX1_readHouse 93 = .ok (.getfield 96, 3) := by decide +kernel
theorem dX1_readHouse_96 : decode cX1_readHouse 96 = .ok (.iload_n 1, 1) := by decide +kernel
theorem dX1_readHouse_97 : decode cX1_readHouse 97 = .ok (.aload_n 0, 1) := by decide +kernel
theorem dX1_readHouse_98 : decode cX1_readHouse 98 = .ok (.bipush 23, 2) := by decide +kernel
theorem dX1_readHouse_100 : decode cX1_readHouse 100 = .ok (.invokevirtual 100, 3) := by decide +kernel
theorem dX1_readHouse_103 : decode cX1_readHouse 103 = .ok (.iastore, 1) := by decide +kernel
theorem dX1_readHouse_104 : decode cX1_readHouse 104 = .ok (.aload_n 0, 1) := by decide +kernel
theorem dX1_readHouse_105 : decode cX1_readHouse 105 = .ok (.bipush 21, 2) := by decide +kernel
theorem dX1_readHouse_107 : decode cX1_readHouse 107 = .ok (.invokevirtual 77, 3) := by decide +kernel
theorem dX1_readHouse_110 : decode cX1_readHouse 110 = .ok (.ifCond .ne 5, 3) := by decide +kernel
theorem dX1_readHouse_113 : decode cX1_readHouse 113 = .ok (.iconst 0, 1) := by decide +kernel
theorem dX1_readHouse_114 : decode cX1_readHouse 114 = .ok (.ireturn, 1) := by decide +kernel
theorem dX1_readHouse_115 : decode cX1_readHouse 115 = .ok (.aload_n 0, 1) := by decide +kernel
theorem dX1_readHouse_116 : decode cX1_readHouse 116 = .ok (.getfield 34, 3) := by decide +kernel
theorem dX1_readHouse_119 : decode cX1_readHouse 119 = .ok (.getfield 104, 3) := by decide +kernel
theorem dX1_readHouse_122 : decode cX1_readHouse 122 = .ok (.iload_n 1, 1) := by decide +kernel
theorem dX1_readHouse_123 : decode cX1_readHouse 123 = .ok (.aload_n 0, 1) := by decide +kernel
theorem dX1_readHouse_124 : decode cX1_readHouse 124 = .ok (.bipush 23, 2) := by decide +kernel
theorem dX1_readHouse_126 : decode cX1_readHouse 126 = .ok (.invokevirtual 100, 3) := by decide +kernel
theorem dX1_readHouse_129 : decode cX1_readHouse 129 = .ok (.iastore, 1) := by decide +kernel
theorem dX1_readHouse_130 : decode cX1_readHouse 130 = .ok (.aload_n 0, 1) := by decide +kernel
theorem dX1_readHouse_131 : decode cX1_readHouse 131 = .ok (.bipush 21, 2) := by decide +kernel
theorem dX1_readHouse_133 : decode cX1_readHouse 133 = .ok (.invokevirtual 77, 3) := by decide +kernel
theorem dX1_readHouse_136 : decode cX1_readHouse 136 = .ok (.ifCond .ne 5, 3) := by decide +kernel
theorem dX1_readHouse_139 : decode cX1_readHouse 139 = .ok (.iconst 0, 1) := by decide +kernel
theorem dX1_readHouse_140 : decode cX1_readHouse 140 = .ok (.ireturn, 1) := by decide +kernel
theorem dX1_readHouse_141 : decode cX1_readHouse 141 = .ok (.aload_n 0, 1) := by decide +kernel
theorem dX1_readHouse_142 : decode cX1_readHouse 142 = .ok (.getfield 34, 3) := by decide +kernel
theorem dX1_readHouse_145 : decode cX1_readHouse 145 = .ok (.getfield 107, 3) := by decide +kernel
theorem dX1_readHouse_148 : decode cX1_readHouse 148 = .ok (.iload_n 1, 1) := by decide +kernel
theorem dX1_readHouse_149 : decode cX1_readHouse 149 = .ok (.aload_n 0, 1) := by decide +kernel
theorem dX1_readHouse_150 : decode cX1_readHouse 150 = .ok (.bipush 9, 2) := by decide +kernel
theorem dX1_readHouse_152 : decode cX1_readHouse 152 = .ok (.invokevirtual 100, 3) := by decide +kernel
theorem dX1_readHouse_155 : decode cX1_readHouse 155 = .ok (.iastore, 1) := by decide +kernel
theorem dX1_readHouse_156 : decode cX1_readHouse 156 = .ok (.aload_n 0, 1) := by decide +kernel
theorem dX1_readHouse_157 : decode cX1_readHouse 157 = .ok (.getfield 34, 3) := by decide +kernel
theorem dX1_readHouse_160 : decode cX1_readHouse 160 = .ok (.dup, 1) := by decide +kernel
theorem dX1_readHouse_161 : decode cX1_readHouse 161 = .ok (.getfield 74, 3) := by decide +kernel
theorem dX1_readHouse_164 : decode cX1_readHouse 164 = .ok (.iconst 1, 1) := by decide +kernel
theorem dX1_readHouse_165 : decode cX1_readHouse 165 = .ok (.iadd, 1) := by decide +kernel
theorem dX1_readHouse_166 : decode cX1_readHouse 166 = .ok (.putfield 74, 3) := by decide +kernel
theorem dX1_readHouse_169 : decode cX1_readHouse 169 = .ok (.aload_n 0, 1) := by decide +kernel
theorem dX1_readHouse_170 : decode cX1_readHouse 170 = .ok (.bipush 21, 2) := by decide +kernel
theorem dX1_readHouse_172 : decode cX1_readHouse 172 = .ok (.invokevirtual 77, 3) := by decide +kernel
theorem dX1_readHouse_175 : decode cX1_readHouse 175 = .ok (.ifCond .eq 16, 3) := by decide +kernel
theorem dX1_readHouse_178 : decode cX1_readHouse 178 = .ok (.aload_n 0, 1) := by decide +kernel
theorem dX1_readHouse_179 : decode cX1_readHouse 179 = .ok (.bipush 22, 2) := by decide +kernel
theorem dX1_readHouse_181 : decode cX1_readHouse 181 = .ok (.invokevirtual 77, 3) := by decide +kernel
theorem dX1_readHouse_184 : decode cX1_readHouse 184 = .ok (.ifCond .eq 7, 3) := by decide +kernel
theorem dX1_readHouse_187 : decode cX1_readHouse 187 = .ok (.iconst 1, 1) := by decide +kernel
theorem dX1_readHouse_188 : decode cX1_readHouse 188 = .ok (.goto 4, 3) := by decide +kernel
theorem dX1_readHouse_191 : decode cX1_readHouse 191 = .ok (.iconst 0, 1) := by decide +kernel
theorem dX1_readHouse_192 : decode cX1_readHouse 192 = .ok (.ireturn, 1) := by decide +kernel
theorem dX1_readSpare_0 : decode cX1_readSpare 0 = .ok (.aload_n 0, 1) := by decide +kernel
theorem dX1_readSpare_1 : decode cX1_readSpare 1 = .ok (.getfield 34, 3) := by decide +kernel
theorem dX1_readSpare_4 : decode cX1_readSpare 4 = .ok (.getfield 110, 3) := by decide +kernel
theorem dX1_readSpare_7 : decode cX1_readSpare 7 = .ok (.bipush 6, 2) := by decide +kernel
theorem dX1_readSpare_9 : decode cX1_readSpare 9 = .ok (.if_icmp .lt 9, 3) := by decide +kernel
theorem dX1_readSpare_12 : decode cX1_readSpare 12 = .ok (.aload_n 0, 1) := by decide +kernel
theorem dX1_readSpare_13 : decode cX1_readSpare 13 = .ok (.iconst 2, 1) := by decide +kernel
theorem dX1_readSpare_14 : decode cX1_readSpare 14 = .ok (.invokevirtual 71, 3) := by decide +kernel
theorem dX1_readSpare_17 : decode cX1_readSpare 17 = .ok (.ireturn, 1) := by decide +kernel
theorem dX1_readSpare_18 : decode cX1_readSpare 18 = .ok (.aload_n 0, 1) := by decide +kernel
theorem dX1_readSpare_19 : decode cX1_readSpare 19 = .ok (.getfield 34, 3) := by decide +kernel
theorem dX1_readSpare_22 : decode cX1_readSpare 22 = .ok (.getfield 110, 3) := by decide +kernel
theorem dX1_readSpare_25 : decode cX1_readSpare 25 = .ok (.istore_n 1, 1) := by decide +kernel
theorem dX1_readSpare_26 : decode cX1_readSpare 26 = .ok (.aload_n 0, 1) := by decide +kernel
theorem dX1_readSpare_27 : decode cX1_readSpare 27 = .ok (.iconst 1, 1) := by decide +kernel
theorem dX1_readSpare_28 : decode cX1_readSpare 28 = .ok (.invokevirtual 77, 3) := by decide +kernel
theorem dX1_readSpare_31 : decode cX1_readSpare 31 = .ok (.ifCond .ne 5, 3) := by decide +kernel
theorem dX1_readSpare_34 : decode cX1_readSpare 34 = .ok (.iconst 0, 1) := by decide +kernel
theorem dX1_readSpare_35 : decode cX1_readSpare 35 = .ok (.ireturn, 1) := by decide +kernel
theorem dX1_readSpare_36 : decode cX1_readSpare 36 = .ok (.aload_n 0, 1) := by decide +kernel
theorem dX1_readSpare_37 : decode cX1_readSpare 37 = .ok (.getfield 34, 3) := by decide +kernel
theorem dX1_readSpare_40 : decode cX1_readSpare 40 = .ok (.getfield 113, 3) := by decide +kernel
theorem dX1_readSpare_43 : decode cX1_readSpare 43 = .ok (.iload_n 1, 1) := by decide +kernel
theorem dX1_readSpare_44 : decode cX1_readSpare 44 = .ok (.aload_n 0, 1) := by decide +kernel
theorem dX1_readSpare_45 : decode cX1_readSpare 45 = .ok (.invokevirtual 116, 3) := by decide +kernel
theorem dX1_readSpare_48 : decode cX1_readSpare 48 = .ok (.iastore, 1) := by decide +kernel
theorem dX1_readSpare_49 : decode cX1_readSpare 49 = .ok (.aload_n 0, 1) := by decide +kernel
theorem dX1_readSpare_50 : decode cX1_readSpare 50 = .ok (.bipush 20, 2) := by decide +kernel
theorem dX1_readSpare_52 : decode cX1_readSpare 52 = .ok (.invokevirtual 77, 3) := by decide +kernel
theorem dX1_readSpare_55 : decode cX1_readSpare 55 = .ok (.ifCond .ne 5, 3) := by decide +kernel
theorem dX1_readSpare_58 : decode cX1_readSpare 58 = .ok (.iconst 0, 1) := by decide +kernel
theorem dX1_readSpare_59 : decode cX1_readSpare 59 = .ok (.ireturn, 1) := by decide +kernel
theorem dX1_readSpare_60 : decode cX1_readSpare 60 = .ok (.aload_n 0, 1) := by decide +kernel
theorem dX1_readSpare_61 : decode cX1_readSpare 61 = .ok (.getfield 34, 3) := by decide +kernel
theorem dX1_readSpare_64 : decode cX1_readSpare 64 = .ok (.getfield 119, 3) := by decide +kernel
theorem dX1_readSpare_67 : decode cX1_readSpare 67 = .ok (.iload_n 1, 1) := by decide +kernel
theorem dX1_readSpare_68 : decode cX1_readSpare 68 = .ok (.aload_n 0, 1) := by decide +kernel
theorem dX1_readSpare_69 : decode cX1_readSpare 69 = .ok (.invokevirtual 116, 3) := by decide +kernel
theorem dX1_readSpare_72 : decode cX1_readSpare 72 = .ok (.iastore, 1) := by decide +kernel
theorem dX1_readSpare_73 : decode cX1_readSpare 73 = .ok (.aload_n 0, 1) := by decide +kernel
theorem dX1_readSpare_74 : decode cX1_readSpare 74 = .ok (.getfield 34, 3) := by decide +kernel
theorem dX1_readSpare_77 : decode cX1_readSpare 77 = .ok (.dup, 1) := by decide +kernel
theorem dX1_readSpare_78 : decode cX1_readSpare 78 = .ok (.getfield 110, 3) := by decide +kernel
theorem dX1_readSpare_81 : decode cX1_readSpare 81 = .ok (.iconst 1, 1) := by decide +kernel
theorem dX1_readSpare_82 : decode cX1_readSpare 82 = .ok (.iadd, 1) := by decide +kernel
theorem dX1_readSpare_83 : decode cX1_readSpare 83 = .ok (.putfield 110, 3) := by decide +kernel
theorem dX1_readSpare_86 : decode cX1_readSpare 86 = .ok (.aload_n 0, 1) := by decide +kernel
theorem dX1_readSpare_87 : decode cX1_readSpare 87 = .ok (.bipush 20, 2) := by decide +kernel
theorem dX1_readSpare_89 : decode cX1_readSpare 89 = .ok (.invokevirtual 77, 3) := by decide +kernel
theorem dX1_readSpare_92 : decode cX1_readSpare 92 = .ok (.ifCond .eq 16, 3) := by decide +kernel
theorem dX1_readSpare_95 : decode cX1_readSpare 95 = .ok (.aload_n 0, 1) := by decide +kernel
theorem dX1_readSpare_96 : decode cX1_readSpare 96 = .ok (.bipush 22, 2) := by decide +kernel
theorem dX1_readSpare_98 : decode cX1_readSpare 98 = .ok (.invokevirtual 77, 3) := by decide +kernel
theorem dX1_readSpare_101 : decode cX1_readSpare 101 = .ok (.ifCond .eq 7, 3) := by decide +kernel
theorem dX1_readSpare_104 : decode cX1_readSpare 104 = .ok (.iconst 1, 1) := by decide +kernel
theorem dX1_readSpare_105 : decode cX1_readSpare 105 = .ok (.goto 4, 3) := by decide +kernel
theorem dX1_readSpare_108 : decode cX1_readSpare 108 = .ok (.iconst 0, 1) := by decide +kernel
theorem dX1_readSpare_109 : decode cX1_readSpare 109 = .ok (.ireturn, 1) := by decide +kernel
theorem dX1_readBoth_0 : decode cX1_readBoth 0 = .ok (.aload_n 0, 1) := by decide +kernel
theorem dX1_readBoth_1 : decode cX1_readBoth 1 = .ok (.iconst 2, 1) := by decide +kernel
theorem dX1_readBoth_2 : decode cX1_readBoth 2 = .ok (.invokevirtual 77, 3) := by decide +kernel
theorem dX1_readBoth_5 : decode cX1_readBoth 5 = .ok (.ifCond .ne 5, 3) := by decide +kernel
theorem dX1_readBoth_8 : decode cX1_readBoth 8 = .ok (.iconst 0, 1) := by decide +kernel
theorem dX1_readBoth_9 : decode cX1_readBoth 9 = .ok (.ireturn, 1) := by decide +kernel
theorem dX1_readBoth_10 : decode cX1_readBoth 10 = .ok (.aload_n 0, 1) := by decide +kernel
theorem dX1_readBoth_11 : decode cX1_readBoth 11 = .ok (.invokevirtual 116, 3) := by decide +kernel
theorem dX1_readBoth_14 : decode cX1_readBoth 14 = .ok (.istore_n 1, 1) := by decide +kernel
theorem dX1_readBoth_15 : decode cX1_readBoth 15 = .ok (.iload_n 1, 1) := by decide +kernel
theorem dX1_readBoth_16 : decode cX1_readBoth 16 = .ok (.iconst (-1), 1) := by decide +kernel
theorem dX1_readBoth_17 : decode cX1_readBoth 17 = .ok (.if_icmp .eq 38, 3) := by decide +kernel
theorem dX1_readBoth_20 : decode cX1_readBoth 20 = .ok (.aload_n 0, 1) := by decide +kernel
theorem dX1_readBoth_21 : decode cX1_readBoth 21 = .ok (.getfield 34, 3) := by decide +kernel
theorem dX1_readBoth_24 : decode cX1_readBoth 24 = .ok (.getfield 122, 3) := by decide +kernel
theorem dX1_readBoth_27 : decode cX1_readBoth 27 = .ok (.iload_n 1, 1) := by decide +kernel
theorem dX1_readBoth_28 : decode cX1_readBoth 28 = .ok (.invokestatic 125, 3) := by decide +kernel
theorem dX1_readBoth_31 : decode cX1_readBoth 31 = .ok (.iconst 1, 1) := by decide +kernel
theorem dX1_readBoth_32 : decode cX1_readBoth 32 = .ok (.if_icmp .ne 8, 3) := by decide +kernel
theorem dX1_readBoth_35 : decode cX1_readBoth 35 = .ok (.aload_n 0, 1) := by decide +kernel
theorem dX1_readBoth_36 : decode cX1_readBoth 36 = .ok (.iconst 3, 1) := by decide +kernel
theorem dX1_readBoth_37 : decode cX1_readBoth 37 = .ok (.invokevirtual 92, 3) := by decide +kernel
theorem dX1_readBoth_40 : decode cX1_readBoth 40 = .ok (.aload_n 0, 1) := by decide +kernel
theorem dX1_readBoth_41 : decode cX1_readBoth 41 = .ok (.getfield 34, 3) := by decide +kernel
theorem dX1_readBoth_44 : decode cX1_readBoth 44 = .ok (.dup, 1) := by decide +kernel
theorem dX1_readBoth_45 : decode cX1_readBoth 45 = .ok (.getfield 122, 3) := by decide +kernel
theorem dX1_readBoth_48 : decode cX1_readBoth 48 = .ok (.iconst 1, 1) := by decide +kernel
theorem dX1_readBoth_49 : decode cX1_readBoth 49 = .ok (.iload_n 1, 1) := by decide +kernel
theorem dX1_readBoth_50 : decode cX1_readBoth 50 = .ok (.ishl, 1) := by decide +kernel
theorem dX1_readBoth_51 : decode cX1_readBoth 51 = .ok (.ior, 1) := by decide +kernel
theorem dX1_readBoth_52 : decode cX1_readBoth 52 = .ok (.putfield 122, 3) := by decide +kernel
theorem dX1_readBoth_55 : decode cX1_readBoth 55 = .ok (.aload_n 0, 1) := by decide +kernel
theorem dX1_readBoth_56 : decode cX1_readBoth 56 = .ok (.bipush 20, 2) := by decide +kernel
theorem dX1_readBoth_58 : decode cX1_readBoth 58 = .ok (.invokevirtual 77, 3) := by decide +kernel
theorem dX1_readBoth_61 : decode cX1_readBoth 61 = .ok (.ifCond .eq 16, 3) := by decide +kernel
theorem dX1_readBoth_64 : decode cX1_readBoth 64 = .ok (.aload_n 0, 1) := by decide +kernel
theorem dX1_readBoth_65 : decode cX1_readBoth 65 = .ok (.bipush 22, 2) := by decide +kernel
theorem dX1_readBoth_67 : decode cX1_readBoth 67 = .ok (.invokevirtual 77, 3) := by decide +kernel
theorem dX1_readBoth_70 : decode cX1_readBoth 70 = .ok (.ifCond .eq 7, 3) := by decide +kernel
theorem dX1_readBoth_73 : decode cX1_readBoth 73 = .ok (.iconst 1, 1) := by decide +kernel
theorem dX1_readBoth_74 : decode cX1_readBoth 74 = .ok (.goto 4, 3) := by decide +kernel
theorem dX1_readBoth_77 : decode cX1_readBoth 77 = .ok (.iconst 0, 1) := by decide +kernel
theorem dX1_readBoth_78 : decode cX1_readBoth 78 = .ok (.ireturn, 1) := by decide +kernel
theorem dX1_readSeed_0 : decode cX1_readSeed 0 = .ok (.aload_n 0, 1) := by decide +kernel
theorem dX1_readSeed_1 : decode cX1_readSeed 1 = .ok (.bipush 7, 2) := by decide +kernel
theorem dX1_readSeed_3 : decode cX1_readSeed 3 = .ok (.invokevirtual 77, 3) := by decide +kernel
theorem dX1_readSeed_6 : decode cX1_readSeed 6 = .ok (.ifCond .ne 5, 3) := by decide +kernel
theorem dX1_readSeed_9 : decode cX1_readSeed 9 = .ok (.iconst 0, 1) := by decide +kernel
theorem dX1_readSeed_10 : decode cX1_readSeed 10 = .ok (.ireturn, 1) := by decide +kernel
theorem dX1_readSeed_11 : decode cX1_readSeed 11 = .ok (.aload_n 0, 1) := by decide +kernel
theorem dX1_readSeed_12 : decode cX1_readSeed 12 = .ok (.getfield 34, 3) := by decide +kernel
theorem dX1_readSeed_15 : decode cX1_readSeed 15 = .ok (.aload_n 0, 1) := by decide +kernel
theorem dX1_readSeed_16 : decode cX1_readSeed 16 = .ok (.invokevirtual 84, 3) := by decide +kernel
theorem dX1_readSeed_19 : decode cX1_readSeed 19 = .ok (.l2i, 1) := by decide +kernel
theorem dX1_readSeed_20 : decode cX1_readSeed 20 = .ok (.putfield 129, 3) := by decide +kernel
theorem dX1_readSeed_23 : decode cX1_readSeed 23 = .ok (.aload_n 0, 1) := by decide +kernel
theorem dX1_readSeed_24 : decode cX1_readSeed 24 = .ok (.bipush 21, 2) := by decide +kernel
theorem dX1_readSeed_26 : decode cX1_readSeed 26 = .ok (.invokevirtual 77, 3) := by decide +kernel
theorem dX1_readSeed_29 : decode cX1_readSeed 29 = .ok (.ifCond .eq 16, 3) := by decide +kernel
theorem dX1_readSeed_32 : decode cX1_readSeed 32 = .ok (.aload_n 0, 1) := by decide +kernel
theorem dX1_readSeed_33 : decode cX1_readSeed 33 = .ok (.bipush 22, 2) := by decide +kernel
theorem dX1_readSeed_35 : decode cX1_readSeed 35 = .ok (.invokevirtual 77, 3) := by decide +kernel
theorem dX1_readSeed_38 : decode cX1_readSeed 38 = .ok (.ifCond .eq 7, 3) := by decide +kernel
theorem dX1_readSeed_41 : decode cX1_readSeed 41 = .ok (.iconst 1, 1) := by decide +kernel
theorem dX1_readSeed_42 : decode cX1_readSeed 42 = .ok (.goto 4, 3) := by decide +kernel
theorem dX1_readSeed_45 : decode cX1_readSeed 45 = .ok (.iconst 0, 1) := by decide +kernel
theorem dX1_readSeed_46 : decode cX1_readSeed 46 = .ok (.ireturn, 1) := by decide +kernel
theorem dX1_readLaw_0 : decode cX1_readLaw 0 = .ok (.aload_n 0, 1) := by decide +kernel
theorem dX1_readLaw_1 : decode cX1_readLaw 1 = .ok (.iconst 3, 1) := by decide +kernel
theorem dX1_readLaw_2 : decode cX1_readLaw 2 = .ok (.iload_n 1, 1) := by decide +kernel
theorem dX1_readLaw_3 : decode cX1_readLaw 3 = .ok (.iadd, 1) := by decide +kernel
theorem dX1_readLaw_4 : decode cX1_readLaw 4 = .ok (.invokevirtual 77, 3) := by decide +kernel
theorem dX1_readLaw_7 : decode cX1_readLaw 7 = .ok (.ifCond .eq 12, 3) := by decide +kernel
theorem dX1_readLaw_10 : decode cX1_readLaw 10 = .ok (.aload_n 0, 1) := by decide +kernel
theorem dX1_readLaw_11 : decode cX1_readLaw 11 = .ok (.bipush 23, 2) := by decide +kernel
theorem dX1_readLaw_13 : decode cX1_readLaw 13 = .ok (.invokevirtual 77, 3) := by decide +kernel
theorem dX1_readLaw_16 : decode cX1_readLaw 16 = .ok (.ifCond .ne 5, 3) := by decide +kernel
theorem dX1_readLaw_19 : decode cX1_readLaw 19 = .ok (.iconst 0, 1) := by decide +kernel
theorem dX1_readLaw_20 : decode cX1_readLaw 20 = .ok (.ireturn, 1) := by decide +kernel
theorem dX1_readLaw_21 : decode cX1_readLaw 21 = .ok (.aload_n 0, 1) := by decide +kernel
theorem dX1_readLaw_22 : decode cX1_readLaw 22 = .ok (.getfield 34, 3) := by decide +kernel
theorem dX1_readLaw_25 : decode cX1_readLaw 25 = .ok (.getfield 132, 3) := by decide +kernel
theorem dX1_readLaw_28 : decode cX1_readLaw 28 = .ok (.getfield 136, 3) := by decide +kernel
theorem dX1_readLaw_31 : decode cX1_readLaw 31 = .ok (.iload_n 1, 1) := by decide +kernel
theorem dX1_readLaw_32 : decode cX1_readLaw 32 = .ok (.aload_n 0, 1) := by decide +kernel
theorem dX1_readLaw_33 : decode cX1_readLaw 33 = .ok (.getfield 34, 3) := by decide +kernel
theorem dX1_readLaw_36 : decode cX1_readLaw 36 = .ok (.getfield 132, 3) := by decide +kernel
theorem dX1_readLaw_39 : decode cX1_readLaw 39 = .ok (.getfield 141, 3) := by decide +kernel
theorem dX1_readLaw_42 : decode cX1_readLaw 42 = .ok (.iastore, 1) := by decide +kernel
theorem dX1_readLaw_43 : decode cX1_readLaw 43 = .ok (.iconst 0, 1) := by decide +kernel
theorem dX1_readLaw_44 : decode cX1_readLaw 44 = .ok (.istore_n 2, 1) := by decide +kernel
theorem dX1_readLaw_45 : decode cX1_readLaw 45 = .ok (.iload_n 2, 1) := by decide +kernel
theorem dX1_readLaw_46 : decode cX1_readLaw 46 = .ok (.iconst 4, 1) := by decide +kernel
theorem dX1_readLaw_47 : decode cX1_readLaw 47 = .ok (.if_icmp .gt 35, 3) := by decide +kernel
theorem dX1_readLaw_50 : decode cX1_readLaw 50 = .ok (.aload_n 0, 1) := by decide +kernel
theorem dX1_readLaw_51 : decode cX1_readLaw 51 = .ok (.invokevirtual 47, 3) := by decide +kernel
theorem dX1_readLaw_54 : decode cX1_readLaw 54 = .ok (.bipush 8, 2) := by decide +kernel
theorem dX1_readLaw_56 : decode cX1_readLaw 56 = .ok (.if_icmp .ne 26, 3) := by decide +kernel
theorem dX1_readLaw_59 : decode cX1_readLaw 59 = .ok (.iinc 2 1, 3) := by decide +kernel
theorem dX1_readLaw_62 : decode cX1_readLaw 62 = .ok (.iload_n 2, 1) := by decide +kernel
theorem dX1_readLaw_63 : decode cX1_readLaw 63 = .ok (.iconst 4, 1) := by decide +kernel
theorem dX1_readLaw_64 : decode cX1_readLaw 64 = .ok (.if_icmp .le 9, 3) := by decide +kernel
theorem dX1_readLaw_67 : decode cX1_readLaw 67 = .ok (.aload_n 0, 1) := by decide +kernel
theorem dX1_readLaw_68 : decode cX1_readLaw 68 = .ok (.iconst 2, 1) := by decide +kernel
theorem dX1_readLaw_69 : decode cX1_readLaw 69 = .ok (.invokevirtual 71, 3) := by decide +kernel
theorem dX1_readLaw_72 : decode cX1_readLaw 72 = .ok (.ireturn, 1) := by decide +kernel
theorem dX1_readLaw_73 : decode cX1_readLaw 73 = .ok (.aload_n 0, 1) := by decide +kernel
theorem dX1_readLaw_74 : decode cX1_readLaw 74 = .ok (.invokevirtual 144, 3) := by decide +kernel
theorem dX1_readLaw_77 : decode cX1_readLaw 77 = .ok (.ifCond .ne (-32), 3) := by decide +kernel
theorem dX1_readLaw_80 : decode cX1_readLaw 80 = .ok (.iconst 0, 1) := by decide +kernel
theorem dX1_readLaw_81 : decode cX1_readLaw 81 = .ok (.ireturn, 1) := by decide +kernel
theorem dX1_readLaw_82 : decode cX1_readLaw 82 = .ok (.aload_n 0, 1) := by decide +kernel
theorem dX1_readLaw_83 : decode cX1_readLaw 83 = .ok (.iconst 0, 1) := by decide +kernel
theorem dX1_readLaw_84 : decode cX1_readLaw 84 = .ok (.invokevirtual 147, 3) := by decide +kernel
theorem dX1_readLaw_87 : decode cX1_readLaw 87 = .ok (.ifCond .ne 5, 3) := by decide +kernel
theorem dX1_readLaw_90 : decode cX1_readLaw 90 = .ok (.iconst 0, 1) := by decide +kernel
theorem dX1_readLaw_91 : decode cX1_readLaw 91 = .ok (.ireturn, 1) := by decide +kernel
theorem dX1_readLaw_92 : decode cX1_readLaw 92 = .ok (.aload_n 0, 1) := by decide +kernel
theorem dX1_readLaw_93 : decode cX1_readLaw 93 = .ok (.getfield 34, 3) := by decide +kernel
theorem dX1_readLaw_96 : decode cX1_readLaw 96 = .ok (.getfield 132, 3) := by decide +kernel
theorem dX1_readLaw_99 : decode cX1_readLaw 99 = .ok (.bipush 7, 2) := by decide +kernel
theorem dX1_readLaw_101 : decode cX1_readLaw 101 = .ok (.iconst 0, 1) := by decide +kernel
theorem dX1_readLaw_102 : decode cX1_readLaw 102 = .ok (.invokevirtual 150, 3) := by decide +kernel
theorem dX1_readLaw_105 : decode cX1_readLaw 105 = .ok (.pop, 1) := by decide +kernel
theorem dX1_readLaw_106 : decode cX1_readLaw 106 = .ok (.aload_n 0, 1) := by decide +kernel
theorem dX1_readLaw_107 : decode cX1_readLaw 107 = .ok (.bipush 22, 2) := by decide +kernel
theorem dX1_readLaw_109 : decode cX1_readLaw 109 = .ok (.invokevirtual 77, 3) := by decide +kernel
theorem dX1_readLaw_112 : decode cX1_readLaw 112 = .ok (.ireturn, 1) := by decide +kernel
theorem dX1_readIf_0 : decode cX1_readIf 0 = .ok (.aload_n 0, 1) := by decide +kernel
theorem dX1_readIf_1 : decode cX1_readIf 1 = .ok (.bipush 8, 2) := by decide +kernel
theorem dX1_readIf_3 : decode cX1_readIf 3 = .ok (.invokevirtual 77, 3) := by decide +kernel
theorem dX1_readIf_6 : decode cX1_readIf 6 = .ok (.ifCond .eq 37, 3) := by decide +kernel
theorem dX1_readIf_9 : decode cX1_readIf 9 = .ok (.aload_n 0, 1) := by decide +kernel
theorem dX1_readIf_10 : decode cX1_readIf 10 = .ok (.iconst 0, 1) := by decide +kernel
theorem dX1_readIf_11 : decode cX1_readIf 11 = .ok (.invokevirtual 147, 3) := by decide +kernel
theorem dX1_readIf_14 : decode cX1_readIf 14 = .ok (.ifCond .eq 29, 3) := by decide +kernel
theorem dX1_readIf_17 : decode cX1_readIf 17 = .ok (.aload_n 0, 1) := by decide +kernel
theorem dX1_readIf_18 : decode cX1_readIf 18 = .ok (.bipush 28, 2) := by decide +kernel
theorem dX1_readIf_20 : decode cX1_readIf 20 = .ok (.invokevirtual 77, 3) := by decide +kernel
theorem dX1_readIf_23 : decode cX1_readIf 23 = .ok (.ifCond .eq 20, 3) := by decide +kernel
theorem dX1_readIf_26 : decode cX1_readIf 26 = .ok (.aload_n 0, 1) := by decide +kernel
theorem dX1_readIf_27 : decode cX1_readIf 27 = .ok (.iconst 0, 1) := by decide +kernel
theorem dX1_readIf_28 : decode cX1_readIf 28 = .ok (.invokevirtual 147, 3) := by decide +kernel
theorem dX1_readIf_31 : decode cX1_readIf 31 = .ok (.ifCond .eq 12, 3) := by decide +kernel
theorem dX1_readIf_34 : decode cX1_readIf 34 = .ok (.aload_n 0, 1) := by decide +kernel
theorem dX1_readIf_35 : decode cX1_readIf 35 = .ok (.bipush 9, 2) := by decide +kernel
theorem dX1_readIf_37 : decode cX1_readIf 37 = .ok (.invokevirtual 77, 3) := by decide +kernel
theorem dX1_readIf_40 : decode cX1_readIf 40 = .ok (.ifCond .ne 5, 3) := by decide +kernel
theorem dX1_readIf_43 : decode cX1_readIf 43 = .ok (.iconst 0, 1) := by decide +kernel
theorem dX1_readIf_44 : decode cX1_readIf 44 = .ok (.ireturn, 1) := by decide +kernel
theorem dX1_readIf_45 : decode cX1_readIf 45 = .ok (.aload_n 0, 1) := by decide +kernel
theorem dX1_readIf_46 : decode cX1_readIf 46 = .ok (.getfield 34, 3) := by decide +kernel
theorem dX1_readIf_49 : decode cX1_readIf 49 = .ok (.getfield 132, 3) := by decide +kernel
theorem dX1_readIf_52 : decode cX1_readIf 52 = .ok (.bipush 6, 2) := by decide +kernel
theorem dX1_readIf_54 : decode cX1_readIf 54 = .ok (.iconst 0, 1) := by decide +kernel
theorem dX1_readIf_55 : decode cX1_readIf 55 = .ok (.invokevirtual 150, 3) := by decide +kernel
theorem dX1_readIf_58 : decode cX1_readIf 58 = .ok (.istore_n 1, 1) := by decide +kernel
theorem dX1_readIf_59 : decode cX1_readIf 59 = .ok (.aload_n 0, 1) := by decide +kernel
theorem dX1_readIf_60 : decode cX1_readIf 60 = .ok (.iconst 0, 1) := by decide +kernel
theorem dX1_readIf_61 : decode cX1_readIf 61 = .ok (.invokevirtual 147, 3) := by decide +kernel
theorem dX1_readIf_64 : decode cX1_readIf 64 = .ok (.ifCond .eq 12, 3) := by decide +kernel
theorem dX1_readIf_67 : decode cX1_readIf 67 = .ok (.aload_n 0, 1) := by decide +kernel
theorem dX1_readIf_68 : decode cX1_readIf 68 = .ok (.bipush 10, 2) := by decide +kernel
theorem dX1_readIf_70 : decode cX1_readIf 70 = .ok (.invokevirtual 77, 3) := by decide +kernel
theorem dX1_readIf_73 : decode cX1_readIf 73 = .ok (.ifCond .ne 5, 3) := by decide +kernel
theorem dX1_readIf_76 : decode cX1_readIf 76 = .ok (.iconst 0, 1) := by decide +kernel
theorem dX1_readIf_77 : decode cX1_readIf 77 = .ok (.ireturn, 1) := by decide +kernel
theorem dX1_readIf_78 : decode cX1_readIf 78 = .ok (.aload_n 0, 1) := by decide +kernel
theorem dX1_readIf_79 : decode cX1_readIf 79 = .ok (.getfield 34, 3) := by decide +kernel
theorem dX1_readIf_82 : decode cX1_readIf 82 = .ok (.getfield 132, 3) := by decide +kernel
theorem dX1_readIf_85 : decode cX1_readIf 85 = .ok (.bipush 7, 2) := by decide +kernel
theorem dX1_readIf_87 : decode cX1_readIf 87 = .ok (.iconst 0, 1) := by decide +kernel
theorem dX1_readIf_88 : decode cX1_readIf 88 = .ok (.invokevirtual 150, 3) := by decide +kernel
theorem dX1_readIf_91 : decode cX1_readIf 91 = .ok (.pop, 1) := by decide +kernel
theorem dX1_readIf_92 : decode cX1_readIf 92 = .ok (.aload_n 0, 1) := by decide +kernel
theorem dX1_readIf_93 : decode cX1_readIf 93 = .ok (.getfield 34, 3) := by decide +kernel
theorem dX1_readIf_96 : decode cX1_readIf 96 = .ok (.getfield 132, 3) := by decide +kernel
theorem dX1_readIf_99 : decode cX1_readIf 99 = .ok (.iload_n 1, 1) := by decide +kernel
theorem dX1_readIf_100 : decode cX1_readIf 100 = .ok (.invokevirtual 153, 3) := by decide +kernel
theorem dX1_readIf_103 : decode cX1_readIf 103 = .ok (.iconst 1, 1) := by decide +kernel
theorem dX1_readIf_104 : decode cX1_readIf 104 = .ok (.ireturn, 1) := by decide +kernel
theorem dX1_readSum_0 : decode cX1_readSum 0 = .ok (.aload_n 0, 1) := by decide +kernel
theorem dX1_readSum_1 : decode cX1_readSum 1 = .ok (.iload_n 1, 1) := by decide +kernel
theorem dX1_readSum_2 : decode cX1_readSum 2 = .ok (.invokevirtual 156, 3) := by decide +kernel
theorem dX1_readSum_5 : decode cX1_readSum 5 = .ok (.ifCond .ne 5, 3) := by decide +kernel
theorem dX1_readSum_8 : decode cX1_readSum 8 = .ok (.iconst 0, 1) := by decide +kernel
theorem dX1_readSum_9 : decode cX1_readSum 9 = .ok (.ireturn, 1) := by decide +kernel
theorem dX1_readSum_10 : decode cX1_readSum 10 = .ok (.iconst 1, 1) := by decide +kernel
theorem dX1_readSum_11 : decode cX1_readSum 11 = .ok (.istore_n 2, 1) := by decide +kernel
theorem dX1_readSum_12 : decode cX1_readSum 12 = .ok (.iload_n 2, 1) := by decide +kernel
theorem dX1_readSum_13 : decode cX1_readSum 13 = .ok (.sipush 400, 3) := by decide +kernel
theorem dX1_readSum_16 : decode cX1_readSum 16 = .ok (.if_icmp .gt 69, 3) := by decide +kernel
theorem dX1_readSum_19 : decode cX1_readSum 19 = .ok (.aload_n 0, 1) := by decide +kernel
theorem dX1_readSum_20 : decode cX1_readSum 20 = .ok (.invokevirtual 47, 3) := by decide +kernel
theorem dX1_readSum_23 : decode cX1_readSum 23 = .ok (.istore_n 3, 1) := by decide +kernel
theorem dX1_readSum_24 : decode cX1_readSum 24 = .ok (.iload_n 3, 1) := by decide +kernel
theorem dX1_readSum_25 : decode cX1_readSum 25 = .ok (.bipush 24, 2) := by decide +kernel
theorem dX1_readSum_27 : decode cX1_readSum 27 = .ok (.if_icmp .eq 11, 3) := by decide +kernel
theorem dX1_readSum_30 : decode cX1_readSum 30 = .ok (.iload_n 3, 1) := by decide +kernel
theorem dX1_readSum_31 : decode cX1_readSum 31 = .ok (.bipush 25, 2) := by decide +kernel
theorem dX1_readSum_33 : decode cX1_readSum 33 = .ok (.if_icmp .eq 5, 3) := by decide +kernel
theorem dX1_readSum_36 : decode cX1_readSum 36 = .ok (.iconst 1, 1) := by decide +kernel
theorem dX1_readSum_37 : decode cX1_readSum 37 = .ok (.ireturn, 1) := by decide +kernel
theorem dX1_readSum_38 : decode cX1_readSum 38 = .ok (.aload_n 0, 1) := by decide +kernel
theorem dX1_readSum_39 : decode cX1_readSum 39 = .ok (.iload_n 3, 1) := by decide +kernel
theorem dX1_readSum_40 : decode cX1_readSum 40 = .ok (.invokevirtual 77, 3) := by decide +kernel
theorem dX1_readSum_43 : decode cX1_readSum 43 = .ok (.ifCond .eq 11, 3) := by decide +kernel
theorem dX1_readSum_46 : decode cX1_readSum 46 = .ok (.aload_n 0, 1) := by decide +kernel
theorem dX1_readSum_47 : decode cX1_readSum 47 = .ok (.iload_n 1, 1) := by decide +kernel
theorem dX1_readSum_48 : decode cX1_readSum 48 = .ok (.invokevirtual 156, 3) := by decide +kernel
theorem dX1_readSum_51 : decode cX1_readSum 51 = .ok (.ifCond .ne 5, 3) := by decide +kernel
theorem dX1_readSum_54 : decode cX1_readSum 54 = .ok (.iconst 0, 1) := by decide +kernel
theorem dX1_readSum_55 : decode cX1_readSum 55 = .ok (.ireturn, 1) := by decide +kernel
theorem dX1_readSum_56 : decode cX1_readSum 56 = .ok (.aload_n 0, 1) := by decide +kernel
theorem dX1_readSum_57 : decode cX1_readSum 57 = .ok (.getfield 34, 3) := by decide +kernel
theorem dX1_readSum_60 : decode cX1_readSum 60 = .ok (.getfield 132, 3) := by decide +kernel
theorem dX1_readSum_63 : decode cX1_readSum 63 = .ok (.iload_n 3, 1) := by decide +kernel
theorem dX1_readSum_64 : decode cX1_readSum 64 = .ok (.bipush 24, 2) := by decide +kernel
theorem dX1_readSum_66 : decode cX1_readSum 66 = .ok (.if_icmp .ne 7, 3) := by decide +kernel
theorem dX1_readSum_69 : decode cX1_readSum 69 = .ok (.iconst 2, 1) := by decide +kernel
theorem dX1_readSum_70 : decode cX1_readSum 70 = .ok (.goto 4, 3) := by decide +kernel
theorem dX1_readSum_73 : decode cX1_readSum 73 = .ok (.iconst 3, 1) := by decide +kernel
theorem dX1_readSum_74 : decode cX1_readSum 74 = .ok (.iconst 0, 1) := by decide +kernel
theorem dX1_readSum_75 : decode cX1_readSum 75 = .ok (.invokevirtual 150, 3) := by decide +kernel
theorem dX1_readSum_78 : decode cX1_readSum 78 = .ok (.pop, 1) := by decide +kernel
theorem dX1_readSum_79 : decode cX1_readSum 79 = .ok (.iinc 2 1, 3) := by decide +kernel
theorem dX1_readSum_82 : decode cX1_readSum 82 = .ok (.goto (-70), 3) := by decide +kernel
theorem dX1_readSum_85 : decode cX1_readSum 85 = .ok (.aload_n 0, 1) := by decide +kernel
theorem dX1_readSum_86 : decode cX1_readSum 86 = .ok (.iconst 2, 1) := by decide +kernel
theorem dX1_readSum_87 : decode cX1_readSum 87 = .ok (.invokevirtual 71, 3) := by decide +kernel
theorem dX1_readSum_90 : decode cX1_readSum 90 = .ok (.ireturn, 1) := by decide +kernel
theorem dX1_readProduct_0 : decode cX1_readProduct 0 = .ok (.aload_n 0, 1) := by decide +kernel
theorem dX1_readProduct_1 : decode cX1_readProduct 1 = .ok (.iload_n 1, 1) := by decide +kernel
theorem dX1_readProduct_2 : decode cX1_readProduct 2 = .ok (.invokevirtual 159, 3) := by decide +kernel
theorem dX1_readProduct_5 : decode cX1_readProduct 5 = .ok (.ifCond .ne 5, 3) := by decide +kernel
theorem dX1_readProduct_8 : decode cX1_readProduct 8 = .ok (.iconst 0, 1) := by decide +kernel
theorem dX1_readProduct_9 : decode cX1_readProduct 9 = .ok (.ireturn, 1) := by decide +kernel
theorem dX1_readProduct_10 : decode cX1_readProduct 10 = .ok (.iconst 1, 1) := by decide +kernel
theorem dX1_readProduct_11 : decode cX1_readProduct 11 = .ok (.istore_n 2, 1) := by decide +kernel
theorem dX1_readProduct_12 : decode cX1_readProduct 12 = .ok (.iload_n 2, 1) := by decide +kernel
theorem dX1_readProduct_13 : decode cX1_readProduct 13 = .ok (.sipush 400, 3) := by decide +kernel
theorem dX1_readProduct_16 : decode cX1_readProduct 16 = .ok (.if_icmp .gt 69, 3) := by decide +kernel
theorem dX1_readProduct_19 : decode cX1_readProduct 19 = .ok (.aload_n 0, 1) := by decide +kernel
theorem dX1_readProduct_20 : decode cX1_readProduct 20 = .ok (.invokevirtual 47, 3) := by decide +kernel
theorem dX1_readProduct_23 : decode cX1_readProduct 23 = .ok (.istore_n 3, 1) := by decide +kernel
theorem dX1_readProduct_24 : decode cX1_readProduct 24 = .ok (.iload_n 3, 1) := by decide +kernel
theorem dX1_readProduct_25 : decode cX1_readProduct 25 = .ok (.bipush 26, 2) := by decide +kernel
theorem dX1_readProduct_27 : decode cX1_readProduct 27 = .ok (.if_icmp .eq 11, 3) := by decide +kernel
theorem dX1_readProduct_30 : decode cX1_readProduct 30 = .ok (.iload_n 3, 1) := by decide +kernel
theorem dX1_readProduct_31 : decode cX1_readProduct 31 = .ok (.bipush 27, 2) := by decide +kernel
theorem dX1_readProduct_33 : decode cX1_readProduct 33 = .ok (.if_icmp .eq 5, 3) := by decide +kernel
theorem dX1_readProduct_36 : decode cX1_readProduct 36 = .ok (.iconst 1, 1) := by decide +kernel
theorem dX1_readProduct_37 : decode cX1_readProduct 37 = .ok (.ireturn, 1) := by decide +kernel
theorem dX1_readProduct_38 : decode cX1_readProduct 38 = .ok (.aload_n 0, 1) := by decide +kernel
theorem dX1_readProduct_39 : decode cX1_readProduct 39 = .ok (.iload_n 3, 1) := by decide +kernel
theorem dX1_readProduct_40 : decode cX1_readProduct 40 = .ok (.invokevirtual 77, 3) := by decide +kernel
theorem dX1_readProduct_43 : decode cX1_readProduct 43 = .ok (.ifCond .eq 11, 3) := by decide +kernel
theorem dX1_readProduct_46 : decode cX1_readProduct 46 = .ok (.aload_n 0, 1) := by decide +kernel
theorem dX1_readProduct_47 : decode cX1_readProduct 47 = .ok (.iload_n 1, 1) := by decide +kernel
theorem dX1_readProduct_48 : decode cX1_readProduct 48 = .ok (.invokevirtual 159, 3) := by decide +kernel
theorem dX1_readProduct_51 : decode cX1_readProduct 51 = .ok (.ifCond .ne 5, 3) := by decide +kernel
theorem dX1_readProduct_54 : decode cX1_readProduct 54 = .ok (.iconst 0, 1) := by decide +kernel
theorem dX1_readProduct_55 : decode cX1_readProduct 55 = .ok (.ireturn, 1) := by decide +kernel
theorem dX1_readProduct_56 : decode cX1_readProduct 56 = .ok (.aload_n 0, 1) := by decide +kernel
theorem dX1_readProduct_57 : decode cX1_readProduct 57 = .ok (.getfield 34, 3) := by decide +kernel
theorem dX1_readProduct_60 : decode cX1_readProduct 60 = .ok (.getfield 132, 3) := by decide +kernel
theorem dX1_readProduct_63 : decode cX1_readProduct 63 = .ok (.iload_n 3, 1) := by decide +kernel
theorem dX1_readProduct_64 : decode cX1_readProduct 64 = .ok (.bipush 26, 2) := by decide +kernel
theorem dX1_readProduct_66 : decode cX1_readProduct 66 = .ok (.if_icmp .ne 7, 3) := by decide +kernel
theorem dX1_readProduct_69 : decode cX1_readProduct 69 = .ok (.iconst 4, 1) := by decide +kernel
theorem dX1_readProduct_70 : decode cX1_readProduct 70 = .ok (.goto 4, 3) := by decide +kernel
theorem dX1_readProduct_73 : decode cX1_readProduct 73 = .ok (.iconst 5, 1) := by decide +kernel
theorem dX1_readProduct_74 : decode cX1_readProduct 74 = .ok (.iconst 0, 1) := by decide +kernel
theorem dX1_readProduct_75 : decode cX1_readProduct 75 = .ok (.invokevirtual 150, 3) := by decide +kernel
theorem dX1_readProduct_78 : decode cX1_readProduct 78 = .ok (.pop, 1) := by decide +kernel
theorem dX1_readProduct_79 : decode cX1_readProduct 79 = .ok (.iinc 2 1, 3) := by decide +kernel
theorem dX1_readProduct_82 : decode cX1_readProduct 82 = .ok (.goto (-70), 3) := by decide +kernel
theorem dX1_readProduct_85 : decode cX1_readProduct 85 = .ok (.aload_n 0, 1) := by decide +kernel
theorem dX1_readProduct_86 : decode cX1_readProduct 86 = .ok (.iconst 2, 1) := by decide +kernel
theorem dX1_readProduct_87 : decode cX1_readProduct 87 = .ok (.invokevirtual 71, 3) := by decide +kernel
theorem dX1_readProduct_90 : decode cX1_readProduct 90 = .ok (.ireturn, 1) := by decide +kernel
theorem dX1_readUnit_0 : decode cX1_readUnit 0 = .ok (.aload_n 0, 1) := by decide +kernel
theorem dX1_readUnit_1 : decode cX1_readUnit 1 = .ok (.invokevirtual 47, 3) := by decide +kernel
theorem dX1_readUnit_4 : decode cX1_readUnit 4 = .ok (.istore_n 2, 1) := by decide +kernel
theorem dX1_readUnit_5 : decode cX1_readUnit 5 = .ok (.iload_n 2, 1) := by decide +kernel
theorem dX1_readUnit_6 : decode cX1_readUnit 6 = .ok (.bipush 21, 2) := by decide +kernel
theorem dX1_readUnit_8 : decode cX1_readUnit 8 = .ok (.if_icmp .ne 26, 3) := by decide +kernel
theorem dX1_readUnit_11 : decode cX1_readUnit 11 = .ok (.aload_n 0, 1) := by decide +kernel
theorem dX1_readUnit_12 : decode cX1_readUnit 12 = .ok (.getfield 34, 3) := by decide +kernel
theorem dX1_readUnit_15 : decode cX1_readUnit 15 = .ok (.getfield 132, 3) := by decide +kernel
theorem dX1_readUnit_18 : decode cX1_readUnit 18 = .ok (.iconst 0, 1) := by decide +kernel
theorem dX1_readUnit_19 : decode cX1_readUnit 19 = .ok (.aload_n 0, 1) := by decide +kernel
theorem dX1_readUnit_20 : decode cX1_readUnit 20 = .ok (.invokevirtual 84, 3) := by decide +kernel
theorem dX1_readUnit_23 : decode cX1_readUnit 23 = .ok (.l2i, 1) := by decide +kernel
theorem dX1_readUnit_24 : decode cX1_readUnit 24 = .ok (.invokevirtual 150, 3) := by decide +kernel
theorem dX1_readUnit_27 : decode cX1_readUnit 27 = .ok (.pop, 1) := by decide +kernel
theorem dX1_readUnit_28 : decode cX1_readUnit 28 = .ok (.aload_n 0, 1) := by decide +kernel
theorem dX1_readUnit_29 : decode cX1_readUnit 29 = .ok (.iload_n 2, 1) := by decide +kernel
theorem dX1_readUnit_30 : decode cX1_readUnit 30 = .ok (.invokevirtual 77, 3) := by decide +kernel
theorem dX1_readUnit_33 : decode cX1_readUnit 33 = .ok (.ireturn, 1) := by decide +kernel
theorem dX1_readUnit_34 : decode cX1_readUnit 34 = .ok (.iload_n 2, 1) := by decide +kernel
theorem dX1_readUnit_35 : decode cX1_readUnit 35 = .ok (.bipush 11, 2) := by decide +kernel
theorem dX1_readUnit_37 : decode cX1_readUnit 37 = .ok (.if_icmp .lt 31, 3) := by decide +kernel
theorem dX1_readUnit_40 : decode cX1_readUnit 40 = .ok (.iload_n 2, 1) := by decide +kernel
theorem dX1_readUnit_41 : decode cX1_readUnit 41 = .ok (.bipush 19, 2) := by decide +kernel
theorem dX1_readUnit_43 : decode cX1_readUnit 43 = .ok (.if_icmp .gt 25, 3) := by decide +kernel
theorem dX1_readUnit_46 : decode cX1_readUnit 46 = .ok (.aload_n 0, 1) := by decide +kernel
theorem dX1_readUnit_47 : decode cX1_readUnit 47 = .ok (.getfield 34, 3) := by decide +kernel
theorem dX1_readUnit_50 : decode cX1_readUnit 50 = .ok (.getfield 132, 3) := by decide +kernel
theorem dX1_readUnit_53 : decode cX1_readUnit 53 = .ok (.iconst 1, 1) := by decide +kernel
theorem dX1_readUnit_54 : decode cX1_readUnit 54 = .ok (.iload_n 2, 1) := by decide +kernel
theorem dX1_readUnit_55 : decode cX1_readUnit 55 = .ok (.bipush 11, 2) := by decide +kernel
theorem dX1_readUnit_57 : decode cX1_readUnit 57 = .ok (.isub, 1) := by decide +kernel
theorem dX1_readUnit_58 : decode cX1_readUnit 58 = .ok (.invokevirtual 150, 3) := by decide +kernel
theorem dX1_readUnit_61 : decode cX1_readUnit 61 = .ok (.pop, 1) := by decide +kernel
theorem dX1_readUnit_62 : decode cX1_readUnit 62 = .ok (.aload_n 0, 1) := by decide +kernel
theorem dX1_readUnit_63 : decode cX1_readUnit 63 = .ok (.iload_n 2, 1) := by decide +kernel
theorem dX1_readUnit_64 : decode cX1_readUnit 64 = .ok (.invokevirtual 77, 3) := by decide +kernel
theorem dX1_readUnit_67 : decode cX1_readUnit 67 = .ok (.ireturn, 1) := by decide +kernel
theorem dX1_readUnit_68 : decode cX1_readUnit 68 = .ok (.iload_n 2, 1) := by decide +kernel
theorem dX1_readUnit_69 : decode cX1_readUnit 69 = .ok (.bipush 29, 2) := by decide +kernel
theorem dX1_readUnit_71 : decode cX1_readUnit 71 = .ok (.if_icmp .eq 9, 3) := by decide +kernel
theorem dX1_readUnit_74 : decode cX1_readUnit 74 = .ok (.aload_n 0, 1) := by decide +kernel
theorem dX1_readUnit_75 : decode cX1_readUnit 75 = .ok (.iconst 1, 1) := by decide +kernel
theorem dX1_readUnit_76 : decode cX1_readUnit 76 = .ok (.invokevirtual 71, 3) := by decide +kernel
theorem dX1_readUnit_79 : decode cX1_readUnit 79 = .ok (.ireturn, 1) := by decide +kernel
theorem dX1_readUnit_80 : decode cX1_readUnit 80 = .ok (.iload_n 1, 1) := by decide +kernel
theorem dX1_readUnit_81 : decode cX1_readUnit 81 = .ok (.bipush 6, 2) := by decide +kernel
theorem dX1_readUnit_83 : decode cX1_readUnit 83 = .ok (.if_icmp .lt 9, 3) := by decide +kernel
theorem dX1_readUnit_86 : decode cX1_readUnit 86 = .ok (.aload_n 0, 1) := by decide +kernel
theorem dX1_readUnit_87 : decode cX1_readUnit 87 = .ok (.iconst 2, 1) := by decide +kernel
theorem dX1_readUnit_88 : decode cX1_readUnit 88 = .ok (.invokevirtual 71, 3) := by decide +kernel
theorem dX1_readUnit_91 : decode cX1_readUnit 91 = .ok (.ireturn, 1) := by decide +kernel
theorem dX1_readUnit_92 : decode cX1_readUnit 92 = .ok (.aload_n 0, 1) := by decide +kernel
theorem dX1_readUnit_93 : decode cX1_readUnit 93 = .ok (.bipush 29, 2) := by decide +kernel
theorem dX1_readUnit_95 : decode cX1_readUnit 95 = .ok (.invokevirtual 77, 3) := by decide +kernel
theorem dX1_readUnit_98 : decode cX1_readUnit 98 = .ok (.ifCond .eq 26, 3) := by decide +kernel
theorem dX1_readUnit_101 : decode cX1_readUnit 101 = .ok (.aload_n 0, 1) := by decide +kernel
theorem dX1_readUnit_102 : decode cX1_readUnit 102 = .ok (.iload_n 1, 1) := by decide +kernel
theorem dX1_readUnit_103 : decode cX1_readUnit 103 = .ok (.iconst 1, 1) := by decide +kernel
theorem dX1_readUnit_104 : decode cX1_readUnit 104 = .ok (.iadd, 1) := by decide +kernel
theorem dX1_readUnit_105 : decode cX1_readUnit 105 = .ok (.invokevirtual 147, 3) := by decide +kernel
theorem dX1_readUnit_108 : decode cX1_readUnit 108 = .ok (.ifCond .eq 16, 3) := by decide +kernel
theorem dX1_readUnit_111 : decode cX1_readUnit 111 = .ok (.aload_n 0, 1) := by decide +kernel
theorem dX1_readUnit_112 : decode cX1_readUnit 112 = .ok (.bipush 30, 2) := by decide +kernel
theorem dX1_readUnit_114 : decode cX1_readUnit 114 = .ok (.invokevirtual 77, 3) := by decide +kernel
theorem dX1_readUnit_117 : decode cX1_readUnit 117 = .ok (.ifCond .eq 7, 3) := by decide +kernel
theorem dX1_readUnit_120 : decode cX1_readUnit 120 = .ok (.iconst 1, 1) := by decide +kernel
theorem dX1_readUnit_121 : decode cX1_readUnit 121 = .ok (.goto 4, 3) := by decide +kernel
theorem dX1_readUnit_124 : decode cX1_readUnit 124 = .ok (.iconst 0, 1) := by decide +kernel
theorem dX1_readUnit_125 : decode cX1_readUnit 125 = .ok (.ireturn, 1) := by decide +kernel
theorem dX1_kindHere_0 : decode cX1_kindHere 0 = .ok (.aload_n 0, 1) := by decide +kernel
theorem dX1_kindHere_1 : decode cX1_kindHere 1 = .ok (.getfield 18, 3) := by decide +kernel
theorem dX1_kindHere_4 : decode cX1_kindHere 4 = .ok (.aload_n 0, 1) := by decide +kernel
theorem dX1_kindHere_5 : decode cX1_kindHere 5 = .ok (.getfield 12, 3) := by decide +kernel
theorem dX1_kindHere_8 : decode cX1_kindHere 8 = .ok (.getfield 162, 3) := by decide +kernel
theorem dX1_kindHere_11 : decode cX1_kindHere 11 = .ok (.if_icmp .ge 18, 3) := by decide +kernel
theorem dX1_kindHere_14 : decode cX1_kindHere 14 = .ok (.aload_n 0, 1) := by decide +kernel
theorem dX1_kindHere_15 : decode cX1_kindHere 15 = .ok (.getfield 12, 3) := by decide +kernel
theorem dX1_kindHere_18 : decode cX1_kindHere 18 = .ok (.getfield 163, 3) := by decide +kernel
theorem dX1_kindHere_21 : decode cX1_kindHere 21 = .ok (.aload_n 0, 1) := by decide +kernel
theorem dX1_kindHere_22 : decode cX1_kindHere 22 = .ok (.getfield 18, 3) := by decide +kernel
theorem dX1_kindHere_25 : decode cX1_kindHere 25 = .ok (.iaload, 1) := by decide +kernel
theorem dX1_kindHere_26 : decode cX1_kindHere 26 = .ok (.goto 5, 3) := by decide +kernel
theorem dX1_kindHere_29 : decode cX1_kindHere 29 = .ok (.bipush 31, 2) := by decide +kernel
theorem dX1_kindHere_31 : decode cX1_kindHere 31 = .ok (.ireturn, 1) := by decide +kernel
theorem dX1_valueHere_0 : decode cX1_valueHere 0 = .ok (.aload_n 0, 1) := by decide +kernel
theorem dX1_valueHere_1 : decode cX1_valueHere 1 = .ok (.getfield 18, 3) := by decide +kernel
theorem dX1_valueHere_4 : decode cX1_valueHere 4 = .ok (.aload_n 0, 1) := by decide +kernel
theorem dX1_valueHere_5 : decode cX1_valueHere 5 = .ok (.getfield 12, 3) := by decide +kernel
theorem dX1_valueHere_8 : decode cX1_valueHere 8 = .ok (.getfield 162, 3) := by decide +kernel
theorem dX1_valueHere_11 : decode cX1_valueHere 11 = .ok (.if_icmp .ge 18, 3) := by decide +kernel
theorem dX1_valueHere_14 : decode cX1_valueHere 14 = .ok (.aload_n 0, 1) := by decide +kernel
theorem dX1_valueHere_15 : decode cX1_valueHere 15 = .ok (.getfield 12, 3) := by decide +kernel
theorem dX1_valueHere_18 : decode cX1_valueHere 18 = .ok (.getfield 166, 3) := by decide +kernel
theorem dX1_valueHere_21 : decode cX1_valueHere 21 = .ok (.aload_n 0, 1) := by decide +kernel
theorem dX1_valueHere_22 : decode cX1_valueHere 22 = .ok (.getfield 18, 3) := by decide +kernel
theorem dX1_valueHere_25 : decode cX1_valueHere 25 = .ok (.laload, 1) := by decide +kernel
theorem dX1_valueHere_26 : decode cX1_valueHere 26 = .ok (.goto 4, 3) := by decide +kernel
theorem dX1_valueHere_29 : decode cX1_valueHere 29 = .ok (.lconst 0, 1) := by decide +kernel
theorem dX1_valueHere_30 : decode cX1_valueHere 30 = .ok (.lreturn, 1) := by decide +kernel
theorem dX1_intHere_0 : decode cX1_intHere 0 = .ok (.aload_n 0, 1) := by decide +kernel
theorem dX1_intHere_1 : decode cX1_intHere 1 = .ok (.invokevirtual 47, 3) := by decide +kernel
theorem dX1_intHere_4 : decode cX1_intHere 4 = .ok (.bipush 21, 2) := by decide +kernel
theorem dX1_intHere_6 : decode cX1_intHere 6 = .ok (.if_icmp .eq 5, 3) := by decide +kernel
theorem dX1_intHere_9 : decode cX1_intHere 9 = .ok (.iconst 0, 1) := by decide +kernel
theorem dX1_intHere_10 : decode cX1_intHere 10 = .ok (.ireturn, 1) := by decide +kernel
theorem dX1_intHere_11 : decode cX1_intHere 11 = .ok (.aload_n 0, 1) := by decide +kernel
theorem dX1_intHere_12 : decode cX1_intHere 12 = .ok (.invokevirtual 84, 3) := by decide +kernel
theorem dX1_intHere_15 : decode cX1_intHere 15 = .ok (.iload_n 1, 1) := by decide +kernel
theorem dX1_intHere_16 : decode cX1_intHere 16 = .ok (.i2l, 1) := by decide +kernel
theorem dX1_intHere_17 : decode cX1_intHere 17 = .ok (.lcmp, 1) := by decide +kernel
theorem dX1_intHere_18 : decode cX1_intHere 18 = .ok (.ifCond .le 8, 3) := by decide +kernel
theorem dX1_intHere_21 : decode cX1_intHere 21 = .ok (.aload_n 0, 1) := by decide +kernel
theorem dX1_intHere_22 : decode cX1_intHere 22 = .ok (.iconst 5, 1) := by decide +kernel
theorem dX1_intHere_23 : decode cX1_intHere 23 = .ok (.invokevirtual 92, 3) := by decide +kernel
theorem dX1_intHere_26 : decode cX1_intHere 26 = .ok (.aload_n 0, 1) := by decide +kernel
theorem dX1_intHere_27 : decode cX1_intHere 27 = .ok (.invokevirtual 84, 3) := by decide +kernel
theorem dX1_intHere_30 : decode cX1_intHere 30 = .ok (.l2i, 1) := by decide +kernel
theorem dX1_intHere_31 : decode cX1_intHere 31 = .ok (.ireturn, 1) := by decide +kernel
theorem dX1_houseHere_0 : decode cX1_houseHere 0 = .ok (.aload_n 0, 1) := by decide +kernel
theorem dX1_houseHere_1 : decode cX1_houseHere 1 = .ok (.invokevirtual 47, 3) := by decide +kernel
theorem dX1_houseHere_4 : decode cX1_houseHere 4 = .ok (.bipush 20, 2) := by decide +kernel
theorem dX1_houseHere_6 : decode cX1_houseHere 6 = .ok (.if_icmp .eq 5, 3) := by decide +kernel
theorem dX1_houseHere_9 : decode cX1_houseHere 9 = .ok (.iconst (-1), 1) := by decide +kernel
theorem dX1_houseHere_10 : decode cX1_houseHere 10 = .ok (.ireturn, 1) := by decide +kernel
theorem dX1_houseHere_11 : decode cX1_houseHere 11 = .ok (.aload_n 0, 1) := by decide +kernel
theorem dX1_houseHere_12 : decode cX1_houseHere 12 = .ok (.getfield 34, 3) := by decide +kernel
theorem dX1_houseHere_15 : decode cX1_houseHere 15 = .ok (.aload_n 0, 1) := by decide +kernel
theorem dX1_houseHere_16 : decode cX1_houseHere 16 = .ok (.invokevirtual 84, 3) := by decide +kernel
theorem dX1_houseHere_19 : decode cX1_houseHere 19 = .ok (.invokevirtual 88, 3) := by decide +kernel
theorem dX1_houseHere_22 : decode cX1_houseHere 22 = .ok (.istore_n 1, 1) := by decide +kernel
theorem dX1_houseHere_23 : decode cX1_houseHere 23 = .ok (.iload_n 1, 1) := by decide +kernel
theorem dX1_houseHere_24 : decode cX1_houseHere 24 = .ok (.iconst (-1), 1) := by decide +kernel
theorem dX1_houseHere_25 : decode cX1_houseHere 25 = .ok (.if_icmp .ne 8, 3) := by decide +kernel
theorem dX1_houseHere_28 : decode cX1_houseHere 28 = .ok (.aload_n 0, 1) := by decide +kernel
theorem dX1_houseHere_29 : decode cX1_houseHere 29 = .ok (.iconst 4, 1) := by decide +kernel
theorem dX1_houseHere_30 : decode cX1_houseHere 30 = .ok (.invokevirtual 92, 3) := by decide +kernel
theorem dX1_houseHere_33 : decode cX1_houseHere 33 = .ok (.iload_n 1, 1) := by decide +kernel
theorem dX1_houseHere_34 : decode cX1_houseHere 34 = .ok (.ireturn, 1) := by decide +kernel
theorem dX1_take_0 : decode cX1_take 0 = .ok (.aload_n 0, 1) := by decide +kernel
theorem dX1_take_1 : decode cX1_take 1 = .ok (.invokevirtual 47, 3) := by decide +kernel
theorem dX1_take_4 : decode cX1_take 4 = .ok (.iload_n 1, 1) := by decide +kernel
theorem dX1_take_5 : decode cX1_take 5 = .ok (.if_icmp .eq 9, 3) := by decide +kernel
theorem dX1_take_8 : decode cX1_take 8 = .ok (.aload_n 0, 1) := by decide +kernel
theorem dX1_take_9 : decode cX1_take 9 = .ok (.iconst 1, 1) := by decide +kernel
theorem dX1_take_10 : decode cX1_take 10 = .ok (.invokevirtual 71, 3) := by decide +kernel
theorem dX1_take_13 : decode cX1_take 13 = .ok (.ireturn, 1) := by decide +kernel
theorem dX1_take_14 : decode cX1_take 14 = .ok (.aload_n 0, 1) := by decide +kernel
theorem dX1_take_15 : decode cX1_take 15 = .ok (.getfield 18, 3) := by decide +kernel
theorem dX1_take_18 : decode cX1_take 18 = .ok (.sipush 400, 3) := by decide +kernel
theorem dX1_take_21 : decode cX1_take 21 = .ok (.if_icmp .lt 9, 3) := by decide +kernel
theorem dX1_take_24 : decode cX1_take 24 = .ok (.aload_n 0, 1) := by decide +kernel
theorem dX1_take_25 : decode cX1_take 25 = .ok (.iconst 2, 1) := by decide +kernel
theorem dX1_take_26 : decode cX1_take 26 = .ok (.invokevirtual 71, 3) := by decide +kernel
theorem dX1_take_29 : decode cX1_take 29 = .ok (.ireturn, 1) := by decide +kernel
theorem dX1_take_30 : decode cX1_take 30 = .ok (.aload_n 0, 1) := by decide +kernel
theorem dX1_take_31 : decode cX1_take 31 = .ok (.dup, 1) := by decide +kernel
theorem dX1_take_32 : decode cX1_take 32 = .ok (.getfield 18, 3) := by decide +kernel
theorem dX1_take_35 : decode cX1_take 35 = .ok (.iconst 1, 1) := by decide +kernel
theorem dX1_take_36 : decode cX1_take 36 = .ok (.iadd, 1) := by decide +kernel
theorem dX1_take_37 : decode cX1_take 37 = .ok (.putfield 18, 3) := by decide +kernel
theorem dX1_take_40 : decode cX1_take 40 = .ok (.iconst 1, 1) := by decide +kernel
theorem dX1_take_41 : decode cX1_take 41 = .ok (.ireturn, 1) := by decide +kernel
theorem dX1_stop_0 : decode cX1_stop 0 = .ok (.aload_n 0, 1) := by decide +kernel
theorem dX1_stop_1 : decode cX1_stop 1 = .ok (.iload_n 1, 1) := by decide +kernel
theorem dX1_stop_2 : decode cX1_stop 2 = .ok (.putfield 22, 3) := by decide +kernel
theorem dX1_stop_5 : decode cX1_stop 5 = .ok (.aload_n 0, 1) := by decide +kernel
theorem dX1_stop_6 : decode cX1_stop 6 = .ok (.aload_n 0, 1) := by decide +kernel
theorem dX1_stop_7 : decode cX1_stop 7 = .ok (.getfield 18, 3) := by decide +kernel
theorem dX1_stop_10 : decode cX1_stop 10 = .ok (.aload_n 0, 1) := by decide +kernel
theorem dX1_stop_11 : decode cX1_stop 11 = .ok (.getfield 12, 3) := by decide +kernel
theorem dX1_stop_14 : decode cX1_stop 14 = .ok (.getfield 162, 3) := by decide +kernel
theorem dX1_stop_17 : decode cX1_stop 17 = .ok (.if_icmp .ge 18, 3) := by decide +kernel
theorem dX1_stop_20 : decode cX1_stop 20 = .ok (.aload_n 0, 1) := by decide +kernel
theorem dX1_stop_21 : decode cX1_stop 21 = .ok (.getfield 12, 3) := by decide +kernel
theorem dX1_stop_24 : decode cX1_stop 24 = .ok (.getfield 169, 3) := by decide +kernel
theorem dX1_stop_27 : decode cX1_stop 27 = .ok (.aload_n 0, 1) := by decide +kernel
theorem dX1_stop_28 : decode cX1_stop 28 = .ok (.getfield 18, 3) := by decide +kernel
theorem dX1_stop_31 : decode cX1_stop 31 = .ok (.iaload, 1) := by decide +kernel
theorem dX1_stop_32 : decode cX1_stop 32 = .ok (.goto 4, 3) := by decide +kernel
theorem dX1_stop_35 : decode cX1_stop 35 = .ok (.iconst (-1), 1) := by decide +kernel
theorem dX1_stop_36 : decode cX1_stop 36 = .ok (.putfield 25, 3) := by decide +kernel
theorem dX1_stop_39 : decode cX1_stop 39 = .ok (.iconst 0, 1) := by decide +kernel
theorem dX1_stop_40 : decode cX1_stop 40 = .ok (.ireturn, 1) := by decide +kernel
theorem dX1_note_0 : decode cX1_note 0 = .ok (.aload_n 0, 1) := by decide +kernel
theorem dX1_note_1 : decode cX1_note 1 = .ok (.getfield 28, 3) := by decide +kernel
theorem dX1_note_4 : decode cX1_note 4 = .ok (.ifCond .ne 42, 3) := by decide +kernel
theorem dX1_note_7 : decode cX1_note 7 = .ok (.aload_n 0, 1) := by decide +kernel
theorem dX1_note_8 : decode cX1_note 8 = .ok (.iload_n 1, 1) := by decide +kernel
theorem dX1_note_9 : decode cX1_note 9 = .ok (.putfield 28, 3) := by decide +kernel
theorem dX1_note_12 : decode cX1_note 12 = .ok (.aload_n 0, 1) := by decide +kernel
theorem dX1_note_13 : decode cX1_note 13 = .ok (.aload_n 0, 1) := by decide +kernel
theorem dX1_note_14 : decode cX1_note 14 = .ok (.getfield 18, 3) := by decide +kernel
theorem dX1_note_17 : decode cX1_note 17 = .ok (.aload_n 0, 1) := by decide +kernel
theorem dX1_note_18 : decode cX1_note 18 = .ok (.getfield 12, 3) := by decide +kernel
theorem dX1_note_21 : decode cX1_note 21 = .ok (.getfield 162, 3) := by decide +kernel
theorem dX1_note_24 : decode cX1_note 24 = .ok (.if_icmp .ge 18, 3) := by decide +kernel
theorem dX1_note_27 : decode cX1_note 27 = .ok (.aload_n 0, 1) := by decide +kernel
theorem dX1_note_28 : decode cX1_note 28 = .ok (.getfield 12, 3) := by decide +kernel
theorem dX1_note_31 : decode cX1_note 31 = .ok (.getfield 169, 3) := by decide +kernel
theorem dX1_note_34 : decode cX1_note 34 = .ok (.aload_n 0, 1) := by decide +kernel
theorem dX1_note_35 : decode cX1_note 35 = .ok (.getfield 18, 3) := by decide +kernel
theorem dX1_note_38 : decode cX1_note 38 = .ok (.iaload, 1) := by decide +kernel
theorem dX1_note_39 : decode cX1_note 39 = .ok (.goto 4, 3) := by decide +kernel
theorem dX1_note_42 : decode cX1_note 42 = .ok (.iconst (-1), 1) := by decide +kernel
theorem dX1_note_43 : decode cX1_note 43 = .ok (.putfield 31, 3) := by decide +kernel
theorem dX1_note_46 : decode cX1_note 46 = .ok (.return_, 1) := by decide +kernel
theorem dX2_init_0 : decode cX2_init 0 = .ok (.aload_n 0, 1) := by decide +kernel
theorem dX2_init_1 : decode cX2_init 1 = .ok (.invokespecial 3, 3) := by decide +kernel
theorem dX2_init_4 : decode cX2_init 4 = .ok (.aload_n 0, 1) := by decide +kernel
theorem dX2_init_5 : decode cX2_init 5 = .ok (.iconst 0, 1) := by decide +kernel
theorem dX2_init_6 : decode cX2_init 6 = .ok (.putfield 9, 3) := by decide +kernel
theorem dX2_init_9 : decode cX2_init 9 = .ok (.aload_n 0, 1) := by decide +kernel
theorem dX2_init_10 : decode cX2_init 10 = .ok (.iconst 0, 1) := by decide +kernel
theorem dX2_init_11 : decode cX2_init 11 = .ok (.putfield 15, 3) := by decide +kernel
theorem dX2_init_14 : decode cX2_init 14 = .ok (.aload_n 0, 1) := by decide +kernel
theorem dX2_init_15 : decode cX2_init 15 = .ok (.iconst 0, 1) := by decide +kernel
theorem dX2_init_16 : decode cX2_init 16 = .ok (.putfield 18, 3) := by decide +kernel
theorem dX2_init_19 : decode cX2_init 19 = .ok (.aload_n 0, 1) := by decide +kernel
theorem dX2_init_20 : decode cX2_init 20 = .ok (.iconst 0, 1) := by decide +kernel
theorem dX2_init_21 : decode cX2_init 21 = .ok (.putfield 21, 3) := by decide +kernel
theorem dX2_init_24 : decode cX2_init 24 = .ok (.aload_n 0, 1) := by decide +kernel
theorem dX2_init_25 : decode cX2_init 25 = .ok (.iconst 0, 1) := by decide +kernel
theorem dX2_init_26 : decode cX2_init 26 = .ok (.putfield 24, 3) := by decide +kernel
theorem dX2_init_29 : decode cX2_init 29 = .ok (.aload_n 0, 1) := by decide +kernel
theorem dX2_init_30 : decode cX2_init 30 = .ok (.iconst 0, 1) := by decide +kernel
theorem dX2_init_31 : decode cX2_init 31 = .ok (.putfield 27, 3) := by decide +kernel
theorem dX2_init_34 : decode cX2_init 34 = .ok (.aload_n 0, 1) := by decide +kernel
theorem dX2_init_35 : decode cX2_init 35 = .ok (.iconst 0, 1) := by decide +kernel
theorem dX2_init_36 : decode cX2_init 36 = .ok (.putfield 30, 3) := by decide +kernel
theorem dX2_init_39 : decode cX2_init 39 = .ok (.aload_n 0, 1) := by decide +kernel
theorem dX2_init_40 : decode cX2_init 40 = .ok (.iconst 0, 1) := by decide +kernel
theorem dX2_init_41 : decode cX2_init 41 = .ok (.putfield 34, 3) := by decide +kernel
theorem dX2_init_44 : decode cX2_init 44 = .ok (.aload_n 0, 1) := by decide +kernel
theorem dX2_init_45 : decode cX2_init 45 = .ok (.iconst 0, 1) := by decide +kernel
theorem dX2_init_46 : decode cX2_init 46 = .ok (.putfield 37, 3) := by decide +kernel
theorem dX2_init_49 : decode cX2_init 49 = .ok (.aload_n 0, 1) := by decide +kernel
theorem dX2_init_50 : decode cX2_init 50 = .ok (.iconst 0, 1) := by decide +kernel
theorem dX2_init_51 : decode cX2_init 51 = .ok (.putfield 40, 3) := by decide +kernel
theorem dX2_init_54 : decode cX2_init 54 = .ok (.aload_n 0, 1) := by decide +kernel
theorem dX2_init_55 : decode cX2_init 55 = .ok (.iconst 0, 1) := by decide +kernel
theorem dX2_init_56 : decode cX2_init 56 = .ok (.putfield 43, 3) := by decide +kernel
theorem dX2_init_59 : decode cX2_init 59 = .ok (.aload_n 0, 1) := by decide +kernel
theorem dX2_init_60 : decode cX2_init 60 = .ok (.bipush 8, 2) := by decide +kernel
theorem dX2_init_62 : decode cX2_init 62 = .ok (.newarray .int, 2) := by decide +kernel
theorem dX2_init_64 : decode cX2_init 64 = .ok (.putfield 46, 3) := by decide +kernel
theorem dX2_init_67 : decode cX2_init 67 = .ok (.aload_n 0, 1) := by decide +kernel
theorem dX2_init_68 : decode cX2_init 68 = .ok (.bipush 8, 2) := by decide +kernel
theorem dX2_init_70 : decode cX2_init 70 = .ok (.newarray .int, 2) := by decide +kernel
theorem dX2_init_72 : decode cX2_init 72 = .ok (.putfield 50, 3) := by decide +kernel
theorem dX2_init_75 : decode cX2_init 75 = .ok (.aload_n 0, 1) := by decide +kernel
theorem dX2_init_76 : decode cX2_init 76 = .ok (.bipush 8, 2) := by decide +kernel
theorem dX2_init_78 : decode cX2_init 78 = .ok (.newarray .int, 2) := by decide +kernel
theorem dX2_init_80 : decode cX2_init 80 = .ok (.putfield 53, 3) := by decide +kernel
theorem dX2_init_83 : decode cX2_init 83 = .ok (.aload_n 0, 1) := by decide +kernel
theorem dX2_init_84 : decode cX2_init 84 = .ok (.bipush 8, 2) := by decide +kernel
theorem dX2_init_86 : decode cX2_init 86 = .ok (.newarray .int, 2) := by decide +kernel
theorem dX2_init_88 : decode cX2_init 88 = .ok (.putfield 56, 3) := by decide +kernel
theorem dX2_init_91 : decode cX2_init 91 = .ok (.aload_n 0, 1) := by decide +kernel
theorem dX2_init_92 : decode cX2_init 92 = .ok (.bipush 8, 2) := by decide +kernel
theorem dX2_init_94 : decode cX2_init 94 = .ok (.newarray .int, 2) := by decide +kernel
theorem dX2_init_96 : decode cX2_init 96 = .ok (.putfield 59, 3) := by decide +kernel
theorem dX2_init_99 : decode cX2_init 99 = .ok (.aload_n 0, 1) := by decide +kernel
theorem dX2_init_100 : decode cX2_init 100 = .ok (.bipush 8, 2) := by decide +kernel
theorem dX2_init_102 : decode cX2_init 102 = .ok (.newarray .int, 2) := by decide +kernel
theorem dX2_init_104 : decode cX2_init 104 = .ok (.putfield 62, 3) := by decide +kernel
theorem dX2_init_107 : decode cX2_init 107 = .ok (.aload_n 0, 1) := by decide +kernel
theorem dX2_init_108 : decode cX2_init 108 = .ok (.bipush 6, 2) := by decide +kernel
theorem dX2_init_110 : decode cX2_init 110 = .ok (.newarray .int, 2) := by decide +kernel
theorem dX2_init_112 : decode cX2_init 112 = .ok (.putfield 65, 3) := by decide +kernel
theorem dX2_init_115 : decode cX2_init 115 = .ok (.aload_n 0, 1) := by decide +kernel
theorem dX2_init_116 : decode cX2_init 116 = .ok (.bipush 6, 2) := by decide +kernel
theorem dX2_init_118 : decode cX2_init 118 = .ok (.newarray .int, 2) := by decide +kernel
theorem dX2_init_120 : decode cX2_init 120 = .ok (.putfield 68, 3) := by decide +kernel
theorem dX2_init_123 : decode cX2_init 123 = .ok (.aload_n 0, 1) := by decide +kernel
theorem dX2_init_124 : decode cX2_init 124 = .ok (.aload_n 1, 1) := by decide +kernel
theorem dX2_init_125 : decode cX2_init 125 = .ok (.putfield 71, 3) := by decide +kernel
theorem dX2_init_128 : decode cX2_init 128 = .ok (.return_, 1) := by decide +kernel
theorem dX2_begin_0 : decode cX2_begin 0 = .ok (.aload_n 0, 1) := by decide +kernel
theorem dX2_begin_1 : decode cX2_begin 1 = .ok (.aload_n 1, 1) := by decide +kernel
theorem dX2_begin_2 : decode cX2_begin 2 = .ok (.putfield 71, 3) := by decide +kernel
theorem dX2_begin_5 : decode cX2_begin 5 = .ok (.aload_n 0, 1) := by decide +kernel
theorem dX2_begin_6 : decode cX2_begin 6 = .ok (.iconst 0, 1) := by decide +kernel
theorem dX2_begin_7 : decode cX2_begin 7 = .ok (.putfield 9, 3) := by decide +kernel
theorem dX2_begin_10 : decode cX2_begin 10 = .ok (.aload_n 0, 1) := by decide +kernel
theorem dX2_begin_11 : decode cX2_begin 11 = .ok (.iconst 1, 1) := by decide +kernel
theorem dX2_begin_12 : decode cX2_begin 12 = .ok (.aload_n 1, 1) := by decide +kernel
theorem dX2_begin_13 : decode cX2_begin 13 = .ok (.getfield 75, 3) := by decide +kernel
theorem dX2_begin_16 : decode cX2_begin 16 = .ok (.ishl, 1) := by decide +kernel
theorem dX2_begin_17 : decode cX2_begin 17 = .ok (.iconst 1, 1) := by decide +kernel
theorem dX2_begin_18 : decode cX2_begin 18 = .ok (.isub, 1) := by decide +kernel
theorem dX2_begin_19 : decode cX2_begin 19 = .ok (.putfield 15, 3) := by decide +kernel
theorem dX2_begin_22 : decode cX2_begin 22 = .ok (.aload_n 0, 1) := by decide +kernel
theorem dX2_begin_23 : decode cX2_begin 23 = .ok (.iconst 0, 1) := by decide +kernel
theorem dX2_begin_24 : decode cX2_begin 24 = .ok (.putfield 18, 3) := by decide +kernel
theorem dX2_begin_27 : decode cX2_begin 27 = .ok (.aload_n 0, 1) := by decide +kernel
theorem dX2_begin_28 : decode cX2_begin 28 = .ok (.iconst 0, 1) := by decide +kernel
theorem dX2_begin_29 : decode cX2_begin 29 = .ok (.putfield 21, 3) := by decide +kernel
theorem dX2_begin_32 : decode cX2_begin 32 = .ok (.aload_n 0, 1) := by decide +kernel
theorem dX2_begin_33 : decode cX2_begin 33 = .ok (.iconst 0, 1) := by decide +kernel
theorem dX2_begin_34 : decode cX2_begin 34 = .ok (.putfield 24, 3) := by decide +kernel
theorem dX2_begin_37 : decode cX2_begin 37 = .ok (.aload_n 0, 1) := by decide +kernel
theorem dX2_begin_38 : decode cX2_begin 38 = .ok (.iconst 0, 1) := by decide +kernel
theorem dX2_begin_39 : decode cX2_begin 39 = .ok (.putfield 27, 3) := by decide +kernel
theorem dX2_begin_42 : decode cX2_begin 42 = .ok (.aload_n 0, 1) := by decide +kernel
theorem dX2_begin_43 : decode cX2_begin 43 = .ok (.iconst 0, 1) := by decide +kernel
theorem dX2_begin_44 : decode cX2_begin 44 = .ok (.putfield 30, 3) := by decide +kernel
theorem dX2_begin_47 : decode cX2_begin 47 = .ok (.aload_n 0, 1) := by decide +kernel
theorem dX2_begin_48 : decode cX2_begin 48 = .ok (.aload_n 1, 1) := by decide +kernel
theorem dX2_begin_49 : decode cX2_begin 49 = .ok (.getfield 80, 3) := by decide +kernel
theorem dX2_begin_52 : decode cX2_begin 52 = .ok (.putfield 34, 3) := by decide +kernel
theorem dX2_begin_55 : decode cX2_begin 55 = .ok (.aload_n 0, 1) := by decide +kernel
theorem dX2_begin_56 : decode cX2_begin 56 = .ok (.iconst 0, 1) := by decide +kernel
theorem dX2_begin_57 : decode cX2_begin 57 = .ok (.putfield 37, 3) := by decide +kernel
theorem dX2_begin_60 : decode cX2_begin 60 = .ok (.aload_n 0, 1) := by decide +kernel
theorem dX2_begin_61 : decode cX2_begin 61 = .ok (.iconst 0, 1) := by decide +kernel
theorem dX2_begin_62 : decode cX2_begin 62 = .ok (.putfield 40, 3) := by decide +kernel
theorem dX2_begin_65 : decode cX2_begin 65 = .ok (.aload_n 0, 1) := by decide +kernel
theorem dX2_begin_66 : decode cX2_begin 66 = .ok (.iconst 0, 1) := by decide +kernel
theorem dX2_begin_67 : decode cX2_begin 67 = .ok (.putfield 43, 3) := by decide +kernel
theorem dX2_begin_70 : decode cX2_begin 70 = .ok (.aload_n 1, 1) := by decide +kernel
theorem dX2_begin_71 : decode cX2_begin 71 = .ok (.getfield 81, 3) := by decide +kernel
theorem dX2_begin_74 : decode cX2_begin 74 = .ok (.iconst 0, 1) := by decide +kernel
theorem dX2_begin_75 : decode cX2_begin 75 = .ok (.aload_n 0, 1) := by decide +kernel
theorem dX2_begin_76 : decode cX2_begin 76 = .ok (.getfield 46, 3) := by decide +kernel
theorem dX2_begin_79 : decode cX2_begin 79 = .ok (.iconst 0, 1) := by decide +kernel
theorem dX2_begin_80 : decode cX2_begin 80 = .ok (.bipush 8, 2) := by decide +kernel
theorem dX2_begin_82 : decode cX2_begin 82 = .ok (.invokestatic 82, 3) := by decide +kernel
theorem dX2_begin_85 : decode cX2_begin 85 = .ok (.aload_n 1, 1) := by decide +kernel
theorem dX2_begin_86 : decode cX2_begin 86 = .ok (.getfield 88, 3) := by decide +kernel
theorem dX2_begin_89 : decode cX2_begin 89 = .ok (.iconst 0, 1) := by decide +kernel
theorem dX2_begin_90 : decode cX2_begin 90 = .ok (.aload_n 0, 1) := by decide +kernel
theorem dX2_begin_91 : decode cX2_begin 91 = .ok (.getfield 50, 3) := by decide +kernel
theorem dX2_begin_94 : decode cX2_begin 94 = .ok (.iconst 0, 1) := by decide +kernel
theorem dX2_begin_95 : decode cX2_begin 95 = .ok (.bipush 8, 2) := by decide +kernel
theorem dX2_begin_97 : decode cX2_begin 97 = .ok (.invokestatic 82, 3) := by decide +kernel
theorem dX2_begin_100 : decode cX2_begin 100 = .ok (.aload_n 1, 1) := by decide +kernel
theorem dX2_begin_101 : decode cX2_begin 101 = .ok (.getfield 89, 3) := by decide +kernel
theorem dX2_begin_104 : decode cX2_begin 104 = .ok (.iconst 0, 1) := by decide +kernel
theorem dX2_begin_105 : decode cX2_begin 105 = .ok (.aload_n 0, 1) := by decide +kernel
theorem dX2_begin_106 : decode cX2_begin 106 = .ok (.getfield 53, 3) := by decide +kernel
theorem dX2_begin_109 : decode cX2_begin 109 = .ok (.iconst 0, 1) := by decide +kernel
theorem dX2_begin_110 : decode cX2_begin 110 = .ok (.bipush 8, 2) := by decide +kernel
theorem dX2_begin_112 : decode cX2_begin 112 = .ok (.invokestatic 82, 3) := by decide +kernel
theorem dX2_begin_115 : decode cX2_begin 115 = .ok (.iconst 0, 1) := by decide +kernel
theorem dX2_begin_116 : decode cX2_begin 116 = .ok (.istore_n 2, 1) := by decide +kernel
theorem dX2_begin_117 : decode cX2_begin 117 = .ok (.iload_n 2, 1) := by decide +kernel
theorem dX2_begin_118 : decode cX2_begin 118 = .ok (.bipush 8, 2) := by decide +kernel
theorem dX2_begin_120 : decode cX2_begin 120 = .ok (.if_icmp .ge 16, 3) := by decide +kernel
theorem dX2_begin_123 : decode cX2_begin 123 = .ok (.aload_n 0, 1) := by decide +kernel
theorem dX2_begin_124 : decode cX2_begin 124 = .ok (.getfield 56, 3) := by decide +kernel
theorem dX2_begin_127 : decode cX2_begin 127 = .ok (.iload_n 2, 1) := by decide +kernel
theorem dX2_begin_128 : decode cX2_begin 128 = .ok (.iload_n 2, 1) := by decide +kernel
theorem dX2_begin_129 : decode cX2_begin 129 = .ok (.iastore, 1) := by decide +kernel
theorem dX2_begin_130 : decode cX2_begin 130 = .ok (.iinc 2 1, 3) := by decide +kernel
theorem dX2_begin_133 : decode cX2_begin 133 = .ok (.goto (-16), 3) := by decide +kernel
theorem dX2_begin_136 : decode cX2_begin 136 = .ok (.aload_n 0, 1) := by decide +kernel
theorem dX2_begin_137 : decode cX2_begin 137 = .ok (.getfield 59, 3) := by decide +kernel
theorem dX2_begin_140 : decode cX2_begin 140 = .ok (.iconst 0, 1) := by decide +kernel
theorem dX2_begin_141 : decode cX2_begin 141 = .ok (.invokestatic 90, 3) := by decide +kernel
theorem dX2_begin_144 : decode cX2_begin 144 = .ok (.aload_n 0, 1) := by decide +kernel
theorem dX2_begin_145 : decode cX2_begin 145 = .ok (.getfield 62, 3) := by decide +kernel
theorem dX2_begin_148 : decode cX2_begin 148 = .ok (.bipush (-2), 2) := by decide +kernel
theorem dX2_begin_150 : decode cX2_begin 150 = .ok (.invokestatic 90, 3) := by decide +kernel
theorem dX2_begin_153 : decode cX2_begin 153 = .ok (.aload_n 1, 1) := by decide +kernel
theorem dX2_begin_154 : decode cX2_begin 154 = .ok (.getfield 96, 3) := by decide +kernel
theorem dX2_begin_157 : decode cX2_begin 157 = .ok (.iconst 0, 1) := by decide +kernel
theorem dX2_begin_158 : decode cX2_begin 158 = .ok (.aload_n 0, 1) := by decide +kernel
theorem dX2_begin_159 : decode cX2_begin 159 = .ok (.getfield 65, 3) := by decide +kernel
theorem dX2_begin_162 : decode cX2_begin 162 = .ok (.iconst 0, 1) := by decide +kernel
theorem dX2_begin_163 : decode cX2_begin 163 = .ok (.bipush 6, 2) := by decide +kernel
theorem dX2_begin_165 : decode cX2_begin 165 = .ok (.invokestatic 82, 3) := by decide +kernel
theorem dX2_begin_168 : decode cX2_begin 168 = .ok (.aload_n 0, 1) := by decide +kernel
theorem dX2_begin_169 : decode cX2_begin 169 = .ok (.getfield 68, 3) := by decide +kernel
theorem dX2_begin_172 : decode cX2_begin 172 = .ok (.bipush (-2), 2) := by decide +kernel
theorem dX2_begin_174 : decode cX2_begin 174 = .ok (.invokestatic 90, 3) := by decide +kernel
theorem dX2_begin_177 : decode cX2_begin 177 = .ok (.return_, 1) := by decide +kernel
theorem dX2_copyFrom_0 : decode cX2_copyFrom 0 = .ok (.aload_n 0, 1) := by decide +kernel
theorem dX2_copyFrom_1 : decode cX2_copyFrom 1 = .ok (.aload_n 1, 1) := by decide +kernel
theorem dX2_copyFrom_2 : decode cX2_copyFrom 2 = .ok (.getfield 71, 3) := by decide +kernel
theorem dX2_copyFrom_5 : decode cX2_copyFrom 5 = .ok (.putfield 71, 3) := by decide +kernel
theorem dX2_copyFrom_8 : decode cX2_copyFrom 8 = .ok (.aload_n 0, 1) := by decide +kernel
theorem dX2_copyFrom_9 : decode cX2_copyFrom 9 = .ok (.aload_n 1, 1) := by decide +kernel
theorem dX2_copyFrom_10 : decode cX2_copyFrom 10 = .ok (.getfield 9, 3) := by decide +kernel
theorem dX2_copyFrom_13 : decode cX2_copyFrom 13 = .ok (.putfield 9, 3) := by decide +kernel
theorem dX2_copyFrom_16 : decode cX2_copyFrom 16 = .ok (.aload_n 0, 1) := by decide +kernel
theorem dX2_copyFrom_17 : decode cX2_copyFrom 17 = .ok (.aload_n 1, 1) := by decide +kernel
theorem dX2_copyFrom_18 : decode cX2_copyFrom 18 = .ok (.getfield 15, 3) := by decide +kernel
theorem dX2_copyFrom_21 : decode cX2_copyFrom 21 = .ok (.putfield 15, 3) := by decide +kernel
theorem dX2_copyFrom_24 : decode cX2_copyFrom 24 = .ok (.aload_n 0, 1) := by decide +kernel
theorem dX2_copyFrom_25 : decode cX2_copyFrom 25 = .ok (.aload_n 1, 1) := by decide +kernel
theorem dX2_copyFrom_26 : decode cX2_copyFrom 26 = .ok (.getfield 18, 3) := by decide +kernel
theorem dX2_copyFrom_29 : decode cX2_copyFrom 29 = .ok (.putfield 18, 3) := by decide +kernel
theorem dX2_copyFrom_32 : decode cX2_copyFrom 32 = .ok (.aload_n 0, 1) := by decide +kernel
theorem dX2_copyFrom_33 : decode cX2_copyFrom 33 = .ok (.aload_n 1, 1) := by decide +kernel
theorem dX2_copyFrom_34 : decode cX2_copyFrom 34 = .ok (.getfield 21, 3) := by decide +kernel
theorem dX2_copyFrom_37 : decode cX2_copyFrom 37 = .ok (.putfield 21, 3) := by decide +kernel
theorem dX2_copyFrom_40 : decode cX2_copyFrom 40 = .ok (.aload_n 0, 1) := by decide +kernel
theorem dX2_copyFrom_41 : decode cX2_copyFrom 41 = .ok (.aload_n 1, 1) := by decide +kernel
theorem dX2_copyFrom_42 : decode cX2_copyFrom 42 = .ok (.getfield 24, 3) := by decide +kernel
theorem dX2_copyFrom_45 : decode cX2_copyFrom 45 = .ok (.putfield 24, 3) := by decide +kernel
theorem dX2_copyFrom_48 : decode cX2_copyFrom 48 = .ok (.aload_n 0, 1) := by decide +kernel
theorem dX2_copyFrom_49 : decode cX2_copyFrom 49 = .ok (.aload_n 1, 1) := by decide +kernel
theorem dX2_copyFrom_50 : decode cX2_copyFrom 50 = .ok (.getfield 27, 3) := by decide +kernel
theorem dX2_copyFrom_53 : decode cX2_copyFrom 53 = .ok (.putfield 27, 3) := by decide +kernel
theorem dX2_copyFrom_56 : decode cX2_copyFrom 56 = .ok (.aload_n 0, 1) := by decide +kernel
theorem dX2_copyFrom_57 : decode cX2_copyFrom 57 = .ok (.aload_n 1, 1) := by decide +kernel
theorem dX2_copyFrom_58 : decode cX2_copyFrom 58 = .ok (.getfield 30, 3) := by decide +kernel
theorem dX2_copyFrom_61 : decode cX2_copyFrom 61 = .ok (.putfield 30, 3) := by decide +kernel
theorem dX2_copyFrom_64 : decode cX2_copyFrom 64 = .ok (.aload_n 0, 1) := by decide +kernel
theorem dX2_copyFrom_65 : decode cX2_copyFrom 65 = .ok (.aload_n 1, 1) := by decide +kernel
theorem dX2_copyFrom_66 : decode cX2_copyFrom 66 = .ok (.getfield 34, 3) := by decide +kernel
theorem dX2_copyFrom_69 : decode cX2_copyFrom 69 = .ok (.putfield 34, 3) := by decide +kernel
theorem dX2_copyFrom_72 : decode cX2_copyFrom 72 = .ok (.aload_n 0, 1) := by decide +kernel
theorem dX2_copyFrom_73 : decode cX2_copyFrom 73 = .ok (.aload_n 1, 1) := by decide +kernel
theorem dX2_copyFrom_74 : decode cX2_copyFrom 74 = .ok (.getfield 37, 3) := by decide +kernel
theorem dX2_copyFrom_77 : decode cX2_copyFrom 77 = .ok (.putfield 37, 3) := by decide +kernel
theorem dX2_copyFrom_80 : decode cX2_copyFrom 80 = .ok (.aload_n 0, 1) := by decide +kernel
theorem dX2_copyFrom_81 : decode cX2_copyFrom 81 = .ok (.aload_n 1, 1) := by decide +kernel
theorem dX2_copyFrom_82 : decode cX2_copyFrom 82 = .ok (.getfield 40, 3) := by decide +kernel
theorem dX2_copyFrom_85 : decode cX2_copyFrom 85 = .ok (.putfield 40, 3) := by decide +kernel
theorem dX2_copyFrom_88 : decode cX2_copyFrom 88 = .ok (.aload_n 0, 1) := by decide +kernel
theorem dX2_copyFrom_89 : decode cX2_copyFrom 89 = .ok (.aload_n 1, 1) := by decide +kernel
theorem dX2_copyFrom_90 : decode cX2_copyFrom 90 = .ok (.getfield 43, 3) := by decide +kernel
theorem dX2_copyFrom_93 : decode cX2_copyFrom 93 = .ok (.putfield 43, 3) := by decide +kernel
theorem dX2_copyFrom_96 : decode cX2_copyFrom 96 = .ok (.aload_n 1, 1) := by decide +kernel
theorem dX2_copyFrom_97 : decode cX2_copyFrom 97 = .ok (.getfield 46, 3) := by decide +kernel
theorem dX2_copyFrom_100 : decode cX2_copyFrom 100 = .ok (.iconst 0, 1) := by decide +kernel
theorem dX2_copyFrom_101 : decode cX2_copyFrom 101 = .ok (.aload_n 0, 1) := by decide +kernel
theorem dX2_copyFrom_102 : decode cX2_copyFrom 102 = .ok (.getfield 46, 3) := by decide +kernel
theorem dX2_copyFrom_105 : decode cX2_copyFrom 105 = .ok (.iconst 0, 1) := by decide +kernel
theorem dX2_copyFrom_106 : decode cX2_copyFrom 106 = .ok (.bipush 8, 2) := by decide +kernel
theorem dX2_copyFrom_108 : decode cX2_copyFrom 108 = .ok (.invokestatic 82, 3) := by decide +kernel
theorem dX2_copyFrom_111 : decode cX2_copyFrom 111 = .ok (.aload_n 1, 1) := by decide +kernel
theorem dX2_copyFrom_112 : decode cX2_copyFrom 112 = .ok (.getfield 50, 3) := by decide +kernel
theorem dX2_copyFrom_115 : decode cX2_copyFrom 115 = .ok (.iconst 0, 1) := by decide +kernel
theorem dX2_copyFrom_116 : decode cX2_copyFrom 116 = .ok (.aload_n 0, 1) := by decide +kernel
theorem dX2_copyFrom_117 : decode cX2_copyFrom 117 = .ok (.getfield 50, 3) := by decide +kernel
theorem dX2_copyFrom_120 : decode cX2_copyFrom 120 = .ok (.iconst 0, 1) := by decide +kernel
theorem dX2_copyFrom_121 : decode cX2_copyFrom 121 = .ok (.bipush 8, 2) := by decide +kernel
theorem dX2_copyFrom_123 : decode cX2_copyFrom 123 = .ok (.invokestatic 82, 3) := by decide +kernel
theorem dX2_copyFrom_126 : decode cX2_copyFrom 126 = .ok (.aload_n 1, 1) := by decide +kernel
theorem dX2_copyFrom_127 : decode cX2_copyFrom 127 = .ok (.getfield 53, 3) := by decide +kernel
theorem dX2_copyFrom_130 : decode cX2_copyFrom 130 = .ok (.iconst 0, 1) := by decide +kernel
theorem dX2_copyFrom_131 : decode cX2_copyFrom 131 = .ok (.aload_n 0, 1) := by decide +kernel
theorem dX2_copyFrom_132 : decode cX2_copyFrom 132 = .ok (.getfield 53, 3) := by decide +kernel
theorem dX2_copyFrom_135 : decode cX2_copyFrom 135 = .ok (.iconst 0, 1) := by decide +kernel
theorem dX2_copyFrom_136 : decode cX2_copyFrom 136 = .ok (.bipush 8, 2) := by decide +kernel
theorem dX2_copyFrom_138 : decode cX2_copyFrom 138 = .ok (.invokestatic 82, 3) := by decide +kernel
theorem dX2_copyFrom_141 : decode cX2_copyFrom 141 = .ok (.aload_n 1, 1) := by decide +kernel
theorem dX2_copyFrom_142 : decode cX2_copyFrom 142 = .ok (.getfield 56, 3) := by decide +kernel
theorem dX2_copyFrom_145 : decode cX2_copyFrom 145 = .ok (.iconst 0, 1) := by decide +kernel
theorem dX2_copyFrom_146 : decode cX2_copyFrom 146 = .ok (.aload_n 0, 1) := by decide +kernel
theorem dX2_copyFrom_147 : decode cX2_copyFrom 147 = .ok (.getfield 56, 3) := by decide +kernel
theorem dX2_copyFrom_150 : decode cX2_copyFrom 150 = .ok (.iconst 0, 1) := by decide +kernel
theorem dX2_copyFrom_151 : decode cX2_copyFrom 151 = .ok (.bipush 8, 2) := by decide +kernel
theorem dX2_copyFrom_153 : decode cX2_copyFrom 153 = .ok (.invokestatic 82, 3) := by decide +kernel
theorem dX2_copyFrom_156 : decode cX2_copyFrom 156 = .ok (.aload_n 1, 1) := by decide +kernel
theorem dX2_copyFrom_157 : decode cX2_copyFrom 157 = .ok (.getfield 59, 3) := by decide +kernel
theorem dX2_copyFrom_160 : decode cX2_copyFrom 160 = .ok (.iconst 0, 1) := by decide +kernel
theorem dX2_copyFrom_161 : decode cX2_copyFrom 161 = .ok (.aload_n 0, 1) := by decide +kernel
theorem dX2_copyFrom_162 : decode cX2_copyFrom 162 = .ok (.getfield 59, 3) := by decide +kernel
theorem dX2_copyFrom_165 : decode cX2_copyFrom 165 = .ok (.iconst 0, 1) := by decide +kernel
theorem dX2_copyFrom_166 : decode cX2_copyFrom 166 = .ok (.bipush 8, 2) := by decide +kernel
theorem dX2_copyFrom_168 : decode cX2_copyFrom 168 = .ok (.invokestatic 82, 3) := by decide +kernel
theorem dX2_copyFrom_171 : decode cX2_copyFrom 171 = .ok (.aload_n 1, 1) := by decide +kernel
theorem dX2_copyFrom_172 : decode cX2_copyFrom 172 = .ok (.getfield 62, 3) := by decide +kernel
theorem dX2_copyFrom_175 : decode cX2_copyFrom 175 = .ok (.iconst 0, 1) := by decide +kernel
theorem dX2_copyFrom_176 : decode cX2_copyFrom 176 = .ok (.aload_n 0, 1) := by decide +kernel
theorem dX2_copyFrom_177 : decode cX2_copyFrom 177 = .ok (.getfield 62, 3) := by decide +kernel
theorem dX2_copyFrom_180 : decode cX2_copyFrom 180 = .ok (.iconst 0, 1) := by decide +kernel
theorem dX2_copyFrom_181 : decode cX2_copyFrom 181 = .ok (.bipush 8, 2) := by decide +kernel
theorem dX2_copyFrom_183 : decode cX2_copyFrom 183 = .ok (.invokestatic 82, 3) := by decide +kernel
theorem dX2_copyFrom_186 : decode cX2_copyFrom 186 = .ok (.aload_n 1, 1) := by decide +kernel
theorem dX2_copyFrom_187 : decode cX2_copyFrom 187 = .ok (.getfield 65, 3) := by decide +kernel
theorem dX2_copyFrom_190 : decode cX2_copyFrom 190 = .ok (.iconst 0, 1) := by decide +kernel
theorem dX2_copyFrom_191 : decode cX2_copyFrom 191 = .ok (.aload_n 0, 1) := by decide +kernel
theorem dX2_copyFrom_192 : decode cX2_copyFrom 192 = .ok (.getfield 65, 3) := by decide +kernel
theorem dX2_copyFrom_195 : decode cX2_copyFrom 195 = .ok (.iconst 0, 1) := by decide +kernel
theorem dX2_copyFrom_196 : decode cX2_copyFrom 196 = .ok (.bipush 6, 2) := by decide +kernel
theorem dX2_copyFrom_198 : decode cX2_copyFrom 198 = .ok (.invokestatic 82, 3) := by decide +kernel
theorem dX2_copyFrom_201 : decode cX2_copyFrom 201 = .ok (.aload_n 1, 1) := by decide +kernel
theorem dX2_copyFrom_202 : decode cX2_copyFrom 202 = .ok (.getfield 68, 3) := by decide +kernel
theorem dX2_copyFrom_205 : decode cX2_copyFrom 205 = .ok (.iconst 0, 1) := by decide +kernel
theorem dX2_copyFrom_206 : decode cX2_copyFrom 206 = .ok (.aload_n 0, 1) := by decide +kernel
theorem dX2_copyFrom_207 : decode cX2_copyFrom 207 = .ok (.getfield 68, 3) := by decide +kernel
theorem dX2_copyFrom_210 : decode cX2_copyFrom 210 = .ok (.iconst 0, 1) := by decide +kernel
theorem dX2_copyFrom_211 : decode cX2_copyFrom 211 = .ok (.bipush 6, 2) := by decide +kernel
theorem dX2_copyFrom_213 : decode cX2_copyFrom 213 = .ok (.invokestatic 82, 3) := by decide +kernel
theorem dX2_copyFrom_216 : decode cX2_copyFrom 216 = .ok (.return_, 1) := by decide +kernel
theorem dX2_goThroughHour_0 : decode cX2_goThroughHour 0 = .ok (.aload_n 0, 1) := by decide +kernel
theorem dX2_goThroughHour_1 : decode cX2_goThroughHour 1 = .ok (.getfield 9, 3) := by decide +kernel
theorem dX2_goThroughHour_4 : decode cX2_goThroughHour 4 = .ok (.bipush 24, 2) := by decide +kernel
theorem dX2_goThroughHour_6 : decode cX2_goThroughHour 6 = .ok (.irem, 1) := by decide +kernel
theorem dX2_goThroughHour_7 : decode cX2_goThroughHour 7 = .ok (.ifCond .ne 7, 3) := by decide +kernel
theorem dX2_goThroughHour_10 : decode cX2_goThroughHour 10 = .ok (.aload_n 0, 1) := by decide +kernel
theorem dX2_goThroughHour_11 : decode cX2_goThroughHour 11 = .ok (.invokevirtual 97, 3) := by decide +kernel
theorem dX2_goThroughHour_14 : decode cX2_goThroughHour 14 = .ok (.aload_n 0, 1) := by decide +kernel
theorem dX2_goThroughHour_15 : decode cX2_goThroughHour 15 = .ok (.invokevirtual 100, 3) := by decide +kernel
theorem dX2_goThroughHour_18 : decode cX2_goThroughHour 18 = .ok (.istore_n 1, 1) := by decide +kernel
theorem dX2_goThroughHour_19 : decode cX2_goThroughHour 19 = .ok (.aload_n 0, 1) := by decide +kernel
theorem dX2_goThroughHour_20 : decode cX2_goThroughHour 20 = .ok (.iload_n 1, 1) := by decide +kernel
theorem dX2_goThroughHour_21 : decode cX2_goThroughHour 21 = .ok (.invokevirtual 104, 3) := by decide +kernel
theorem dX2_goThroughHour_24 : decode cX2_goThroughHour 24 = .ok (.aload_n 0, 1) := by decide +kernel
theorem dX2_goThroughHour_25 : decode cX2_goThroughHour 25 = .ok (.invokevirtual 108, 3) := by decide +kernel
theorem dX2_goThroughHour_28 : decode cX2_goThroughHour 28 = .ok (.aload_n 0, 1) := by decide +kernel
theorem dX2_goThroughHour_29 : decode cX2_goThroughHour 29 = .ok (.invokevirtual 111, 3) := by decide +kernel
theorem dX2_goThroughHour_32 : decode cX2_goThroughHour 32 = .ok (.aload_n 0, 1) := by decide +kernel
theorem dX2_goThroughHour_33 : decode cX2_goThroughHour 33 = .ok (.dup, 1) := by decide +kernel
theorem dX2_goThroughHour_34 : decode cX2_goThroughHour 34 = .ok (.getfield 9, 3) := by decide +kernel
theorem dX2_goThroughHour_37 : decode cX2_goThroughHour 37 = .ok (.iconst 1, 1) := by decide +kernel
theorem dX2_goThroughHour_38 : decode cX2_goThroughHour 38 = .ok (.iadd, 1) := by decide +kernel
theorem dX2_goThroughHour_39 : decode cX2_goThroughHour 39 = .ok (.putfield 9, 3) := by decide +kernel
theorem dX2_goThroughHour_42 : decode cX2_goThroughHour 42 = .ok (.return_, 1) := by decide +kernel
theorem dX2_passSparesOn_0 : decode cX2_passSparesOn 0 = .ok (.iconst 0, 1) := by decide +kernel
theorem dX2_passSparesOn_1 : decode cX2_passSparesOn 1 = .ok (.istore_n 1, 1) := by decide +kernel
theorem dX2_passSparesOn_2 : decode cX2_passSparesOn 2 = .ok (.iload_n 1, 1) := by decide +kernel
theorem dX2_passSparesOn_3 : decode cX2_passSparesOn 3 = .ok (.aload_n 0, 1) := by decide +kernel
theorem dX2_passSparesOn_4 : decode cX2_passSparesOn 4 = .ok (.getfield 71, 3) := by decide +kernel
theorem dX2_passSparesOn_7 : decode cX2_passSparesOn 7 = .ok (.getfield 114, 3) := by decide +kernel
theorem dX2_passSparesOn_10 : decode cX2_passSparesOn 10 = .ok (.if_icmp .ge 51, 3) := by decide +kernel
theorem dX2_passSparesOn_13 : decode cX2_passSparesOn 13 = .ok (.aload_n 0, 1) := by decide +kernel
theorem dX2_passSparesOn_14 : decode cX2_passSparesOn 14 = .ok (.getfield 68, 3) := by decide +kernel
theorem dX2_passSparesOn_17 : decode cX2_passSparesOn 17 = .ok (.iload_n 1, 1) := by decide +kernel
theorem dX2_passSparesOn_18 : decode cX2_passSparesOn 18 = .ok (.iaload, 1) := by decide +kernel
theorem dX2_passSparesOn_19 : decode cX2_passSparesOn 19 = .ok (.bipush (-2), 2) := by decide +kernel
theorem dX2_passSparesOn_21 : decode cX2_passSparesOn 21 = .ok (.if_icmp .eq 34, 3) := by decide +kernel
theorem dX2_passSparesOn_24 : decode cX2_passSparesOn 24 = .ok (.aload_n 0, 1) := by decide +kernel
theorem dX2_passSparesOn_25 : decode cX2_passSparesOn 25 = .ok (.getfield 68, 3) := by decide +kernel
theorem dX2_passSparesOn_28 : decode cX2_passSparesOn 28 = .ok (.iload_n 1, 1) := by decide +kernel
theorem dX2_passSparesOn_29 : decode cX2_passSparesOn 29 = .ok (.iaload, 1) := by decide +kernel
theorem dX2_passSparesOn_30 : decode cX2_passSparesOn 30 = .ok (.aload_n 0, 1) := by decide +kernel
theorem dX2_passSparesOn_31 : decode cX2_passSparesOn 31 = .ok (.getfield 65, 3) := by decide +kernel
theorem dX2_passSparesOn_34 : decode cX2_passSparesOn 34 = .ok (.iload_n 1, 1) := by decide +kernel
theorem dX2_passSparesOn_35 : decode cX2_passSparesOn 35 = .ok (.iaload, 1) := by decide +kernel
theorem dX2_passSparesOn_36 : decode cX2_passSparesOn 36 = .ok (.if_icmp .eq 19, 3) := by decide +kernel
theorem dX2_passSparesOn_39 : decode cX2_passSparesOn 39 = .ok (.aload_n 0, 1) := by decide +kernel
theorem dX2_passSparesOn_40 : decode cX2_passSparesOn 40 = .ok (.getfield 65, 3) := by decide +kernel
theorem dX2_passSparesOn_43 : decode cX2_passSparesOn 43 = .ok (.iload_n 1, 1) := by decide +kernel
theorem dX2_passSparesOn_44 : decode cX2_passSparesOn 44 = .ok (.aload_n 0, 1) := by decide +kernel
theorem dX2_passSparesOn_45 : decode cX2_passSparesOn 45 = .ok (.aload_n 0, 1) := by decide +kernel
theorem dX2_passSparesOn_46 : decode cX2_passSparesOn 46 = .ok (.getfield 65, 3) := by decide +kernel
theorem dX2_passSparesOn_49 : decode cX2_passSparesOn 49 = .ok (.iload_n 1, 1) := by decide +kernel
theorem dX2_passSparesOn_50 : decode cX2_passSparesOn 50 = .ok (.iaload, 1) := by decide +kernel
theorem dX2_passSparesOn_51 : decode cX2_passSparesOn 51 = .ok (.invokevirtual 117, 3) := by decide +kernel
theorem dX2_passSparesOn_54 : decode cX2_passSparesOn 54 = .ok (.iastore, 1) := by decide +kernel
theorem dX2_passSparesOn_55 : decode cX2_passSparesOn 55 = .ok (.iinc 1 1, 3) := by decide +kernel
theorem dX2_passSparesOn_58 : decode cX2_passSparesOn 58 = .ok (.goto (-56), 3) := by decide +kernel
theorem dX2_passSparesOn_61 : decode cX2_passSparesOn 61 = .ok (.return_, 1) := by decide +kernel
theorem dX2_letPeopleGo_0 : decode cX2_letPeopleGo 0 = .ok (.iconst 0, 1) := by decide +kernel
theorem dX2_letPeopleGo_1 : decode cX2_letPeopleGo 1 = .ok (.istore_n 1, 1) := by decide +kernel
theorem dX2_letPeopleGo_2 : decode cX2_letPeopleGo 2 = .ok (.aload_n 0, 1) := by decide +kernel
theorem dX2_letPeopleGo_3 : decode cX2_letPeopleGo 3 = .ok (.getfield 9, 3) := by decide +kernel
theorem dX2_letPeopleGo_6 : decode cX2_letPeopleGo 6 = .ok (.bipush 24, 2) := by decide +kernel
theorem dX2_letPeopleGo_8 : decode cX2_letPeopleGo 8 = .ok (.irem, 1) := by decide +kernel
theorem dX2_letPeopleGo_9 : decode cX2_letPeopleGo 9 = .ok (.istore_n 2, 1) := by decide +kernel
theorem dX2_letPeopleGo_10 : decode cX2_letPeopleGo 10 = .ok (.aload_n 0, 1) := by decide +kernel
theorem dX2_letPeopleGo_11 : decode cX2_letPeopleGo 11 = .ok (.getfield 15, 3) := by decide +kernel
theorem dX2_letPeopleGo_14 : decode cX2_letPeopleGo 14 = .ok (.aload_n 0, 1) := by decide +kernel
theorem dX2_letPeopleGo_15 : decode cX2_letPeopleGo 15 = .ok (.getfield 18, 3) := by decide +kernel
theorem dX2_letPeopleGo_18 : decode cX2_letPeopleGo 18 = .ok (.ior, 1) := by decide +kernel
theorem dX2_letPeopleGo_19 : decode cX2_letPeopleGo 19 = .ok (.aload_n 0, 1) := by decide +kernel
theorem dX2_letPeopleGo_20 : decode cX2_letPeopleGo 20 = .ok (.getfield 21, 3) := by decide +kernel
theorem dX2_letPeopleGo_23 : decode cX2_letPeopleGo 23 = .ok (.iconst (-1), 1) := by decide +kernel
theorem dX2_letPeopleGo_24 : decode cX2_letPeopleGo 24 = .ok (.ixor, 1) := by decide +kernel
theorem dX2_letPeopleGo_25 : decode cX2_letPeopleGo 25 = .ok (.iand, 1) := by decide +kernel
theorem dX2_letPeopleGo_26 : decode cX2_letPeopleGo 26 = .ok (.istore_n 3, 1) := by decide +kernel
theorem dX2_letPeopleGo_27 : decode cX2_letPeopleGo 27 = .ok (.iconst 0, 1) := by decide +kernel
theorem dX2_letPeopleGo_28 : decode cX2_letPeopleGo 28 = .ok (.istore 4, 2) := by decide +kernel
theorem dX2_letPeopleGo_30 : decode cX2_letPeopleGo 30 = .ok (.iload 4, 2) := by decide +kernel
theorem dX2_letPeopleGo_32 : decode cX2_letPeopleGo 32 = .ok (.aload_n 0, 1) := by decide +kernel
theorem dX2_letPeopleGo_33 : decode cX2_letPeopleGo 33 = .ok (.getfield 71, 3) := by decide +kernel
theorem dX2_letPeopleGo_36 : decode cX2_letPeopleGo 36 = .ok (.getfield 75, 3) := by decide +kernel
theorem dX2_letPeopleGo_39 : decode cX2_letPeopleGo 39 = .ok (.if_icmp .ge 45, 3) := by decide +kernel
theorem dX2_letPeopleGo_42 : decode cX2_letPeopleGo 42 = .ok (.aload_n 0, 1) := by decide +kernel
theorem dX2_letPeopleGo_43 : decode cX2_letPeopleGo 43 = .ok (.getfield 46, 3) := by decide +kernel
theorem dX2_letPeopleGo_46 : decode cX2_letPeopleGo 46 = .ok (.iload 4, 2) := by decide +kernel
theorem dX2_letPeopleGo_48 : decode cX2_letPeopleGo 48 = .ok (.iaload, 1) := by decide +kernel
theorem dX2_letPeopleGo_49 : decode cX2_letPeopleGo 49 = .ok (.iload_n 2, 1) := by decide +kernel
theorem dX2_letPeopleGo_50 : decode cX2_letPeopleGo 50 = .ok (.if_icmp .ne 28, 3) := by decide +kernel
theorem dX2_letPeopleGo_53 : decode cX2_letPeopleGo 53 = .ok (.iload_n 3, 1) := by decide +kernel
theorem dX2_letPeopleGo_54 : decode cX2_letPeopleGo 54 = .ok (.iload 4, 2) := by decide +kernel
theorem dX2_letPeopleGo_56 : decode cX2_letPeopleGo 56 = .ok (.invokestatic 121, 3) := by decide +kernel
theorem dX2_letPeopleGo_59 : decode cX2_letPeopleGo 59 = .ok (.iconst 1, 1) := by decide +kernel
theorem dX2_letPeopleGo_60 : decode cX2_letPeopleGo 60 = .ok (.if_icmp .ne 18, 3) := by decide +kernel
theorem dX2_letPeopleGo_63 : decode cX2_letPeopleGo 63 = .ok (.iload_n 1, 1) := by decide +kernel
theorem dX2_letPeopleGo_64 : decode cX2_letPeopleGo 64 = .ok (.iconst 1, 1) := by decide +kernel
theorem dX2_letPeopleGo_65 : decode cX2_letPeopleGo 65 = .ok (.iload 4, 2) := by decide +kernel
theorem dX2_letPeopleGo_67 : decode cX2_letPeopleGo 67 = .ok (.ishl, 1) := by decide +kernel
theorem dX2_letPeopleGo_68 : decode cX2_letPeopleGo 68 = .ok (.ior, 1) := by decide +kernel
theorem dX2_letPeopleGo_69 : decode cX2_letPeopleGo 69 = .ok (.istore_n 1, 1) := by decide +kernel
theorem dX2_letPeopleGo_70 : decode cX2_letPeopleGo 70 = .ok (.aload_n 0, 1) := by decide +kernel
theorem dX2_letPeopleGo_71 : decode cX2_letPeopleGo 71 = .ok (.getfield 59, 3) := by decide +kernel
theorem dX2_letPeopleGo_74 : decode cX2_letPeopleGo 74 = .ok (.iload 4, 2) := by decide +kernel
theorem dX2_letPeopleGo_76 : decode cX2_letPeopleGo 76 = .ok (.iconst 0, 1) := by decide +kernel
theorem dX2_letPeopleGo_77 : decode cX2_letPeopleGo 77 = .ok (.iastore, 1) := by decide +kernel
theorem dX2_letPeopleGo_78 : decode cX2_letPeopleGo 78 = .ok (.iinc 4 1, 3) := by decide +kernel
theorem dX2_letPeopleGo_81 : decode cX2_letPeopleGo 81 = .ok (.goto (-51), 3) := by decide +kernel
theorem dX2_letPeopleGo_84 : decode cX2_letPeopleGo 84 = .ok (.aload_n 0, 1) := by decide +kernel
theorem dX2_letPeopleGo_85 : decode cX2_letPeopleGo 85 = .ok (.dup, 1) := by decide +kernel
theorem dX2_letPeopleGo_86 : decode cX2_letPeopleGo 86 = .ok (.getfield 15, 3) := by decide +kernel
theorem dX2_letPeopleGo_89 : decode cX2_letPeopleGo 89 = .ok (.iload_n 1, 1) := by decide +kernel
theorem dX2_letPeopleGo_90 : decode cX2_letPeopleGo 90 = .ok (.iconst (-1), 1) := by decide +kernel
theorem dX2_letPeopleGo_91 : decode cX2_letPeopleGo 91 = .ok (.ixor, 1) := by decide +kernel
theorem dX2_letPeopleGo_92 : decode cX2_letPeopleGo 92 = .ok (.iand, 1) := by decide +kernel
theorem dX2_letPeopleGo_93 : decode cX2_letPeopleGo 93 = .ok (.putfield 15, 3) := by decide +kernel
theorem dX2_letPeopleGo_96 : decode cX2_letPeopleGo 96 = .ok (.aload_n 0, 1) := by decide +kernel
theorem dX2_letPeopleGo_97 : decode cX2_letPeopleGo 97 = .ok (.dup, 1) := by decide +kernel
theorem dX2_letPeopleGo_98 : decode cX2_letPeopleGo 98 = .ok (.getfield 18, 3) := by decide +kernel
theorem dX2_letPeopleGo_101 : decode cX2_letPeopleGo 101 = .ok (.iload_n 1, 1) := by decide +kernel
theorem dX2_letPeopleGo_102 : decode cX2_letPeopleGo 102 = .ok (.iconst (-1), 1) := by decide +kernel
theorem dX2_letPeopleGo_103 : decode cX2_letPeopleGo 103 = .ok (.ixor, 1) := by decide +kernel
theorem dX2_letPeopleGo_104 : decode cX2_letPeopleGo 104 = .ok (.iand, 1) := by decide +kernel
theorem dX2_letPeopleGo_105 : decode cX2_letPeopleGo 105 = .ok (.putfield 18, 3) := by decide +kernel
theorem dX2_letPeopleGo_108 : decode cX2_letPeopleGo 108 = .ok (.iload_n 1, 1) := by decide +kernel
theorem dX2_letPeopleGo_109 : decode cX2_letPeopleGo 109 = .ok (.ireturn, 1) := by decide +kernel
theorem dX2_letPeopleCome_0 : decode cX2_letPeopleCome 0 = .ok (.aload_n 0, 1) := by decide +kernel
theorem dX2_letPeopleCome_1 : decode cX2_letPeopleCome 1 = .ok (.getfield 9, 3) := by decide +kernel
theorem dX2_letPeopleCome_4 : decode cX2_letPeopleCome 4 = .ok (.bipush 24, 2) := by decide +kernel
theorem dX2_letPeopleCome_6 : decode cX2_letPeopleCome 6 = .ok (.irem, 1) := by decide +kernel
theorem dX2_letPeopleCome_7 : decode cX2_letPeopleCome 7 = .ok (.istore_n 2, 1) := by decide +kernel
theorem dX2_letPeopleCome_8 : decode cX2_letPeopleCome 8 = .ok (.aload_n 0, 1) := by decide +kernel
theorem dX2_letPeopleCome_9 : decode cX2_letPeopleCome 9 = .ok (.getfield 24, 3) := by decide +kernel
theorem dX2_letPeopleCome_12 : decode cX2_letPeopleCome 12 = .ok (.istore_n 3, 1) := by decide +kernel
theorem dX2_letPeopleCome_13 : decode cX2_letPeopleCome 13 = .ok (.aload_n 0, 1) := by decide +kernel
theorem dX2_letPeopleCome_14 : decode cX2_letPeopleCome 14 = .ok (.iconst 0, 1) := by decide +kernel
theorem dX2_letPeopleCome_15 : decode cX2_letPeopleCome 15 = .ok (.putfield 24, 3) := by decide +kernel
theorem dX2_letPeopleCome_18 : decode cX2_letPeopleCome 18 = .ok (.iconst 0, 1) := by decide +kernel
theorem dX2_letPeopleCome_19 : decode cX2_letPeopleCome 19 = .ok (.istore 4, 2) := by decide +kernel
theorem dX2_letPeopleCome_21 : decode cX2_letPeopleCome 21 = .ok (.iload 4, 2) := by decide +kernel
theorem dX2_letPeopleCome_23 : decode cX2_letPeopleCome 23 = .ok (.aload_n 0, 1) := by decide +kernel
theorem dX2_letPeopleCome_24 : decode cX2_letPeopleCome 24 = .ok (.getfield 71, 3) := by decide +kernel
theorem dX2_letPeopleCome_27 : decode cX2_letPeopleCome 27 = .ok (.getfield 75, 3) := by decide +kernel
theorem dX2_letPeopleCome_30 : decode cX2_letPeopleCome 30 = .ok (.if_icmp .ge 128, 3) := by decide +kernel
theorem dX2_letPeopleCome_33 : decode cX2_letPeopleCome 33 = .ok (.iload_n 3, 1) := by decide +kernel
theorem dX2_letPeopleCome_34 : decode cX2_letPeopleCome 34 = .ok (.iload 4, 2) := by decide +kernel
theorem dX2_letPeopleCome_36 : decode cX2_letPeopleCome 36 = .ok (.invokestatic 121, 3) := by decide +kernel
theorem dX2_letPeopleCome_39 : decode cX2_letPeopleCome 39 = .ok (.iconst 1, 1) := by decide +kernel
theorem dX2_letPeopleCome_40 : decode cX2_letPeopleCome 40 = .ok (.if_icmp .ne 7, 3) := by decide +kernel
theorem dX2_letPeopleCome_43 : decode cX2_letPeopleCome 43 = .ok (.iconst 1, 1) := by decide +kernel
theorem dX2_letPeopleCome_44 : decode cX2_letPeopleCome 44 = .ok (.goto 4, 3) := by decide +kernel
theorem dX2_letPeopleCome_47 : decode cX2_letPeopleCome 47 = .ok (.iconst 0, 1) := by decide +kernel
theorem dX2_letPeopleCome_48 : decode cX2_letPeopleCome 48 = .ok (.istore 5, 2) := by decide +kernel
theorem dX2_letPeopleCome_50 : decode cX2_letPeopleCome 50 = .ok (.aload_n 0, 1) := by decide +kernel
theorem dX2_letPeopleCome_51 : decode cX2_letPeopleCome 51 = .ok (.getfield 15, 3) := by decide +kernel
theorem dX2_letPeopleCome_54 : decode cX2_letPeopleCome 54 = .ok (.aload_n 0, 1) := by decide +kernel
theorem dX2_letPeopleCome_55 : decode cX2_letPeopleCome 55 = .ok (.getfield 18, 3) := by decide +kernel
theorem dX2_letPeopleCome_58 : decode cX2_letPeopleCome 58 = .ok (.ior, 1) := by decide +kernel
theorem dX2_letPeopleCome_59 : decode cX2_letPeopleCome 59 = .ok (.iload_n 1, 1) := by decide +kernel
theorem dX2_letPeopleCome_60 : decode cX2_letPeopleCome 60 = .ok (.ior, 1) := by decide +kernel
theorem dX2_letPeopleCome_61 : decode cX2_letPeopleCome 61 = .ok (.aload_n 0, 1) := by decide +kernel
theorem dX2_letPeopleCome_62 : decode cX2_letPeopleCome 62 = .ok (.getfield 27, 3) := by decide +kernel
theorem dX2_letPeopleCome_65 : decode cX2_letPeopleCome 65 = .ok (.ior, 1) := by decide +kernel
theorem dX2_letPeopleCome_66 : decode cX2_letPeopleCome 66 = .ok (.iload 4, 2) := by decide +kernel
theorem dX2_letPeopleCome_68 : decode cX2_letPeopleCome 68 = .ok (.invokestatic 121, 3) := by decide +kernel
theorem dX2_letPeopleCome_71 : decode cX2_letPeopleCome 71 = .ok (.ifCond .ne 7, 3) := by decide +kernel
theorem dX2_letPeopleCome_74 : decode cX2_letPeopleCome 74 = .ok (.iconst 1, 1) := by decide +kernel
theorem dX2_letPeopleCome_75 : decode cX2_letPeopleCome 75 = .ok (.goto 4, 3) := by decide +kernel
theorem dX2_letPeopleCome_78 : decode cX2_letPeopleCome 78 = .ok (.iconst 0, 1) := by decide +kernel
theorem dX2_letPeopleCome_79 : decode cX2_letPeopleCome 79 = .ok (.istore 6, 2) := by decide +kernel
theorem dX2_letPeopleCome_81 : decode cX2_letPeopleCome 81 = .ok (.iload 6, 2) := by decide +kernel
theorem dX2_letPeopleCome_83 : decode cX2_letPeopleCome 83 = .ok (.ifCond .eq 69, 3) := by decide +kernel
theorem dX2_letPeopleCome_86 : decode cX2_letPeopleCome 86 = .ok (.aload_n 0, 1) := by decide +kernel
theorem dX2_letPeopleCome_87 : decode cX2_letPeopleCome 87 = .ok (.getfield 50, 3) := by decide +kernel
theorem dX2_letPeopleCome_90 : decode cX2_letPeopleCome 90 = .ok (.iload 4, 2) := by decide +kernel
theorem dX2_letPeopleCome_92 : decode cX2_letPeopleCome 92 = .ok (.iaload, 1) := by decide +kernel
theorem dX2_letPeopleCome_93 : decode cX2_letPeopleCome 93 = .ok (.iload_n 2, 1) := by decide +kernel
theorem dX2_letPeopleCome_94 : decode cX2_letPeopleCome 94 = .ok (.if_icmp .eq 8, 3) := by decide +kernel
theorem dX2_letPeopleCome_97 : decode cX2_letPeopleCome 97 = .ok (.iload 5, 2) := by decide +kernel
theorem dX2_letPeopleCome_99 : decode cX2_letPeopleCome 99 = .ok (.ifCond .eq 53, 3) := by decide +kernel
theorem dX2_letPeopleCome_102 : decode cX2_letPeopleCome 102 = .ok (.iload 5, 2) := by decide +kernel
theorem dX2_letPeopleCome_104 : decode cX2_letPeopleCome 104 = .ok (.ifCond .ne 35, 3) := by decide +kernel
theorem dX2_letPeopleCome_107 : decode cX2_letPeopleCome 107 = .ok (.aload_n 0, 1) := by decide +kernel
theorem dX2_letPeopleCome_108 : decode cX2_letPeopleCome 108 = .ok (.getfield 30, 3) := by decide +kernel
theorem dX2_letPeopleCome_111 : decode cX2_letPeopleCome 111 = .ok (.ifCond .ne 28, 3) := by decide +kernel
theorem dX2_letPeopleCome_114 : decode cX2_letPeopleCome 114 = .ok (.aload_n 0, 1) := by decide +kernel
theorem dX2_letPeopleCome_115 : decode cX2_letPeopleCome 115 = .ok (.iload 4, 2) := by decide +kernel
theorem dX2_letPeopleCome_117 : decode cX2_letPeopleCome 117 = .ok (.invokevirtual 125, 3) := by decide +kernel
theorem dX2_letPeopleCome_120 : decode cX2_letPeopleCome 120 = .ok (.ifCond .eq 19, 3) := by decide +kernel
theorem dX2_letPeopleCome_123 : decode cX2_letPeopleCome 123 = .ok (.aload_n 0, 1) := by decide +kernel
theorem dX2_letPeopleCome_124 : decode cX2_letPeopleCome 124 = .ok (.dup, 1) := by decide +kernel
theorem dX2_letPeopleCome_125 : decode cX2_letPeopleCome 125 = .ok (.getfield 24, 3) := by decide +kernel
theorem dX2_letPeopleCome_128 : decode cX2_letPeopleCome 128 = .ok (.iconst 1, 1) := by decide +kernel
theorem dX2_letPeopleCome_129 : decode cX2_letPeopleCome 129 = .ok (.iload 4, 2) := by decide +kernel
theorem dX2_letPeopleCome_131 : decode cX2_letPeopleCome 131 = .ok (.ishl, 1) := by decide +kernel
theorem dX2_letPeopleCome_132 : decode cX2_letPeopleCome 132 = .ok (.ior, 1) := by decide +kernel
theorem dX2_letPeopleCome_133 : decode cX2_letPeopleCome 133 = .ok (.putfield 24, 3) := by decide +kernel
theorem dX2_letPeopleCome_136 : decode cX2_letPeopleCome 136 = .ok (.goto 16, 3) := by decide +kernel
theorem dX2_letPeopleCome_139 : decode cX2_letPeopleCome 139 = .ok (.aload_n 0, 1) := by decide +kernel
theorem dX2_letPeopleCome_140 : decode cX2_letPeopleCome 140 = .ok (.dup, 1) := by decide +kernel
theorem dX2_letPeopleCome_141 : decode cX2_letPeopleCome 141 = .ok (.getfield 18, 3) := by decide +kernel
theorem dX2_letPeopleCome_144 : decode cX2_letPeopleCome 144 = .ok (.iconst 1, 1) := by decide +kernel
theorem dX2_letPeopleCome_145 : decode cX2_letPeopleCome 145 = .ok (.iload 4, 2) := by decide +kernel
theorem dX2_letPeopleCome_147 : decode cX2_letPeopleCome 147 = .ok (.ishl, 1) := by decide +kernel
theorem dX2_letPeopleCome_148 : decode cX2_letPeopleCome 148 = .ok (.ior, 1) := by decide +kernel
theorem dX2_letPeopleCome_149 : decode cX2_letPeopleCome 149 = .ok (.putfield 18, 3) := by decide +kernel
theorem dX2_letPeopleCome_152 : decode cX2_letPeopleCome 152 = .ok (.iinc 4 1, 3) := by decide +kernel
theorem dX2_letPeopleCome_155 : decode cX2_letPeopleCome 155 = .ok (.goto (-134), 3) := by decide +kernel
theorem dX2_letPeopleCome_158 : decode cX2_letPeopleCome 158 = .ok (.return_, 1) := by decide +kernel
theorem dX2_isLate_0 : decode cX2_isLate 0 = .ok (.aload_n 0, 1) := by decide +kernel
theorem dX2_isLate_1 : decode cX2_isLate 1 = .ok (.iconst 0, 1) := by decide +kernel
theorem dX2_isLate_2 : decode cX2_isLate 2 = .ok (.aload_n 0, 1) := by decide +kernel
theorem dX2_isLate_3 : decode cX2_isLate 3 = .ok (.getfield 53, 3) := by decide +kernel
theorem dX2_isLate_6 : decode cX2_isLate 6 = .ok (.iload_n 1, 1) := by decide +kernel
theorem dX2_isLate_7 : decode cX2_isLate 7 = .ok (.iaload, 1) := by decide +kernel
theorem dX2_isLate_8 : decode cX2_isLate 8 = .ok (.iconst 0, 1) := by decide +kernel
theorem dX2_isLate_9 : decode cX2_isLate 9 = .ok (.iload_n 1, 1) := by decide +kernel
theorem dX2_isLate_10 : decode cX2_isLate 10 = .ok (.iconst 0, 1) := by decide +kernel
theorem dX2_isLate_11 : decode cX2_isLate 11 = .ok (.invokevirtual 129, 3) := by decide +kernel
theorem dX2_isLate_14 : decode cX2_isLate 14 = .ok (.aload_n 0, 1) := by decide +kernel
theorem dX2_isLate_15 : decode cX2_isLate 15 = .ok (.getfield 71, 3) := by decide +kernel
theorem dX2_isLate_18 : decode cX2_isLate 18 = .ok (.getfield 133, 3) := by decide +kernel
theorem dX2_isLate_21 : decode cX2_isLate 21 = .ok (.iconst 3, 1) := by decide +kernel
theorem dX2_isLate_22 : decode cX2_isLate 22 = .ok (.invokevirtual 137, 3) := by decide +kernel
theorem dX2_isLate_25 : decode cX2_isLate 25 = .ok (.istore_n 2, 1) := by decide +kernel
theorem dX2_isLate_26 : decode cX2_isLate 26 = .ok (.bipush 100, 2) := by decide +kernel
theorem dX2_isLate_28 : decode cX2_isLate 28 = .ok (.aload_n 0, 1) := by decide +kernel
theorem dX2_isLate_29 : decode cX2_isLate 29 = .ok (.getfield 34, 3) := by decide +kernel
theorem dX2_isLate_32 : decode cX2_isLate 32 = .ok (.bipush 32, 2) := by decide +kernel
theorem dX2_isLate_34 : decode cX2_isLate 34 = .ok (.aload_n 0, 1) := by decide +kernel
theorem dX2_isLate_35 : decode cX2_isLate 35 = .ok (.getfield 9, 3) := by decide +kernel
theorem dX2_isLate_38 : decode cX2_isLate 38 = .ok (.imul, 1) := by decide +kernel
theorem dX2_isLate_39 : decode cX2_isLate 39 = .ok (.iload_n 1, 1) := by decide +kernel
theorem dX2_isLate_40 : decode cX2_isLate 40 = .ok (.iadd, 1) := by decide +kernel
theorem dX2_isLate_41 : decode cX2_isLate 41 = .ok (.invokestatic 142, 3) := by decide +kernel
theorem dX2_isLate_44 : decode cX2_isLate 44 = .ok (.iconst 0, 1) := by decide +kernel
theorem dX2_isLate_45 : decode cX2_isLate 45 = .ok (.bipush 100, 2) := by decide +kernel
theorem dX2_isLate_47 : decode cX2_isLate 47 = .ok (.iload_n 2, 1) := by decide +kernel
theorem dX2_isLate_48 : decode cX2_isLate 48 = .ok (.invokestatic 146, 3) := by decide +kernel
theorem dX2_isLate_51 : decode cX2_isLate 51 = .ok (.invokestatic 151, 3) := by decide +kernel
theorem dX2_isLate_54 : decode cX2_isLate 54 = .ok (.if_icmp .ge 7, 3) := by decide +kernel
theorem dX2_isLate_57 : decode cX2_isLate 57 = .ok (.iconst 1, 1) := by decide +kernel
theorem dX2_isLate_58 : decode cX2_isLate 58 = .ok (.goto 4, 3) := by decide +kernel
theorem dX2_isLate_61 : decode cX2_isLate 61 = .ok (.iconst 0, 1) := by decide +kernel
theorem dX2_isLate_62 : decode cX2_isLate 62 = .ok (.ireturn, 1) := by decide +kernel
theorem dX2_lot_0 : decode cX2_lot 0 = .ok (.iload_n 1, 1) := by decide +kernel
theorem dX2_lot_1 : decode cX2_lot 1 = .ok (.istore_n 3, 1) := by decide +kernel
theorem dX2_lot_2 : decode cX2_lot 2 = .ok (.iconst 0, 1) := by decide +kernel
theorem dX2_lot_3 : decode cX2_lot 3 = .ok (.istore 4, 2) := by decide +kernel
theorem dX2_lot_5 : decode cX2_lot 5 = .ok (.iload 4, 2) := by decide +kernel
theorem dX2_lot_7 : decode cX2_lot 7 = .ok (.iconst 2, 1) := by decide +kernel
theorem dX2_lot_8 : decode cX2_lot 8 = .ok (.if_icmp .ge 38, 3) := by decide +kernel
theorem dX2_lot_11 : decode cX2_lot 11 = .ok (.iload_n 3, 1) := by decide +kernel
theorem dX2_lot_12 : decode cX2_lot 12 = .ok (.iload 4, 2) := by decide +kernel
theorem dX2_lot_14 : decode cX2_lot 14 = .ok (.ifCond .ne 9, 3) := by decide +kernel
theorem dX2_lot_17 : decode cX2_lot 17 = .ok (.sipush 133, 3) := by decide +kernel
theorem dX2_lot_20 : decode cX2_lot 20 = .ok (.goto 4, 3) := by decide +kernel
theorem dX2_lot_23 : decode cX2_lot 23 = .ok (.iload_n 2, 1) := by decide +kernel
theorem dX2_lot_24 : decode cX2_lot 24 = .ok (.ixor, 1) := by decide +kernel
theorem dX2_lot_25 : decode cX2_lot 25 = .ok (.ldc 154, 2) := by decide +kernel
theorem dX2_lot_27 : decode cX2_lot 27 = .ok (.imul, 1) := by decide +kernel
theorem dX2_lot_28 : decode cX2_lot 28 = .ok (.sipush 12345, 3) := by decide +kernel
theorem dX2_lot_31 : decode cX2_lot 31 = .ok (.iadd, 1) := by decide +kernel
theorem dX2_lot_32 : decode cX2_lot 32 = .ok (.istore_n 3, 1) := by decide +kernel
theorem dX2_lot_33 : decode cX2_lot 33 = .ok (.iload_n 3, 1) := by decide +kernel
theorem dX2_lot_34 : decode cX2_lot 34 = .ok (.iload_n 3, 1) := by decide +kernel
theorem dX2_lot_35 : decode cX2_lot 35 = .ok (.bipush 15, 2) := by decide +kernel
theorem dX2_lot_37 : decode cX2_lot 37 = .ok (.iushr, 1) := by decide +kernel
theorem dX2_lot_38 : decode cX2_lot 38 = .ok (.ixor, 1) := by decide +kernel
theorem dX2_lot_39 : decode cX2_lot 39 = .ok (.istore_n 3, 1) := by decide +kernel
theorem dX2_lot_40 : decode cX2_lot 40 = .ok (.iinc 4 1, 3) := by decide +kernel
theorem dX2_lot_43 : decode cX2_lot 43 = .ok (.goto (-38), 3) := by decide +kernel
theorem dX2_lot_46 : decode cX2_lot 46 = .ok (.iload_n 0, 1) := by decide +kernel
theorem dX2_lot_47 : decode cX2_lot 47 = .ok (.ifCond .le 11, 3) := by decide +kernel
theorem dX2_lot_50 : decode cX2_lot 50 = .ok (.iload_n 3, 1) := by decide +kernel
theorem dX2_lot_51 : decode cX2_lot 51 = .ok (.iconst 1, 1) := by decide +kernel
theorem dX2_lot_52 : decode cX2_lot 52 = .ok (.iushr, 1) := by decide +kernel
theorem dX2_lot_53 : decode cX2_lot 53 = .ok (.iload_n 0, 1) := by decide +kernel
theorem dX2_lot_54 : decode cX2_lot 54 = .ok (.irem, 1) := by decide +kernel
theorem dX2_lot_55 : decode cX2_lot 55 = .ok (.goto 4, 3) := by decide +kernel
theorem dX2_lot_58 : decode cX2_lot 58 = .ok (.iconst 0, 1) := by decide +kernel
theorem dX2_lot_59 : decode cX2_lot 59 = .ok (.ireturn, 1) := by decide +kernel
theorem dX2_letPeopleIn_0 : decode cX2_letPeopleIn 0 = .ok (.aload_n 0, 1) := by decide +kernel
theorem dX2_letPeopleIn_1 : decode cX2_letPeopleIn 1 = .ok (.getfield 18, 3) := by decide +kernel
theorem dX2_letPeopleIn_4 : decode cX2_letPeopleIn 4 = .ok (.ifCond .eq 7, 3) := by decide +kernel
theorem dX2_letPeopleIn_7 : decode cX2_letPeopleIn 7 = .ok (.iconst 1, 1) := by decide +kernel
theorem dX2_letPeopleIn_8 : decode cX2_letPeopleIn 8 = .ok (.goto 4, 3) := by decide +kernel
theorem dX2_letPeopleIn_11 : decode cX2_letPeopleIn 11 = .ok (.iconst 0, 1) := by decide +kernel
theorem dX2_letPeopleIn_12 : decode cX2_letPeopleIn 12 = .ok (.istore_n 1, 1) := by decide +kernel
theorem dX2_letPeopleIn_13 : decode cX2_letPeopleIn 13 = .ok (.iconst 0, 1) := by decide +kernel
theorem dX2_letPeopleIn_14 : decode cX2_letPeopleIn 14 = .ok (.istore_n 2, 1) := by decide +kernel
theorem dX2_letPeopleIn_15 : decode cX2_letPeopleIn 15 = .ok (.iload_n 2, 1) := by decide +kernel
theorem dX2_letPeopleIn_16 : decode cX2_letPeopleIn 16 = .ok (.bipush 8, 2) := by decide +kernel
theorem dX2_letPeopleIn_18 : decode cX2_letPeopleIn 18 = .ok (.if_icmp .gt 54, 3) := by decide +kernel
theorem dX2_letPeopleIn_21 : decode cX2_letPeopleIn 21 = .ok (.iload_n 1, 1) := by decide +kernel
theorem dX2_letPeopleIn_22 : decode cX2_letPeopleIn 22 = .ok (.ifCond .eq 50, 3) := by decide +kernel
theorem dX2_letPeopleIn_25 : decode cX2_letPeopleIn 25 = .ok (.iconst 0, 1) := by decide +kernel
theorem dX2_letPeopleIn_26 : decode cX2_letPeopleIn 26 = .ok (.istore_n 1, 1) := by decide +kernel
theorem dX2_letPeopleIn_27 : decode cX2_letPeopleIn 27 = .ok (.iconst 0, 1) := by decide +kernel
theorem dX2_letPeopleIn_28 : decode cX2_letPeopleIn 28 = .ok (.istore_n 3, 1) := by decide +kernel
theorem dX2_letPeopleIn_29 : decode cX2_letPeopleIn 29 = .ok (.iload_n 3, 1) := by decide +kernel
theorem dX2_letPeopleIn_30 : decode cX2_letPeopleIn 30 = .ok (.aload_n 0, 1) := by decide +kernel
theorem dX2_letPeopleIn_31 : decode cX2_letPeopleIn 31 = .ok (.getfield 71, 3) := by decide +kernel
theorem dX2_letPeopleIn_34 : decode cX2_letPeopleIn 34 = .ok (.getfield 75, 3) := by decide +kernel
theorem dX2_letPeopleIn_37 : decode cX2_letPeopleIn 37 = .ok (.if_icmp .ge 29, 3) := by decide +kernel
theorem dX2_letPeopleIn_40 : decode cX2_letPeopleIn 40 = .ok (.aload_n 0, 1) := by decide +kernel
theorem dX2_letPeopleIn_41 : decode cX2_letPeopleIn 41 = .ok (.getfield 18, 3) := by decide +kernel
theorem dX2_letPeopleIn_44 : decode cX2_letPeopleIn 44 = .ok (.iload_n 3, 1) := by decide +kernel
theorem dX2_letPeopleIn_45 : decode cX2_letPeopleIn 45 = .ok (.invokestatic 121, 3) := by decide +kernel
theorem dX2_letPeopleIn_48 : decode cX2_letPeopleIn 48 = .ok (.iconst 1, 1) := by decide +kernel
theorem dX2_letPeopleIn_49 : decode cX2_letPeopleIn 49 = .ok (.if_icmp .ne 11, 3) := by decide +kernel
theorem dX2_letPeopleIn_52 : decode cX2_letPeopleIn 52 = .ok (.iload_n 1, 1) := by decide +kernel
theorem dX2_letPeopleIn_53 : decode cX2_letPeopleIn 53 = .ok (.aload_n 0, 1) := by decide +kernel
theorem dX2_letPeopleIn_54 : decode cX2_letPeopleIn 54 = .ok (.iload_n 3, 1) := by decide +kernel
theorem dX2_letPeopleIn_55 : decode cX2_letPeopleIn 55 = .ok (.invokevirtual 155, 3) := by decide +kernel
theorem dX2_letPeopleIn_58 : decode cX2_letPeopleIn 58 = .ok (.ior, 1) := by decide +kernel
theorem dX2_letPeopleIn_59 : decode cX2_letPeopleIn 59 = .ok (.istore_n 1, 1) := by decide +kernel
theorem dX2_letPeopleIn_60 : decode cX2_letPeopleIn 60 = .ok (.iinc 3 1, 3) := by decide +kernel
theorem dX2_letPeopleIn_63 : decode cX2_letPeopleIn 63 = .ok (.goto (-34), 3) := by decide +kernel
theorem dX2_letPeopleIn_66 : decode cX2_letPeopleIn 66 = .ok (.iinc 2 1, 3) := by decide +kernel
theorem dX2_letPeopleIn_69 : decode cX2_letPeopleIn 69 = .ok (.goto (-54), 3) := by decide +kernel
theorem dX2_letPeopleIn_72 : decode cX2_letPeopleIn 72 = .ok (.return_, 1) := by decide +kernel
theorem dX2_letInIfCan_0 : decode cX2_letInIfCan 0 = .ok (.aload_n 0, 1) := by decide +kernel
theorem dX2_letInIfCan_1 : decode cX2_letInIfCan 1 = .ok (.iload_n 1, 1) := by decide +kernel
theorem dX2_letInIfCan_2 : decode cX2_letInIfCan 2 = .ok (.invokevirtual 158, 3) := by decide +kernel
theorem dX2_letInIfCan_5 : decode cX2_letInIfCan 5 = .ok (.istore_n 2, 1) := by decide +kernel
theorem dX2_letInIfCan_6 : decode cX2_letInIfCan 6 = .ok (.aload_n 0, 1) := by decide +kernel
theorem dX2_letInIfCan_7 : decode cX2_letInIfCan 7 = .ok (.iload_n 1, 1) := by decide +kernel
theorem dX2_letInIfCan_8 : decode cX2_letInIfCan 8 = .ok (.invokevirtual 161, 3) := by decide +kernel
theorem dX2_letInIfCan_11 : decode cX2_letInIfCan 11 = .ok (.istore_n 3, 1) := by decide +kernel
theorem dX2_letInIfCan_12 : decode cX2_letInIfCan 12 = .ok (.aload_n 0, 1) := by decide +kernel
theorem dX2_letInIfCan_13 : decode cX2_letInIfCan 13 = .ok (.iload_n 1, 1) := by decide +kernel
theorem dX2_letInIfCan_14 : decode cX2_letInIfCan 14 = .ok (.invokevirtual 117, 3) := by decide +kernel
theorem dX2_letInIfCan_17 : decode cX2_letInIfCan 17 = .ok (.istore 4, 2) := by decide +kernel
theorem dX2_letInIfCan_19 : decode cX2_letInIfCan 19 = .ok (.iload_n 2, 1) := by decide +kernel
theorem dX2_letInIfCan_20 : decode cX2_letInIfCan 20 = .ok (.ifCond .ne 14, 3) := by decide +kernel
theorem dX2_letInIfCan_23 : decode cX2_letInIfCan 23 = .ok (.aload_n 0, 1) := by decide +kernel
theorem dX2_letInIfCan_24 : decode cX2_letInIfCan 24 = .ok (.getfield 71, 3) := by decide +kernel
theorem dX2_letInIfCan_27 : decode cX2_letInIfCan 27 = .ok (.getfield 75, 3) := by decide +kernel
theorem dX2_letInIfCan_30 : decode cX2_letInIfCan 30 = .ok (.iconst 1, 1) := by decide +kernel
theorem dX2_letInIfCan_31 : decode cX2_letInIfCan 31 = .ok (.if_icmp .ne 13, 3) := by decide +kernel
theorem dX2_letInIfCan_34 : decode cX2_letInIfCan 34 = .ok (.aload_n 0, 1) := by decide +kernel
theorem dX2_letInIfCan_35 : decode cX2_letInIfCan 35 = .ok (.getfield 62, 3) := by decide +kernel
theorem dX2_letInIfCan_38 : decode cX2_letInIfCan 38 = .ok (.iload_n 1, 1) := by decide +kernel
theorem dX2_letInIfCan_39 : decode cX2_letInIfCan 39 = .ok (.iload_n 1, 1) := by decide +kernel
theorem dX2_letInIfCan_40 : decode cX2_letInIfCan 40 = .ok (.iastore, 1) := by decide +kernel
theorem dX2_letInIfCan_41 : decode cX2_letInIfCan 41 = .ok (.goto 78, 3) := by decide +kernel
theorem dX2_letInIfCan_44 : decode cX2_letInIfCan 44 = .ok (.aload_n 0, 1) := by decide +kernel
theorem dX2_letInIfCan_45 : decode cX2_letInIfCan 45 = .ok (.iload_n 3, 1) := by decide +kernel
theorem dX2_letInIfCan_46 : decode cX2_letInIfCan 46 = .ok (.invokevirtual 164, 3) := by decide +kernel
theorem dX2_letInIfCan_49 : decode cX2_letInIfCan 49 = .ok (.ifCond .ne 22, 3) := by decide +kernel
theorem dX2_letInIfCan_52 : decode cX2_letInIfCan 52 = .ok (.aload_n 0, 1) := by decide +kernel
theorem dX2_letInIfCan_53 : decode cX2_letInIfCan 53 = .ok (.iload_n 3, 1) := by decide +kernel
theorem dX2_letInIfCan_54 : decode cX2_letInIfCan 54 = .ok (.iload_n 1, 1) := by decide +kernel
theorem dX2_letInIfCan_55 : decode cX2_letInIfCan 55 = .ok (.invokevirtual 167, 3) := by decide +kernel
theorem dX2_letInIfCan_58 : decode cX2_letInIfCan 58 = .ok (.ifCond .eq 13, 3) := by decide +kernel
theorem dX2_letInIfCan_61 : decode cX2_letInIfCan 61 = .ok (.aload_n 0, 1) := by decide +kernel
theorem dX2_letInIfCan_62 : decode cX2_letInIfCan 62 = .ok (.getfield 62, 3) := by decide +kernel
theorem dX2_letInIfCan_65 : decode cX2_letInIfCan 65 = .ok (.iload_n 1, 1) := by decide +kernel
theorem dX2_letInIfCan_66 : decode cX2_letInIfCan 66 = .ok (.iload_n 3, 1) := by decide +kernel
theorem dX2_letInIfCan_67 : decode cX2_letInIfCan 67 = .ok (.iastore, 1) := by decide +kernel
theorem dX2_letInIfCan_68 : decode cX2_letInIfCan 68 = .ok (.goto 51, 3) := by decide +kernel
theorem dX2_letInIfCan_71 : decode cX2_letInIfCan 71 = .ok (.aload_n 0, 1) := by decide +kernel
theorem dX2_letInIfCan_72 : decode cX2_letInIfCan 72 = .ok (.iload 4, 2) := by decide +kernel
theorem dX2_letInIfCan_74 : decode cX2_letInIfCan 74 = .ok (.invokevirtual 164, 3) := by decide +kernel
theorem dX2_letInIfCan_77 : decode cX2_letInIfCan 77 = .ok (.ifCond .ne 40, 3) := by decide +kernel
theorem dX2_letInIfCan_80 : decode cX2_letInIfCan 80 = .ok (.aload_n 0, 1) := by decide +kernel
theorem dX2_letInIfCan_81 : decode cX2_letInIfCan 81 = .ok (.getfield 71, 3) := by decide +kernel
theorem dX2_letInIfCan_84 : decode cX2_letInIfCan 84 = .ok (.getfield 171, 3) := by decide +kernel
theorem dX2_letInIfCan_87 : decode cX2_letInIfCan 87 = .ok (.iload 4, 2) := by decide +kernel
theorem dX2_letInIfCan_89 : decode cX2_letInIfCan 89 = .ok (.invokestatic 121, 3) := by decide +kernel
theorem dX2_letInIfCan_92 : decode cX2_letInIfCan 92 = .ok (.iconst 1, 1) := by decide +kernel
theorem dX2_letInIfCan_93 : decode cX2_letInIfCan 93 = .ok (.if_icmp .ne 24, 3) := by decide +kernel
theorem dX2_letInIfCan_96 : decode cX2_letInIfCan 96 = .ok (.aload_n 0, 1) := by decide +kernel
theorem dX2_letInIfCan_97 : decode cX2_letInIfCan 97 = .ok (.iload 4, 2) := by decide +kernel
theorem dX2_letInIfCan_99 : decode cX2_letInIfCan 99 = .ok (.iload_n 1, 1) := by decide +kernel
theorem dX2_letInIfCan_100 : decode cX2_letInIfCan 100 = .ok (.invokevirtual 167, 3) := by decide +kernel
theorem dX2_letInIfCan_103 : decode cX2_letInIfCan 103 = .ok (.ifCond .eq 14, 3) := by decide +kernel
