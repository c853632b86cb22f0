theorem dX7_lawTells_80 : decode cX7_lawTells 80 = .ok (.aload_n 0, 1) := by decide +kernel
theorem dX7_lawTells_81 : decode cX7_lawTells 81 = .ok (.aload_n 0, 1) := by decide +kernel
theorem dX7_lawTells_82 : decode cX7_lawTells 82 = .ok (.getfield 83, 3) := by decide +kernel
theorem dX7_lawTells_85 : decode cX7_lawTells 85 = .ok (.iload 4, 2) := by decide +kernel
theorem dX7_lawTells_87 : decode cX7_lawTells 87 = .ok (.iaload, 1) := by decide +kernel
theorem dX7_lawTells_88 : decode cX7_lawTells 88 = .ok (.aload_n 0, 1) := by decide +kernel
theorem dX7_lawTells_89 : decode cX7_lawTells 89 = .ok (.getfield 86, 3) := by decide +kernel
theorem dX7_lawTells_92 : decode cX7_lawTells 92 = .ok (.iload 4, 2) := by decide +kernel
theorem dX7_lawTells_94 : decode cX7_lawTells 94 = .ok (.iaload, 1) := by decide +kernel
theorem dX7_lawTells_95 : decode cX7_lawTells 95 = .ok (.invokevirtual 318, 3) := by decide +kernel
theorem dX7_lawTells_98 : decode cX7_lawTells 98 = .ok (.istore 6, 2) := by decide +kernel
theorem dX7_lawTells_100 : decode cX7_lawTells 100 = .ok (.aload_n 0, 1) := by decide +kernel
theorem dX7_lawTells_101 : decode cX7_lawTells 101 = .ok (.getfield 288, 3) := by decide +kernel
theorem dX7_lawTells_104 : decode cX7_lawTells 104 = .ok (.ifCond .eq 5, 3) := by decide +kernel
theorem dX7_lawTells_107 : decode cX7_lawTells 107 = .ok (.iconst 0, 1) := by decide +kernel
theorem dX7_lawTells_108 : decode cX7_lawTells 108 = .ok (.ireturn, 1) := by decide +kernel
theorem dX7_lawTells_109 : decode cX7_lawTells 109 = .ok (.iload 5, 2) := by decide +kernel
theorem dX7_lawTells_111 : decode cX7_lawTells 111 = .ok (.iload 6, 2) := by decide +kernel
theorem dX7_lawTells_113 : decode cX7_lawTells 113 = .ok (.if_icmp .lt 6, 3) := by decide +kernel
theorem dX7_lawTells_116 : decode cX7_lawTells 116 = .ok (.goto 37, 3) := by decide +kernel
theorem dX7_lawTells_119 : decode cX7_lawTells 119 = .ok (.aload_n 0, 1) := by decide +kernel
theorem dX7_lawTells_120 : decode cX7_lawTells 120 = .ok (.aload_n 0, 1) := by decide +kernel
theorem dX7_lawTells_121 : decode cX7_lawTells 121 = .ok (.getfield 86, 3) := by decide +kernel
theorem dX7_lawTells_124 : decode cX7_lawTells 124 = .ok (.iload 4, 2) := by decide +kernel
theorem dX7_lawTells_126 : decode cX7_lawTells 126 = .ok (.iaload, 1) := by decide +kernel
theorem dX7_lawTells_127 : decode cX7_lawTells 127 = .ok (.aload_n 0, 1) := by decide +kernel
theorem dX7_lawTells_128 : decode cX7_lawTells 128 = .ok (.getfield 89, 3) := by decide +kernel
theorem dX7_lawTells_131 : decode cX7_lawTells 131 = .ok (.iload 4, 2) := by decide +kernel
theorem dX7_lawTells_133 : decode cX7_lawTells 133 = .ok (.iaload, 1) := by decide +kernel
theorem dX7_lawTells_134 : decode cX7_lawTells 134 = .ok (.invokevirtual 318, 3) := by decide +kernel
theorem dX7_lawTells_137 : decode cX7_lawTells 137 = .ok (.istore 5, 2) := by decide +kernel
theorem dX7_lawTells_139 : decode cX7_lawTells 139 = .ok (.aload_n 0, 1) := by decide +kernel
theorem dX7_lawTells_140 : decode cX7_lawTells 140 = .ok (.getfield 288, 3) := by decide +kernel
theorem dX7_lawTells_143 : decode cX7_lawTells 143 = .ok (.ifCond .eq 7, 3) := by decide +kernel
theorem dX7_lawTells_146 : decode cX7_lawTells 146 = .ok (.iconst 0, 1) := by decide +kernel
theorem dX7_lawTells_147 : decode cX7_lawTells 147 = .ok (.goto 5, 3) := by decide +kernel
theorem dX7_lawTells_150 : decode cX7_lawTells 150 = .ok (.iload 5, 2) := by decide +kernel
theorem dX7_lawTells_152 : decode cX7_lawTells 152 = .ok (.ireturn, 1) := by decide +kernel
theorem dX7_lawTells_153 : decode cX7_lawTells 153 = .ok (.iinc 4 1, 3) := by decide +kernel
theorem dX7_lawTells_156 : decode cX7_lawTells 156 = .ok (.goto (-117), 3) := by decide +kernel
theorem dX7_lawTells_159 : decode cX7_lawTells 159 = .ok (.iconst 0, 1) := by decide +kernel
theorem dX7_lawTells_160 : decode cX7_lawTells 160 = .ok (.ireturn, 1) := by decide +kernel
theorem dX7_doesLet_0 : decode cX7_doesLet 0 = .ok (.aload_n 0, 1) := by decide +kernel
theorem dX7_doesLet_1 : decode cX7_doesLet 1 = .ok (.aload_n 0, 1) := by decide +kernel
theorem dX7_doesLet_2 : decode cX7_doesLet 2 = .ok (.getfield 110, 3) := by decide +kernel
theorem dX7_doesLet_5 : decode cX7_doesLet 5 = .ok (.bipush 16, 2) := by decide +kernel
theorem dX7_doesLet_7 : decode cX7_doesLet 7 = .ok (.iload_n 1, 1) := by decide +kernel
theorem dX7_doesLet_8 : decode cX7_doesLet 8 = .ok (.iadd, 1) := by decide +kernel
theorem dX7_doesLet_9 : decode cX7_doesLet 9 = .ok (.iaload, 1) := by decide +kernel
theorem dX7_doesLet_10 : decode cX7_doesLet 10 = .ok (.iload_n 2, 1) := by decide +kernel
theorem dX7_doesLet_11 : decode cX7_doesLet 11 = .ok (.invokevirtual 321, 3) := by decide +kernel
theorem dX7_doesLet_14 : decode cX7_doesLet 14 = .ok (.aload_n 0, 1) := by decide +kernel
theorem dX7_doesLet_15 : decode cX7_doesLet 15 = .ok (.getfield 101, 3) := by decide +kernel
theorem dX7_doesLet_18 : decode cX7_doesLet 18 = .ok (.iconst 2, 1) := by decide +kernel
theorem dX7_doesLet_19 : decode cX7_doesLet 19 = .ok (.aload_n 0, 1) := by decide +kernel
theorem dX7_doesLet_20 : decode cX7_doesLet 20 = .ok (.getfield 110, 3) := by decide +kernel
theorem dX7_doesLet_23 : decode cX7_doesLet 23 = .ok (.bipush 48, 2) := by decide +kernel
theorem dX7_doesLet_25 : decode cX7_doesLet 25 = .ok (.iload_n 2, 1) := by decide +kernel
theorem dX7_doesLet_26 : decode cX7_doesLet 26 = .ok (.iadd, 1) := by decide +kernel
theorem dX7_doesLet_27 : decode cX7_doesLet 27 = .ok (.iaload, 1) := by decide +kernel
theorem dX7_doesLet_28 : decode cX7_doesLet 28 = .ok (.iastore, 1) := by decide +kernel
theorem dX7_doesLet_29 : decode cX7_doesLet 29 = .ok (.aload_n 0, 1) := by decide +kernel
theorem dX7_doesLet_30 : decode cX7_doesLet 30 = .ok (.getfield 101, 3) := by decide +kernel
theorem dX7_doesLet_33 : decode cX7_doesLet 33 = .ok (.iconst 4, 1) := by decide +kernel
theorem dX7_doesLet_34 : decode cX7_doesLet 34 = .ok (.aload_n 0, 1) := by decide +kernel
theorem dX7_doesLet_35 : decode cX7_doesLet 35 = .ok (.getfield 110, 3) := by decide +kernel
theorem dX7_doesLet_38 : decode cX7_doesLet 38 = .ok (.bipush 16, 2) := by decide +kernel
theorem dX7_doesLet_40 : decode cX7_doesLet 40 = .ok (.iload_n 2, 1) := by decide +kernel
theorem dX7_doesLet_41 : decode cX7_doesLet 41 = .ok (.iadd, 1) := by decide +kernel
theorem dX7_doesLet_42 : decode cX7_doesLet 42 = .ok (.iaload, 1) := by decide +kernel
theorem dX7_doesLet_43 : decode cX7_doesLet 43 = .ok (.iastore, 1) := by decide +kernel
theorem dX7_doesLet_44 : decode cX7_doesLet 44 = .ok (.aload_n 0, 1) := by decide +kernel
theorem dX7_doesLet_45 : decode cX7_doesLet 45 = .ok (.iconst 0, 1) := by decide +kernel
theorem dX7_doesLet_46 : decode cX7_doesLet 46 = .ok (.iconst 1, 1) := by decide +kernel
theorem dX7_doesLet_47 : decode cX7_doesLet 47 = .ok (.invokevirtual 324, 3) := by decide +kernel
theorem dX7_doesLet_50 : decode cX7_doesLet 50 = .ok (.ifCond .le 7, 3) := by decide +kernel
theorem dX7_doesLet_53 : decode cX7_doesLet 53 = .ok (.iconst 1, 1) := by decide +kernel
theorem dX7_doesLet_54 : decode cX7_doesLet 54 = .ok (.goto 4, 3) := by decide +kernel
theorem dX7_doesLet_57 : decode cX7_doesLet 57 = .ok (.iconst 0, 1) := by decide +kernel
theorem dX7_doesLet_58 : decode cX7_doesLet 58 = .ok (.ireturn, 1) := by decide +kernel
theorem dX7_quarrelOf_0 : decode cX7_quarrelOf 0 = .ok (.aload_n 0, 1) := by decide +kernel
theorem dX7_quarrelOf_1 : decode cX7_quarrelOf 1 = .ok (.aload_n 0, 1) := by decide +kernel
theorem dX7_quarrelOf_2 : decode cX7_quarrelOf 2 = .ok (.getfield 110, 3) := by decide +kernel
theorem dX7_quarrelOf_5 : decode cX7_quarrelOf 5 = .ok (.bipush 16, 2) := by decide +kernel
theorem dX7_quarrelOf_7 : decode cX7_quarrelOf 7 = .ok (.iload_n 1, 1) := by decide +kernel
theorem dX7_quarrelOf_8 : decode cX7_quarrelOf 8 = .ok (.iadd, 1) := by decide +kernel
theorem dX7_quarrelOf_9 : decode cX7_quarrelOf 9 = .ok (.iaload, 1) := by decide +kernel
theorem dX7_quarrelOf_10 : decode cX7_quarrelOf 10 = .ok (.iload_n 1, 1) := by decide +kernel
theorem dX7_quarrelOf_11 : decode cX7_quarrelOf 11 = .ok (.invokevirtual 321, 3) := by decide +kernel
theorem dX7_quarrelOf_14 : decode cX7_quarrelOf 14 = .ok (.aload_n 0, 1) := by decide +kernel
theorem dX7_quarrelOf_15 : decode cX7_quarrelOf 15 = .ok (.getfield 101, 3) := by decide +kernel
theorem dX7_quarrelOf_18 : decode cX7_quarrelOf 18 = .ok (.iconst 2, 1) := by decide +kernel
theorem dX7_quarrelOf_19 : decode cX7_quarrelOf 19 = .ok (.aload_n 0, 1) := by decide +kernel
theorem dX7_quarrelOf_20 : decode cX7_quarrelOf 20 = .ok (.getfield 110, 3) := by decide +kernel
theorem dX7_quarrelOf_23 : decode cX7_quarrelOf 23 = .ok (.bipush 48, 2) := by decide +kernel
theorem dX7_quarrelOf_25 : decode cX7_quarrelOf 25 = .ok (.iload_n 1, 1) := by decide +kernel
theorem dX7_quarrelOf_26 : decode cX7_quarrelOf 26 = .ok (.iadd, 1) := by decide +kernel
theorem dX7_quarrelOf_27 : decode cX7_quarrelOf 27 = .ok (.iaload, 1) := by decide +kernel
theorem dX7_quarrelOf_28 : decode cX7_quarrelOf 28 = .ok (.iastore, 1) := by decide +kernel
theorem dX7_quarrelOf_29 : decode cX7_quarrelOf 29 = .ok (.aload_n 0, 1) := by decide +kernel
theorem dX7_quarrelOf_30 : decode cX7_quarrelOf 30 = .ok (.iconst 1, 1) := by decide +kernel
theorem dX7_quarrelOf_31 : decode cX7_quarrelOf 31 = .ok (.aload_n 0, 1) := by decide +kernel
theorem dX7_quarrelOf_32 : decode cX7_quarrelOf 32 = .ok (.getfield 101, 3) := by decide +kernel
theorem dX7_quarrelOf_35 : decode cX7_quarrelOf 35 = .ok (.iconst 2, 1) := by decide +kernel
theorem dX7_quarrelOf_36 : decode cX7_quarrelOf 36 = .ok (.iaload, 1) := by decide +kernel
theorem dX7_quarrelOf_37 : decode cX7_quarrelOf 37 = .ok (.invokevirtual 324, 3) := by decide +kernel
theorem dX7_quarrelOf_40 : decode cX7_quarrelOf 40 = .ok (.iconst 0, 1) := by decide +kernel
theorem dX7_quarrelOf_41 : decode cX7_quarrelOf 41 = .ok (.bipush 99, 2) := by decide +kernel
theorem dX7_quarrelOf_43 : decode cX7_quarrelOf 43 = .ok (.invokestatic 327, 3) := by decide +kernel
theorem dX7_quarrelOf_46 : decode cX7_quarrelOf 46 = .ok (.ireturn, 1) := by decide +kernel
theorem dX7_rentOf_0 : decode cX7_rentOf 0 = .ok (.aload_n 0, 1) := by decide +kernel
theorem dX7_rentOf_1 : decode cX7_rentOf 1 = .ok (.aload_n 0, 1) := by decide +kernel
theorem dX7_rentOf_2 : decode cX7_rentOf 2 = .ok (.getfield 110, 3) := by decide +kernel
theorem dX7_rentOf_5 : decode cX7_rentOf 5 = .ok (.bipush 16, 2) := by decide +kernel
theorem dX7_rentOf_7 : decode cX7_rentOf 7 = .ok (.iload_n 1, 1) := by decide +kernel
theorem dX7_rentOf_8 : decode cX7_rentOf 8 = .ok (.iadd, 1) := by decide +kernel
theorem dX7_rentOf_9 : decode cX7_rentOf 9 = .ok (.iaload, 1) := by decide +kernel
theorem dX7_rentOf_10 : decode cX7_rentOf 10 = .ok (.iload_n 1, 1) := by decide +kernel
theorem dX7_rentOf_11 : decode cX7_rentOf 11 = .ok (.invokevirtual 321, 3) := by decide +kernel
theorem dX7_rentOf_14 : decode cX7_rentOf 14 = .ok (.aload_n 0, 1) := by decide +kernel
theorem dX7_rentOf_15 : decode cX7_rentOf 15 = .ok (.getfield 101, 3) := by decide +kernel
theorem dX7_rentOf_18 : decode cX7_rentOf 18 = .ok (.bipush 8, 2) := by decide +kernel
theorem dX7_rentOf_20 : decode cX7_rentOf 20 = .ok (.aload_n 0, 1) := by decide +kernel
theorem dX7_rentOf_21 : decode cX7_rentOf 21 = .ok (.iload_n 1, 1) := by decide +kernel
theorem dX7_rentOf_22 : decode cX7_rentOf 22 = .ok (.invokevirtual 330, 3) := by decide +kernel
theorem dX7_rentOf_25 : decode cX7_rentOf 25 = .ok (.iastore, 1) := by decide +kernel
theorem dX7_rentOf_26 : decode cX7_rentOf 26 = .ok (.aload_n 0, 1) := by decide +kernel
theorem dX7_rentOf_27 : decode cX7_rentOf 27 = .ok (.iconst 2, 1) := by decide +kernel
theorem dX7_rentOf_28 : decode cX7_rentOf 28 = .ok (.aload_n 0, 1) := by decide +kernel
theorem dX7_rentOf_29 : decode cX7_rentOf 29 = .ok (.getfield 101, 3) := by decide +kernel
theorem dX7_rentOf_32 : decode cX7_rentOf 32 = .ok (.bipush 6, 2) := by decide +kernel
theorem dX7_rentOf_34 : decode cX7_rentOf 34 = .ok (.iaload, 1) := by decide +kernel
theorem dX7_rentOf_35 : decode cX7_rentOf 35 = .ok (.invokevirtual 324, 3) := by decide +kernel
theorem dX7_rentOf_38 : decode cX7_rentOf 38 = .ok (.iconst 0, 1) := by decide +kernel
theorem dX7_rentOf_39 : decode cX7_rentOf 39 = .ok (.bipush 99, 2) := by decide +kernel
theorem dX7_rentOf_41 : decode cX7_rentOf 41 = .ok (.invokestatic 327, 3) := by decide +kernel
theorem dX7_rentOf_44 : decode cX7_rentOf 44 = .ok (.ireturn, 1) := by decide +kernel
theorem dX7_lateOf_0 : decode cX7_lateOf 0 = .ok (.aload_n 0, 1) := by decide +kernel
theorem dX7_lateOf_1 : decode cX7_lateOf 1 = .ok (.aload_n 0, 1) := by decide +kernel
theorem dX7_lateOf_2 : decode cX7_lateOf 2 = .ok (.getfield 110, 3) := by decide +kernel
theorem dX7_lateOf_5 : decode cX7_lateOf 5 = .ok (.bipush 16, 2) := by decide +kernel
theorem dX7_lateOf_7 : decode cX7_lateOf 7 = .ok (.iload_n 1, 1) := by decide +kernel
theorem dX7_lateOf_8 : decode cX7_lateOf 8 = .ok (.iadd, 1) := by decide +kernel
theorem dX7_lateOf_9 : decode cX7_lateOf 9 = .ok (.iaload, 1) := by decide +kernel
theorem dX7_lateOf_10 : decode cX7_lateOf 10 = .ok (.iload_n 1, 1) := by decide +kernel
theorem dX7_lateOf_11 : decode cX7_lateOf 11 = .ok (.invokevirtual 321, 3) := by decide +kernel
theorem dX7_lateOf_14 : decode cX7_lateOf 14 = .ok (.aload_n 0, 1) := by decide +kernel
theorem dX7_lateOf_15 : decode cX7_lateOf 15 = .ok (.iconst 3, 1) := by decide +kernel
theorem dX7_lateOf_16 : decode cX7_lateOf 16 = .ok (.iconst 0, 1) := by decide +kernel
theorem dX7_lateOf_17 : decode cX7_lateOf 17 = .ok (.invokevirtual 324, 3) := by decide +kernel
theorem dX7_lateOf_20 : decode cX7_lateOf 20 = .ok (.iconst 0, 1) := by decide +kernel
theorem dX7_lateOf_21 : decode cX7_lateOf 21 = .ok (.bipush 100, 2) := by decide +kernel
theorem dX7_lateOf_23 : decode cX7_lateOf 23 = .ok (.invokestatic 327, 3) := by decide +kernel
theorem dX7_lateOf_26 : decode cX7_lateOf 26 = .ok (.ireturn, 1) := by decide +kernel
theorem dX7_isAlone_0 : decode cX7_isAlone 0 = .ok (.aload_n 0, 1) := by decide +kernel
theorem dX7_isAlone_1 : decode cX7_isAlone 1 = .ok (.getfield 43, 3) := by decide +kernel
theorem dX7_isAlone_4 : decode cX7_isAlone 4 = .ok (.aload_n 0, 1) := by decide +kernel
theorem dX7_isAlone_5 : decode cX7_isAlone 5 = .ok (.getfield 218, 3) := by decide +kernel
theorem dX7_isAlone_8 : decode cX7_isAlone 8 = .ok (.iaload, 1) := by decide +kernel
theorem dX7_isAlone_9 : decode cX7_isAlone 9 = .ok (.iconst 1, 1) := by decide +kernel
theorem dX7_isAlone_10 : decode cX7_isAlone 10 = .ok (.if_icmp .ne 7, 3) := by decide +kernel
theorem dX7_isAlone_13 : decode cX7_isAlone 13 = .ok (.iconst 1, 1) := by decide +kernel
theorem dX7_isAlone_14 : decode cX7_isAlone 14 = .ok (.goto 4, 3) := by decide +kernel
theorem dX7_isAlone_17 : decode cX7_isAlone 17 = .ok (.iconst 0, 1) := by decide +kernel
theorem dX7_isAlone_18 : decode cX7_isAlone 18 = .ok (.ireturn, 1) := by decide +kernel
theorem dX7_canOwn_0 : decode cX7_canOwn 0 = .ok (.aload_n 0, 1) := by decide +kernel
theorem dX7_canOwn_1 : decode cX7_canOwn 1 = .ok (.invokevirtual 333, 3) := by decide +kernel
theorem dX7_canOwn_4 : decode cX7_canOwn 4 = .ok (.ifCond .ne 11, 3) := by decide +kernel
theorem dX7_canOwn_7 : decode cX7_canOwn 7 = .ok (.aload_n 0, 1) := by decide +kernel
theorem dX7_canOwn_8 : decode cX7_canOwn 8 = .ok (.iload_n 1, 1) := by decide +kernel
theorem dX7_canOwn_9 : decode cX7_canOwn 9 = .ok (.invokevirtual 337, 3) := by decide +kernel
theorem dX7_canOwn_12 : decode cX7_canOwn 12 = .ok (.ifCond .eq 7, 3) := by decide +kernel
theorem dX7_canOwn_15 : decode cX7_canOwn 15 = .ok (.iconst 1, 1) := by decide +kernel
theorem dX7_canOwn_16 : decode cX7_canOwn 16 = .ok (.goto 4, 3) := by decide +kernel
theorem dX7_canOwn_19 : decode cX7_canOwn 19 = .ok (.iconst 0, 1) := by decide +kernel
theorem dX7_canOwn_20 : decode cX7_canOwn 20 = .ok (.ireturn, 1) := by decide +kernel
theorem dX7_canLeft_0 : decode cX7_canLeft 0 = .ok (.aload_n 0, 1) := by decide +kernel
theorem dX7_canLeft_1 : decode cX7_canLeft 1 = .ok (.invokevirtual 333, 3) := by decide +kernel
theorem dX7_canLeft_4 : decode cX7_canLeft 4 = .ok (.ifCond .ne 24, 3) := by decide +kernel
theorem dX7_canLeft_7 : decode cX7_canLeft 7 = .ok (.aload_n 0, 1) := by decide +kernel
theorem dX7_canLeft_8 : decode cX7_canLeft 8 = .ok (.getfield 110, 3) := by decide +kernel
theorem dX7_canLeft_11 : decode cX7_canLeft 11 = .ok (.bipush 40, 2) := by decide +kernel
theorem dX7_canLeft_13 : decode cX7_canLeft 13 = .ok (.aload_n 0, 1) := by decide +kernel
theorem dX7_canLeft_14 : decode cX7_canLeft 14 = .ok (.iload_n 1, 1) := by decide +kernel
theorem dX7_canLeft_15 : decode cX7_canLeft 15 = .ok (.invokevirtual 340, 3) := by decide +kernel
theorem dX7_canLeft_18 : decode cX7_canLeft 18 = .ok (.iadd, 1) := by decide +kernel
theorem dX7_canLeft_19 : decode cX7_canLeft 19 = .ok (.iaload, 1) := by decide +kernel
theorem dX7_canLeft_20 : decode cX7_canLeft 20 = .ok (.iconst 1, 1) := by decide +kernel
theorem dX7_canLeft_21 : decode cX7_canLeft 21 = .ok (.if_icmp .eq 7, 3) := by decide +kernel
theorem dX7_canLeft_24 : decode cX7_canLeft 24 = .ok (.iconst 1, 1) := by decide +kernel
theorem dX7_canLeft_25 : decode cX7_canLeft 25 = .ok (.goto 4, 3) := by decide +kernel
theorem dX7_canLeft_28 : decode cX7_canLeft 28 = .ok (.iconst 0, 1) := by decide +kernel
theorem dX7_canLeft_29 : decode cX7_canLeft 29 = .ok (.ireturn, 1) := by decide +kernel
theorem dX7_canRight_0 : decode cX7_canRight 0 = .ok (.aload_n 0, 1) := by decide +kernel
theorem dX7_canRight_1 : decode cX7_canRight 1 = .ok (.invokevirtual 333, 3) := by decide +kernel
theorem dX7_canRight_4 : decode cX7_canRight 4 = .ok (.ifCond .ne 45, 3) := by decide +kernel
theorem dX7_canRight_7 : decode cX7_canRight 7 = .ok (.aload_n 0, 1) := by decide +kernel
theorem dX7_canRight_8 : decode cX7_canRight 8 = .ok (.getfield 110, 3) := by decide +kernel
theorem dX7_canRight_11 : decode cX7_canRight 11 = .ok (.bipush 40, 2) := by decide +kernel
theorem dX7_canRight_13 : decode cX7_canRight 13 = .ok (.aload_n 0, 1) := by decide +kernel
theorem dX7_canRight_14 : decode cX7_canRight 14 = .ok (.iload_n 1, 1) := by decide +kernel
theorem dX7_canRight_15 : decode cX7_canRight 15 = .ok (.invokevirtual 343, 3) := by decide +kernel
theorem dX7_canRight_18 : decode cX7_canRight 18 = .ok (.iadd, 1) := by decide +kernel
theorem dX7_canRight_19 : decode cX7_canRight 19 = .ok (.iaload, 1) := by decide +kernel
theorem dX7_canRight_20 : decode cX7_canRight 20 = .ok (.iconst 1, 1) := by decide +kernel
theorem dX7_canRight_21 : decode cX7_canRight 21 = .ok (.if_icmp .eq 28, 3) := by decide +kernel
theorem dX7_canRight_24 : decode cX7_canRight 24 = .ok (.aload_n 0, 1) := by decide +kernel
theorem dX7_canRight_25 : decode cX7_canRight 25 = .ok (.getfield 55, 3) := by decide +kernel
theorem dX7_canRight_28 : decode cX7_canRight 28 = .ok (.bipush 8, 2) := by decide +kernel
theorem dX7_canRight_30 : decode cX7_canRight 30 = .ok (.aload_n 0, 1) := by decide +kernel
theorem dX7_canRight_31 : decode cX7_canRight 31 = .ok (.getfield 218, 3) := by decide +kernel
theorem dX7_canRight_34 : decode cX7_canRight 34 = .ok (.imul, 1) := by decide +kernel
theorem dX7_canRight_35 : decode cX7_canRight 35 = .ok (.aload_n 0, 1) := by decide +kernel
theorem dX7_canRight_36 : decode cX7_canRight 36 = .ok (.iload_n 1, 1) := by decide +kernel
theorem dX7_canRight_37 : decode cX7_canRight 37 = .ok (.invokevirtual 343, 3) := by decide +kernel
theorem dX7_canRight_40 : decode cX7_canRight 40 = .ok (.iadd, 1) := by decide +kernel
theorem dX7_canRight_41 : decode cX7_canRight 41 = .ok (.baload, 1) := by decide +kernel
theorem dX7_canRight_42 : decode cX7_canRight 42 = .ok (.ifCond .eq 7, 3) := by decide +kernel
theorem dX7_canRight_45 : decode cX7_canRight 45 = .ok (.iconst 1, 1) := by decide +kernel
theorem dX7_canRight_46 : decode cX7_canRight 46 = .ok (.goto 4, 3) := by decide +kernel
theorem dX7_canRight_49 : decode cX7_canRight 49 = .ok (.iconst 0, 1) := by decide +kernel
theorem dX7_canRight_50 : decode cX7_canRight 50 = .ok (.ireturn, 1) := by decide +kernel
theorem dX7_letterOf_0 : decode cX7_letterOf 0 = .ok (.aload_n 0, 1) := by decide +kernel
theorem dX7_letterOf_1 : decode cX7_letterOf 1 = .ok (.iload_n 1, 1) := by decide +kernel
theorem dX7_letterOf_2 : decode cX7_letterOf 2 = .ok (.invokevirtual 346, 3) := by decide +kernel
theorem dX7_letterOf_5 : decode cX7_letterOf 5 = .ok (.ifCond .eq 5, 3) := by decide +kernel
theorem dX7_letterOf_8 : decode cX7_letterOf 8 = .ok (.iload_n 1, 1) := by decide +kernel
theorem dX7_letterOf_9 : decode cX7_letterOf 9 = .ok (.ireturn, 1) := by decide +kernel
theorem dX7_letterOf_10 : decode cX7_letterOf 10 = .ok (.aload_n 0, 1) := by decide +kernel
theorem dX7_letterOf_11 : decode cX7_letterOf 11 = .ok (.iload_n 1, 1) := by decide +kernel
theorem dX7_letterOf_12 : decode cX7_letterOf 12 = .ok (.invokevirtual 349, 3) := by decide +kernel
theorem dX7_letterOf_15 : decode cX7_letterOf 15 = .ok (.ifCond .eq 22, 3) := by decide +kernel
theorem dX7_letterOf_18 : decode cX7_letterOf 18 = .ok (.aload_n 0, 1) := by decide +kernel
theorem dX7_letterOf_19 : decode cX7_letterOf 19 = .ok (.aload_n 0, 1) := by decide +kernel
theorem dX7_letterOf_20 : decode cX7_letterOf 20 = .ok (.iload_n 1, 1) := by decide +kernel
theorem dX7_letterOf_21 : decode cX7_letterOf 21 = .ok (.invokevirtual 340, 3) := by decide +kernel
theorem dX7_letterOf_24 : decode cX7_letterOf 24 = .ok (.iload_n 1, 1) := by decide +kernel
theorem dX7_letterOf_25 : decode cX7_letterOf 25 = .ok (.invokevirtual 352, 3) := by decide +kernel
theorem dX7_letterOf_28 : decode cX7_letterOf 28 = .ok (.ifCond .eq 9, 3) := by decide +kernel
theorem dX7_letterOf_31 : decode cX7_letterOf 31 = .ok (.aload_n 0, 1) := by decide +kernel
theorem dX7_letterOf_32 : decode cX7_letterOf 32 = .ok (.iload_n 1, 1) := by decide +kernel
theorem dX7_letterOf_33 : decode cX7_letterOf 33 = .ok (.invokevirtual 340, 3) := by decide +kernel
theorem dX7_letterOf_36 : decode cX7_letterOf 36 = .ok (.ireturn, 1) := by decide +kernel
theorem dX7_letterOf_37 : decode cX7_letterOf 37 = .ok (.aload_n 0, 1) := by decide +kernel
theorem dX7_letterOf_38 : decode cX7_letterOf 38 = .ok (.iload_n 1, 1) := by decide +kernel
theorem dX7_letterOf_39 : decode cX7_letterOf 39 = .ok (.invokevirtual 356, 3) := by decide +kernel
theorem dX7_letterOf_42 : decode cX7_letterOf 42 = .ok (.ifCond .eq 22, 3) := by decide +kernel
theorem dX7_letterOf_45 : decode cX7_letterOf 45 = .ok (.aload_n 0, 1) := by decide +kernel
theorem dX7_letterOf_46 : decode cX7_letterOf 46 = .ok (.aload_n 0, 1) := by decide +kernel
theorem dX7_letterOf_47 : decode cX7_letterOf 47 = .ok (.iload_n 1, 1) := by decide +kernel
theorem dX7_letterOf_48 : decode cX7_letterOf 48 = .ok (.invokevirtual 343, 3) := by decide +kernel
theorem dX7_letterOf_51 : decode cX7_letterOf 51 = .ok (.iload_n 1, 1) := by decide +kernel
theorem dX7_letterOf_52 : decode cX7_letterOf 52 = .ok (.invokevirtual 352, 3) := by decide +kernel
theorem dX7_letterOf_55 : decode cX7_letterOf 55 = .ok (.ifCond .eq 9, 3) := by decide +kernel
theorem dX7_letterOf_58 : decode cX7_letterOf 58 = .ok (.aload_n 0, 1) := by decide +kernel
theorem dX7_letterOf_59 : decode cX7_letterOf 59 = .ok (.iload_n 1, 1) := by decide +kernel
theorem dX7_letterOf_60 : decode cX7_letterOf 60 = .ok (.invokevirtual 343, 3) := by decide +kernel
theorem dX7_letterOf_63 : decode cX7_letterOf 63 = .ok (.ireturn, 1) := by decide +kernel
theorem dX7_letterOf_64 : decode cX7_letterOf 64 = .ok (.iconst (-1), 1) := by decide +kernel
theorem dX7_letterOf_65 : decode cX7_letterOf 65 = .ok (.ireturn, 1) := by decide +kernel
theorem dX7_comesIn_0 : decode cX7_comesIn 0 = .ok (.aload_n 0, 1) := by decide +kernel
theorem dX7_comesIn_1 : decode cX7_comesIn 1 = .ok (.getfield 110, 3) := by decide +kernel
theorem dX7_comesIn_4 : decode cX7_comesIn 4 = .ok (.bipush 40, 2) := by decide +kernel
theorem dX7_comesIn_6 : decode cX7_comesIn 6 = .ok (.iload_n 1, 1) := by decide +kernel
theorem dX7_comesIn_7 : decode cX7_comesIn 7 = .ok (.iadd, 1) := by decide +kernel
theorem dX7_comesIn_8 : decode cX7_comesIn 8 = .ok (.iaload, 1) := by decide +kernel
theorem dX7_comesIn_9 : decode cX7_comesIn 9 = .ok (.iconst 2, 1) := by decide +kernel
theorem dX7_comesIn_10 : decode cX7_comesIn 10 = .ok (.if_icmp .eq 5, 3) := by decide +kernel
theorem dX7_comesIn_13 : decode cX7_comesIn 13 = .ok (.iconst 0, 1) := by decide +kernel
theorem dX7_comesIn_14 : decode cX7_comesIn 14 = .ok (.ireturn, 1) := by decide +kernel
theorem dX7_comesIn_15 : decode cX7_comesIn 15 = .ok (.aload_n 0, 1) := by decide +kernel
theorem dX7_comesIn_16 : decode cX7_comesIn 16 = .ok (.iload_n 1, 1) := by decide +kernel
theorem dX7_comesIn_17 : decode cX7_comesIn 17 = .ok (.invokevirtual 359, 3) := by decide +kernel
theorem dX7_comesIn_20 : decode cX7_comesIn 20 = .ok (.istore_n 2, 1) := by decide +kernel
theorem dX7_comesIn_21 : decode cX7_comesIn 21 = .ok (.iload_n 2, 1) := by decide +kernel
theorem dX7_comesIn_22 : decode cX7_comesIn 22 = .ok (.ifCond .ge 5, 3) := by decide +kernel
theorem dX7_comesIn_25 : decode cX7_comesIn 25 = .ok (.iconst 0, 1) := by decide +kernel
theorem dX7_comesIn_26 : decode cX7_comesIn 26 = .ok (.ireturn, 1) := by decide +kernel
theorem dX7_comesIn_27 : decode cX7_comesIn 27 = .ok (.aload_n 0, 1) := by decide +kernel
theorem dX7_comesIn_28 : decode cX7_comesIn 28 = .ok (.getfield 110, 3) := by decide +kernel
theorem dX7_comesIn_31 : decode cX7_comesIn 31 = .ok (.bipush 40, 2) := by decide +kernel
theorem dX7_comesIn_33 : decode cX7_comesIn 33 = .ok (.iload_n 1, 1) := by decide +kernel
theorem dX7_comesIn_34 : decode cX7_comesIn 34 = .ok (.iadd, 1) := by decide +kernel
theorem dX7_comesIn_35 : decode cX7_comesIn 35 = .ok (.iconst 0, 1) := by decide +kernel
theorem dX7_comesIn_36 : decode cX7_comesIn 36 = .ok (.iastore, 1) := by decide +kernel
theorem dX7_comesIn_37 : decode cX7_comesIn 37 = .ok (.aload_n 0, 1) := by decide +kernel
theorem dX7_comesIn_38 : decode cX7_comesIn 38 = .ok (.getfield 110, 3) := by decide +kernel
theorem dX7_comesIn_41 : decode cX7_comesIn 41 = .ok (.bipush 48, 2) := by decide +kernel
theorem dX7_comesIn_43 : decode cX7_comesIn 43 = .ok (.iload_n 1, 1) := by decide +kernel
theorem dX7_comesIn_44 : decode cX7_comesIn 44 = .ok (.iadd, 1) := by decide +kernel
theorem dX7_comesIn_45 : decode cX7_comesIn 45 = .ok (.iconst 0, 1) := by decide +kernel
theorem dX7_comesIn_46 : decode cX7_comesIn 46 = .ok (.iastore, 1) := by decide +kernel
theorem dX7_comesIn_47 : decode cX7_comesIn 47 = .ok (.aload_n 0, 1) := by decide +kernel
theorem dX7_comesIn_48 : decode cX7_comesIn 48 = .ok (.getfield 110, 3) := by decide +kernel
theorem dX7_comesIn_51 : decode cX7_comesIn 51 = .ok (.bipush 64, 2) := by decide +kernel
theorem dX7_comesIn_53 : decode cX7_comesIn 53 = .ok (.iload_n 1, 1) := by decide +kernel
theorem dX7_comesIn_54 : decode cX7_comesIn 54 = .ok (.iadd, 1) := by decide +kernel
theorem dX7_comesIn_55 : decode cX7_comesIn 55 = .ok (.iload_n 2, 1) := by decide +kernel
theorem dX7_comesIn_56 : decode cX7_comesIn 56 = .ok (.iastore, 1) := by decide +kernel
theorem dX7_comesIn_57 : decode cX7_comesIn 57 = .ok (.aload_n 0, 1) := by decide +kernel
theorem dX7_comesIn_58 : decode cX7_comesIn 58 = .ok (.getfield 110, 3) := by decide +kernel
theorem dX7_comesIn_61 : decode cX7_comesIn 61 = .ok (.bipush 86, 2) := by decide +kernel
theorem dX7_comesIn_63 : decode cX7_comesIn 63 = .ok (.dup2, 1) := by decide +kernel
theorem dX7_comesIn_64 : decode cX7_comesIn 64 = .ok (.iaload, 1) := by decide +kernel
theorem dX7_comesIn_65 : decode cX7_comesIn 65 = .ok (.iconst 1, 1) := by decide +kernel
theorem dX7_comesIn_66 : decode cX7_comesIn 66 = .ok (.iadd, 1) := by decide +kernel
theorem dX7_comesIn_67 : decode cX7_comesIn 67 = .ok (.iastore, 1) := by decide +kernel
theorem dX7_comesIn_68 : decode cX7_comesIn 68 = .ok (.iload_n 2, 1) := by decide +kernel
theorem dX7_comesIn_69 : decode cX7_comesIn 69 = .ok (.iload_n 1, 1) := by decide +kernel
theorem dX7_comesIn_70 : decode cX7_comesIn 70 = .ok (.if_icmp .ne 22, 3) := by decide +kernel
theorem dX7_comesIn_73 : decode cX7_comesIn 73 = .ok (.aload_n 0, 1) := by decide +kernel
theorem dX7_comesIn_74 : decode cX7_comesIn 74 = .ok (.iload_n 1, 1) := by decide +kernel
theorem dX7_comesIn_75 : decode cX7_comesIn 75 = .ok (.invokevirtual 337, 3) := by decide +kernel
theorem dX7_comesIn_78 : decode cX7_comesIn 78 = .ok (.ifCond .eq 14, 3) := by decide +kernel
theorem dX7_comesIn_81 : decode cX7_comesIn 81 = .ok (.aload_n 0, 1) := by decide +kernel
theorem dX7_comesIn_82 : decode cX7_comesIn 82 = .ok (.getfield 110, 3) := by decide +kernel
theorem dX7_comesIn_85 : decode cX7_comesIn 85 = .ok (.bipush 87, 2) := by decide +kernel
theorem dX7_comesIn_87 : decode cX7_comesIn 87 = .ok (.dup2, 1) := by decide +kernel
theorem dX7_comesIn_88 : decode cX7_comesIn 88 = .ok (.iaload, 1) := by decide +kernel
theorem dX7_comesIn_89 : decode cX7_comesIn 89 = .ok (.iconst 1, 1) := by decide +kernel
theorem dX7_comesIn_90 : decode cX7_comesIn 90 = .ok (.iadd, 1) := by decide +kernel
theorem dX7_comesIn_91 : decode cX7_comesIn 91 = .ok (.iastore, 1) := by decide +kernel
theorem dX7_comesIn_92 : decode cX7_comesIn 92 = .ok (.iconst 1, 1) := by decide +kernel
theorem dX7_comesIn_93 : decode cX7_comesIn 93 = .ok (.ireturn, 1) := by decide +kernel
theorem dX7_lettersIn_0 : decode cX7_lettersIn 0 = .ok (.iconst 1, 1) := by decide +kernel
theorem dX7_lettersIn_1 : decode cX7_lettersIn 1 = .ok (.istore_n 1, 1) := by decide +kernel
theorem dX7_lettersIn_2 : decode cX7_lettersIn 2 = .ok (.iload_n 1, 1) := by decide +kernel
theorem dX7_lettersIn_3 : decode cX7_lettersIn 3 = .ok (.ifCond .eq 39, 3) := by decide +kernel
theorem dX7_lettersIn_6 : decode cX7_lettersIn 6 = .ok (.iconst 0, 1) := by decide +kernel
theorem dX7_lettersIn_7 : decode cX7_lettersIn 7 = .ok (.istore_n 1, 1) := by decide +kernel
theorem dX7_lettersIn_8 : decode cX7_lettersIn 8 = .ok (.iconst 0, 1) := by decide +kernel
theorem dX7_lettersIn_9 : decode cX7_lettersIn 9 = .ok (.istore_n 2, 1) := by decide +kernel
theorem dX7_lettersIn_10 : decode cX7_lettersIn 10 = .ok (.iload_n 2, 1) := by decide +kernel
theorem dX7_lettersIn_11 : decode cX7_lettersIn 11 = .ok (.aload_n 0, 1) := by decide +kernel
theorem dX7_lettersIn_12 : decode cX7_lettersIn 12 = .ok (.getfield 43, 3) := by decide +kernel
theorem dX7_lettersIn_15 : decode cX7_lettersIn 15 = .ok (.aload_n 0, 1) := by decide +kernel
theorem dX7_lettersIn_16 : decode cX7_lettersIn 16 = .ok (.getfield 218, 3) := by decide +kernel
theorem dX7_lettersIn_19 : decode cX7_lettersIn 19 = .ok (.iaload, 1) := by decide +kernel
theorem dX7_lettersIn_20 : decode cX7_lettersIn 20 = .ok (.if_icmp .ge 19, 3) := by decide +kernel
theorem dX7_lettersIn_23 : decode cX7_lettersIn 23 = .ok (.aload_n 0, 1) := by decide +kernel
theorem dX7_lettersIn_24 : decode cX7_lettersIn 24 = .ok (.iload_n 2, 1) := by decide +kernel
theorem dX7_lettersIn_25 : decode cX7_lettersIn 25 = .ok (.invokevirtual 362, 3) := by decide +kernel
theorem dX7_lettersIn_28 : decode cX7_lettersIn 28 = .ok (.ifCond .eq 5, 3) := by decide +kernel
theorem dX7_lettersIn_31 : decode cX7_lettersIn 31 = .ok (.iconst 1, 1) := by decide +kernel
theorem dX7_lettersIn_32 : decode cX7_lettersIn 32 = .ok (.istore_n 1, 1) := by decide +kernel
theorem dX7_lettersIn_33 : decode cX7_lettersIn 33 = .ok (.iinc 2 1, 3) := by decide +kernel
theorem dX7_lettersIn_36 : decode cX7_lettersIn 36 = .ok (.goto (-26), 3) := by decide +kernel
theorem dX7_lettersIn_39 : decode cX7_lettersIn 39 = .ok (.goto (-37), 3) := by decide +kernel
theorem dX7_lettersIn_42 : decode cX7_lettersIn 42 = .ok (.return_, 1) := by decide +kernel
theorem dX7_sparesGo_0 : decode cX7_sparesGo 0 = .ok (.iconst 0, 1) := by decide +kernel
theorem dX7_sparesGo_1 : decode cX7_sparesGo 1 = .ok (.istore_n 1, 1) := by decide +kernel
theorem dX7_sparesGo_2 : decode cX7_sparesGo 2 = .ok (.iload_n 1, 1) := by decide +kernel
theorem dX7_sparesGo_3 : decode cX7_sparesGo 3 = .ok (.aload_n 0, 1) := by decide +kernel
theorem dX7_sparesGo_4 : decode cX7_sparesGo 4 = .ok (.getfield 59, 3) := by decide +kernel
theorem dX7_sparesGo_7 : decode cX7_sparesGo 7 = .ok (.aload_n 0, 1) := by decide +kernel
theorem dX7_sparesGo_8 : decode cX7_sparesGo 8 = .ok (.getfield 218, 3) := by decide +kernel
theorem dX7_sparesGo_11 : decode cX7_sparesGo 11 = .ok (.iaload, 1) := by decide +kernel
theorem dX7_sparesGo_12 : decode cX7_sparesGo 12 = .ok (.if_icmp .ge 64, 3) := by decide +kernel
theorem dX7_sparesGo_15 : decode cX7_sparesGo 15 = .ok (.aload_n 0, 1) := by decide +kernel
theorem dX7_sparesGo_16 : decode cX7_sparesGo 16 = .ok (.getfield 110, 3) := by decide +kernel
theorem dX7_sparesGo_19 : decode cX7_sparesGo 19 = .ok (.bipush 78, 2) := by decide +kernel
theorem dX7_sparesGo_21 : decode cX7_sparesGo 21 = .ok (.iload_n 1, 1) := by decide +kernel
theorem dX7_sparesGo_22 : decode cX7_sparesGo 22 = .ok (.iadd, 1) := by decide +kernel
theorem dX7_sparesGo_23 : decode cX7_sparesGo 23 = .ok (.iaload, 1) := by decide +kernel
theorem dX7_sparesGo_24 : decode cX7_sparesGo 24 = .ok (.ifCond .lt 46, 3) := by decide +kernel
theorem dX7_sparesGo_27 : decode cX7_sparesGo 27 = .ok (.aload_n 0, 1) := by decide +kernel
theorem dX7_sparesGo_28 : decode cX7_sparesGo 28 = .ok (.getfield 110, 3) := by decide +kernel
theorem dX7_sparesGo_31 : decode cX7_sparesGo 31 = .ok (.bipush 78, 2) := by decide +kernel
theorem dX7_sparesGo_33 : decode cX7_sparesGo 33 = .ok (.iload_n 1, 1) := by decide +kernel
theorem dX7_sparesGo_34 : decode cX7_sparesGo 34 = .ok (.iadd, 1) := by decide +kernel
theorem dX7_sparesGo_35 : decode cX7_sparesGo 35 = .ok (.iaload, 1) := by decide +kernel
theorem dX7_sparesGo_36 : decode cX7_sparesGo 36 = .ok (.aload_n 0, 1) := by decide +kernel
theorem dX7_sparesGo_37 : decode cX7_sparesGo 37 = .ok (.getfield 110, 3) := by decide +kernel
theorem dX7_sparesGo_40 : decode cX7_sparesGo 40 = .ok (.bipush 72, 2) := by decide +kernel
theorem dX7_sparesGo_42 : decode cX7_sparesGo 42 = .ok (.iload_n 1, 1) := by decide +kernel
theorem dX7_sparesGo_43 : decode cX7_sparesGo 43 = .ok (.iadd, 1) := by decide +kernel
theorem dX7_sparesGo_44 : decode cX7_sparesGo 44 = .ok (.iaload, 1) := by decide +kernel
theorem dX7_sparesGo_45 : decode cX7_sparesGo 45 = .ok (.if_icmp .eq 25, 3) := by decide +kernel
theorem dX7_sparesGo_48 : decode cX7_sparesGo 48 = .ok (.aload_n 0, 1) := by decide +kernel
theorem dX7_sparesGo_49 : decode cX7_sparesGo 49 = .ok (.getfield 110, 3) := by decide +kernel
theorem dX7_sparesGo_52 : decode cX7_sparesGo 52 = .ok (.bipush 72, 2) := by decide +kernel
theorem dX7_sparesGo_54 : decode cX7_sparesGo 54 = .ok (.iload_n 1, 1) := by decide +kernel
theorem dX7_sparesGo_55 : decode cX7_sparesGo 55 = .ok (.iadd, 1) := by decide +kernel
theorem dX7_sparesGo_56 : decode cX7_sparesGo 56 = .ok (.aload_n 0, 1) := by decide +kernel
theorem dX7_sparesGo_57 : decode cX7_sparesGo 57 = .ok (.aload_n 0, 1) := by decide +kernel
theorem dX7_sparesGo_58 : decode cX7_sparesGo 58 = .ok (.getfield 110, 3) := by decide +kernel
theorem dX7_sparesGo_61 : decode cX7_sparesGo 61 = .ok (.bipush 72, 2) := by decide +kernel
theorem dX7_sparesGo_63 : decode cX7_sparesGo 63 = .ok (.iload_n 1, 1) := by decide +kernel
theorem dX7_sparesGo_64 : decode cX7_sparesGo 64 = .ok (.iadd, 1) := by decide +kernel
theorem dX7_sparesGo_65 : decode cX7_sparesGo 65 = .ok (.iaload, 1) := by decide +kernel
theorem dX7_sparesGo_66 : decode cX7_sparesGo 66 = .ok (.invokevirtual 343, 3) := by decide +kernel
theorem dX7_sparesGo_69 : decode cX7_sparesGo 69 = .ok (.iastore, 1) := by decide +kernel
theorem dX7_sparesGo_70 : decode cX7_sparesGo 70 = .ok (.iinc 1 1, 3) := by decide +kernel
theorem dX7_sparesGo_73 : decode cX7_sparesGo 73 = .ok (.goto (-71), 3) := by decide +kernel
theorem dX7_sparesGo_76 : decode cX7_sparesGo 76 = .ok (.return_, 1) := by decide +kernel
theorem dX7_theyGo_0 : decode cX7_theyGo 0 = .ok (.iconst 0, 1) := by decide +kernel
theorem dX7_theyGo_1 : decode cX7_theyGo 1 = .ok (.istore_n 2, 1) := by decide +kernel
theorem dX7_theyGo_2 : decode cX7_theyGo 2 = .ok (.iload_n 2, 1) := by decide +kernel
theorem dX7_theyGo_3 : decode cX7_theyGo 3 = .ok (.aload_n 0, 1) := by decide +kernel
theorem dX7_theyGo_4 : decode cX7_theyGo 4 = .ok (.getfield 43, 3) := by decide +kernel
theorem dX7_theyGo_7 : decode cX7_theyGo 7 = .ok (.aload_n 0, 1) := by decide +kernel
theorem dX7_theyGo_8 : decode cX7_theyGo 8 = .ok (.getfield 218, 3) := by decide +kernel
theorem dX7_theyGo_11 : decode cX7_theyGo 11 = .ok (.iaload, 1) := by decide +kernel
theorem dX7_theyGo_12 : decode cX7_theyGo 12 = .ok (.if_icmp .ge 87, 3) := by decide +kernel
theorem dX7_theyGo_15 : decode cX7_theyGo 15 = .ok (.aload_n 0, 1) := by decide +kernel
theorem dX7_theyGo_16 : decode cX7_theyGo 16 = .ok (.getfield 113, 3) := by decide +kernel
theorem dX7_theyGo_19 : decode cX7_theyGo 19 = .ok (.iload_n 2, 1) := by decide +kernel
theorem dX7_theyGo_20 : decode cX7_theyGo 20 = .ok (.aload_n 0, 1) := by decide +kernel
theorem dX7_theyGo_21 : decode cX7_theyGo 21 = .ok (.getfield 110, 3) := by decide +kernel
theorem dX7_theyGo_24 : decode cX7_theyGo 24 = .ok (.iload_n 2, 1) := by decide +kernel
theorem dX7_theyGo_25 : decode cX7_theyGo 25 = .ok (.iaload, 1) := by decide +kernel
theorem dX7_theyGo_26 : decode cX7_theyGo 26 = .ok (.iload_n 1, 1) := by decide +kernel
theorem dX7_theyGo_27 : decode cX7_theyGo 27 = .ok (.if_icmp .ne 32, 3) := by decide +kernel
theorem dX7_theyGo_30 : decode cX7_theyGo 30 = .ok (.aload_n 0, 1) := by decide +kernel
theorem dX7_theyGo_31 : decode cX7_theyGo 31 = .ok (.getfield 110, 3) := by decide +kernel
theorem dX7_theyGo_34 : decode cX7_theyGo 34 = .ok (.bipush 40, 2) := by decide +kernel
theorem dX7_theyGo_36 : decode cX7_theyGo 36 = .ok (.iload_n 2, 1) := by decide +kernel
theorem dX7_theyGo_37 : decode cX7_theyGo 37 = .ok (.iadd, 1) := by decide +kernel
theorem dX7_theyGo_38 : decode cX7_theyGo 38 = .ok (.iaload, 1) := by decide +kernel
theorem dX7_theyGo_39 : decode cX7_theyGo 39 = .ok (.iconst 1, 1) := by decide +kernel
theorem dX7_theyGo_40 : decode cX7_theyGo 40 = .ok (.if_icmp .eq 19, 3) := by decide +kernel
theorem dX7_theyGo_43 : decode cX7_theyGo 43 = .ok (.aload_n 0, 1) := by decide +kernel
theorem dX7_theyGo_44 : decode cX7_theyGo 44 = .ok (.getfield 110, 3) := by decide +kernel
theorem dX7_theyGo_47 : decode cX7_theyGo 47 = .ok (.bipush 32, 2) := by decide +kernel
theorem dX7_theyGo_49 : decode cX7_theyGo 49 = .ok (.iload_n 2, 1) := by decide +kernel
theorem dX7_theyGo_50 : decode cX7_theyGo 50 = .ok (.iadd, 1) := by decide +kernel
theorem dX7_theyGo_51 : decode cX7_theyGo 51 = .ok (.iaload, 1) := by decide +kernel
theorem dX7_theyGo_52 : decode cX7_theyGo 52 = .ok (.ifCond .ne 7, 3) := by decide +kernel
theorem dX7_theyGo_55 : decode cX7_theyGo 55 = .ok (.iconst 1, 1) := by decide +kernel
theorem dX7_theyGo_56 : decode cX7_theyGo 56 = .ok (.goto 4, 3) := by decide +kernel
theorem dX7_theyGo_59 : decode cX7_theyGo 59 = .ok (.iconst 0, 1) := by decide +kernel
theorem dX7_theyGo_60 : decode cX7_theyGo 60 = .ok (.bastore, 1) := by decide +kernel
theorem dX7_theyGo_61 : decode cX7_theyGo 61 = .ok (.aload_n 0, 1) := by decide +kernel
theorem dX7_theyGo_62 : decode cX7_theyGo 62 = .ok (.getfield 113, 3) := by decide +kernel
theorem dX7_theyGo_65 : decode cX7_theyGo 65 = .ok (.iload_n 2, 1) := by decide +kernel
theorem dX7_theyGo_66 : decode cX7_theyGo 66 = .ok (.baload, 1) := by decide +kernel
theorem dX7_theyGo_67 : decode cX7_theyGo 67 = .ok (.ifCond .ne 6, 3) := by decide +kernel
theorem dX7_theyGo_70 : decode cX7_theyGo 70 = .ok (.goto 23, 3) := by decide +kernel
theorem dX7_theyGo_73 : decode cX7_theyGo 73 = .ok (.aload_n 0, 1) := by decide +kernel
theorem dX7_theyGo_74 : decode cX7_theyGo 74 = .ok (.getfield 110, 3) := by decide +kernel
theorem dX7_theyGo_77 : decode cX7_theyGo 77 = .ok (.bipush 40, 2) := by decide +kernel
theorem dX7_theyGo_79 : decode cX7_theyGo 79 = .ok (.iload_n 2, 1) := by decide +kernel
theorem dX7_theyGo_80 : decode cX7_theyGo 80 = .ok (.iadd, 1) := by decide +kernel
theorem dX7_theyGo_81 : decode cX7_theyGo 81 = .ok (.iconst 1, 1) := by decide +kernel
theorem dX7_theyGo_82 : decode cX7_theyGo 82 = .ok (.iastore, 1) := by decide +kernel
theorem dX7_theyGo_83 : decode cX7_theyGo 83 = .ok (.aload_n 0, 1) := by decide +kernel
theorem dX7_theyGo_84 : decode cX7_theyGo 84 = .ok (.getfield 110, 3) := by decide +kernel
theorem dX7_theyGo_87 : decode cX7_theyGo 87 = .ok (.bipush 48, 2) := by decide +kernel
theorem dX7_theyGo_89 : decode cX7_theyGo 89 = .ok (.iload_n 2, 1) := by decide +kernel
theorem dX7_theyGo_90 : decode cX7_theyGo 90 = .ok (.iadd, 1) := by decide +kernel
theorem dX7_theyGo_91 : decode cX7_theyGo 91 = .ok (.iconst 0, 1) := by decide +kernel
theorem dX7_theyGo_92 : decode cX7_theyGo 92 = .ok (.iastore, 1) := by decide +kernel
theorem dX7_theyGo_93 : decode cX7_theyGo 93 = .ok (.iinc 2 1, 3) := by decide +kernel
theorem dX7_theyGo_96 : decode cX7_theyGo 96 = .ok (.goto (-94), 3) := by decide +kernel
theorem dX7_theyGo_99 : decode cX7_theyGo 99 = .ok (.return_, 1) := by decide +kernel
theorem dX7_theyCome_0 : decode cX7_theyCome 0 = .ok (.iconst 0, 1) := by decide +kernel
theorem dX7_theyCome_1 : decode cX7_theyCome 1 = .ok (.istore_n 2, 1) := by decide +kernel
theorem dX7_theyCome_2 : decode cX7_theyCome 2 = .ok (.iload_n 2, 1) := by decide +kernel
theorem dX7_theyCome_3 : decode cX7_theyCome 3 = .ok (.aload_n 0, 1) := by decide +kernel
theorem dX7_theyCome_4 : decode cX7_theyCome 4 = .ok (.getfield 43, 3) := by decide +kernel
theorem dX7_theyCome_7 : decode cX7_theyCome 7 = .ok (.aload_n 0, 1) := by decide +kernel
theorem dX7_theyCome_8 : decode cX7_theyCome 8 = .ok (.getfield 218, 3) := by decide +kernel
theorem dX7_theyCome_11 : decode cX7_theyCome 11 = .ok (.iaload, 1) := by decide +kernel
theorem dX7_theyCome_12 : decode cX7_theyCome 12 = .ok (.if_icmp .ge 146, 3) := by decide +kernel
theorem dX7_theyCome_15 : decode cX7_theyCome 15 = .ok (.aload_n 0, 1) := by decide +kernel
theorem dX7_theyCome_16 : decode cX7_theyCome 16 = .ok (.getfield 110, 3) := by decide +kernel
theorem dX7_theyCome_19 : decode cX7_theyCome 19 = .ok (.bipush 56, 2) := by decide +kernel
theorem dX7_theyCome_21 : decode cX7_theyCome 21 = .ok (.iload_n 2, 1) := by decide +kernel
theorem dX7_theyCome_22 : decode cX7_theyCome 22 = .ok (.iadd, 1) := by decide +kernel
theorem dX7_theyCome_23 : decode cX7_theyCome 23 = .ok (.iaload, 1) := by decide +kernel
theorem dX7_theyCome_24 : decode cX7_theyCome 24 = .ok (.iconst 1, 1) := by decide +kernel
theorem dX7_theyCome_25 : decode cX7_theyCome 25 = .ok (.if_icmp .ne 7, 3) := by decide +kernel
theorem dX7_theyCome_28 : decode cX7_theyCome 28 = .ok (.iconst 1, 1) := by decide +kernel
theorem dX7_theyCome_29 : decode cX7_theyCome 29 = .ok (.goto 4, 3) := by decide +kernel
theorem dX7_theyCome_32 : decode cX7_theyCome 32 = .ok (.iconst 0, 1) := by decide +kernel
theorem dX7_theyCome_33 : decode cX7_theyCome 33 = .ok (.istore_n 3, 1) := by decide +kernel
theorem dX7_theyCome_34 : decode cX7_theyCome 34 = .ok (.aload_n 0, 1) := by decide +kernel
theorem dX7_theyCome_35 : decode cX7_theyCome 35 = .ok (.getfield 110, 3) := by decide +kernel
theorem dX7_theyCome_38 : decode cX7_theyCome 38 = .ok (.bipush 56, 2) := by decide +kernel
theorem dX7_theyCome_40 : decode cX7_theyCome 40 = .ok (.iload_n 2, 1) := by decide +kernel
theorem dX7_theyCome_41 : decode cX7_theyCome 41 = .ok (.iadd, 1) := by decide +kernel
theorem dX7_theyCome_42 : decode cX7_theyCome 42 = .ok (.iconst 0, 1) := by decide +kernel
theorem dX7_theyCome_43 : decode cX7_theyCome 43 = .ok (.iastore, 1) := by decide +kernel
theorem dX7_theyCome_44 : decode cX7_theyCome 44 = .ok (.aload_n 0, 1) := by decide +kernel
theorem dX7_theyCome_45 : decode cX7_theyCome 45 = .ok (.getfield 110, 3) := by decide +kernel
theorem dX7_theyCome_48 : decode cX7_theyCome 48 = .ok (.bipush 40, 2) := by decide +kernel
theorem dX7_theyCome_50 : decode cX7_theyCome 50 = .ok (.iload_n 2, 1) := by decide +kernel
theorem dX7_theyCome_51 : decode cX7_theyCome 51 = .ok (.iadd, 1) := by decide +kernel
theorem dX7_theyCome_52 : decode cX7_theyCome 52 = .ok (.iaload, 1) := by decide +kernel
theorem dX7_theyCome_53 : decode cX7_theyCome 53 = .ok (.iconst 1, 1) := by decide +kernel
theorem dX7_theyCome_54 : decode cX7_theyCome 54 = .ok (.if_icmp .ne 98, 3) := by decide +kernel
theorem dX7_theyCome_57 : decode cX7_theyCome 57 = .ok (.aload_n 0, 1) := by decide +kernel
theorem dX7_theyCome_58 : decode cX7_theyCome 58 = .ok (.getfield 113, 3) := by decide +kernel
theorem dX7_theyCome_61 : decode cX7_theyCome 61 = .ok (.iload_n 2, 1) := by decide +kernel
theorem dX7_theyCome_62 : decode cX7_theyCome 62 = .ok (.baload, 1) := by decide +kernel
theorem dX7_theyCome_63 : decode cX7_theyCome 63 = .ok (.ifCond .ne 89, 3) := by decide +kernel
theorem dX7_theyCome_66 : decode cX7_theyCome 66 = .ok (.iload_n 2, 1) := by decide +kernel
theorem dX7_theyCome_67 : decode cX7_theyCome 67 = .ok (.aload_n 0, 1) := by decide +kernel
theorem dX7_theyCome_68 : decode cX7_theyCome 68 = .ok (.getfield 302, 3) := by decide +kernel
theorem dX7_theyCome_71 : decode cX7_theyCome 71 = .ok (.if_icmp .eq 81, 3) := by decide +kernel
theorem dX7_theyCome_74 : decode cX7_theyCome 74 = .ok (.aload_n 0, 1) := by decide +kernel
theorem dX7_theyCome_75 : decode cX7_theyCome 75 = .ok (.getfield 110, 3) := by decide +kernel
theorem dX7_theyCome_78 : decode cX7_theyCome 78 = .ok (.bipush 8, 2) := by decide +kernel
theorem dX7_theyCome_80 : decode cX7_theyCome 80 = .ok (.iload_n 2, 1) := by decide +kernel
theorem dX7_theyCome_81 : decode cX7_theyCome 81 = .ok (.iadd, 1) := by decide +kernel
theorem dX7_theyCome_82 : decode cX7_theyCome 82 = .ok (.iaload, 1) := by decide +kernel
theorem dX7_theyCome_83 : decode cX7_theyCome 83 = .ok (.iload_n 1, 1) := by decide +kernel
theorem dX7_theyCome_84 : decode cX7_theyCome 84 = .ok (.if_icmp .eq 10, 3) := by decide +kernel
theorem dX7_theyCome_87 : decode cX7_theyCome 87 = .ok (.iload_n 3, 1) := by decide +kernel
theorem dX7_theyCome_88 : decode cX7_theyCome 88 = .ok (.ifCond .ne 6, 3) := by decide +kernel
theorem dX7_theyCome_91 : decode cX7_theyCome 91 = .ok (.goto 61, 3) := by decide +kernel
theorem dX7_theyCome_94 : decode cX7_theyCome 94 = .ok (.iload_n 3, 1) := by decide +kernel
theorem dX7_theyCome_95 : decode cX7_theyCome 95 = .ok (.ifCond .ne 47, 3) := by decide +kernel
theorem dX7_theyCome_98 : decode cX7_theyCome 98 = .ok (.aload_n 0, 1) := by decide +kernel
theorem dX7_theyCome_99 : decode cX7_theyCome 99 = .ok (.getfield 299, 3) := by decide +kernel
theorem dX7_theyCome_102 : decode cX7_theyCome 102 = .ok (.ifCond .ne 40, 3) := by decide +kernel
theorem dX7_theyCome_105 : decode cX7_theyCome 105 = .ok (.aload_n 0, 1) := by decide +kernel
theorem dX7_theyCome_106 : decode cX7_theyCome 106 = .ok (.bipush 32, 2) := by decide +kernel
theorem dX7_theyCome_108 : decode cX7_theyCome 108 = .ok (.aload_n 0, 1) := by decide +kernel
theorem dX7_theyCome_109 : decode cX7_theyCome 109 = .ok (.getfield 110, 3) := by decide +kernel
theorem dX7_theyCome_112 : decode cX7_theyCome 112 = .ok (.bipush 84, 2) := by decide +kernel
theorem dX7_theyCome_114 : decode cX7_theyCome 114 = .ok (.iaload, 1) := by decide +kernel
theorem dX7_theyCome_115 : decode cX7_theyCome 115 = .ok (.imul, 1) := by decide +kernel
theorem dX7_theyCome_116 : decode cX7_theyCome 116 = .ok (.iload_n 2, 1) := by decide +kernel
theorem dX7_theyCome_117 : decode cX7_theyCome 117 = .ok (.iadd, 1) := by decide +kernel
theorem dX7_theyCome_118 : decode cX7_theyCome 118 = .ok (.invokevirtual 365, 3) := by decide +kernel
theorem dX7_theyCome_121 : decode cX7_theyCome 121 = .ok (.aload_n 0, 1) := by decide +kernel
theorem dX7_theyCome_122 : decode cX7_theyCome 122 = .ok (.iload_n 2, 1) := by decide +kernel
theorem dX7_theyCome_123 : decode cX7_theyCome 123 = .ok (.invokevirtual 368, 3) := by decide +kernel
theorem dX7_theyCome_126 : decode cX7_theyCome 126 = .ok (.if_icmp .ge 16, 3) := by decide +kernel
theorem dX7_theyCome_129 : decode cX7_theyCome 129 = .ok (.aload_n 0, 1) := by decide +kernel
theorem dX7_theyCome_130 : decode cX7_theyCome 130 = .ok (.getfield 110, 3) := by decide +kernel
theorem dX7_theyCome_133 : decode cX7_theyCome 133 = .ok (.bipush 56, 2) := by decide +kernel
theorem dX7_theyCome_135 : decode cX7_theyCome 135 = .ok (.iload_n 2, 1) := by decide +kernel
theorem dX7_theyCome_136 : decode cX7_theyCome 136 = .ok (.iadd, 1) := by decide +kernel
theorem dX7_theyCome_137 : decode cX7_theyCome 137 = .ok (.iconst 1, 1) := by decide +kernel
theorem dX7_theyCome_138 : decode cX7_theyCome 138 = .ok (.iastore, 1) := by decide +kernel
theorem dX7_theyCome_139 : decode cX7_theyCome 139 = .ok (.goto 13, 3) := by decide +kernel
theorem dX7_theyCome_142 : decode cX7_theyCome 142 = .ok (.aload_n 0, 1) := by decide +kernel
theorem dX7_theyCome_143 : decode cX7_theyCome 143 = .ok (.getfield 110, 3) := by decide +kernel
theorem dX7_theyCome_146 : decode cX7_theyCome 146 = .ok (.bipush 40, 2) := by decide +kernel
theorem dX7_theyCome_148 : decode cX7_theyCome 148 = .ok (.iload_n 2, 1) := by decide +kernel
theorem dX7_theyCome_149 : decode cX7_theyCome 149 = .ok (.iadd, 1) := by decide +kernel
theorem dX7_theyCome_150 : decode cX7_theyCome 150 = .ok (.iconst 2, 1) := by decide +kernel
theorem dX7_theyCome_151 : decode cX7_theyCome 151 = .ok (.iastore, 1) := by decide +kernel
theorem dX7_theyCome_152 : decode cX7_theyCome 152 = .ok (.iinc 2 1, 3) := by decide +kernel
theorem dX7_theyCome_155 : decode cX7_theyCome 155 = .ok (.goto (-153), 3) := by decide +kernel
theorem dX7_theyCome_158 : decode cX7_theyCome 158 = .ok (.return_, 1) := by decide +kernel
theorem dX7_theyWait_0 : decode cX7_theyWait 0 = .ok (.iconst 0, 1) := by decide +kernel
theorem dX7_theyWait_1 : decode cX7_theyWait 1 = .ok (.istore_n 1, 1) := by decide +kernel
theorem dX7_theyWait_2 : decode cX7_theyWait 2 = .ok (.iload_n 1, 1) := by decide +kernel
theorem dX7_theyWait_3 : decode cX7_theyWait 3 = .ok (.aload_n 0, 1) := by decide +kernel
theorem dX7_theyWait_4 : decode cX7_theyWait 4 = .ok (.getfield 43, 3) := by decide +kernel
theorem dX7_theyWait_7 : decode cX7_theyWait 7 = .ok (.aload_n 0, 1) := by decide +kernel
theorem dX7_theyWait_8 : decode cX7_theyWait 8 = .ok (.getfield 218, 3) := by decide +kernel
theorem dX7_theyWait_11 : decode cX7_theyWait 11 = .ok (.iaload, 1) := by decide +kernel
theorem dX7_theyWait_12 : decode cX7_theyWait 12 = .ok (.if_icmp .ge 65, 3) := by decide +kernel
theorem dX7_theyWait_15 : decode cX7_theyWait 15 = .ok (.aload_n 0, 1) := by decide +kernel
theorem dX7_theyWait_16 : decode cX7_theyWait 16 = .ok (.getfield 110, 3) := by decide +kernel
theorem dX7_theyWait_19 : decode cX7_theyWait 19 = .ok (.bipush 40, 2) := by decide +kernel
theorem dX7_theyWait_21 : decode cX7_theyWait 21 = .ok (.iload_n 1, 1) := by decide +kernel
theorem dX7_theyWait_22 : decode cX7_theyWait 22 = .ok (.iadd, 1) := by decide +kernel
theorem dX7_theyWait_23 : decode cX7_theyWait 23 = .ok (.iaload, 1) := by decide +kernel
theorem dX7_theyWait_24 : decode cX7_theyWait 24 = .ok (.iconst 2, 1) := by decide +kernel
theorem dX7_theyWait_25 : decode cX7_theyWait 25 = .ok (.if_icmp .eq 6, 3) := by decide +kernel
theorem dX7_theyWait_28 : decode cX7_theyWait 28 = .ok (.goto 43, 3) := by decide +kernel
theorem dX7_theyWait_31 : decode cX7_theyWait 31 = .ok (.aload_n 0, 1) := by decide +kernel
theorem dX7_theyWait_32 : decode cX7_theyWait 32 = .ok (.getfield 110, 3) := by decide +kernel
theorem dX7_theyWait_35 : decode cX7_theyWait 35 = .ok (.bipush 48, 2) := by decide +kernel
theorem dX7_theyWait_37 : decode cX7_theyWait 37 = .ok (.iload_n 1, 1) := by decide +kernel
theorem dX7_theyWait_38 : decode cX7_theyWait 38 = .ok (.iadd, 1) := by decide +kernel
theorem dX7_theyWait_39 : decode cX7_theyWait 39 = .ok (.dup2, 1) := by decide +kernel
theorem dX7_theyWait_40 : decode cX7_theyWait 40 = .ok (.iaload, 1) := by decide +kernel
theorem dX7_theyWait_41 : decode cX7_theyWait 41 = .ok (.iconst 1, 1) := by decide +kernel
theorem dX7_theyWait_42 : decode cX7_theyWait 42 = .ok (.iadd, 1) := by decide +kernel
theorem dX7_theyWait_43 : decode cX7_theyWait 43 = .ok (.iastore, 1) := by decide +kernel
theorem dX7_theyWait_44 : decode cX7_theyWait 44 = .ok (.aload_n 0, 1) := by decide +kernel
theorem dX7_theyWait_45 : decode cX7_theyWait 45 = .ok (.getfield 110, 3) := by decide +kernel
theorem dX7_theyWait_48 : decode cX7_theyWait 48 = .ok (.bipush 85, 2) := by decide +kernel
theorem dX7_theyWait_50 : decode cX7_theyWait 50 = .ok (.aload_n 0, 1) := by decide +kernel
theorem dX7_theyWait_51 : decode cX7_theyWait 51 = .ok (.getfield 110, 3) := by decide +kernel
theorem dX7_theyWait_54 : decode cX7_theyWait 54 = .ok (.bipush 85, 2) := by decide +kernel
theorem dX7_theyWait_56 : decode cX7_theyWait 56 = .ok (.iaload, 1) := by decide +kernel
theorem dX7_theyWait_57 : decode cX7_theyWait 57 = .ok (.aload_n 0, 1) := by decide +kernel
theorem dX7_theyWait_58 : decode cX7_theyWait 58 = .ok (.iload_n 1, 1) := by decide +kernel
theorem dX7_theyWait_59 : decode cX7_theyWait 59 = .ok (.invokevirtual 371, 3) := by decide +kernel
theorem dX7_theyWait_62 : decode cX7_theyWait 62 = .ok (.iadd, 1) := by decide +kernel
theorem dX7_theyWait_63 : decode cX7_theyWait 63 = .ok (.iconst 0, 1) := by decide +kernel
theorem dX7_theyWait_64 : decode cX7_theyWait 64 = .ok (.ldc_w 374, 3) := by decide +kernel
theorem dX7_theyWait_67 : decode cX7_theyWait 67 = .ok (.invokestatic 327, 3) := by decide +kernel
theorem dX7_theyWait_70 : decode cX7_theyWait 70 = .ok (.iastore, 1) := by decide +kernel
theorem dX7_theyWait_71 : decode cX7_theyWait 71 = .ok (.iinc 1 1, 3) := by decide +kernel
theorem dX7_theyWait_74 : decode cX7_theyWait 74 = .ok (.goto (-72), 3) := by decide +kernel
theorem dX7_theyWait_77 : decode cX7_theyWait 77 = .ok (.return_, 1) := by decide +kernel
theorem dX7_hourGoes_0 : decode cX7_hourGoes 0 = .ok (.aload_n 0, 1) := by decide +kernel
theorem dX7_hourGoes_1 : decode cX7_hourGoes 1 = .ok (.getfield 110, 3) := by decide +kernel
theorem dX7_hourGoes_4 : decode cX7_hourGoes 4 = .ok (.bipush 84, 2) := by decide +kernel
theorem dX7_hourGoes_6 : decode cX7_hourGoes 6 = .ok (.iaload, 1) := by decide +kernel
theorem dX7_hourGoes_7 : decode cX7_hourGoes 7 = .ok (.bipush 24, 2) := by decide +kernel
theorem dX7_hourGoes_9 : decode cX7_hourGoes 9 = .ok (.irem, 1) := by decide +kernel
theorem dX7_hourGoes_10 : decode cX7_hourGoes 10 = .ok (.istore_n 1, 1) := by decide +kernel
theorem dX7_hourGoes_11 : decode cX7_hourGoes 11 = .ok (.iload_n 1, 1) := by decide +kernel
theorem dX7_hourGoes_12 : decode cX7_hourGoes 12 = .ok (.ifCond .ne 7, 3) := by decide +kernel
theorem dX7_hourGoes_15 : decode cX7_hourGoes 15 = .ok (.aload_n 0, 1) := by decide +kernel
theorem dX7_hourGoes_16 : decode cX7_hourGoes 16 = .ok (.invokevirtual 375, 3) := by decide +kernel
theorem dX7_hourGoes_19 : decode cX7_hourGoes 19 = .ok (.aload_n 0, 1) := by decide +kernel
theorem dX7_hourGoes_20 : decode cX7_hourGoes 20 = .ok (.iload_n 1, 1) := by decide +kernel
theorem dX7_hourGoes_21 : decode cX7_hourGoes 21 = .ok (.invokevirtual 378, 3) := by decide +kernel
theorem dX7_hourGoes_24 : decode cX7_hourGoes 24 = .ok (.aload_n 0, 1) := by decide +kernel
theorem dX7_hourGoes_25 : decode cX7_hourGoes 25 = .ok (.iload_n 1, 1) := by decide +kernel
theorem dX7_hourGoes_26 : decode cX7_hourGoes 26 = .ok (.invokevirtual 381, 3) := by decide +kernel
theorem dX7_hourGoes_29 : decode cX7_hourGoes 29 = .ok (.aload_n 0, 1) := by decide +kernel
theorem dX7_hourGoes_30 : decode cX7_hourGoes 30 = .ok (.invokevirtual 384, 3) := by decide +kernel
theorem dX7_hourGoes_33 : decode cX7_hourGoes 33 = .ok (.aload_n 0, 1) := by decide +kernel
theorem dX7_hourGoes_34 : decode cX7_hourGoes 34 = .ok (.invokevirtual 387, 3) := by decide +kernel
theorem dX7_hourGoes_37 : decode cX7_hourGoes 37 = .ok (.aload_n 0, 1) := by decide +kernel
theorem dX7_hourGoes_38 : decode cX7_hourGoes 38 = .ok (.getfield 110, 3) := by decide +kernel
theorem dX7_hourGoes_41 : decode cX7_hourGoes 41 = .ok (.bipush 84, 2) := by decide +kernel
theorem dX7_hourGoes_43 : decode cX7_hourGoes 43 = .ok (.dup2, 1) := by decide +kernel
theorem dX7_hourGoes_44 : decode cX7_hourGoes 44 = .ok (.iaload, 1) := by decide +kernel
theorem dX7_hourGoes_45 : decode cX7_hourGoes 45 = .ok (.iconst 1, 1) := by decide +kernel
theorem dX7_hourGoes_46 : decode cX7_hourGoes 46 = .ok (.iadd, 1) := by decide +kernel
theorem dX7_hourGoes_47 : decode cX7_hourGoes 47 = .ok (.iastore, 1) := by decide +kernel
theorem dX7_hourGoes_48 : decode cX7_hourGoes 48 = .ok (.return_, 1) := by decide +kernel
theorem dX7_goes_0 : decode cX7_goes 0 = .ok (.iconst 0, 1) := by decide +kernel
theorem dX7_goes_1 : decode cX7_goes 1 = .ok (.istore_n 2, 1) := by decide +kernel
theorem dX7_goes_2 : decode cX7_goes 2 = .ok (.iload_n 2, 1) := by decide +kernel
theorem dX7_goes_3 : decode cX7_goes 3 = .ok (.iload_n 1, 1) := by decide +kernel
theorem dX7_goes_4 : decode cX7_goes 4 = .ok (.if_icmp .ge 13, 3) := by decide +kernel
theorem dX7_goes_7 : decode cX7_goes 7 = .ok (.aload_n 0, 1) := by decide +kernel
theorem dX7_goes_8 : decode cX7_goes 8 = .ok (.invokevirtual 390, 3) := by decide +kernel
theorem dX7_goes_11 : decode cX7_goes 11 = .ok (.iinc 2 1, 3) := by decide +kernel
theorem dX7_goes_14 : decode cX7_goes 14 = .ok (.goto (-12), 3) := by decide +kernel
theorem dX7_goes_17 : decode cX7_goes 17 = .ok (.return_, 1) := by decide +kernel
theorem dX7_house_0 : decode cX7_house 0 = .ok (.aload_n 0, 1) := by decide +kernel
theorem dX7_house_1 : decode cX7_house 1 = .ok (.iload_n 1, 1) := by decide +kernel
theorem dX7_house_2 : decode cX7_house 2 = .ok (.invokevirtual 393, 3) := by decide +kernel
theorem dX7_house_5 : decode cX7_house 5 = .ok (.ifCond .ne 5, 3) := by decide +kernel
theorem dX7_house_8 : decode cX7_house 8 = .ok (.iconst (-1), 1) := by decide +kernel
theorem dX7_house_9 : decode cX7_house 9 = .ok (.ireturn, 1) := by decide +kernel
theorem dX7_house_10 : decode cX7_house 10 = .ok (.aload_n 0, 1) := by decide +kernel
theorem dX7_house_11 : decode cX7_house 11 = .ok (.invokevirtual 305, 3) := by decide +kernel
theorem dX7_house_14 : decode cX7_house 14 = .ok (.iload_n 2, 1) := by decide +kernel
theorem dX7_house_15 : decode cX7_house 15 = .ok (.tableswitch 159 0 9 #[53, 60, 70, 80, 90, 100, 110, 133, 143, 153], 53) := by decide +kernel
theorem dX7_house_68 : decode cX7_house 68 = .ok (.aload_n 0, 1) := by decide +kernel
theorem dX7_house_69 : decode cX7_house 69 = .ok (.getfield 110, 3) := by decide +kernel
theorem dX7_house_72 : decode cX7_house 72 = .ok (.iload_n 1, 1) := by decide +kernel
theorem dX7_house_73 : decode cX7_house 73 = .ok (.iaload, 1) := by decide +kernel
theorem dX7_house_74 : decode cX7_house 74 = .ok (.ireturn, 1) := by decide +kernel
theorem dX7_house_75 : decode cX7_house 75 = .ok (.aload_n 0, 1) := by decide +kernel
theorem dX7_house_76 : decode cX7_house 76 = .ok (.getfield 110, 3) := by decide +kernel
theorem dX7_house_79 : decode cX7_house 79 = .ok (.bipush 8, 2) := by decide +kernel
theorem dX7_house_81 : decode cX7_house 81 = .ok (.iload_n 1, 1) := by decide +kernel
theorem dX7_house_82 : decode cX7_house 82 = .ok (.iadd, 1) := by decide +kernel
theorem dX7_house_83 : decode cX7_house 83 = .ok (.iaload, 1) := by decide +kernel
theorem dX7_house_84 : decode cX7_house 84 = .ok (.ireturn, 1) := by decide +kernel
theorem dX7_house_85 : decode cX7_house 85 = .ok (.aload_n 0, 1) := by decide +kernel
theorem dX7_house_86 : decode cX7_house 86 = .ok (.getfield 110, 3) := by decide +kernel
theorem dX7_house_89 : decode cX7_house 89 = .ok (.bipush 16, 2) := by decide +kernel
theorem dX7_house_91 : decode cX7_house 91 = .ok (.iload_n 1, 1) := by decide +kernel
theorem dX7_house_92 : decode cX7_house 92 = .ok (.iadd, 1) := by decide +kernel
theorem dX7_house_93 : decode cX7_house 93 = .ok (.iaload, 1) := by decide +kernel
theorem dX7_house_94 : decode cX7_house 94 = .ok (.ireturn, 1) := by decide +kernel
theorem dX7_house_95 : decode cX7_house 95 = .ok (.aload_n 0, 1) := by decide +kernel
theorem dX7_house_96 : decode cX7_house 96 = .ok (.getfield 110, 3) := by decide +kernel
theorem dX7_house_99 : decode cX7_house 99 = .ok (.bipush 40, 2) := by decide +kernel
theorem dX7_house_101 : decode cX7_house 101 = .ok (.iload_n 1, 1) := by decide +kernel
theorem dX7_house_102 : decode cX7_house 102 = .ok (.iadd, 1) := by decide +kernel
theorem dX7_house_103 : decode cX7_house 103 = .ok (.iaload, 1) := by decide +kernel
theorem dX7_house_104 : decode cX7_house 104 = .ok (.ireturn, 1) := by decide +kernel
theorem dX7_house_105 : decode cX7_house 105 = .ok (.aload_n 0, 1) := by decide +kernel
theorem dX7_house_106 : decode cX7_house 106 = .ok (.getfield 110, 3) := by decide +kernel
theorem dX7_house_109 : decode cX7_house 109 = .ok (.bipush 48, 2) := by decide +kernel
theorem dX7_house_111 : decode cX7_house 111 = .ok (.iload_n 1, 1) := by decide +kernel
theorem dX7_house_112 : decode cX7_house 112 = .ok (.iadd, 1) := by decide +kernel
theorem dX7_house_113 : decode cX7_house 113 = .ok (.iaload, 1) := by decide +kernel
theorem dX7_house_114 : decode cX7_house 114 = .ok (.ireturn, 1) := by decide +kernel
theorem dX7_house_115 : decode cX7_house 115 = .ok (.aload_n 0, 1) := by decide +kernel
theorem dX7_house_116 : decode cX7_house 116 = .ok (.getfield 110, 3) := by decide +kernel
theorem dX7_house_119 : decode cX7_house 119 = .ok (.bipush 32, 2) := by decide +kernel
theorem dX7_house_121 : decode cX7_house 121 = .ok (.iload_n 1, 1) := by decide +kernel
theorem dX7_house_122 : decode cX7_house 122 = .ok (.iadd, 1) := by decide +kernel
theorem dX7_house_123 : decode cX7_house 123 = .ok (.iaload, 1) := by decide +kernel
theorem dX7_house_124 : decode cX7_house 124 = .ok (.ireturn, 1) := by decide +kernel
theorem dX7_house_125 : decode cX7_house 125 = .ok (.aload_n 0, 1) := by decide +kernel
theorem dX7_house_126 : decode cX7_house 126 = .ok (.getfield 55, 3) := by decide +kernel
theorem dX7_house_129 : decode cX7_house 129 = .ok (.bipush 8, 2) := by decide +kernel
theorem dX7_house_131 : decode cX7_house 131 = .ok (.aload_n 0, 1) := by decide +kernel
theorem dX7_house_132 : decode cX7_house 132 = .ok (.getfield 218, 3) := by decide +kernel
theorem dX7_house_135 : decode cX7_house 135 = .ok (.imul, 1) := by decide +kernel
theorem dX7_house_136 : decode cX7_house 136 = .ok (.iload_n 1, 1) := by decide +kernel
theorem dX7_house_137 : decode cX7_house 137 = .ok (.iadd, 1) := by decide +kernel
theorem dX7_house_138 : decode cX7_house 138 = .ok (.baload, 1) := by decide +kernel
theorem dX7_house_139 : decode cX7_house 139 = .ok (.ifCond .eq 7, 3) := by decide +kernel
theorem dX7_house_142 : decode cX7_house 142 = .ok (.iconst 1, 1) := by decide +kernel
theorem dX7_house_143 : decode cX7_house 143 = .ok (.goto 4, 3) := by decide +kernel
theorem dX7_house_146 : decode cX7_house 146 = .ok (.iconst 0, 1) := by decide +kernel
theorem dX7_house_147 : decode cX7_house 147 = .ok (.ireturn, 1) := by decide +kernel
theorem dX7_house_148 : decode cX7_house 148 = .ok (.aload_n 0, 1) := by decide +kernel
theorem dX7_house_149 : decode cX7_house 149 = .ok (.getfield 110, 3) := by decide +kernel
theorem dX7_house_152 : decode cX7_house 152 = .ok (.bipush 24, 2) := by decide +kernel
theorem dX7_house_154 : decode cX7_house 154 = .ok (.iload_n 1, 1) := by decide +kernel
theorem dX7_house_155 : decode cX7_house 155 = .ok (.iadd, 1) := by decide +kernel
theorem dX7_house_156 : decode cX7_house 156 = .ok (.iaload, 1) := by decide +kernel
theorem dX7_house_157 : decode cX7_house 157 = .ok (.ireturn, 1) := by decide +kernel
theorem dX7_house_158 : decode cX7_house 158 = .ok (.aload_n 0, 1) := by decide +kernel
theorem dX7_house_159 : decode cX7_house 159 = .ok (.getfield 110, 3) := by decide +kernel
theorem dX7_house_162 : decode cX7_house 162 = .ok (.bipush 56, 2) := by decide +kernel
theorem dX7_house_164 : decode cX7_house 164 = .ok (.iload_n 1, 1) := by decide +kernel
theorem dX7_house_165 : decode cX7_house 165 = .ok (.iadd, 1) := by decide +kernel
theorem dX7_house_166 : decode cX7_house 166 = .ok (.iaload, 1) := by decide +kernel
theorem dX7_house_167 : decode cX7_house 167 = .ok (.ireturn, 1) := by decide +kernel
theorem dX7_house_168 : decode cX7_house 168 = .ok (.aload_n 0, 1) := by decide +kernel
theorem dX7_house_169 : decode cX7_house 169 = .ok (.iload_n 1, 1) := by decide +kernel
theorem dX7_house_170 : decode cX7_house 170 = .ok (.invokevirtual 396, 3) := by decide +kernel
theorem dX7_house_173 : decode cX7_house 173 = .ok (.ireturn, 1) := by decide +kernel
theorem dX7_house_174 : decode cX7_house 174 = .ok (.iconst (-1), 1) := by decide +kernel
theorem dX7_house_175 : decode cX7_house 175 = .ok (.ireturn, 1) := by decide +kernel
theorem dX7_spare_0 : decode cX7_spare 0 = .ok (.aload_n 0, 1) := by decide +kernel
theorem dX7_spare_1 : decode cX7_spare 1 = .ok (.iload_n 1, 1) := by decide +kernel
theorem dX7_spare_2 : decode cX7_spare 2 = .ok (.invokevirtual 399, 3) := by decide +kernel
theorem dX7_spare_5 : decode cX7_spare 5 = .ok (.ifCond .ne 5, 3) := by decide +kernel
theorem dX7_spare_8 : decode cX7_spare 8 = .ok (.iconst (-1), 1) := by decide +kernel
theorem dX7_spare_9 : decode cX7_spare 9 = .ok (.ireturn, 1) := by decide +kernel
theorem dX7_spare_10 : decode cX7_spare 10 = .ok (.iload_n 2, 1) := by decide +kernel
theorem dX7_spare_11 : decode cX7_spare 11 = .ok (.tableswitch 60 0 2 #[25, 40, 50], 25) := by decide +kernel
theorem dX7_spare_36 : decode cX7_spare 36 = .ok (.aload_n 0, 1) := by decide +kernel
theorem dX7_spare_37 : decode cX7_spare 37 = .ok (.getfield 62, 3) := by decide +kernel
theorem dX7_spare_40 : decode cX7_spare 40 = .ok (.bipush 6, 2) := by decide +kernel
theorem dX7_spare_42 : decode cX7_spare 42 = .ok (.aload_n 0, 1) := by decide +kernel
theorem dX7_spare_43 : decode cX7_spare 43 = .ok (.getfield 218, 3) := by decide +kernel
theorem dX7_spare_46 : decode cX7_spare 46 = .ok (.imul, 1) := by decide +kernel
theorem dX7_spare_47 : decode cX7_spare 47 = .ok (.iload_n 1, 1) := by decide +kernel
theorem dX7_spare_48 : decode cX7_spare 48 = .ok (.iadd, 1) := by decide +kernel
theorem dX7_spare_49 : decode cX7_spare 49 = .ok (.iaload, 1) := by decide +kernel
theorem dX7_spare_50 : decode cX7_spare 50 = .ok (.ireturn, 1) := by decide +kernel
theorem dX7_spare_51 : decode cX7_spare 51 = .ok (.aload_n 0, 1) := by decide +kernel
theorem dX7_spare_52 : decode cX7_spare 52 = .ok (.getfield 107, 3) := by decide +kernel
theorem dX7_spare_55 : decode cX7_spare 55 = .ok (.bipush 72, 2) := by decide +kernel
theorem dX7_spare_57 : decode cX7_spare 57 = .ok (.iload_n 1, 1) := by decide +kernel
theorem dX7_spare_58 : decode cX7_spare 58 = .ok (.iadd, 1) := by decide +kernel
theorem dX7_spare_59 : decode cX7_spare 59 = .ok (.iaload, 1) := by decide +kernel
theorem dX7_spare_60 : decode cX7_spare 60 = .ok (.ireturn, 1) := by decide +kernel
theorem dX7_spare_61 : decode cX7_spare 61 = .ok (.aload_n 0, 1) := by decide +kernel
theorem dX7_spare_62 : decode cX7_spare 62 = .ok (.getfield 107, 3) := by decide +kernel
theorem dX7_spare_65 : decode cX7_spare 65 = .ok (.bipush 78, 2) := by decide +kernel
theorem dX7_spare_67 : decode cX7_spare 67 = .ok (.iload_n 1, 1) := by decide +kernel
theorem dX7_spare_68 : decode cX7_spare 68 = .ok (.iadd, 1) := by decide +kernel
theorem dX7_spare_69 : decode cX7_spare 69 = .ok (.iaload, 1) := by decide +kernel
theorem dX7_spare_70 : decode cX7_spare 70 = .ok (.ireturn, 1) := by decide +kernel
theorem dX7_spare_71 : decode cX7_spare 71 = .ok (.iconst (-1), 1) := by decide +kernel
theorem dX7_spare_72 : decode cX7_spare 72 = .ok (.ireturn, 1) := by decide +kernel
theorem dX7_lets_0 : decode cX7_lets 0 = .ok (.aload_n 0, 1) := by decide +kernel
theorem dX7_lets_1 : decode cX7_lets 1 = .ok (.iload_n 1, 1) := by decide +kernel
theorem dX7_lets_2 : decode cX7_lets 2 = .ok (.invokevirtual 393, 3) := by decide +kernel
theorem dX7_lets_5 : decode cX7_lets 5 = .ok (.ifCond .eq 16, 3) := by decide +kernel
theorem dX7_lets_8 : decode cX7_lets 8 = .ok (.aload_n 0, 1) := by decide +kernel
theorem dX7_lets_9 : decode cX7_lets 9 = .ok (.iload_n 2, 1) := by decide +kernel
theorem dX7_lets_10 : decode cX7_lets 10 = .ok (.invokevirtual 393, 3) := by decide +kernel
theorem dX7_lets_13 : decode cX7_lets 13 = .ok (.ifCond .eq 8, 3) := by decide +kernel
theorem dX7_lets_16 : decode cX7_lets 16 = .ok (.iload_n 1, 1) := by decide +kernel
theorem dX7_lets_17 : decode cX7_lets 17 = .ok (.iload_n 2, 1) := by decide +kernel
theorem dX7_lets_18 : decode cX7_lets 18 = .ok (.if_icmp .ne 5, 3) := by decide +kernel
theorem dX7_lets_21 : decode cX7_lets 21 = .ok (.iconst (-1), 1) := by decide +kernel
theorem dX7_lets_22 : decode cX7_lets 22 = .ok (.ireturn, 1) := by decide +kernel
theorem dX7_lets_23 : decode cX7_lets 23 = .ok (.aload_n 0, 1) := by decide +kernel
theorem dX7_lets_24 : decode cX7_lets 24 = .ok (.invokevirtual 305, 3) := by decide +kernel
theorem dX7_lets_27 : decode cX7_lets 27 = .ok (.aload_n 0, 1) := by decide +kernel
theorem dX7_lets_28 : decode cX7_lets 28 = .ok (.iload_n 1, 1) := by decide +kernel
theorem dX7_lets_29 : decode cX7_lets 29 = .ok (.iload_n 2, 1) := by decide +kernel
theorem dX7_lets_30 : decode cX7_lets 30 = .ok (.invokevirtual 352, 3) := by decide +kernel
theorem dX7_lets_33 : decode cX7_lets 33 = .ok (.ifCond .eq 7, 3) := by decide +kernel
theorem dX7_lets_36 : decode cX7_lets 36 = .ok (.iconst 1, 1) := by decide +kernel
theorem dX7_lets_37 : decode cX7_lets 37 = .ok (.goto 4, 3) := by decide +kernel
theorem dX7_lets_40 : decode cX7_lets 40 = .ok (.iconst 0, 1) := by decide +kernel
theorem dX7_lets_41 : decode cX7_lets 41 = .ok (.ireturn, 1) := by decide +kernel
theorem dX7_records_0 : decode cX7_records 0 = .ok (.aload_n 0, 1) := by decide +kernel
theorem dX7_records_1 : decode cX7_records 1 = .ok (.getfield 236, 3) := by decide +kernel
theorem dX7_records_4 : decode cX7_records 4 = .ok (.bipush 40, 2) := by decide +kernel
theorem dX7_records_6 : decode cX7_records 6 = .ok (.if_icmp .ne 43, 3) := by decide +kernel
theorem dX7_records_9 : decode cX7_records 9 = .ok (.iconst 0, 1) := by decide +kernel
theorem dX7_records_10 : decode cX7_records 10 = .ok (.istore_n 1, 1) := by decide +kernel
theorem dX7_records_11 : decode cX7_records 11 = .ok (.iload_n 1, 1) := by decide +kernel
theorem dX7_records_12 : decode cX7_records 12 = .ok (.sipush 3432, 3) := by decide +kernel
theorem dX7_records_15 : decode cX7_records 15 = .ok (.if_icmp .ge 24, 3) := by decide +kernel
theorem dX7_records_18 : decode cX7_records 18 = .ok (.aload_n 0, 1) := by decide +kernel
theorem dX7_records_19 : decode cX7_records 19 = .ok (.getfield 116, 3) := by decide +kernel
theorem dX7_records_22 : decode cX7_records 22 = .ok (.iload_n 1, 1) := by decide +kernel
theorem dX7_records_23 : decode cX7_records 23 = .ok (.aload_n 0, 1) := by decide +kernel
theorem dX7_records_24 : decode cX7_records 24 = .ok (.getfield 116, 3) := by decide +kernel
theorem dX7_records_27 : decode cX7_records 27 = .ok (.iload_n 1, 1) := by decide +kernel
theorem dX7_records_28 : decode cX7_records 28 = .ok (.bipush 88, 2) := by decide +kernel
theorem dX7_records_30 : decode cX7_records 30 = .ok (.iadd, 1) := by decide +kernel
theorem dX7_records_31 : decode cX7_records 31 = .ok (.iaload, 1) := by decide +kernel
theorem dX7_records_32 : decode cX7_records 32 = .ok (.iastore, 1) := by decide +kernel
theorem dX7_records_33 : decode cX7_records 33 = .ok (.iinc 1 1, 3) := by decide +kernel
theorem dX7_records_36 : decode cX7_records 36 = .ok (.goto (-25), 3) := by decide +kernel
theorem dX7_records_39 : decode cX7_records 39 = .ok (.aload_n 0, 1) := by decide +kernel
theorem dX7_records_40 : decode cX7_records 40 = .ok (.dup, 1) := by decide +kernel
theorem dX7_records_41 : decode cX7_records 41 = .ok (.getfield 236, 3) := by decide +kernel
theorem dX7_records_44 : decode cX7_records 44 = .ok (.iconst 1, 1) := by decide +kernel
theorem dX7_records_45 : decode cX7_records 45 = .ok (.isub, 1) := by decide +kernel
theorem dX7_records_46 : decode cX7_records 46 = .ok (.putfield 236, 3) := by decide +kernel
theorem dX7_records_49 : decode cX7_records 49 = .ok (.iconst 0, 1) := by decide +kernel
theorem dX7_records_50 : decode cX7_records 50 = .ok (.istore_n 1, 1) := by decide +kernel
theorem dX7_records_51 : decode cX7_records 51 = .ok (.iload_n 1, 1) := by decide +kernel
theorem dX7_records_52 : decode cX7_records 52 = .ok (.bipush 88, 2) := by decide +kernel
theorem dX7_records_54 : decode cX7_records 54 = .ok (.if_icmp .ge 29, 3) := by decide +kernel
theorem dX7_records_57 : decode cX7_records 57 = .ok (.aload_n 0, 1) := by decide +kernel
theorem dX7_records_58 : decode cX7_records 58 = .ok (.getfield 116, 3) := by decide +kernel
theorem dX7_records_61 : decode cX7_records 61 = .ok (.bipush 88, 2) := by decide +kernel
theorem dX7_records_63 : decode cX7_records 63 = .ok (.aload_n 0, 1) := by decide +kernel
theorem dX7_records_64 : decode cX7_records 64 = .ok (.getfield 236, 3) := by decide +kernel
theorem dX7_records_67 : decode cX7_records 67 = .ok (.imul, 1) := by decide +kernel
theorem dX7_records_68 : decode cX7_records 68 = .ok (.iload_n 1, 1) := by decide +kernel
theorem dX7_records_69 : decode cX7_records 69 = .ok (.iadd, 1) := by decide +kernel
theorem dX7_records_70 : decode cX7_records 70 = .ok (.aload_n 0, 1) := by decide +kernel
theorem dX7_records_71 : decode cX7_records 71 = .ok (.getfield 107, 3) := by decide +kernel
theorem dX7_records_74 : decode cX7_records 74 = .ok (.iload_n 1, 1) := by decide +kernel
theorem dX7_records_75 : decode cX7_records 75 = .ok (.iaload, 1) := by decide +kernel
theorem dX7_records_76 : decode cX7_records 76 = .ok (.iastore, 1) := by decide +kernel
theorem dX7_records_77 : decode cX7_records 77 = .ok (.iinc 1 1, 3) := by decide +kernel
theorem dX7_records_80 : decode cX7_records 80 = .ok (.goto (-29), 3) := by decide +kernel
theorem dX7_records_83 : decode cX7_records 83 = .ok (.aload_n 0, 1) := by decide +kernel
theorem dX7_records_84 : decode cX7_records 84 = .ok (.dup, 1) := by decide +kernel
theorem dX7_records_85 : decode cX7_records 85 = .ok (.getfield 236, 3) := by decide +kernel
theorem dX7_records_88 : decode cX7_records 88 = .ok (.iconst 1, 1) := by decide +kernel
theorem dX7_records_89 : decode cX7_records 89 = .ok (.iadd, 1) := by decide +kernel
theorem dX7_records_90 : decode cX7_records 90 = .ok (.putfield 236, 3) := by decide +kernel
theorem dX7_records_93 : decode cX7_records 93 = .ok (.aload_n 0, 1) := by decide +kernel
theorem dX7_records_94 : decode cX7_records 94 = .ok (.invokevirtual 148, 3) := by decide +kernel
theorem dX7_records_97 : decode cX7_records 97 = .ok (.return_, 1) := by decide +kernel
theorem dX7_keep_0 : decode cX7_keep 0 = .ok (.aload_n 0, 1) := by decide +kernel
theorem dX7_keep_1 : decode cX7_keep 1 = .ok (.iload_n 1, 1) := by decide +kernel
theorem dX7_keep_2 : decode cX7_keep 2 = .ok (.invokevirtual 393, 3) := by decide +kernel
theorem dX7_keep_5 : decode cX7_keep 5 = .ok (.ifCond .eq 25, 3) := by decide +kernel
theorem dX7_keep_8 : decode cX7_keep 8 = .ok (.aload_n 0, 1) := by decide +kernel
theorem dX7_keep_9 : decode cX7_keep 9 = .ok (.getfield 107, 3) := by decide +kernel
theorem dX7_keep_12 : decode cX7_keep 12 = .ok (.bipush 32, 2) := by decide +kernel
theorem dX7_keep_14 : decode cX7_keep 14 = .ok (.iload_n 1, 1) := by decide +kernel
theorem dX7_keep_15 : decode cX7_keep 15 = .ok (.iadd, 1) := by decide +kernel
theorem dX7_keep_16 : decode cX7_keep 16 = .ok (.iaload, 1) := by decide +kernel
theorem dX7_keep_17 : decode cX7_keep 17 = .ok (.iconst 1, 1) := by decide +kernel
theorem dX7_keep_18 : decode cX7_keep 18 = .ok (.if_icmp .ne 7, 3) := by decide +kernel
theorem dX7_keep_21 : decode cX7_keep 21 = .ok (.iconst 1, 1) := by decide +kernel
theorem dX7_keep_22 : decode cX7_keep 22 = .ok (.goto 4, 3) := by decide +kernel
theorem dX7_keep_25 : decode cX7_keep 25 = .ok (.iconst 0, 1) := by decide +kernel
theorem dX7_keep_26 : decode cX7_keep 26 = .ok (.iload_n 2, 1) := by decide +kernel
theorem dX7_keep_27 : decode cX7_keep 27 = .ok (.if_icmp .ne 5, 3) := by decide +kernel
theorem dX7_keep_30 : decode cX7_keep 30 = .ok (.iconst 0, 1) := by decide +kernel
theorem dX7_keep_31 : decode cX7_keep 31 = .ok (.ireturn, 1) := by decide +kernel
theorem dX7_keep_32 : decode cX7_keep 32 = .ok (.aload_n 0, 1) := by decide +kernel
theorem dX7_keep_33 : decode cX7_keep 33 = .ok (.invokevirtual 305, 3) := by decide +kernel
theorem dX7_keep_36 : decode cX7_keep 36 = .ok (.aload_n 0, 1) := by decide +kernel
theorem dX7_keep_37 : decode cX7_keep 37 = .ok (.getfield 110, 3) := by decide +kernel
theorem dX7_keep_40 : decode cX7_keep 40 = .ok (.bipush 32, 2) := by decide +kernel
theorem dX7_keep_42 : decode cX7_keep 42 = .ok (.iload_n 1, 1) := by decide +kernel
theorem dX7_keep_43 : decode cX7_keep 43 = .ok (.iadd, 1) := by decide +kernel
theorem dX7_keep_44 : decode cX7_keep 44 = .ok (.iload_n 2, 1) := by decide +kernel
theorem dX7_keep_45 : decode cX7_keep 45 = .ok (.ifCond .eq 7, 3) := by decide +kernel
theorem dX7_keep_48 : decode cX7_keep 48 = .ok (.iconst 1, 1) := by decide +kernel
theorem dX7_keep_49 : decode cX7_keep 49 = .ok (.goto 4, 3) := by decide +kernel
theorem dX7_keep_52 : decode cX7_keep 52 = .ok (.iconst 0, 1) := by decide +kernel
theorem dX7_keep_53 : decode cX7_keep 53 = .ok (.iastore, 1) := by decide +kernel
theorem dX7_keep_54 : decode cX7_keep 54 = .ok (.aload_n 0, 1) := by decide +kernel
theorem dX7_keep_55 : decode cX7_keep 55 = .ok (.invokevirtual 402, 3) := by decide +kernel
theorem dX7_keep_58 : decode cX7_keep 58 = .ok (.iconst 1, 1) := by decide +kernel
theorem dX7_keep_59 : decode cX7_keep 59 = .ok (.ireturn, 1) := by decide +kernel
theorem dX7_pass_0 : decode cX7_pass 0 = .ok (.aload_n 0, 1) := by decide +kernel
theorem dX7_pass_1 : decode cX7_pass 1 = .ok (.iload_n 1, 1) := by decide +kernel
theorem dX7_pass_2 : decode cX7_pass 2 = .ok (.invokevirtual 399, 3) := by decide +kernel
theorem dX7_pass_5 : decode cX7_pass 5 = .ok (.ifCond .eq 16, 3) := by decide +kernel
theorem dX7_pass_8 : decode cX7_pass 8 = .ok (.iload_n 2, 1) := by decide +kernel
theorem dX7_pass_9 : decode cX7_pass 9 = .ok (.iconst (-1), 1) := by decide +kernel
theorem dX7_pass_10 : decode cX7_pass 10 = .ok (.if_icmp .eq 13, 3) := by decide +kernel
theorem dX7_pass_13 : decode cX7_pass 13 = .ok (.aload_n 0, 1) := by decide +kernel
theorem dX7_pass_14 : decode cX7_pass 14 = .ok (.iload_n 2, 1) := by decide +kernel
theorem dX7_pass_15 : decode cX7_pass 15 = .ok (.invokevirtual 393, 3) := by decide +kernel
theorem dX7_pass_18 : decode cX7_pass 18 = .ok (.ifCond .ne 5, 3) := by decide +kernel
theorem dX7_pass_21 : decode cX7_pass 21 = .ok (.iconst 0, 1) := by decide +kernel
theorem dX7_pass_22 : decode cX7_pass 22 = .ok (.ireturn, 1) := by decide +kernel
theorem dX7_pass_23 : decode cX7_pass 23 = .ok (.iload_n 2, 1) := by decide +kernel
theorem dX7_pass_24 : decode cX7_pass 24 = .ok (.iconst (-1), 1) := by decide +kernel
theorem dX7_pass_25 : decode cX7_pass 25 = .ok (.if_icmp .ne 8, 3) := by decide +kernel
theorem dX7_pass_28 : decode cX7_pass 28 = .ok (.bipush (-2), 2) := by decide +kernel
theorem dX7_pass_30 : decode cX7_pass 30 = .ok (.goto 4, 3) := by decide +kernel
theorem dX7_pass_33 : decode cX7_pass 33 = .ok (.iload_n 2, 1) := by decide +kernel
theorem dX7_pass_34 : decode cX7_pass 34 = .ok (.istore_n 3, 1) := by decide +kernel
theorem dX7_pass_35 : decode cX7_pass 35 = .ok (.aload_n 0, 1) := by decide +kernel
theorem dX7_pass_36 : decode cX7_pass 36 = .ok (.getfield 107, 3) := by decide +kernel
theorem dX7_pass_39 : decode cX7_pass 39 = .ok (.bipush 78, 2) := by decide +kernel
theorem dX7_pass_41 : decode cX7_pass 41 = .ok (.iload_n 1, 1) := by decide +kernel
theorem dX7_pass_42 : decode cX7_pass 42 = .ok (.iadd, 1) := by decide +kernel
theorem dX7_pass_43 : decode cX7_pass 43 = .ok (.iaload, 1) := by decide +kernel
theorem dX7_pass_44 : decode cX7_pass 44 = .ok (.iload_n 3, 1) := by decide +kernel
theorem dX7_pass_45 : decode cX7_pass 45 = .ok (.if_icmp .ne 5, 3) := by decide +kernel
theorem dX7_pass_48 : decode cX7_pass 48 = .ok (.iconst 0, 1) := by decide +kernel
theorem dX7_pass_49 : decode cX7_pass 49 = .ok (.ireturn, 1) := by decide +kernel
theorem dX7_pass_50 : decode cX7_pass 50 = .ok (.aload_n 0, 1) := by decide +kernel
theorem dX7_pass_51 : decode cX7_pass 51 = .ok (.invokevirtual 305, 3) := by decide +kernel
theorem dX7_pass_54 : decode cX7_pass 54 = .ok (.aload_n 0, 1) := by decide +kernel
theorem dX7_pass_55 : decode cX7_pass 55 = .ok (.getfield 110, 3) := by decide +kernel
theorem dX7_pass_58 : decode cX7_pass 58 = .ok (.bipush 78, 2) := by decide +kernel
theorem dX7_pass_60 : decode cX7_pass 60 = .ok (.iload_n 1, 1) := by decide +kernel
theorem dX7_pass_61 : decode cX7_pass 61 = .ok (.iadd, 1) := by decide +kernel
theorem dX7_pass_62 : decode cX7_pass 62 = .ok (.iload_n 3, 1) := by decide +kernel
theorem dX7_pass_63 : decode cX7_pass 63 = .ok (.iastore, 1) := by decide +kernel
theorem dX7_pass_64 : decode cX7_pass 64 = .ok (.aload_n 0, 1) := by decide +kernel
theorem dX7_pass_65 : decode cX7_pass 65 = .ok (.invokevirtual 402, 3) := by decide +kernel
theorem dX7_pass_68 : decode cX7_pass 68 = .ok (.iconst 1, 1) := by decide +kernel
theorem dX7_pass_69 : decode cX7_pass 69 = .ok (.ireturn, 1) := by decide +kernel
theorem dX7_changes_0 : decode cX7_changes 0 = .ok (.iconst 0, 1) := by decide +kernel
theorem dX7_changes_1 : decode cX7_changes 1 = .ok (.istore_n 3, 1) := by decide +kernel
theorem dX7_changes_2 : decode cX7_changes 2 = .ok (.iload_n 3, 1) := by decide +kernel
theorem dX7_changes_3 : decode cX7_changes 3 = .ok (.bipush 40, 2) := by decide +kernel
theorem dX7_changes_5 : decode cX7_changes 5 = .ok (.if_icmp .ge 45, 3) := by decide +kernel
theorem dX7_changes_8 : decode cX7_changes 8 = .ok (.aload_n 0, 1) := by decide +kernel
theorem dX7_changes_9 : decode cX7_changes 9 = .ok (.getfield 110, 3) := by decide +kernel
theorem dX7_changes_12 : decode cX7_changes 12 = .ok (.iload_n 3, 1) := by decide +kernel
theorem dX7_changes_13 : decode cX7_changes 13 = .ok (.iload_n 1, 1) := by decide +kernel
theorem dX7_changes_14 : decode cX7_changes 14 = .ok (.iadd, 1) := by decide +kernel
theorem dX7_changes_15 : decode cX7_changes 15 = .ok (.iaload, 1) := by decide +kernel
theorem dX7_changes_16 : decode cX7_changes 16 = .ok (.istore 4, 2) := by decide +kernel
theorem dX7_changes_18 : decode cX7_changes 18 = .ok (.aload_n 0, 1) := by decide +kernel
theorem dX7_changes_19 : decode cX7_changes 19 = .ok (.getfield 110, 3) := by decide +kernel
theorem dX7_changes_22 : decode cX7_changes 22 = .ok (.iload_n 3, 1) := by decide +kernel
theorem dX7_changes_23 : decode cX7_changes 23 = .ok (.iload_n 1, 1) := by decide +kernel
theorem dX7_changes_24 : decode cX7_changes 24 = .ok (.iadd, 1) := by decide +kernel
theorem dX7_changes_25 : decode cX7_changes 25 = .ok (.aload_n 0, 1) := by decide +kernel
theorem dX7_changes_26 : decode cX7_changes 26 = .ok (.getfield 110, 3) := by decide +kernel
theorem dX7_changes_29 : decode cX7_changes 29 = .ok (.iload_n 3, 1) := by decide +kernel
theorem dX7_changes_30 : decode cX7_changes 30 = .ok (.iload_n 2, 1) := by decide +kernel
theorem dX7_changes_31 : decode cX7_changes 31 = .ok (.iadd, 1) := by decide +kernel
theorem dX7_changes_32 : decode cX7_changes 32 = .ok (.iaload, 1) := by decide +kernel
theorem dX7_changes_33 : decode cX7_changes 33 = .ok (.iastore, 1) := by decide +kernel
theorem dX7_changes_34 : decode cX7_changes 34 = .ok (.aload_n 0, 1) := by decide +kernel
theorem dX7_changes_35 : decode cX7_changes 35 = .ok (.getfield 110, 3) := by decide +kernel
theorem dX7_changes_38 : decode cX7_changes 38 = .ok (.iload_n 3, 1) := by decide +kernel
theorem dX7_changes_39 : decode cX7_changes 39 = .ok (.iload_n 2, 1) := by decide +kernel
theorem dX7_changes_40 : decode cX7_changes 40 = .ok (.iadd, 1) := by decide +kernel
theorem dX7_changes_41 : decode cX7_changes 41 = .ok (.iload 4, 2) := by decide +kernel
theorem dX7_changes_43 : decode cX7_changes 43 = .ok (.iastore, 1) := by decide +kernel
theorem dX7_changes_44 : decode cX7_changes 44 = .ok (.iinc 3 8, 3) := by decide +kernel
theorem dX7_changes_47 : decode cX7_changes 47 = .ok (.goto (-45), 3) := by decide +kernel
theorem dX7_changes_50 : decode cX7_changes 50 = .ok (.return_, 1) := by decide +kernel
theorem dX7_canChange_0 : decode cX7_canChange 0 = .ok (.aload_n 0, 1) := by decide +kernel
theorem dX7_canChange_1 : decode cX7_canChange 1 = .ok (.getfield 107, 3) := by decide +kernel
theorem dX7_canChange_4 : decode cX7_canChange 4 = .ok (.bipush 40, 2) := by decide +kernel
theorem dX7_canChange_6 : decode cX7_canChange 6 = .ok (.iload_n 1, 1) := by decide +kernel
theorem dX7_canChange_7 : decode cX7_canChange 7 = .ok (.iadd, 1) := by decide +kernel
theorem dX7_canChange_8 : decode cX7_canChange 8 = .ok (.iaload, 1) := by decide +kernel
theorem dX7_canChange_9 : decode cX7_canChange 9 = .ok (.ifCond .ne 19, 3) := by decide +kernel
theorem dX7_canChange_12 : decode cX7_canChange 12 = .ok (.aload_n 0, 1) := by decide +kernel
theorem dX7_canChange_13 : decode cX7_canChange 13 = .ok (.getfield 107, 3) := by decide +kernel
theorem dX7_canChange_16 : decode cX7_canChange 16 = .ok (.bipush 40, 2) := by decide +kernel
theorem dX7_canChange_18 : decode cX7_canChange 18 = .ok (.iload_n 2, 1) := by decide +kernel
theorem dX7_canChange_19 : decode cX7_canChange 19 = .ok (.iadd, 1) := by decide +kernel
theorem dX7_canChange_20 : decode cX7_canChange 20 = .ok (.iaload, 1) := by decide +kernel
theorem dX7_canChange_21 : decode cX7_canChange 21 = .ok (.ifCond .ne 7, 3) := by decide +kernel
theorem dX7_canChange_24 : decode cX7_canChange 24 = .ok (.iconst 1, 1) := by decide +kernel
theorem dX7_canChange_25 : decode cX7_canChange 25 = .ok (.goto 4, 3) := by decide +kernel
theorem dX7_canChange_28 : decode cX7_canChange 28 = .ok (.iconst 0, 1) := by decide +kernel
theorem dX7_canChange_29 : decode cX7_canChange 29 = .ok (.ireturn, 1) := by decide +kernel
theorem dX7_change_0 : decode cX7_change 0 = .ok (.aload_n 0, 1) := by decide +kernel
theorem dX7_change_1 : decode cX7_change 1 = .ok (.iload_n 1, 1) := by decide +kernel
theorem dX7_change_2 : decode cX7_change 2 = .ok (.invokevirtual 393, 3) := by decide +kernel
theorem dX7_change_5 : decode cX7_change 5 = .ok (.ifCond .eq 25, 3) := by decide +kernel
theorem dX7_change_8 : decode cX7_change 8 = .ok (.aload_n 0, 1) := by decide +kernel
theorem dX7_change_9 : decode cX7_change 9 = .ok (.iload_n 2, 1) := by decide +kernel
theorem dX7_change_10 : decode cX7_change 10 = .ok (.invokevirtual 393, 3) := by decide +kernel
theorem dX7_change_13 : decode cX7_change 13 = .ok (.ifCond .eq 17, 3) := by decide +kernel
theorem dX7_change_16 : decode cX7_change 16 = .ok (.iload_n 1, 1) := by decide +kernel
theorem dX7_change_17 : decode cX7_change 17 = .ok (.iload_n 2, 1) := by decide +kernel
theorem dX7_change_18 : decode cX7_change 18 = .ok (.if_icmp .eq 12, 3) := by decide +kernel
theorem dX7_change_21 : decode cX7_change 21 = .ok (.aload_n 0, 1) := by decide +kernel
theorem dX7_change_22 : decode cX7_change 22 = .ok (.iload_n 1, 1) := by decide +kernel
theorem dX7_change_23 : decode cX7_change 23 = .ok (.iload_n 2, 1) := by decide +kernel
theorem dX7_change_24 : decode cX7_change 24 = .ok (.invokevirtual 405, 3) := by decide +kernel
theorem dX7_change_27 : decode cX7_change 27 = .ok (.ifCond .ne 5, 3) := by decide +kernel
theorem dX7_change_30 : decode cX7_change 30 = .ok (.iconst 0, 1) := by decide +kernel
theorem dX7_change_31 : decode cX7_change 31 = .ok (.ireturn, 1) := by decide +kernel
theorem dX7_change_32 : decode cX7_change 32 = .ok (.aload_n 0, 1) := by decide +kernel
theorem dX7_change_33 : decode cX7_change 33 = .ok (.invokevirtual 305, 3) := by decide +kernel
theorem dX7_change_36 : decode cX7_change 36 = .ok (.aload_n 0, 1) := by decide +kernel
theorem dX7_change_37 : decode cX7_change 37 = .ok (.iload_n 1, 1) := by decide +kernel
theorem dX7_change_38 : decode cX7_change 38 = .ok (.iload_n 2, 1) := by decide +kernel
theorem dX7_change_39 : decode cX7_change 39 = .ok (.invokevirtual 408, 3) := by decide +kernel
theorem dX7_change_42 : decode cX7_change 42 = .ok (.aload_n 0, 1) := by decide +kernel
theorem dX7_change_43 : decode cX7_change 43 = .ok (.invokevirtual 402, 3) := by decide +kernel
theorem dX7_change_46 : decode cX7_change 46 = .ok (.iconst 1, 1) := by decide +kernel
theorem dX7_change_47 : decode cX7_change 47 = .ok (.ireturn, 1) := by decide +kernel
theorem dX7_isLong_0 : decode cX7_isLong 0 = .ok (.iload_n 0, 1) := by decide +kernel
theorem dX7_isLong_1 : decode cX7_isLong 1 = .ok (.iconst 0, 1) := by decide +kernel
theorem dX7_isLong_2 : decode cX7_isLong 2 = .ok (.bipush 72, 2) := by decide +kernel
theorem dX7_isLong_4 : decode cX7_isLong 4 = .ok (.invokestatic 292, 3) := by decide +kernel
theorem dX7_isLong_7 : decode cX7_isLong 7 = .ok (.ireturn, 1) := by decide +kernel
theorem dX7_isSome_0 : decode cX7_isSome 0 = .ok (.iload_n 0, 1) := by decide +kernel
theorem dX7_isSome_1 : decode cX7_isSome 1 = .ok (.iconst 1, 1) := by decide +kernel
theorem dX7_isSome_2 : decode cX7_isSome 2 = .ok (.bipush 72, 2) := by decide +kernel
theorem dX7_isSome_4 : decode cX7_isSome 4 = .ok (.invokestatic 292, 3) := by decide +kernel
theorem dX7_isSome_7 : decode cX7_isSome 7 = .ok (.ireturn, 1) := by decide +kernel
theorem dX7_hours_0 : decode cX7_hours 0 = .ok (.iload_n 1, 1) := by decide +kernel
theorem dX7_hours_1 : decode cX7_hours 1 = .ok (.invokestatic 411, 3) := by decide +kernel
theorem dX7_hours_4 : decode cX7_hours 4 = .ok (.ifCond .ne 5, 3) := by decide +kernel
theorem dX7_hours_7 : decode cX7_hours 7 = .ok (.iconst (-1), 1) := by decide +kernel
theorem dX7_hours_8 : decode cX7_hours 8 = .ok (.ireturn, 1) := by decide +kernel
theorem dX7_hours_9 : decode cX7_hours 9 = .ok (.iload_n 1, 1) := by decide +kernel
theorem dX7_hours_10 : decode cX7_hours 10 = .ok (.ifCond .ne 11, 3) := by decide +kernel
theorem dX7_hours_13 : decode cX7_hours 13 = .ok (.aload_n 0, 1) := by decide +kernel
theorem dX7_hours_14 : decode cX7_hours 14 = .ok (.getfield 107, 3) := by decide +kernel
theorem dX7_hours_17 : decode cX7_hours 17 = .ok (.bipush 84, 2) := by decide +kernel
theorem dX7_hours_19 : decode cX7_hours 19 = .ok (.iaload, 1) := by decide +kernel
theorem dX7_hours_20 : decode cX7_hours 20 = .ok (.ireturn, 1) := by decide +kernel
theorem dX7_hours_21 : decode cX7_hours 21 = .ok (.aload_n 0, 1) := by decide +kernel
theorem dX7_hours_22 : decode cX7_hours 22 = .ok (.invokevirtual 305, 3) := by decide +kernel
theorem dX7_hours_25 : decode cX7_hours 25 = .ok (.aload_n 0, 1) := by decide +kernel
theorem dX7_hours_26 : decode cX7_hours 26 = .ok (.iload_n 1, 1) := by decide +kernel
theorem dX7_hours_27 : decode cX7_hours 27 = .ok (.invokevirtual 414, 3) := by decide +kernel
theorem dX7_hours_30 : decode cX7_hours 30 = .ok (.aload_n 0, 1) := by decide +kernel
theorem dX7_hours_31 : decode cX7_hours 31 = .ok (.invokevirtual 402, 3) := by decide +kernel
theorem dX7_hours_34 : decode cX7_hours 34 = .ok (.aload_n 0, 1) := by decide +kernel
theorem dX7_hours_35 : decode cX7_hours 35 = .ok (.getfield 107, 3) := by decide +kernel
theorem dX7_hours_38 : decode cX7_hours 38 = .ok (.bipush 84, 2) := by decide +kernel
theorem dX7_hours_40 : decode cX7_hours 40 = .ok (.iaload, 1) := by decide +kernel
theorem dX7_hours_41 : decode cX7_hours 41 = .ok (.ireturn, 1) := by decide +kernel
theorem dX7_undo_0 : decode cX7_undo 0 = .ok (.aload_n 0, 1) := by decide +kernel
theorem dX7_undo_1 : decode cX7_undo 1 = .ok (.getfield 236, 3) := by decide +kernel
theorem dX7_undo_4 : decode cX7_undo 4 = .ok (.ifCond .ne 5, 3) := by decide +kernel
theorem dX7_undo_7 : decode cX7_undo 7 = .ok (.iconst 0, 1) := by decide +kernel
theorem dX7_undo_8 : decode cX7_undo 8 = .ok (.ireturn, 1) := by decide +kernel
theorem dX7_undo_9 : decode cX7_undo 9 = .ok (.aload_n 0, 1) := by decide +kernel
theorem dX7_undo_10 : decode cX7_undo 10 = .ok (.dup, 1) := by decide +kernel
theorem dX7_undo_11 : decode cX7_undo 11 = .ok (.getfield 236, 3) := by decide +kernel
theorem dX7_undo_14 : decode cX7_undo 14 = .ok (.iconst 1, 1) := by decide +kernel
theorem dX7_undo_15 : decode cX7_undo 15 = .ok (.isub, 1) := by decide +kernel
theorem dX7_undo_16 : decode cX7_undo 16 = .ok (.putfield 236, 3) := by decide +kernel
theorem dX7_undo_19 : decode cX7_undo 19 = .ok (.iconst 0, 1) := by decide +kernel
theorem dX7_undo_20 : decode cX7_undo 20 = .ok (.istore_n 1, 1) := by decide +kernel
theorem dX7_undo_21 : decode cX7_undo 21 = .ok (.iload_n 1, 1) := by decide +kernel
theorem dX7_undo_22 : decode cX7_undo 22 = .ok (.bipush 88, 2) := by decide +kernel
theorem dX7_undo_24 : decode cX7_undo 24 = .ok (.if_icmp .ge 29, 3) := by decide +kernel
theorem dX7_undo_27 : decode cX7_undo 27 = .ok (.aload_n 0, 1) := by decide +kernel
theorem dX7_undo_28 : decode cX7_undo 28 = .ok (.getfield 107, 3) := by decide +kernel
theorem dX7_undo_31 : decode cX7_undo 31 = .ok (.iload_n 1, 1) := by decide +kernel
theorem dX7_undo_32 : decode cX7_undo 32 = .ok (.aload_n 0, 1) := by decide +kernel
theorem dX7_undo_33 : decode cX7_undo 33 = .ok (.getfield 116, 3) := by decide +kernel
theorem dX7_undo_36 : decode cX7_undo 36 = .ok (.bipush 88, 2) := by decide +kernel
theorem dX7_undo_38 : decode cX7_undo 38 = .ok (.aload_n 0, 1) := by decide +kernel
theorem dX7_undo_39 : decode cX7_undo 39 = .ok (.getfield 236, 3) := by decide +kernel
theorem dX7_undo_42 : decode cX7_undo 42 = .ok (.imul, 1) := by decide +kernel
theorem dX7_undo_43 : decode cX7_undo 43 = .ok (.iload_n 1, 1) := by decide +kernel
theorem dX7_undo_44 : decode cX7_undo 44 = .ok (.iadd, 1) := by decide +kernel
theorem dX7_undo_45 : decode cX7_undo 45 = .ok (.iaload, 1) := by decide +kernel
theorem dX7_undo_46 : decode cX7_undo 46 = .ok (.iastore, 1) := by decide +kernel
theorem dX7_undo_47 : decode cX7_undo 47 = .ok (.iinc 1 1, 3) := by decide +kernel
theorem dX7_undo_50 : decode cX7_undo 50 = .ok (.goto (-29), 3) := by decide +kernel
theorem dX7_undo_53 : decode cX7_undo 53 = .ok (.iconst 1, 1) := by decide +kernel
theorem dX7_undo_54 : decode cX7_undo 54 = .ok (.ireturn, 1) := by decide +kernel
theorem dX7_openers_0 : decode cX7_openers 0 = .ok (.aload_n 0, 1) := by decide +kernel
theorem dX7_openers_1 : decode cX7_openers 1 = .ok (.iload_n 1, 1) := by decide +kernel
theorem dX7_openers_2 : decode cX7_openers 2 = .ok (.invokevirtual 393, 3) := by decide +kernel
theorem dX7_openers_5 : decode cX7_openers 5 = .ok (.ifCond .ne 5, 3) := by decide +kernel
theorem dX7_openers_8 : decode cX7_openers 8 = .ok (.iconst (-1), 1) := by decide +kernel
theorem dX7_openers_9 : decode cX7_openers 9 = .ok (.ireturn, 1) := by decide +kernel
theorem dX7_openers_10 : decode cX7_openers 10 = .ok (.aload_n 0, 1) := by decide +kernel
theorem dX7_openers_11 : decode cX7_openers 11 = .ok (.invokevirtual 305, 3) := by decide +kernel
theorem dX7_openers_14 : decode cX7_openers 14 = .ok (.iconst 0, 1) := by decide +kernel
theorem dX7_openers_15 : decode cX7_openers 15 = .ok (.istore_n 2, 1) := by decide +kernel
theorem dX7_openers_16 : decode cX7_openers 16 = .ok (.aload_n 0, 1) := by decide +kernel
theorem dX7_openers_17 : decode cX7_openers 17 = .ok (.iload_n 1, 1) := by decide +kernel
theorem dX7_openers_18 : decode cX7_openers 18 = .ok (.invokevirtual 346, 3) := by decide +kernel
theorem dX7_openers_21 : decode cX7_openers 21 = .ok (.ifCond .eq 9, 3) := by decide +kernel
theorem dX7_openers_24 : decode cX7_openers 24 = .ok (.iload_n 2, 1) := by decide +kernel
theorem dX7_openers_25 : decode cX7_openers 25 = .ok (.iconst 1, 1) := by decide +kernel
theorem dX7_openers_26 : decode cX7_openers 26 = .ok (.iload_n 1, 1) := by decide +kernel
theorem dX7_openers_27 : decode cX7_openers 27 = .ok (.ishl, 1) := by decide +kernel
theorem dX7_openers_28 : decode cX7_openers 28 = .ok (.ior, 1) := by decide +kernel
theorem dX7_openers_29 : decode cX7_openers 29 = .ok (.istore_n 2, 1) := by decide +kernel
theorem dX7_openers_30 : decode cX7_openers 30 = .ok (.aload_n 0, 1) := by decide +kernel
theorem dX7_openers_31 : decode cX7_openers 31 = .ok (.iload_n 1, 1) := by decide +kernel
theorem dX7_openers_32 : decode cX7_openers 32 = .ok (.invokevirtual 349, 3) := by decide +kernel
theorem dX7_openers_35 : decode cX7_openers 35 = .ok (.ifCond .eq 13, 3) := by decide +kernel
theorem dX7_openers_38 : decode cX7_openers 38 = .ok (.iload_n 2, 1) := by decide +kernel
theorem dX7_openers_39 : decode cX7_openers 39 = .ok (.iconst 1, 1) := by decide +kernel
theorem dX7_openers_40 : decode cX7_openers 40 = .ok (.aload_n 0, 1) := by decide +kernel
theorem dX7_openers_41 : decode cX7_openers 41 = .ok (.iload_n 1, 1) := by decide +kernel
theorem dX7_openers_42 : decode cX7_openers 42 = .ok (.invokevirtual 340, 3) := by decide +kernel
theorem dX7_openers_45 : decode cX7_openers 45 = .ok (.ishl, 1) := by decide +kernel
theorem dX7_openers_46 : decode cX7_openers 46 = .ok (.ior, 1) := by decide +kernel
theorem dX7_openers_47 : decode cX7_openers 47 = .ok (.istore_n 2, 1) := by decide +kernel
theorem dX7_openers_48 : decode cX7_openers 48 = .ok (.aload_n 0, 1) := by decide +kernel
theorem dX7_openers_49 : decode cX7_openers 49 = .ok (.iload_n 1, 1) := by decide +kernel
theorem dX7_openers_50 : decode cX7_openers 50 = .ok (.invokevirtual 356, 3) := by decide +kernel
theorem dX7_openers_53 : decode cX7_openers 53 = .ok (.ifCond .eq 13, 3) := by decide +kernel
theorem dX7_openers_56 : decode cX7_openers 56 = .ok (.iload_n 2, 1) := by decide +kernel
theorem dX7_openers_57 : decode cX7_openers 57 = .ok (.iconst 1, 1) := by decide +kernel
theorem dX7_openers_58 : decode cX7_openers 58 = .ok (.aload_n 0, 1) := by decide +kernel
theorem dX7_openers_59 : decode cX7_openers 59 = .ok (.iload_n 1, 1) := by decide +kernel
theorem dX7_openers_60 : decode cX7_openers 60 = .ok (.invokevirtual 343, 3) := by decide +kernel
theorem dX7_openers_63 : decode cX7_openers 63 = .ok (.ishl, 1) := by decide +kernel
theorem dX7_openers_64 : decode cX7_openers 64 = .ok (.ior, 1) := by decide +kernel
theorem dX7_openers_65 : decode cX7_openers 65 = .ok (.istore_n 2, 1) := by decide +kernel
theorem dX7_openers_66 : decode cX7_openers 66 = .ok (.iload_n 2, 1) := by decide +kernel
theorem dX7_openers_67 : decode cX7_openers 67 = .ok (.ireturn, 1) := by decide +kernel
theorem dX7_standsFor_0 : decode cX7_standsFor 0 = .ok (.iconst 0, 1) := by decide +kernel
theorem dX7_standsFor_1 : decode cX7_standsFor 1 = .ok (.istore_n 2, 1) := by decide +kernel
theorem dX7_standsFor_2 : decode cX7_standsFor 2 = .ok (.iload_n 2, 1) := by decide +kernel
theorem dX7_standsFor_3 : decode cX7_standsFor 3 = .ok (.bipush 8, 2) := by decide +kernel
theorem dX7_standsFor_5 : decode cX7_standsFor 5 = .ok (.if_icmp .ge 16, 3) := by decide +kernel
theorem dX7_standsFor_8 : decode cX7_standsFor 8 = .ok (.aload_n 0, 1) := by decide +kernel
theorem dX7_standsFor_9 : decode cX7_standsFor 9 = .ok (.getfield 119, 3) := by decide +kernel
theorem dX7_standsFor_12 : decode cX7_standsFor 12 = .ok (.iload_n 2, 1) := by decide +kernel
theorem dX7_standsFor_13 : decode cX7_standsFor 13 = .ok (.iconst 0, 1) := by decide +kernel
theorem dX7_standsFor_14 : decode cX7_standsFor 14 = .ok (.iastore, 1) := by decide +kernel
theorem dX7_standsFor_15 : decode cX7_standsFor 15 = .ok (.iinc 2 1, 3) := by decide +kernel
theorem dX7_standsFor_18 : decode cX7_standsFor 18 = .ok (.goto (-16), 3) := by decide +kernel
theorem dX7_standsFor_21 : decode cX7_standsFor 21 = .ok (.aload_n 0, 1) := by decide +kernel
theorem dX7_standsFor_22 : decode cX7_standsFor 22 = .ok (.iconst 0, 1) := by decide +kernel
theorem dX7_standsFor_23 : decode cX7_standsFor 23 = .ok (.putfield 417, 3) := by decide +kernel
theorem dX7_standsFor_26 : decode cX7_standsFor 26 = .ok (.aload_n 0, 1) := by decide +kernel
theorem dX7_standsFor_27 : decode cX7_standsFor 27 = .ok (.bipush (-2), 2) := by decide +kernel
theorem dX7_standsFor_29 : decode cX7_standsFor 29 = .ok (.putfield 420, 3) := by decide +kernel
theorem dX7_standsFor_32 : decode cX7_standsFor 32 = .ok (.aload_n 0, 1) := by decide +kernel
theorem dX7_standsFor_33 : decode cX7_standsFor 33 = .ok (.iconst 0, 1) := by decide +kernel
theorem dX7_standsFor_34 : decode cX7_standsFor 34 = .ok (.putfield 423, 3) := by decide +kernel
theorem dX7_standsFor_37 : decode cX7_standsFor 37 = .ok (.aload_n 0, 1) := by decide +kernel
theorem dX7_standsFor_38 : decode cX7_standsFor 38 = .ok (.iconst 0, 1) := by decide +kernel
theorem dX7_standsFor_39 : decode cX7_standsFor 39 = .ok (.putfield 426, 3) := by decide +kernel
theorem dX7_standsFor_42 : decode cX7_standsFor 42 = .ok (.aload_n 0, 1) := by decide +kernel
theorem dX7_standsFor_43 : decode cX7_standsFor 43 = .ok (.iconst 0, 1) := by decide +kernel
theorem dX7_standsFor_44 : decode cX7_standsFor 44 = .ok (.putfield 429, 3) := by decide +kernel
theorem dX7_standsFor_47 : decode cX7_standsFor 47 = .ok (.iconst 0, 1) := by decide +kernel
theorem dX7_standsFor_48 : decode cX7_standsFor 48 = .ok (.istore_n 2, 1) := by decide +kernel
theorem dX7_standsFor_49 : decode cX7_standsFor 49 = .ok (.iload_n 2, 1) := by decide +kernel
theorem dX7_standsFor_50 : decode cX7_standsFor 50 = .ok (.iload_n 1, 1) := by decide +kernel
theorem dX7_standsFor_51 : decode cX7_standsFor 51 = .ok (.if_icmp .ge 117, 3) := by decide +kernel
theorem dX7_standsFor_54 : decode cX7_standsFor 54 = .ok (.aload_n 0, 1) := by decide +kernel
theorem dX7_standsFor_55 : decode cX7_standsFor 55 = .ok (.invokevirtual 390, 3) := by decide +kernel
theorem dX7_standsFor_58 : decode cX7_standsFor 58 = .ok (.aload_n 0, 1) := by decide +kernel
theorem dX7_standsFor_59 : decode cX7_standsFor 59 = .ok (.iconst 2, 1) := by decide +kernel
theorem dX7_standsFor_60 : decode cX7_standsFor 60 = .ok (.invokevirtual 312, 3) := by decide +kernel
theorem dX7_standsFor_63 : decode cX7_standsFor 63 = .ok (.istore_n 3, 1) := by decide +kernel
theorem dX7_standsFor_64 : decode cX7_standsFor 64 = .ok (.iconst 0, 1) := by decide +kernel
theorem dX7_standsFor_65 : decode cX7_standsFor 65 = .ok (.istore 4, 2) := by decide +kernel
theorem dX7_standsFor_67 : decode cX7_standsFor 67 = .ok (.iload 4, 2) := by decide +kernel
theorem dX7_standsFor_69 : decode cX7_standsFor 69 = .ok (.bipush 8, 2) := by decide +kernel
theorem dX7_standsFor_71 : decode cX7_standsFor 71 = .ok (.if_icmp .ge 25, 3) := by decide +kernel
theorem dX7_standsFor_74 : decode cX7_standsFor 74 = .ok (.aload_n 0, 1) := by decide +kernel
theorem dX7_standsFor_75 : decode cX7_standsFor 75 = .ok (.getfield 119, 3) := by decide +kernel
theorem dX7_standsFor_78 : decode cX7_standsFor 78 = .ok (.iload 4, 2) := by decide +kernel
theorem dX7_standsFor_80 : decode cX7_standsFor 80 = .ok (.dup2, 1) := by decide +kernel
theorem dX7_standsFor_81 : decode cX7_standsFor 81 = .ok (.iaload, 1) := by decide +kernel
theorem dX7_standsFor_82 : decode cX7_standsFor 82 = .ok (.iload_n 3, 1) := by decide +kernel
theorem dX7_standsFor_83 : decode cX7_standsFor 83 = .ok (.iload 4, 2) := by decide +kernel
theorem dX7_standsFor_85 : decode cX7_standsFor 85 = .ok (.ishr, 1) := by decide +kernel
theorem dX7_standsFor_86 : decode cX7_standsFor 86 = .ok (.iconst 1, 1) := by decide +kernel
theorem dX7_standsFor_87 : decode cX7_standsFor 87 = .ok (.iand, 1) := by decide +kernel
theorem dX7_standsFor_88 : decode cX7_standsFor 88 = .ok (.iadd, 1) := by decide +kernel
theorem dX7_standsFor_89 : decode cX7_standsFor 89 = .ok (.iastore, 1) := by decide +kernel
theorem dX7_standsFor_90 : decode cX7_standsFor 90 = .ok (.iinc 4 1, 3) := by decide +kernel
theorem dX7_standsFor_93 : decode cX7_standsFor 93 = .ok (.goto (-26), 3) := by decide +kernel
theorem dX7_standsFor_96 : decode cX7_standsFor 96 = .ok (.aload_n 0, 1) := by decide +kernel
theorem dX7_standsFor_97 : decode cX7_standsFor 97 = .ok (.dup, 1) := by decide +kernel
theorem dX7_standsFor_98 : decode cX7_standsFor 98 = .ok (.getfield 417, 3) := by decide +kernel
theorem dX7_standsFor_101 : decode cX7_standsFor 101 = .ok (.iload_n 3, 1) := by decide +kernel
theorem dX7_standsFor_102 : decode cX7_standsFor 102 = .ok (.invokestatic 315, 3) := by decide +kernel
theorem dX7_standsFor_105 : decode cX7_standsFor 105 = .ok (.iadd, 1) := by decide +kernel
theorem dX7_standsFor_106 : decode cX7_standsFor 106 = .ok (.putfield 417, 3) := by decide +kernel
theorem dX7_standsFor_109 : decode cX7_standsFor 109 = .ok (.aload_n 0, 1) := by decide +kernel
theorem dX7_standsFor_110 : decode cX7_standsFor 110 = .ok (.dup, 1) := by decide +kernel
theorem dX7_standsFor_111 : decode cX7_standsFor 111 = .ok (.getfield 423, 3) := by decide +kernel
theorem dX7_standsFor_114 : decode cX7_standsFor 114 = .ok (.iload_n 3, 1) := by decide +kernel
theorem dX7_standsFor_115 : decode cX7_standsFor 115 = .ok (.ior, 1) := by decide +kernel
theorem dX7_standsFor_116 : decode cX7_standsFor 116 = .ok (.putfield 423, 3) := by decide +kernel
theorem dX7_standsFor_119 : decode cX7_standsFor 119 = .ok (.iload_n 3, 1) := by decide +kernel
theorem dX7_standsFor_120 : decode cX7_standsFor 120 = .ok (.ifCond .eq 15, 3) := by decide +kernel
theorem dX7_standsFor_123 : decode cX7_standsFor 123 = .ok (.aload_n 0, 1) := by decide +kernel
theorem dX7_standsFor_124 : decode cX7_standsFor 124 = .ok (.getfield 420, 3) := by decide +kernel
theorem dX7_standsFor_127 : decode cX7_standsFor 127 = .ok (.ifCond .ge 8, 3) := by decide +kernel
theorem dX7_standsFor_130 : decode cX7_standsFor 130 = .ok (.aload_n 0, 1) := by decide +kernel
theorem dX7_standsFor_131 : decode cX7_standsFor 131 = .ok (.iload_n 2, 1) := by decide +kernel
theorem dX7_standsFor_132 : decode cX7_standsFor 132 = .ok (.putfield 420, 3) := by decide +kernel
theorem dX7_standsFor_135 : decode cX7_standsFor 135 = .ok (.iload_n 3, 1) := by decide +kernel
theorem dX7_standsFor_136 : decode cX7_standsFor 136 = .ok (.invokestatic 315, 3) := by decide +kernel
theorem dX7_standsFor_139 : decode cX7_standsFor 139 = .ok (.aload_n 0, 1) := by decide +kernel
theorem dX7_standsFor_140 : decode cX7_standsFor 140 = .ok (.getfield 429, 3) := by decide +kernel
theorem dX7_standsFor_143 : decode cX7_standsFor 143 = .ok (.if_icmp .gt 6, 3) := by decide +kernel
theorem dX7_standsFor_146 : decode cX7_standsFor 146 = .ok (.goto 16, 3) := by decide +kernel
theorem dX7_standsFor_149 : decode cX7_standsFor 149 = .ok (.aload_n 0, 1) := by decide +kernel
theorem dX7_standsFor_150 : decode cX7_standsFor 150 = .ok (.iload_n 2, 1) := by decide +kernel
theorem dX7_standsFor_151 : decode cX7_standsFor 151 = .ok (.putfield 426, 3) := by decide +kernel
theorem dX7_standsFor_154 : decode cX7_standsFor 154 = .ok (.aload_n 0, 1) := by decide +kernel
theorem dX7_standsFor_155 : decode cX7_standsFor 155 = .ok (.iload_n 3, 1) := by decide +kernel
theorem dX7_standsFor_156 : decode cX7_standsFor 156 = .ok (.invokestatic 315, 3) := by decide +kernel
theorem dX7_standsFor_159 : decode cX7_standsFor 159 = .ok (.putfield 429, 3) := by decide +kernel
theorem dX7_standsFor_162 : decode cX7_standsFor 162 = .ok (.iinc 2 1, 3) := by decide +kernel
theorem dX7_standsFor_165 : decode cX7_standsFor 165 = .ok (.goto (-116), 3) := by decide +kernel
theorem dX7_standsFor_168 : decode cX7_standsFor 168 = .ok (.return_, 1) := by decide +kernel
theorem dX7_stand_0 : decode cX7_stand 0 = .ok (.iload_n 1, 1) := by decide +kernel
theorem dX7_stand_1 : decode cX7_stand 1 = .ok (.iconst (-1), 1) := by decide +kernel
theorem dX7_stand_2 : decode cX7_stand 2 = .ok (.if_icmp .eq 11, 3) := by decide +kernel
theorem dX7_stand_5 : decode cX7_stand 5 = .ok (.aload_n 0, 1) := by decide +kernel
theorem dX7_stand_6 : decode cX7_stand 6 = .ok (.iload_n 1, 1) := by decide +kernel
theorem dX7_stand_7 : decode cX7_stand 7 = .ok (.invokevirtual 393, 3) := by decide +kernel
theorem dX7_stand_10 : decode cX7_stand 10 = .ok (.ifCond .eq 10, 3) := by decide +kernel
theorem dX7_stand_13 : decode cX7_stand 13 = .ok (.iload_n 2, 1) := by decide +kernel
theorem dX7_stand_14 : decode cX7_stand 14 = .ok (.invokestatic 432, 3) := by decide +kernel
theorem dX7_stand_17 : decode cX7_stand 17 = .ok (.ifCond .ne 5, 3) := by decide +kernel
theorem dX7_stand_20 : decode cX7_stand 20 = .ok (.iconst (-1), 1) := by decide +kernel
theorem dX7_stand_21 : decode cX7_stand 21 = .ok (.ireturn, 1) := by decide +kernel
theorem dX7_stand_22 : decode cX7_stand 22 = .ok (.aload_n 0, 1) := by decide +kernel
theorem dX7_stand_23 : decode cX7_stand 23 = .ok (.invokevirtual 435, 3) := by decide +kernel
theorem dX7_stand_26 : decode cX7_stand 26 = .ok (.aload_n 0, 1) := by decide +kernel
theorem dX7_stand_27 : decode cX7_stand 27 = .ok (.iload_n 2, 1) := by decide +kernel
theorem dX7_stand_28 : decode cX7_stand 28 = .ok (.invokevirtual 438, 3) := by decide +kernel
theorem dX7_stand_31 : decode cX7_stand 31 = .ok (.iload_n 1, 1) := by decide +kernel
theorem dX7_stand_32 : decode cX7_stand 32 = .ok (.iconst (-1), 1) := by decide +kernel
theorem dX7_stand_33 : decode cX7_stand 33 = .ok (.if_icmp .ne 10, 3) := by decide +kernel
theorem dX7_stand_36 : decode cX7_stand 36 = .ok (.aload_n 0, 1) := by decide +kernel
theorem dX7_stand_37 : decode cX7_stand 37 = .ok (.getfield 417, 3) := by decide +kernel
theorem dX7_stand_40 : decode cX7_stand 40 = .ok (.goto 9, 3) := by decide +kernel
theorem dX7_stand_43 : decode cX7_stand 43 = .ok (.aload_n 0, 1) := by decide +kernel
theorem dX7_stand_44 : decode cX7_stand 44 = .ok (.getfield 119, 3) := by decide +kernel
theorem dX7_stand_47 : decode cX7_stand 47 = .ok (.iload_n 1, 1) := by decide +kernel
theorem dX7_stand_48 : decode cX7_stand 48 = .ok (.iaload, 1) := by decide +kernel
theorem dX7_stand_49 : decode cX7_stand 49 = .ok (.ireturn, 1) := by decide +kernel
theorem dX7_firstStand_0 : decode cX7_firstStand 0 = .ok (.iload_n 1, 1) := by decide +kernel
theorem dX7_firstStand_1 : decode cX7_firstStand 1 = .ok (.invokestatic 432, 3) := by decide +kernel
theorem dX7_firstStand_4 : decode cX7_firstStand 4 = .ok (.ifCond .ne 5, 3) := by decide +kernel
theorem dX7_firstStand_7 : decode cX7_firstStand 7 = .ok (.iconst (-1), 1) := by decide +kernel
theorem dX7_firstStand_8 : decode cX7_firstStand 8 = .ok (.ireturn, 1) := by decide +kernel
theorem dX7_firstStand_9 : decode cX7_firstStand 9 = .ok (.aload_n 0, 1) := by decide +kernel
theorem dX7_firstStand_10 : decode cX7_firstStand 10 = .ok (.invokevirtual 435, 3) := by decide +kernel
theorem dX7_firstStand_13 : decode cX7_firstStand 13 = .ok (.aload_n 0, 1) := by decide +kernel
theorem dX7_firstStand_14 : decode cX7_firstStand 14 = .ok (.iload_n 1, 1) := by decide +kernel
theorem dX7_firstStand_15 : decode cX7_firstStand 15 = .ok (.invokevirtual 438, 3) := by decide +kernel
theorem dX7_firstStand_18 : decode cX7_firstStand 18 = .ok (.aload_n 0, 1) := by decide +kernel
theorem dX7_firstStand_19 : decode cX7_firstStand 19 = .ok (.getfield 420, 3) := by decide +kernel
theorem dX7_firstStand_22 : decode cX7_firstStand 22 = .ok (.ireturn, 1) := by decide +kernel
theorem dX7_keptBits_0 : decode cX7_keptBits 0 = .ok (.iconst 0, 1) := by decide +kernel
theorem dX7_keptBits_1 : decode cX7_keptBits 1 = .ok (.istore_n 1, 1) := by decide +kernel
theorem dX7_keptBits_2 : decode cX7_keptBits 2 = .ok (.iconst 0, 1) := by decide +kernel
theorem dX7_keptBits_3 : decode cX7_keptBits 3 = .ok (.istore_n 2, 1) := by decide +kernel
theorem dX7_keptBits_4 : decode cX7_keptBits 4 = .ok (.iload_n 2, 1) := by decide +kernel
theorem dX7_keptBits_5 : decode cX7_keptBits 5 = .ok (.aload_n 0, 1) := by decide +kernel
theorem dX7_keptBits_6 : decode cX7_keptBits 6 = .ok (.getfield 43, 3) := by decide +kernel
theorem dX7_keptBits_9 : decode cX7_keptBits 9 = .ok (.aload_n 0, 1) := by decide +kernel
theorem dX7_keptBits_10 : decode cX7_keptBits 10 = .ok (.getfield 218, 3) := by decide +kernel
theorem dX7_keptBits_13 : decode cX7_keptBits 13 = .ok (.iaload, 1) := by decide +kernel
theorem dX7_keptBits_14 : decode cX7_keptBits 14 = .ok (.if_icmp .ge 23, 3) := by decide +kernel
theorem dX7_keptBits_17 : decode cX7_keptBits 17 = .ok (.iload_n 1, 1) := by decide +kernel
theorem dX7_keptBits_18 : decode cX7_keptBits 18 = .ok (.aload_n 0, 1) := by decide +kernel
theorem dX7_keptBits_19 : decode cX7_keptBits 19 = .ok (.getfield 107, 3) := by decide +kernel
theorem dX7_keptBits_22 : decode cX7_keptBits 22 = .ok (.bipush 32, 2) := by decide +kernel
theorem dX7_keptBits_24 : decode cX7_keptBits 24 = .ok (.iload_n 2, 1) := by decide +kernel
theorem dX7_keptBits_25 : decode cX7_keptBits 25 = .ok (.iadd, 1) := by decide +kernel
theorem dX7_keptBits_26 : decode cX7_keptBits 26 = .ok (.iaload, 1) := by decide +kernel
theorem dX7_keptBits_27 : decode cX7_keptBits 27 = .ok (.iload_n 2, 1) := by decide +kernel
theorem dX7_keptBits_28 : decode cX7_keptBits 28 = .ok (.ishl, 1) := by decide +kernel
theorem dX7_keptBits_29 : decode cX7_keptBits 29 = .ok (.ior, 1) := by decide +kernel
theorem dX7_keptBits_30 : decode cX7_keptBits 30 = .ok (.istore_n 1, 1) := by decide +kernel
theorem dX7_keptBits_31 : decode cX7_keptBits 31 = .ok (.iinc 2 1, 3) := by decide +kernel
theorem dX7_keptBits_34 : decode cX7_keptBits 34 = .ok (.goto (-30), 3) := by decide +kernel
theorem dX7_keptBits_37 : decode cX7_keptBits 37 = .ok (.iload_n 1, 1) := by decide +kernel
theorem dX7_keptBits_38 : decode cX7_keptBits 38 = .ok (.ireturn, 1) := by decide +kernel
theorem dX7_isEnough_0 : decode cX7_isEnough 0 = .ok (.aload_n 0, 1) := by decide +kernel
theorem dX7_isEnough_1 : decode cX7_isEnough 1 = .ok (.invokevirtual 435, 3) := by decide +kernel
theorem dX7_isEnough_4 : decode cX7_isEnough 4 = .ok (.iconst 0, 1) := by decide +kernel
theorem dX7_isEnough_5 : decode cX7_isEnough 5 = .ok (.istore_n 2, 1) := by decide +kernel
theorem dX7_isEnough_6 : decode cX7_isEnough 6 = .ok (.iload_n 2, 1) := by decide +kernel
theorem dX7_isEnough_7 : decode cX7_isEnough 7 = .ok (.aload_n 0, 1) := by decide +kernel
theorem dX7_isEnough_8 : decode cX7_isEnough 8 = .ok (.getfield 43, 3) := by decide +kernel
theorem dX7_isEnough_11 : decode cX7_isEnough 11 = .ok (.aload_n 0, 1) := by decide +kernel
theorem dX7_isEnough_12 : decode cX7_isEnough 12 = .ok (.getfield 218, 3) := by decide +kernel
theorem dX7_isEnough_15 : decode cX7_isEnough 15 = .ok (.iaload, 1) := by decide +kernel
theorem dX7_isEnough_16 : decode cX7_isEnough 16 = .ok (.if_icmp .ge 28, 3) := by decide +kernel
theorem dX7_isEnough_19 : decode cX7_isEnough 19 = .ok (.iload_n 1, 1) := by decide +kernel
theorem dX7_isEnough_20 : decode cX7_isEnough 20 = .ok (.iload_n 2, 1) := by decide +kernel
theorem dX7_isEnough_21 : decode cX7_isEnough 21 = .ok (.ishr, 1) := by decide +kernel
theorem dX7_isEnough_22 : decode cX7_isEnough 22 = .ok (.iconst 1, 1) := by decide +kernel
theorem dX7_isEnough_23 : decode cX7_isEnough 23 = .ok (.iand, 1) := by decide +kernel
theorem dX7_isEnough_24 : decode cX7_isEnough 24 = .ok (.iconst 1, 1) := by decide +kernel
theorem dX7_isEnough_25 : decode cX7_isEnough 25 = .ok (.if_icmp .ne 13, 3) := by decide +kernel
theorem dX7_isEnough_28 : decode cX7_isEnough 28 = .ok (.aload_n 0, 1) := by decide +kernel
theorem dX7_isEnough_29 : decode cX7_isEnough 29 = .ok (.getfield 110, 3) := by decide +kernel
theorem dX7_isEnough_32 : decode cX7_isEnough 32 = .ok (.bipush 32, 2) := by decide +kernel
theorem dX7_isEnough_34 : decode cX7_isEnough 34 = .ok (.iload_n 2, 1) := by decide +kernel
theorem dX7_isEnough_35 : decode cX7_isEnough 35 = .ok (.iadd, 1) := by decide +kernel
theorem dX7_isEnough_36 : decode cX7_isEnough 36 = .ok (.iconst 1, 1) := by decide +kernel
theorem dX7_isEnough_37 : decode cX7_isEnough 37 = .ok (.iastore, 1) := by decide +kernel
theorem dX7_isEnough_38 : decode cX7_isEnough 38 = .ok (.iinc 2 1, 3) := by decide +kernel
theorem dX7_isEnough_41 : decode cX7_isEnough 41 = .ok (.goto (-35), 3) := by decide +kernel
theorem dX7_isEnough_44 : decode cX7_isEnough 44 = .ok (.iconst 0, 1) := by decide +kernel
theorem dX7_isEnough_45 : decode cX7_isEnough 45 = .ok (.istore_n 2, 1) := by decide +kernel
theorem dX7_isEnough_46 : decode cX7_isEnough 46 = .ok (.iload_n 2, 1) := by decide +kernel
theorem dX7_isEnough_47 : decode cX7_isEnough 47 = .ok (.bipush 72, 2) := by decide +kernel
theorem dX7_isEnough_49 : decode cX7_isEnough 49 = .ok (.if_icmp .ge 23, 3) := by decide +kernel
theorem dX7_isEnough_52 : decode cX7_isEnough 52 = .ok (.aload_n 0, 1) := by decide +kernel
theorem dX7_isEnough_53 : decode cX7_isEnough 53 = .ok (.invokevirtual 390, 3) := by decide +kernel
theorem dX7_isEnough_56 : decode cX7_isEnough 56 = .ok (.aload_n 0, 1) := by decide +kernel
theorem dX7_isEnough_57 : decode cX7_isEnough 57 = .ok (.iconst 2, 1) := by decide +kernel
theorem dX7_isEnough_58 : decode cX7_isEnough 58 = .ok (.invokevirtual 312, 3) := by decide +kernel
theorem dX7_isEnough_61 : decode cX7_isEnough 61 = .ok (.ifCond .eq 5, 3) := by decide +kernel
theorem dX7_isEnough_64 : decode cX7_isEnough 64 = .ok (.iconst 0, 1) := by decide +kernel
theorem dX7_isEnough_65 : decode cX7_isEnough 65 = .ok (.ireturn, 1) := by decide +kernel
theorem dX7_isEnough_66 : decode cX7_isEnough 66 = .ok (.iinc 2 1, 3) := by decide +kernel
theorem dX7_isEnough_69 : decode cX7_isEnough 69 = .ok (.goto (-23), 3) := by decide +kernel
theorem dX7_isEnough_72 : decode cX7_isEnough 72 = .ok (.iconst 1, 1) := by decide +kernel
theorem dX7_isEnough_73 : decode cX7_isEnough 73 = .ok (.ireturn, 1) := by decide +kernel
theorem dX7_stay_0 : decode cX7_stay 0 = .ok (.iload_n 1, 1) := by decide +kernel
theorem dX7_stay_1 : decode cX7_stay 1 = .ok (.iconst 0, 1) := by decide +kernel
theorem dX7_stay_2 : decode cX7_stay 2 = .ok (.iconst 1, 1) := by decide +kernel
theorem dX7_stay_3 : decode cX7_stay 3 = .ok (.invokestatic 292, 3) := by decide +kernel
theorem dX7_stay_6 : decode cX7_stay 6 = .ok (.ifCond .ne 5, 3) := by decide +kernel
theorem dX7_stay_9 : decode cX7_stay 9 = .ok (.iconst (-1), 1) := by decide +kernel
theorem dX7_stay_10 : decode cX7_stay 10 = .ok (.ireturn, 1) := by decide +kernel
theorem dX7_stay_11 : decode cX7_stay 11 = .ok (.aload_n 0, 1) := by decide +kernel
theorem dX7_stay_12 : decode cX7_stay 12 = .ok (.invokevirtual 441, 3) := by decide +kernel
theorem dX7_stay_15 : decode cX7_stay 15 = .ok (.istore_n 2, 1) := by decide +kernel
theorem dX7_stay_16 : decode cX7_stay 16 = .ok (.bipush (-2), 2) := by decide +kernel
theorem dX7_stay_18 : decode cX7_stay 18 = .ok (.istore_n 3, 1) := by decide +kernel
theorem dX7_stay_19 : decode cX7_stay 19 = .ok (.iconst 0, 1) := by decide +kernel
theorem dX7_stay_20 : decode cX7_stay 20 = .ok (.istore 4, 2) := by decide +kernel
theorem dX7_stay_22 : decode cX7_stay 22 = .ok (.iload 4, 2) := by decide +kernel
theorem dX7_stay_24 : decode cX7_stay 24 = .ok (.iconst 1, 1) := by decide +kernel
theorem dX7_stay_25 : decode cX7_stay 25 = .ok (.aload_n 0, 1) := by decide +kernel
theorem dX7_stay_26 : decode cX7_stay 26 = .ok (.getfield 43, 3) := by decide +kernel
theorem dX7_stay_29 : decode cX7_stay 29 = .ok (.aload_n 0, 1) := by decide +kernel
theorem dX7_stay_30 : decode cX7_stay 30 = .ok (.getfield 218, 3) := by decide +kernel
theorem dX7_stay_33 : decode cX7_stay 33 = .ok (.iaload, 1) := by decide +kernel
theorem dX7_stay_34 : decode cX7_stay 34 = .ok (.ishl, 1) := by decide +kernel
theorem dX7_stay_35 : decode cX7_stay 35 = .ok (.if_icmp .ge 47, 3) := by decide +kernel
theorem dX7_stay_38 : decode cX7_stay 38 = .ok (.iload 4, 2) := by decide +kernel
theorem dX7_stay_40 : decode cX7_stay 40 = .ok (.iload_n 2, 1) := by decide +kernel
theorem dX7_stay_41 : decode cX7_stay 41 = .ok (.iand, 1) := by decide +kernel
theorem dX7_stay_42 : decode cX7_stay 42 = .ok (.ifCond .ne 34, 3) := by decide +kernel
theorem dX7_stay_45 : decode cX7_stay 45 = .ok (.iload_n 3, 1) := by decide +kernel
theorem dX7_stay_46 : decode cX7_stay 46 = .ok (.ifCond .lt 15, 3) := by decide +kernel
theorem dX7_stay_49 : decode cX7_stay 49 = .ok (.iload 4, 2) := by decide +kernel
theorem dX7_stay_51 : decode cX7_stay 51 = .ok (.invokestatic 315, 3) := by decide +kernel
theorem dX7_stay_54 : decode cX7_stay 54 = .ok (.iload_n 3, 1) := by decide +kernel
theorem dX7_stay_55 : decode cX7_stay 55 = .ok (.invokestatic 315, 3) := by decide +kernel
theorem dX7_stay_58 : decode cX7_stay 58 = .ok (.if_icmp .ge 18, 3) := by decide +kernel
theorem dX7_stay_61 : decode cX7_stay 61 = .ok (.aload_n 0, 1) := by decide +kernel
theorem dX7_stay_62 : decode cX7_stay 62 = .ok (.iload 4, 2) := by decide +kernel
theorem dX7_stay_64 : decode cX7_stay 64 = .ok (.invokevirtual 444, 3) := by decide +kernel
theorem dX7_stay_67 : decode cX7_stay 67 = .ok (.ifCond .ne 6, 3) := by decide +kernel
theorem dX7_stay_70 : decode cX7_stay 70 = .ok (.goto 6, 3) := by decide +kernel
theorem dX7_stay_73 : decode cX7_stay 73 = .ok (.iload 4, 2) := by decide +kernel
theorem dX7_stay_75 : decode cX7_stay 75 = .ok (.istore_n 3, 1) := by decide +kernel
theorem dX7_stay_76 : decode cX7_stay 76 = .ok (.iinc 4 1, 3) := by decide +kernel
theorem dX7_stay_79 : decode cX7_stay 79 = .ok (.goto (-57), 3) := by decide +kernel
theorem dX7_stay_82 : decode cX7_stay 82 = .ok (.iload_n 3, 1) := by decide +kernel
theorem dX7_stay_83 : decode cX7_stay 83 = .ok (.ifCond .lt 8, 3) := by decide +kernel
theorem dX7_stay_86 : decode cX7_stay 86 = .ok (.iload_n 1, 1) := by decide +kernel
theorem dX7_stay_87 : decode cX7_stay 87 = .ok (.iconst 1, 1) := by decide +kernel
theorem dX7_stay_88 : decode cX7_stay 88 = .ok (.if_icmp .ne 7, 3) := by decide +kernel
theorem dX7_stay_91 : decode cX7_stay 91 = .ok (.iload_n 3, 1) := by decide +kernel
theorem dX7_stay_92 : decode cX7_stay 92 = .ok (.goto 7, 3) := by decide +kernel
theorem dX7_stay_95 : decode cX7_stay 95 = .ok (.iload_n 3, 1) := by decide +kernel
theorem dX7_stay_96 : decode cX7_stay 96 = .ok (.invokestatic 315, 3) := by decide +kernel
theorem dX7_stay_99 : decode cX7_stay 99 = .ok (.ireturn, 1) := by decide +kernel
theorem dX7_roundOff_0 : decode cX7_roundOff 0 = .ok (.iload_n 0, 1) := by decide +kernel
theorem dX7_roundOff_1 : decode cX7_roundOff 1 = .ok (.iload_n 1, 1) := by decide +kernel
theorem dX7_roundOff_2 : decode cX7_roundOff 2 = .ok (.if_icmp .ge 9, 3) := by decide +kernel
theorem dX7_roundOff_5 : decode cX7_roundOff 5 = .ok (.iload_n 1, 1) := by decide +kernel
theorem dX7_roundOff_6 : decode cX7_roundOff 6 = .ok (.iload_n 0, 1) := by decide +kernel
theorem dX7_roundOff_7 : decode cX7_roundOff 7 = .ok (.isub, 1) := by decide +kernel
theorem dX7_roundOff_8 : decode cX7_roundOff 8 = .ok (.goto 6, 3) := by decide +kernel
theorem dX7_roundOff_11 : decode cX7_roundOff 11 = .ok (.iload_n 0, 1) := by decide +kernel
theorem dX7_roundOff_12 : decode cX7_roundOff 12 = .ok (.iload_n 1, 1) := by decide +kernel
theorem dX7_roundOff_13 : decode cX7_roundOff 13 = .ok (.isub, 1) := by decide +kernel
theorem dX7_roundOff_14 : decode cX7_roundOff 14 = .ok (.istore_n 2, 1) := by decide +kernel
theorem dX7_roundOff_15 : decode cX7_roundOff 15 = .ok (.iload_n 2, 1) := by decide +kernel
theorem dX7_roundOff_16 : decode cX7_roundOff 16 = .ok (.bipush 12, 2) := by decide +kernel
theorem dX7_roundOff_18 : decode cX7_roundOff 18 = .ok (.if_icmp .le 10, 3) := by decide +kernel
theorem dX7_roundOff_21 : decode cX7_roundOff 21 = .ok (.bipush 24, 2) := by decide +kernel
theorem dX7_roundOff_23 : decode cX7_roundOff 23 = .ok (.iload_n 2, 1) := by decide +kernel
theorem dX7_roundOff_24 : decode cX7_roundOff 24 = .ok (.isub, 1) := by decide +kernel
theorem dX7_roundOff_25 : decode cX7_roundOff 25 = .ok (.goto 4, 3) := by decide +kernel
theorem dX7_roundOff_28 : decode cX7_roundOff 28 = .ok (.iload_n 2, 1) := by decide +kernel
theorem dX7_roundOff_29 : decode cX7_roundOff 29 = .ok (.ireturn, 1) := by decide +kernel
theorem dX7_shift_0 : decode cX7_shift 0 = .ok (.aload_n 0, 1) := by decide +kernel
theorem dX7_shift_1 : decode cX7_shift 1 = .ok (.iload_n 1, 1) := by decide +kernel
theorem dX7_shift_2 : decode cX7_shift 2 = .ok (.invokevirtual 393, 3) := by decide +kernel
theorem dX7_shift_5 : decode cX7_shift 5 = .ok (.ifCond .eq 12, 3) := by decide +kernel
theorem dX7_shift_8 : decode cX7_shift 8 = .ok (.iload_n 2, 1) := by decide +kernel
theorem dX7_shift_9 : decode cX7_shift 9 = .ok (.iconst 0, 1) := by decide +kernel
theorem dX7_shift_10 : decode cX7_shift 10 = .ok (.iconst 1, 1) := by decide +kernel
theorem dX7_shift_11 : decode cX7_shift 11 = .ok (.invokestatic 292, 3) := by decide +kernel
theorem dX7_shift_14 : decode cX7_shift 14 = .ok (.ifCond .ne 5, 3) := by decide +kernel
theorem dX7_shift_17 : decode cX7_shift 17 = .ok (.iconst (-1), 1) := by decide +kernel
theorem dX7_shift_18 : decode cX7_shift 18 = .ok (.ireturn, 1) := by decide +kernel
theorem dX7_shift_19 : decode cX7_shift 19 = .ok (.iconst (-1), 1) := by decide +kernel
theorem dX7_shift_20 : decode cX7_shift 20 = .ok (.istore_n 3, 1) := by decide +kernel
theorem dX7_shift_21 : decode cX7_shift 21 = .ok (.iconst 0, 1) := by decide +kernel
theorem dX7_shift_22 : decode cX7_shift 22 = .ok (.istore 4, 2) := by decide +kernel
theorem dX7_shift_24 : decode cX7_shift 24 = .ok (.iconst 0, 1) := by decide +kernel
theorem dX7_shift_25 : decode cX7_shift 25 = .ok (.istore 5, 2) := by decide +kernel
theorem dX7_shift_27 : decode cX7_shift 27 = .ok (.iload 5, 2) := by decide +kernel
theorem dX7_shift_29 : decode cX7_shift 29 = .ok (.bipush 24, 2) := by decide +kernel
theorem dX7_shift_31 : decode cX7_shift 31 = .ok (.if_icmp .ge 94, 3) := by decide +kernel
theorem dX7_shift_34 : decode cX7_shift 34 = .ok (.aload_n 0, 1) := by decide +kernel
theorem dX7_shift_35 : decode cX7_shift 35 = .ok (.invokevirtual 435, 3) := by decide +kernel
theorem dX7_shift_38 : decode cX7_shift 38 = .ok (.aload_n 0, 1) := by decide +kernel
theorem dX7_shift_39 : decode cX7_shift 39 = .ok (.getfield 110, 3) := by decide +kernel
theorem dX7_shift_42 : decode cX7_shift 42 = .ok (.bipush 8, 2) := by decide +kernel
theorem dX7_shift_44 : decode cX7_shift 44 = .ok (.iload_n 1, 1) := by decide +kernel
theorem dX7_shift_45 : decode cX7_shift 45 = .ok (.iadd, 1) := by decide +kernel
theorem dX7_shift_46 : decode cX7_shift 46 = .ok (.iload 5, 2) := by decide +kernel
theorem dX7_shift_48 : decode cX7_shift 48 = .ok (.iastore, 1) := by decide +kernel
theorem dX7_shift_49 : decode cX7_shift 49 = .ok (.aload_n 0, 1) := by decide +kernel
theorem dX7_shift_50 : decode cX7_shift 50 = .ok (.bipush 72, 2) := by decide +kernel
theorem dX7_shift_52 : decode cX7_shift 52 = .ok (.invokevirtual 438, 3) := by decide +kernel
theorem dX7_shift_55 : decode cX7_shift 55 = .ok (.iload_n 3, 1) := by decide +kernel
theorem dX7_shift_56 : decode cX7_shift 56 = .ok (.ifCond .lt 54, 3) := by decide +kernel
theorem dX7_shift_59 : decode cX7_shift 59 = .ok (.aload_n 0, 1) := by decide +kernel
theorem dX7_shift_60 : decode cX7_shift 60 = .ok (.getfield 417, 3) := by decide +kernel
theorem dX7_shift_63 : decode cX7_shift 63 = .ok (.iload 4, 2) := by decide +kernel
theorem dX7_shift_65 : decode cX7_shift 65 = .ok (.if_icmp .gt 54, 3) := by decide +kernel
theorem dX7_shift_68 : decode cX7_shift 68 = .ok (.aload_n 0, 1) := by decide +kernel
theorem dX7_shift_69 : decode cX7_shift 69 = .ok (.getfield 417, 3) := by decide +kernel
theorem dX7_shift_72 : decode cX7_shift 72 = .ok (.iload 4, 2) := by decide +kernel
theorem dX7_shift_74 : decode cX7_shift 74 = .ok (.if_icmp .ne 36, 3) := by decide +kernel
theorem dX7_shift_77 : decode cX7_shift 77 = .ok (.iload 5, 2) := by decide +kernel
theorem dX7_shift_79 : decode cX7_shift 79 = .ok (.aload_n 0, 1) := by decide +kernel
theorem dX7_shift_80 : decode cX7_shift 80 = .ok (.getfield 107, 3) := by decide +kernel
theorem dX7_shift_83 : decode cX7_shift 83 = .ok (.bipush 8, 2) := by decide +kernel
theorem dX7_shift_85 : decode cX7_shift 85 = .ok (.iload_n 1, 1) := by decide +kernel
theorem dX7_shift_86 : decode cX7_shift 86 = .ok (.iadd, 1) := by decide +kernel
theorem dX7_shift_87 : decode cX7_shift 87 = .ok (.iaload, 1) := by decide +kernel
theorem dX7_shift_88 : decode cX7_shift 88 = .ok (.invokestatic 447, 3) := by decide +kernel
theorem dX7_shift_91 : decode cX7_shift 91 = .ok (.iload_n 3, 1) := by decide +kernel
theorem dX7_shift_92 : decode cX7_shift 92 = .ok (.aload_n 0, 1) := by decide +kernel
theorem dX7_shift_93 : decode cX7_shift 93 = .ok (.getfield 107, 3) := by decide +kernel
theorem dX7_shift_96 : decode cX7_shift 96 = .ok (.bipush 8, 2) := by decide +kernel
theorem dX7_shift_98 : decode cX7_shift 98 = .ok (.iload_n 1, 1) := by decide +kernel
theorem dX7_shift_99 : decode cX7_shift 99 = .ok (.iadd, 1) := by decide +kernel
theorem dX7_shift_100 : decode cX7_shift 100 = .ok (.iaload, 1) := by decide +kernel
theorem dX7_shift_101 : decode cX7_shift 101 = .ok (.invokestatic 447, 3) := by decide +kernel
theorem dX7_shift_104 : decode cX7_shift 104 = .ok (.if_icmp .lt 6, 3) := by decide +kernel
theorem dX7_shift_107 : decode cX7_shift 107 = .ok (.goto 12, 3) := by decide +kernel
theorem dX7_shift_110 : decode cX7_shift 110 = .ok (.iload 5, 2) := by decide +kernel
theorem dX7_shift_112 : decode cX7_shift 112 = .ok (.istore_n 3, 1) := by decide +kernel
theorem dX7_shift_113 : decode cX7_shift 113 = .ok (.aload_n 0, 1) := by decide +kernel
theorem dX7_shift_114 : decode cX7_shift 114 = .ok (.getfield 417, 3) := by decide +kernel
theorem dX7_shift_117 : decode cX7_shift 117 = .ok (.istore 4, 2) := by decide +kernel
theorem dX7_shift_119 : decode cX7_shift 119 = .ok (.iinc 5 1, 3) := by decide +kernel
theorem dX7_shift_122 : decode cX7_shift 122 = .ok (.goto (-95), 3) := by decide +kernel
theorem dX7_shift_125 : decode cX7_shift 125 = .ok (.iload_n 2, 1) := by decide +kernel
theorem dX7_shift_126 : decode cX7_shift 126 = .ok (.ifCond .ne 7, 3) := by decide +kernel
theorem dX7_shift_129 : decode cX7_shift 129 = .ok (.iload_n 3, 1) := by decide +kernel
theorem dX7_shift_130 : decode cX7_shift 130 = .ok (.goto 5, 3) := by decide +kernel
theorem dX7_shift_133 : decode cX7_shift 133 = .ok (.iload 4, 2) := by decide +kernel
theorem dX7_shift_135 : decode cX7_shift 135 = .ok (.ireturn, 1) := by decide +kernel
theorem dX7_changeBest_0 : decode cX7_changeBest 0 = .ok (.iload_n 1, 1) := by decide +kernel
theorem dX7_changeBest_1 : decode cX7_changeBest 1 = .ok (.iconst 0, 1) := by decide +kernel
theorem dX7_changeBest_2 : decode cX7_changeBest 2 = .ok (.iconst 1, 1) := by decide +kernel
theorem dX7_changeBest_3 : decode cX7_changeBest 3 = .ok (.invokestatic 292, 3) := by decide +kernel
theorem dX7_changeBest_6 : decode cX7_changeBest 6 = .ok (.ifCond .ne 5, 3) := by decide +kernel
theorem dX7_changeBest_9 : decode cX7_changeBest 9 = .ok (.iconst (-1), 1) := by decide +kernel
theorem dX7_changeBest_10 : decode cX7_changeBest 10 = .ok (.ireturn, 1) := by decide +kernel
theorem dX7_changeBest_11 : decode cX7_changeBest 11 = .ok (.aload_n 0, 1) := by decide +kernel
theorem dX7_changeBest_12 : decode cX7_changeBest 12 = .ok (.invokevirtual 435, 3) := by decide +kernel
theorem dX7_changeBest_15 : decode cX7_changeBest 15 = .ok (.aload_n 0, 1) := by decide +kernel
theorem dX7_changeBest_16 : decode cX7_changeBest 16 = .ok (.bipush 72, 2) := by decide +kernel
theorem dX7_changeBest_18 : decode cX7_changeBest 18 = .ok (.invokevirtual 438, 3) := by decide +kernel
theorem dX7_changeBest_21 : decode cX7_changeBest 21 = .ok (.aload_n 0, 1) := by decide +kernel
theorem dX7_changeBest_22 : decode cX7_changeBest 22 = .ok (.getfield 417, 3) := by decide +kernel
theorem dX7_changeBest_25 : decode cX7_changeBest 25 = .ok (.istore_n 2, 1) := by decide +kernel
theorem dX7_changeBest_26 : decode cX7_changeBest 26 = .ok (.bipush (-2), 2) := by decide +kernel
theorem dX7_changeBest_28 : decode cX7_changeBest 28 = .ok (.istore_n 3, 1) := by decide +kernel
theorem dX7_changeBest_29 : decode cX7_changeBest 29 = .ok (.iconst 0, 1) := by decide +kernel
theorem dX7_changeBest_30 : decode cX7_changeBest 30 = .ok (.istore 4, 2) := by decide +kernel
theorem dX7_changeBest_32 : decode cX7_changeBest 32 = .ok (.iload 4, 2) := by decide +kernel
theorem dX7_changeBest_34 : decode cX7_changeBest 34 = .ok (.aload_n 0, 1) := by decide +kernel
theorem dX7_changeBest_35 : decode cX7_changeBest 35 = .ok (.getfield 43, 3) := by decide +kernel
theorem dX7_changeBest_38 : decode cX7_changeBest 38 = .ok (.aload_n 0, 1) := by decide +kernel
theorem dX7_changeBest_39 : decode cX7_changeBest 39 = .ok (.getfield 218, 3) := by decide +kernel
theorem dX7_changeBest_42 : decode cX7_changeBest 42 = .ok (.iaload, 1) := by decide +kernel
theorem dX7_changeBest_43 : decode cX7_changeBest 43 = .ok (.if_icmp .ge 92, 3) := by decide +kernel
theorem dX7_changeBest_46 : decode cX7_changeBest 46 = .ok (.iload 4, 2) := by decide +kernel
theorem dX7_changeBest_48 : decode cX7_changeBest 48 = .ok (.iconst 1, 1) := by decide +kernel
theorem dX7_changeBest_49 : decode cX7_changeBest 49 = .ok (.iadd, 1) := by decide +kernel
theorem dX7_changeBest_50 : decode cX7_changeBest 50 = .ok (.istore 5, 2) := by decide +kernel
theorem dX7_changeBest_52 : decode cX7_changeBest 52 = .ok (.iload 5, 2) := by decide +kernel
theorem dX7_changeBest_54 : decode cX7_changeBest 54 = .ok (.aload_n 0, 1) := by decide +kernel
theorem dX7_changeBest_55 : decode cX7_changeBest 55 = .ok (.getfield 43, 3) := by decide +kernel
theorem dX7_changeBest_58 : decode cX7_changeBest 58 = .ok (.aload_n 0, 1) := by decide +kernel
theorem dX7_changeBest_59 : decode cX7_changeBest 59 = .ok (.getfield 218, 3) := by decide +kernel
theorem dX7_changeBest_62 : decode cX7_changeBest 62 = .ok (.iaload, 1) := by decide +kernel
theorem dX7_changeBest_63 : decode cX7_changeBest 63 = .ok (.if_icmp .ge 66, 3) := by decide +kernel
theorem dX7_changeBest_66 : decode cX7_changeBest 66 = .ok (.aload_n 0, 1) := by decide +kernel
theorem dX7_changeBest_67 : decode cX7_changeBest 67 = .ok (.iload 4, 2) := by decide +kernel
theorem dX7_changeBest_69 : decode cX7_changeBest 69 = .ok (.iload 5, 2) := by decide +kernel
theorem dX7_changeBest_71 : decode cX7_changeBest 71 = .ok (.invokevirtual 405, 3) := by decide +kernel
theorem dX7_changeBest_74 : decode cX7_changeBest 74 = .ok (.ifCond .ne 6, 3) := by decide +kernel
theorem dX7_changeBest_77 : decode cX7_changeBest 77 = .ok (.goto 46, 3) := by decide +kernel
theorem dX7_changeBest_80 : decode cX7_changeBest 80 = .ok (.aload_n 0, 1) := by decide +kernel
theorem dX7_changeBest_81 : decode cX7_changeBest 81 = .ok (.invokevirtual 435, 3) := by decide +kernel
theorem dX7_changeBest_84 : decode cX7_changeBest 84 = .ok (.aload_n 0, 1) := by decide +kernel
theorem dX7_changeBest_85 : decode cX7_changeBest 85 = .ok (.iload 4, 2) := by decide +kernel
theorem dX7_changeBest_87 : decode cX7_changeBest 87 = .ok (.iload 5, 2) := by decide +kernel
theorem dX7_changeBest_89 : decode cX7_changeBest 89 = .ok (.invokevirtual 408, 3) := by decide +kernel
theorem dX7_changeBest_92 : decode cX7_changeBest 92 = .ok (.aload_n 0, 1) := by decide +kernel
theorem dX7_changeBest_93 : decode cX7_changeBest 93 = .ok (.bipush 72, 2) := by decide +kernel
theorem dX7_changeBest_95 : decode cX7_changeBest 95 = .ok (.invokevirtual 438, 3) := by decide +kernel
theorem dX7_changeBest_98 : decode cX7_changeBest 98 = .ok (.aload_n 0, 1) := by decide +kernel
theorem dX7_changeBest_99 : decode cX7_changeBest 99 = .ok (.getfield 417, 3) := by decide +kernel
theorem dX7_changeBest_102 : decode cX7_changeBest 102 = .ok (.iload_n 2, 1) := by decide +kernel
theorem dX7_changeBest_103 : decode cX7_changeBest 103 = .ok (.if_icmp .lt 6, 3) := by decide +kernel
theorem dX7_changeBest_106 : decode cX7_changeBest 106 = .ok (.goto 17, 3) := by decide +kernel
theorem dX7_changeBest_109 : decode cX7_changeBest 109 = .ok (.bipush 10, 2) := by decide +kernel
theorem dX7_changeBest_111 : decode cX7_changeBest 111 = .ok (.iload 4, 2) := by decide +kernel
theorem dX7_changeBest_113 : decode cX7_changeBest 113 = .ok (.imul, 1) := by decide +kernel
theorem dX7_changeBest_114 : decode cX7_changeBest 114 = .ok (.iload 5, 2) := by decide +kernel
theorem dX7_changeBest_116 : decode cX7_changeBest 116 = .ok (.iadd, 1) := by decide +kernel
theorem dX7_changeBest_117 : decode cX7_changeBest 117 = .ok (.istore_n 3, 1) := by decide +kernel
theorem dX7_changeBest_118 : decode cX7_changeBest 118 = .ok (.aload_n 0, 1) := by decide +kernel
theorem dX7_changeBest_119 : decode cX7_changeBest 119 = .ok (.getfield 417, 3) := by decide +kernel
theorem dX7_changeBest_122 : decode cX7_changeBest 122 = .ok (.istore_n 2, 1) := by decide +kernel
theorem dX7_changeBest_123 : decode cX7_changeBest 123 = .ok (.iinc 5 1, 3) := by decide +kernel
theorem dX7_changeBest_126 : decode cX7_changeBest 126 = .ok (.goto (-74), 3) := by decide +kernel
theorem dX7_changeBest_129 : decode cX7_changeBest 129 = .ok (.iinc 4 1, 3) := by decide +kernel
theorem dX7_changeBest_132 : decode cX7_changeBest 132 = .ok (.goto (-100), 3) := by decide +kernel
theorem dX7_changeBest_135 : decode cX7_changeBest 135 = .ok (.iload_n 3, 1) := by decide +kernel
theorem dX7_changeBest_136 : decode cX7_changeBest 136 = .ok (.ifCond .lt 7, 3) := by decide +kernel
theorem dX7_changeBest_139 : decode cX7_changeBest 139 = .ok (.iload_n 1, 1) := by decide +kernel
theorem dX7_changeBest_140 : decode cX7_changeBest 140 = .ok (.ifCond .ne 7, 3) := by decide +kernel
theorem dX7_changeBest_143 : decode cX7_changeBest 143 = .ok (.iload_n 3, 1) := by decide +kernel
theorem dX7_changeBest_144 : decode cX7_changeBest 144 = .ok (.goto 4, 3) := by decide +kernel
theorem dX7_changeBest_147 : decode cX7_changeBest 147 = .ok (.iload_n 2, 1) := by decide +kernel
theorem dX7_changeBest_148 : decode cX7_changeBest 148 = .ok (.ireturn, 1) := by decide +kernel
theorem dX7_frees_0 : decode cX7_frees 0 = .ok (.aload_n 0, 1) := by decide +kernel
theorem dX7_frees_1 : decode cX7_frees 1 = .ok (.iload_n 1, 1) := by decide +kernel
theorem dX7_frees_2 : decode cX7_frees 2 = .ok (.invokevirtual 393, 3) := by decide +kernel
theorem dX7_frees_5 : decode cX7_frees 5 = .ok (.ifCond .ne 5, 3) := by decide +kernel
theorem dX7_frees_8 : decode cX7_frees 8 = .ok (.iconst (-1), 1) := by decide +kernel
theorem dX7_frees_9 : decode cX7_frees 9 = .ok (.ireturn, 1) := by decide +kernel
theorem dX7_frees_10 : decode cX7_frees 10 = .ok (.aload_n 0, 1) := by decide +kernel
theorem dX7_frees_11 : decode cX7_frees 11 = .ok (.invokevirtual 435, 3) := by decide +kernel
theorem dX7_frees_14 : decode cX7_frees 14 = .ok (.aload_n 0, 1) := by decide +kernel
theorem dX7_frees_15 : decode cX7_frees 15 = .ok (.getfield 110, 3) := by decide +kernel
theorem dX7_frees_18 : decode cX7_frees 18 = .ok (.bipush 40, 2) := by decide +kernel
theorem dX7_frees_20 : decode cX7_frees 20 = .ok (.iload_n 1, 1) := by decide +kernel
theorem dX7_frees_21 : decode cX7_frees 21 = .ok (.iadd, 1) := by decide +kernel
theorem dX7_frees_22 : decode cX7_frees 22 = .ok (.iconst 0, 1) := by decide +kernel
theorem dX7_frees_23 : decode cX7_frees 23 = .ok (.iastore, 1) := by decide +kernel
theorem dX7_frees_24 : decode cX7_frees 24 = .ok (.aload_n 0, 1) := by decide +kernel
theorem dX7_frees_25 : decode cX7_frees 25 = .ok (.getfield 110, 3) := by decide +kernel
theorem dX7_frees_28 : decode cX7_frees 28 = .ok (.bipush 48, 2) := by decide +kernel
theorem dX7_frees_30 : decode cX7_frees 30 = .ok (.iload_n 1, 1) := by decide +kernel
theorem dX7_frees_31 : decode cX7_frees 31 = .ok (.iadd, 1) := by decide +kernel
theorem dX7_frees_32 : decode cX7_frees 32 = .ok (.iconst 0, 1) := by decide +kernel
theorem dX7_frees_33 : decode cX7_frees 33 = .ok (.iastore, 1) := by decide +kernel
theorem dX7_frees_34 : decode cX7_frees 34 = .ok (.aload_n 0, 1) := by decide +kernel
theorem dX7_frees_35 : decode cX7_frees 35 = .ok (.iconst 2, 1) := by decide +kernel
theorem dX7_frees_36 : decode cX7_frees 36 = .ok (.invokevirtual 312, 3) := by decide +kernel
theorem dX7_frees_39 : decode cX7_frees 39 = .ok (.invokestatic 315, 3) := by decide +kernel
theorem dX7_frees_42 : decode cX7_frees 42 = .ok (.istore_n 2, 1) := by decide +kernel
theorem dX7_frees_43 : decode cX7_frees 43 = .ok (.aload_n 0, 1) := by decide +kernel
theorem dX7_frees_44 : decode cX7_frees 44 = .ok (.invokevirtual 384, 3) := by decide +kernel
theorem dX7_frees_47 : decode cX7_frees 47 = .ok (.iload_n 2, 1) := by decide +kernel
theorem dX7_frees_48 : decode cX7_frees 48 = .ok (.aload_n 0, 1) := by decide +kernel
theorem dX7_frees_49 : decode cX7_frees 49 = .ok (.iconst 2, 1) := by decide +kernel
theorem dX7_frees_50 : decode cX7_frees 50 = .ok (.invokevirtual 312, 3) := by decide +kernel
theorem dX7_frees_53 : decode cX7_frees 53 = .ok (.invokestatic 315, 3) := by decide +kernel
theorem dX7_frees_56 : decode cX7_frees 56 = .ok (.isub, 1) := by decide +kernel
theorem dX7_frees_57 : decode cX7_frees 57 = .ok (.ireturn, 1) := by decide +kernel
theorem dX7_worst_0 : decode cX7_worst 0 = .ok (.iload_n 1, 1) := by decide +kernel
theorem dX7_worst_1 : decode cX7_worst 1 = .ok (.invokestatic 432, 3) := by decide +kernel
theorem dX7_worst_4 : decode cX7_worst 4 = .ok (.ifCond .eq 12, 3) := by decide +kernel
theorem dX7_worst_7 : decode cX7_worst 7 = .ok (.iload_n 2, 1) := by decide +kernel
theorem dX7_worst_8 : decode cX7_worst 8 = .ok (.iconst 0, 1) := by decide +kernel
theorem dX7_worst_9 : decode cX7_worst 9 = .ok (.iconst 1, 1) := by decide +kernel
theorem dX7_worst_10 : decode cX7_worst 10 = .ok (.invokestatic 292, 3) := by decide +kernel
theorem dX7_worst_13 : decode cX7_worst 13 = .ok (.ifCond .ne 5, 3) := by decide +kernel
theorem dX7_worst_16 : decode cX7_worst 16 = .ok (.iconst (-1), 1) := by decide +kernel
theorem dX7_worst_17 : decode cX7_worst 17 = .ok (.ireturn, 1) := by decide +kernel
theorem dX7_worst_18 : decode cX7_worst 18 = .ok (.aload_n 0, 1) := by decide +kernel
theorem dX7_worst_19 : decode cX7_worst 19 = .ok (.getfield 43, 3) := by decide +kernel
theorem dX7_worst_22 : decode cX7_worst 22 = .ok (.aload_n 0, 1) := by decide +kernel
theorem dX7_worst_23 : decode cX7_worst 23 = .ok (.getfield 218, 3) := by decide +kernel
theorem dX7_worst_26 : decode cX7_worst 26 = .ok (.iaload, 1) := by decide +kernel
theorem dX7_worst_27 : decode cX7_worst 27 = .ok (.ifCond .ne 6, 3) := by decide +kernel
theorem dX7_worst_30 : decode cX7_worst 30 = .ok (.bipush (-2), 2) := by decide +kernel
theorem dX7_worst_32 : decode cX7_worst 32 = .ok (.ireturn, 1) := by decide +kernel
theorem dX7_worst_33 : decode cX7_worst 33 = .ok (.aload_n 0, 1) := by decide +kernel
theorem dX7_worst_34 : decode cX7_worst 34 = .ok (.invokevirtual 435, 3) := by decide +kernel
theorem dX7_worst_37 : decode cX7_worst 37 = .ok (.aload_n 0, 1) := by decide +kernel
theorem dX7_worst_38 : decode cX7_worst 38 = .ok (.iload_n 1, 1) := by decide +kernel
theorem dX7_worst_39 : decode cX7_worst 39 = .ok (.invokevirtual 438, 3) := by decide +kernel
theorem dX7_worst_42 : decode cX7_worst 42 = .ok (.iconst 0, 1) := by decide +kernel
theorem dX7_worst_43 : decode cX7_worst 43 = .ok (.istore_n 3, 1) := by decide +kernel
theorem dX7_worst_44 : decode cX7_worst 44 = .ok (.iconst 1, 1) := by decide +kernel
theorem dX7_worst_45 : decode cX7_worst 45 = .ok (.istore 4, 2) := by decide +kernel
theorem dX7_worst_47 : decode cX7_worst 47 = .ok (.iload 4, 2) := by decide +kernel
theorem dX7_worst_49 : decode cX7_worst 49 = .ok (.aload_n 0, 1) := by decide +kernel
theorem dX7_worst_50 : decode cX7_worst 50 = .ok (.getfield 43, 3) := by decide +kernel
theorem dX7_worst_53 : decode cX7_worst 53 = .ok (.aload_n 0, 1) := by decide +kernel
theorem dX7_worst_54 : decode cX7_worst 54 = .ok (.getfield 218, 3) := by decide +kernel
theorem dX7_worst_57 : decode cX7_worst 57 = .ok (.iaload, 1) := by decide +kernel
theorem dX7_worst_58 : decode cX7_worst 58 = .ok (.if_icmp .ge 28, 3) := by decide +kernel
theorem dX7_worst_61 : decode cX7_worst 61 = .ok (.aload_n 0, 1) := by decide +kernel
theorem dX7_worst_62 : decode cX7_worst 62 = .ok (.getfield 119, 3) := by decide +kernel
theorem dX7_worst_65 : decode cX7_worst 65 = .ok (.iload 4, 2) := by decide +kernel
theorem dX7_worst_67 : decode cX7_worst 67 = .ok (.iaload, 1) := by decide +kernel
theorem dX7_worst_68 : decode cX7_worst 68 = .ok (.aload_n 0, 1) := by decide +kernel
theorem dX7_worst_69 : decode cX7_worst 69 = .ok (.getfield 119, 3) := by decide +kernel
theorem dX7_worst_72 : decode cX7_worst 72 = .ok (.iload_n 3, 1) := by decide +kernel
theorem dX7_worst_73 : decode cX7_worst 73 = .ok (.iaload, 1) := by decide +kernel
theorem dX7_worst_74 : decode cX7_worst 74 = .ok (.if_icmp .le 6, 3) := by decide +kernel
theorem dX7_worst_77 : decode cX7_worst 77 = .ok (.iload 4, 2) := by decide +kernel
theorem dX7_worst_79 : decode cX7_worst 79 = .ok (.istore_n 3, 1) := by decide +kernel
theorem dX7_worst_80 : decode cX7_worst 80 = .ok (.iinc 4 1, 3) := by decide +kernel
theorem dX7_worst_83 : decode cX7_worst 83 = .ok (.goto (-36), 3) := by decide +kernel
theorem dX7_worst_86 : decode cX7_worst 86 = .ok (.iload_n 2, 1) := by decide +kernel
theorem dX7_worst_87 : decode cX7_worst 87 = .ok (.ifCond .ne 7, 3) := by decide +kernel
theorem dX7_worst_90 : decode cX7_worst 90 = .ok (.iload_n 3, 1) := by decide +kernel
theorem dX7_worst_91 : decode cX7_worst 91 = .ok (.goto 9, 3) := by decide +kernel
theorem dX7_worst_94 : decode cX7_worst 94 = .ok (.aload_n 0, 1) := by decide +kernel
theorem dX7_worst_95 : decode cX7_worst 95 = .ok (.getfield 119, 3) := by decide +kernel
theorem dX7_worst_98 : decode cX7_worst 98 = .ok (.iload_n 3, 1) := by decide +kernel
theorem dX7_worst_99 : decode cX7_worst 99 = .ok (.iaload, 1) := by decide +kernel
theorem dX7_worst_100 : decode cX7_worst 100 = .ok (.ireturn, 1) := by decide +kernel
theorem dX7_peak_0 : decode cX7_peak 0 = .ok (.iload_n 1, 1) := by decide +kernel
theorem dX7_peak_1 : decode cX7_peak 1 = .ok (.invokestatic 432, 3) := by decide +kernel
theorem dX7_peak_4 : decode cX7_peak 4 = .ok (.ifCond .eq 12, 3) := by decide +kernel
theorem dX7_peak_7 : decode cX7_peak 7 = .ok (.iload_n 2, 1) := by decide +kernel
theorem dX7_peak_8 : decode cX7_peak 8 = .ok (.iconst 0, 1) := by decide +kernel
theorem dX7_peak_9 : decode cX7_peak 9 = .ok (.iconst 1, 1) := by decide +kernel
theorem dX7_peak_10 : decode cX7_peak 10 = .ok (.invokestatic 292, 3) := by decide +kernel
theorem dX7_peak_13 : decode cX7_peak 13 = .ok (.ifCond .ne 5, 3) := by decide +kernel
theorem dX7_peak_16 : decode cX7_peak 16 = .ok (.iconst (-1), 1) := by decide +kernel
theorem dX7_peak_17 : decode cX7_peak 17 = .ok (.ireturn, 1) := by decide +kernel
theorem dX7_peak_18 : decode cX7_peak 18 = .ok (.aload_n 0, 1) := by decide +kernel
theorem dX7_peak_19 : decode cX7_peak 19 = .ok (.invokevirtual 435, 3) := by decide +kernel
theorem dX7_peak_22 : decode cX7_peak 22 = .ok (.aload_n 0, 1) := by decide +kernel
theorem dX7_peak_23 : decode cX7_peak 23 = .ok (.iload_n 1, 1) := by decide +kernel
theorem dX7_peak_24 : decode cX7_peak 24 = .ok (.invokevirtual 438, 3) := by decide +kernel
theorem dX7_peak_27 : decode cX7_peak 27 = .ok (.iload_n 2, 1) := by decide +kernel
theorem dX7_peak_28 : decode cX7_peak 28 = .ok (.ifCond .ne 10, 3) := by decide +kernel
theorem dX7_peak_31 : decode cX7_peak 31 = .ok (.aload_n 0, 1) := by decide +kernel
theorem dX7_peak_32 : decode cX7_peak 32 = .ok (.getfield 426, 3) := by decide +kernel
theorem dX7_peak_35 : decode cX7_peak 35 = .ok (.goto 7, 3) := by decide +kernel
theorem dX7_peak_38 : decode cX7_peak 38 = .ok (.aload_n 0, 1) := by decide +kernel
theorem dX7_peak_39 : decode cX7_peak 39 = .ok (.getfield 429, 3) := by decide +kernel
theorem dX7_peak_42 : decode cX7_peak 42 = .ok (.ireturn, 1) := by decide +kernel
theorem dX7_gain_0 : decode cX7_gain 0 = .ok (.aload_n 0, 1) := by decide +kernel
theorem dX7_gain_1 : decode cX7_gain 1 = .ok (.iload_n 1, 1) := by decide +kernel
theorem dX7_gain_2 : decode cX7_gain 2 = .ok (.invokevirtual 399, 3) := by decide +kernel
theorem dX7_gain_5 : decode cX7_gain 5 = .ok (.ifCond .ne 7, 3) := by decide +kernel
theorem dX7_gain_8 : decode cX7_gain 8 = .ok (.ldc_w 450, 3) := by decide +kernel
theorem dX7_gain_11 : decode cX7_gain 11 = .ok (.ireturn, 1) := by decide +kernel
theorem dX7_gain_12 : decode cX7_gain 12 = .ok (.aload_n 0, 1) := by decide +kernel
theorem dX7_gain_13 : decode cX7_gain 13 = .ok (.invokevirtual 435, 3) := by decide +kernel
theorem dX7_gain_16 : decode cX7_gain 16 = .ok (.aload_n 0, 1) := by decide +kernel
theorem dX7_gain_17 : decode cX7_gain 17 = .ok (.bipush 72, 2) := by decide +kernel
theorem dX7_gain_19 : decode cX7_gain 19 = .ok (.invokevirtual 438, 3) := by decide +kernel
theorem dX7_gain_22 : decode cX7_gain 22 = .ok (.aload_n 0, 1) := by decide +kernel
theorem dX7_gain_23 : decode cX7_gain 23 = .ok (.getfield 417, 3) := by decide +kernel
theorem dX7_gain_26 : decode cX7_gain 26 = .ok (.istore_n 2, 1) := by decide +kernel
theorem dX7_gain_27 : decode cX7_gain 27 = .ok (.aload_n 0, 1) := by decide +kernel
theorem dX7_gain_28 : decode cX7_gain 28 = .ok (.invokevirtual 435, 3) := by decide +kernel
theorem dX7_gain_31 : decode cX7_gain 31 = .ok (.aload_n 0, 1) := by decide +kernel
theorem dX7_gain_32 : decode cX7_gain 32 = .ok (.getfield 110, 3) := by decide +kernel
theorem dX7_gain_35 : decode cX7_gain 35 = .ok (.bipush 72, 2) := by decide +kernel
theorem dX7_gain_37 : decode cX7_gain 37 = .ok (.iload_n 1, 1) := by decide +kernel
theorem dX7_gain_38 : decode cX7_gain 38 = .ok (.iadd, 1) := by decide +kernel
theorem dX7_gain_39 : decode cX7_gain 39 = .ok (.aload_n 0, 1) := by decide +kernel
theorem dX7_gain_40 : decode cX7_gain 40 = .ok (.getfield 62, 3) := by decide +kernel
theorem dX7_gain_43 : decode cX7_gain 43 = .ok (.bipush 6, 2) := by decide +kernel
theorem dX7_gain_45 : decode cX7_gain 45 = .ok (.aload_n 0, 1) := by decide +kernel
theorem dX7_gain_46 : decode cX7_gain 46 = .ok (.getfield 218, 3) := by decide +kernel
theorem dX7_gain_49 : decode cX7_gain 49 = .ok (.imul, 1) := by decide +kernel
theorem dX7_gain_50 : decode cX7_gain 50 = .ok (.iload_n 1, 1) := by decide +kernel
theorem dX7_gain_51 : decode cX7_gain 51 = .ok (.iadd, 1) := by decide +kernel
theorem dX7_gain_52 : decode cX7_gain 52 = .ok (.iaload, 1) := by decide +kernel
theorem dX7_gain_53 : decode cX7_gain 53 = .ok (.iastore, 1) := by decide +kernel
theorem dX7_gain_54 : decode cX7_gain 54 = .ok (.aload_n 0, 1) := by decide +kernel
theorem dX7_gain_55 : decode cX7_gain 55 = .ok (.bipush 72, 2) := by decide +kernel
theorem dX7_gain_57 : decode cX7_gain 57 = .ok (.invokevirtual 438, 3) := by decide +kernel
theorem dX7_gain_60 : decode cX7_gain 60 = .ok (.iload_n 2, 1) := by decide +kernel
theorem dX7_gain_61 : decode cX7_gain 61 = .ok (.aload_n 0, 1) := by decide +kernel
theorem dX7_gain_62 : decode cX7_gain 62 = .ok (.getfield 417, 3) := by decide +kernel
theorem dX7_gain_65 : decode cX7_gain 65 = .ok (.isub, 1) := by decide +kernel
theorem dX7_gain_66 : decode cX7_gain 66 = .ok (.ireturn, 1) := by decide +kernel
theorem dX7_by_0 : decode cX7_by 0 = .ok (.aload_n 0, 1) := by decide +kernel
theorem dX7_by_1 : decode cX7_by 1 = .ok (.iload_n 1, 1) := by decide +kernel
theorem dX7_by_2 : decode cX7_by 2 = .ok (.invokevirtual 393, 3) := by decide +kernel
theorem dX7_by_5 : decode cX7_by 5 = .ok (.ifCond .eq 15, 3) := by decide +kernel
theorem dX7_by_8 : decode cX7_by 8 = .ok (.aload_n 0, 1) := by decide +kernel
theorem dX7_by_9 : decode cX7_by 9 = .ok (.getfield 107, 3) := by decide +kernel
theorem dX7_by_12 : decode cX7_by 12 = .ok (.bipush 64, 2) := by decide +kernel
theorem dX7_by_14 : decode cX7_by 14 = .ok (.iload_n 1, 1) := by decide +kernel
theorem dX7_by_15 : decode cX7_by 15 = .ok (.iadd, 1) := by decide +kernel
theorem dX7_by_16 : decode cX7_by 16 = .ok (.iaload, 1) := by decide +kernel
theorem dX7_by_17 : decode cX7_by 17 = .ok (.goto 4, 3) := by decide +kernel
theorem dX7_by_20 : decode cX7_by 20 = .ok (.iconst (-1), 1) := by decide +kernel
theorem dX7_by_21 : decode cX7_by 21 = .ok (.ireturn, 1) := by decide +kernel
