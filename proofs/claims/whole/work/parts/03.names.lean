theorem dX2_letInIfCan_106 : decode cX2_letInIfCan 106 = .ok (.aload_n 0, 1) := by decide +kernel
theorem dX2_letInIfCan_107 : decode cX2_letInIfCan 107 = .ok (.getfield 62, 3) := by decide +kernel
theorem dX2_letInIfCan_110 : decode cX2_letInIfCan 110 = .ok (.iload_n 1, 1) := by decide +kernel
theorem dX2_letInIfCan_111 : decode cX2_letInIfCan 111 = .ok (.iload 4, 2) := by decide +kernel
theorem dX2_letInIfCan_113 : decode cX2_letInIfCan 113 = .ok (.iastore, 1) := by decide +kernel
theorem dX2_letInIfCan_114 : decode cX2_letInIfCan 114 = .ok (.goto 5, 3) := by decide +kernel
theorem dX2_letInIfCan_117 : decode cX2_letInIfCan 117 = .ok (.iconst 0, 1) := by decide +kernel
theorem dX2_letInIfCan_118 : decode cX2_letInIfCan 118 = .ok (.ireturn, 1) := by decide +kernel
theorem dX2_letInIfCan_119 : decode cX2_letInIfCan 119 = .ok (.aload_n 0, 1) := by decide +kernel
theorem dX2_letInIfCan_120 : decode cX2_letInIfCan 120 = .ok (.iload_n 1, 1) := by decide +kernel
theorem dX2_letInIfCan_121 : decode cX2_letInIfCan 121 = .ok (.invokevirtual 174, 3) := by decide +kernel
theorem dX2_letInIfCan_124 : decode cX2_letInIfCan 124 = .ok (.aload_n 0, 1) := by decide +kernel
theorem dX2_letInIfCan_125 : decode cX2_letInIfCan 125 = .ok (.dup, 1) := by decide +kernel
theorem dX2_letInIfCan_126 : decode cX2_letInIfCan 126 = .ok (.getfield 40, 3) := by decide +kernel
theorem dX2_letInIfCan_129 : decode cX2_letInIfCan 129 = .ok (.iconst 1, 1) := by decide +kernel
theorem dX2_letInIfCan_130 : decode cX2_letInIfCan 130 = .ok (.iadd, 1) := by decide +kernel
theorem dX2_letInIfCan_131 : decode cX2_letInIfCan 131 = .ok (.putfield 40, 3) := by decide +kernel
theorem dX2_letInIfCan_134 : decode cX2_letInIfCan 134 = .ok (.aload_n 0, 1) := by decide +kernel
theorem dX2_letInIfCan_135 : decode cX2_letInIfCan 135 = .ok (.dup, 1) := by decide +kernel
theorem dX2_letInIfCan_136 : decode cX2_letInIfCan 136 = .ok (.getfield 43, 3) := by decide +kernel
theorem dX2_letInIfCan_139 : decode cX2_letInIfCan 139 = .ok (.iload_n 2, 1) := by decide +kernel
theorem dX2_letInIfCan_140 : decode cX2_letInIfCan 140 = .ok (.ifCond .eq 7, 3) := by decide +kernel
theorem dX2_letInIfCan_143 : decode cX2_letInIfCan 143 = .ok (.iconst 1, 1) := by decide +kernel
theorem dX2_letInIfCan_144 : decode cX2_letInIfCan 144 = .ok (.goto 4, 3) := by decide +kernel
theorem dX2_letInIfCan_147 : decode cX2_letInIfCan 147 = .ok (.iconst 0, 1) := by decide +kernel
theorem dX2_letInIfCan_148 : decode cX2_letInIfCan 148 = .ok (.iadd, 1) := by decide +kernel
theorem dX2_letInIfCan_149 : decode cX2_letInIfCan 149 = .ok (.putfield 43, 3) := by decide +kernel
theorem dX2_letInIfCan_152 : decode cX2_letInIfCan 152 = .ok (.iconst 1, 1) := by decide +kernel
theorem dX2_letInIfCan_153 : decode cX2_letInIfCan 153 = .ok (.ireturn, 1) := by decide +kernel
theorem dX2_wouldLetIn_0 : decode cX2_wouldLetIn 0 = .ok (.aload_n 0, 1) := by decide +kernel
theorem dX2_wouldLetIn_1 : decode cX2_wouldLetIn 1 = .ok (.aload_n 0, 1) := by decide +kernel
theorem dX2_wouldLetIn_2 : decode cX2_wouldLetIn 2 = .ok (.getfield 59, 3) := by decide +kernel
theorem dX2_wouldLetIn_5 : decode cX2_wouldLetIn 5 = .ok (.iload_n 2, 1) := by decide +kernel
theorem dX2_wouldLetIn_6 : decode cX2_wouldLetIn 6 = .ok (.iaload, 1) := by decide +kernel
theorem dX2_wouldLetIn_7 : decode cX2_wouldLetIn 7 = .ok (.aload_n 0, 1) := by decide +kernel
theorem dX2_wouldLetIn_8 : decode cX2_wouldLetIn 8 = .ok (.getfield 53, 3) := by decide +kernel
theorem dX2_wouldLetIn_11 : decode cX2_wouldLetIn 11 = .ok (.iload_n 1, 1) := by decide +kernel
theorem dX2_wouldLetIn_12 : decode cX2_wouldLetIn 12 = .ok (.iaload, 1) := by decide +kernel
theorem dX2_wouldLetIn_13 : decode cX2_wouldLetIn 13 = .ok (.aload_n 0, 1) := by decide +kernel
theorem dX2_wouldLetIn_14 : decode cX2_wouldLetIn 14 = .ok (.getfield 53, 3) := by decide +kernel
theorem dX2_wouldLetIn_17 : decode cX2_wouldLetIn 17 = .ok (.iload_n 2, 1) := by decide +kernel
theorem dX2_wouldLetIn_18 : decode cX2_wouldLetIn 18 = .ok (.iaload, 1) := by decide +kernel
theorem dX2_wouldLetIn_19 : decode cX2_wouldLetIn 19 = .ok (.iload_n 2, 1) := by decide +kernel
theorem dX2_wouldLetIn_20 : decode cX2_wouldLetIn 20 = .ok (.iconst 0, 1) := by decide +kernel
theorem dX2_wouldLetIn_21 : decode cX2_wouldLetIn 21 = .ok (.invokevirtual 129, 3) := by decide +kernel
theorem dX2_wouldLetIn_24 : decode cX2_wouldLetIn 24 = .ok (.aload_n 0, 1) := by decide +kernel
theorem dX2_wouldLetIn_25 : decode cX2_wouldLetIn 25 = .ok (.getfield 71, 3) := by decide +kernel
theorem dX2_wouldLetIn_28 : decode cX2_wouldLetIn 28 = .ok (.getfield 133, 3) := by decide +kernel
theorem dX2_wouldLetIn_31 : decode cX2_wouldLetIn 31 = .ok (.iconst 0, 1) := by decide +kernel
theorem dX2_wouldLetIn_32 : decode cX2_wouldLetIn 32 = .ok (.invokevirtual 137, 3) := by decide +kernel
theorem dX2_wouldLetIn_35 : decode cX2_wouldLetIn 35 = .ok (.ifCond .le 7, 3) := by decide +kernel
theorem dX2_wouldLetIn_38 : decode cX2_wouldLetIn 38 = .ok (.iconst 1, 1) := by decide +kernel
theorem dX2_wouldLetIn_39 : decode cX2_wouldLetIn 39 = .ok (.goto 4, 3) := by decide +kernel
theorem dX2_wouldLetIn_42 : decode cX2_wouldLetIn 42 = .ok (.iconst 0, 1) := by decide +kernel
theorem dX2_wouldLetIn_43 : decode cX2_wouldLetIn 43 = .ok (.ireturn, 1) := by decide +kernel
theorem dX2_letPeopleWait_0 : decode cX2_letPeopleWait 0 = .ok (.iconst 0, 1) := by decide +kernel
theorem dX2_letPeopleWait_1 : decode cX2_letPeopleWait 1 = .ok (.istore_n 1, 1) := by decide +kernel
theorem dX2_letPeopleWait_2 : decode cX2_letPeopleWait 2 = .ok (.iload_n 1, 1) := by decide +kernel
theorem dX2_letPeopleWait_3 : decode cX2_letPeopleWait 3 = .ok (.aload_n 0, 1) := by decide +kernel
theorem dX2_letPeopleWait_4 : decode cX2_letPeopleWait 4 = .ok (.getfield 71, 3) := by decide +kernel
theorem dX2_letPeopleWait_7 : decode cX2_letPeopleWait 7 = .ok (.getfield 75, 3) := by decide +kernel
theorem dX2_letPeopleWait_10 : decode cX2_letPeopleWait 10 = .ok (.if_icmp .ge 64, 3) := by decide +kernel
theorem dX2_letPeopleWait_13 : decode cX2_letPeopleWait 13 = .ok (.aload_n 0, 1) := by decide +kernel
theorem dX2_letPeopleWait_14 : decode cX2_letPeopleWait 14 = .ok (.getfield 18, 3) := by decide +kernel
theorem dX2_letPeopleWait_17 : decode cX2_letPeopleWait 17 = .ok (.ifCond .eq 57, 3) := by decide +kernel
theorem dX2_letPeopleWait_20 : decode cX2_letPeopleWait 20 = .ok (.aload_n 0, 1) := by decide +kernel
theorem dX2_letPeopleWait_21 : decode cX2_letPeopleWait 21 = .ok (.getfield 18, 3) := by decide +kernel
theorem dX2_letPeopleWait_24 : decode cX2_letPeopleWait 24 = .ok (.iload_n 1, 1) := by decide +kernel
theorem dX2_letPeopleWait_25 : decode cX2_letPeopleWait 25 = .ok (.invokestatic 121, 3) := by decide +kernel
theorem dX2_letPeopleWait_28 : decode cX2_letPeopleWait 28 = .ok (.iconst 1, 1) := by decide +kernel
theorem dX2_letPeopleWait_29 : decode cX2_letPeopleWait 29 = .ok (.if_icmp .ne 39, 3) := by decide +kernel
theorem dX2_letPeopleWait_32 : decode cX2_letPeopleWait 32 = .ok (.aload_n 0, 1) := by decide +kernel
theorem dX2_letPeopleWait_33 : decode cX2_letPeopleWait 33 = .ok (.getfield 59, 3) := by decide +kernel
theorem dX2_letPeopleWait_36 : decode cX2_letPeopleWait 36 = .ok (.iload_n 1, 1) := by decide +kernel
theorem dX2_letPeopleWait_37 : decode cX2_letPeopleWait 37 = .ok (.dup2, 1) := by decide +kernel
theorem dX2_letPeopleWait_38 : decode cX2_letPeopleWait 38 = .ok (.iaload, 1) := by decide +kernel
theorem dX2_letPeopleWait_39 : decode cX2_letPeopleWait 39 = .ok (.iconst 1, 1) := by decide +kernel
theorem dX2_letPeopleWait_40 : decode cX2_letPeopleWait 40 = .ok (.iadd, 1) := by decide +kernel
theorem dX2_letPeopleWait_41 : decode cX2_letPeopleWait 41 = .ok (.iastore, 1) := by decide +kernel
theorem dX2_letPeopleWait_42 : decode cX2_letPeopleWait 42 = .ok (.aload_n 0, 1) := by decide +kernel
theorem dX2_letPeopleWait_43 : decode cX2_letPeopleWait 43 = .ok (.getfield 30, 3) := by decide +kernel
theorem dX2_letPeopleWait_46 : decode cX2_letPeopleWait 46 = .ok (.ifCond .ne 22, 3) := by decide +kernel
theorem dX2_letPeopleWait_49 : decode cX2_letPeopleWait 49 = .ok (.aload_n 0, 1) := by decide +kernel
theorem dX2_letPeopleWait_50 : decode cX2_letPeopleWait 50 = .ok (.ldc 177, 2) := by decide +kernel
theorem dX2_letPeopleWait_52 : decode cX2_letPeopleWait 52 = .ok (.aload_n 0, 1) := by decide +kernel
theorem dX2_letPeopleWait_53 : decode cX2_letPeopleWait 53 = .ok (.getfield 37, 3) := by decide +kernel
theorem dX2_letPeopleWait_56 : decode cX2_letPeopleWait 56 = .ok (.aload_n 0, 1) := by decide +kernel
theorem dX2_letPeopleWait_57 : decode cX2_letPeopleWait 57 = .ok (.iload_n 1, 1) := by decide +kernel
theorem dX2_letPeopleWait_58 : decode cX2_letPeopleWait 58 = .ok (.invokevirtual 178, 3) := by decide +kernel
theorem dX2_letPeopleWait_61 : decode cX2_letPeopleWait 61 = .ok (.iadd, 1) := by decide +kernel
theorem dX2_letPeopleWait_62 : decode cX2_letPeopleWait 62 = .ok (.invokestatic 146, 3) := by decide +kernel
theorem dX2_letPeopleWait_65 : decode cX2_letPeopleWait 65 = .ok (.putfield 37, 3) := by decide +kernel
theorem dX2_letPeopleWait_68 : decode cX2_letPeopleWait 68 = .ok (.iinc 1 1, 3) := by decide +kernel
theorem dX2_letPeopleWait_71 : decode cX2_letPeopleWait 71 = .ok (.goto (-69), 3) := by decide +kernel
theorem dX2_letPeopleWait_74 : decode cX2_letPeopleWait 74 = .ok (.return_, 1) := by decide +kernel
theorem dX2_quarrelOf_0 : decode cX2_quarrelOf 0 = .ok (.aload_n 0, 1) := by decide +kernel
theorem dX2_quarrelOf_1 : decode cX2_quarrelOf 1 = .ok (.aload_n 0, 1) := by decide +kernel
theorem dX2_quarrelOf_2 : decode cX2_quarrelOf 2 = .ok (.getfield 59, 3) := by decide +kernel
theorem dX2_quarrelOf_5 : decode cX2_quarrelOf 5 = .ok (.iload_n 1, 1) := by decide +kernel
theorem dX2_quarrelOf_6 : decode cX2_quarrelOf 6 = .ok (.iaload, 1) := by decide +kernel
theorem dX2_quarrelOf_7 : decode cX2_quarrelOf 7 = .ok (.aload_n 0, 1) := by decide +kernel
theorem dX2_quarrelOf_8 : decode cX2_quarrelOf 8 = .ok (.getfield 53, 3) := by decide +kernel
theorem dX2_quarrelOf_11 : decode cX2_quarrelOf 11 = .ok (.iload_n 1, 1) := by decide +kernel
theorem dX2_quarrelOf_12 : decode cX2_quarrelOf 12 = .ok (.iaload, 1) := by decide +kernel
theorem dX2_quarrelOf_13 : decode cX2_quarrelOf 13 = .ok (.iconst 0, 1) := by decide +kernel
theorem dX2_quarrelOf_14 : decode cX2_quarrelOf 14 = .ok (.iload_n 1, 1) := by decide +kernel
theorem dX2_quarrelOf_15 : decode cX2_quarrelOf 15 = .ok (.iconst 0, 1) := by decide +kernel
theorem dX2_quarrelOf_16 : decode cX2_quarrelOf 16 = .ok (.invokevirtual 129, 3) := by decide +kernel
theorem dX2_quarrelOf_19 : decode cX2_quarrelOf 19 = .ok (.iconst 0, 1) := by decide +kernel
theorem dX2_quarrelOf_20 : decode cX2_quarrelOf 20 = .ok (.bipush 99, 2) := by decide +kernel
theorem dX2_quarrelOf_22 : decode cX2_quarrelOf 22 = .ok (.aload_n 0, 1) := by decide +kernel
theorem dX2_quarrelOf_23 : decode cX2_quarrelOf 23 = .ok (.getfield 71, 3) := by decide +kernel
theorem dX2_quarrelOf_26 : decode cX2_quarrelOf 26 = .ok (.getfield 133, 3) := by decide +kernel
theorem dX2_quarrelOf_29 : decode cX2_quarrelOf 29 = .ok (.iconst 1, 1) := by decide +kernel
theorem dX2_quarrelOf_30 : decode cX2_quarrelOf 30 = .ok (.invokevirtual 137, 3) := by decide +kernel
theorem dX2_quarrelOf_33 : decode cX2_quarrelOf 33 = .ok (.invokestatic 146, 3) := by decide +kernel
theorem dX2_quarrelOf_36 : decode cX2_quarrelOf 36 = .ok (.invokestatic 151, 3) := by decide +kernel
theorem dX2_quarrelOf_39 : decode cX2_quarrelOf 39 = .ok (.ireturn, 1) := by decide +kernel
theorem dX2_setVariables_0 : decode cX2_setVariables 0 = .ok (.aload_n 0, 1) := by decide +kernel
theorem dX2_setVariables_1 : decode cX2_setVariables 1 = .ok (.getfield 71, 3) := by decide +kernel
theorem dX2_setVariables_4 : decode cX2_setVariables 4 = .ok (.getfield 133, 3) := by decide +kernel
theorem dX2_setVariables_7 : decode cX2_setVariables 7 = .ok (.getfield 181, 3) := by decide +kernel
theorem dX2_setVariables_10 : decode cX2_setVariables 10 = .ok (.astore 6, 2) := by decide +kernel
theorem dX2_setVariables_12 : decode cX2_setVariables 12 = .ok (.aload 6, 2) := by decide +kernel
theorem dX2_setVariables_14 : decode cX2_setVariables 14 = .ok (.iconst 0, 1) := by decide +kernel
theorem dX2_setVariables_15 : decode cX2_setVariables 15 = .ok (.aload_n 0, 1) := by decide +kernel
theorem dX2_setVariables_16 : decode cX2_setVariables 16 = .ok (.getfield 9, 3) := by decide +kernel
theorem dX2_setVariables_19 : decode cX2_setVariables 19 = .ok (.bipush 24, 2) := by decide +kernel
theorem dX2_setVariables_21 : decode cX2_setVariables 21 = .ok (.irem, 1) := by decide +kernel
theorem dX2_setVariables_22 : decode cX2_setVariables 22 = .ok (.iastore, 1) := by decide +kernel
theorem dX2_setVariables_23 : decode cX2_setVariables 23 = .ok (.aload 6, 2) := by decide +kernel
theorem dX2_setVariables_25 : decode cX2_setVariables 25 = .ok (.iconst 1, 1) := by decide +kernel
theorem dX2_setVariables_26 : decode cX2_setVariables 26 = .ok (.aload_n 0, 1) := by decide +kernel
theorem dX2_setVariables_27 : decode cX2_setVariables 27 = .ok (.getfield 9, 3) := by decide +kernel
theorem dX2_setVariables_30 : decode cX2_setVariables 30 = .ok (.bipush 24, 2) := by decide +kernel
theorem dX2_setVariables_32 : decode cX2_setVariables 32 = .ok (.idiv, 1) := by decide +kernel
theorem dX2_setVariables_33 : decode cX2_setVariables 33 = .ok (.iastore, 1) := by decide +kernel
theorem dX2_setVariables_34 : decode cX2_setVariables 34 = .ok (.aload 6, 2) := by decide +kernel
theorem dX2_setVariables_36 : decode cX2_setVariables 36 = .ok (.iconst 2, 1) := by decide +kernel
theorem dX2_setVariables_37 : decode cX2_setVariables 37 = .ok (.iload_n 1, 1) := by decide +kernel
theorem dX2_setVariables_38 : decode cX2_setVariables 38 = .ok (.iastore, 1) := by decide +kernel
theorem dX2_setVariables_39 : decode cX2_setVariables 39 = .ok (.aload 6, 2) := by decide +kernel
theorem dX2_setVariables_41 : decode cX2_setVariables 41 = .ok (.iconst 3, 1) := by decide +kernel
theorem dX2_setVariables_42 : decode cX2_setVariables 42 = .ok (.iload_n 2, 1) := by decide +kernel
theorem dX2_setVariables_43 : decode cX2_setVariables 43 = .ok (.iastore, 1) := by decide +kernel
theorem dX2_setVariables_44 : decode cX2_setVariables 44 = .ok (.aload 6, 2) := by decide +kernel
theorem dX2_setVariables_46 : decode cX2_setVariables 46 = .ok (.iconst 4, 1) := by decide +kernel
theorem dX2_setVariables_47 : decode cX2_setVariables 47 = .ok (.iload_n 3, 1) := by decide +kernel
theorem dX2_setVariables_48 : decode cX2_setVariables 48 = .ok (.iastore, 1) := by decide +kernel
theorem dX2_setVariables_49 : decode cX2_setVariables 49 = .ok (.aload 6, 2) := by decide +kernel
theorem dX2_setVariables_51 : decode cX2_setVariables 51 = .ok (.iconst 5, 1) := by decide +kernel
theorem dX2_setVariables_52 : decode cX2_setVariables 52 = .ok (.iload 4, 2) := by decide +kernel
theorem dX2_setVariables_54 : decode cX2_setVariables 54 = .ok (.iastore, 1) := by decide +kernel
theorem dX2_setVariables_55 : decode cX2_setVariables 55 = .ok (.aload 6, 2) := by decide +kernel
theorem dX2_setVariables_57 : decode cX2_setVariables 57 = .ok (.bipush 6, 2) := by decide +kernel
theorem dX2_setVariables_59 : decode cX2_setVariables 59 = .ok (.aload_n 0, 1) := by decide +kernel
theorem dX2_setVariables_60 : decode cX2_setVariables 60 = .ok (.getfield 15, 3) := by decide +kernel
theorem dX2_setVariables_63 : decode cX2_setVariables 63 = .ok (.invokestatic 184, 3) := by decide +kernel
theorem dX2_setVariables_66 : decode cX2_setVariables 66 = .ok (.iastore, 1) := by decide +kernel
theorem dX2_setVariables_67 : decode cX2_setVariables 67 = .ok (.aload 6, 2) := by decide +kernel
theorem dX2_setVariables_69 : decode cX2_setVariables 69 = .ok (.bipush 7, 2) := by decide +kernel
theorem dX2_setVariables_71 : decode cX2_setVariables 71 = .ok (.aload_n 0, 1) := by decide +kernel
theorem dX2_setVariables_72 : decode cX2_setVariables 72 = .ok (.getfield 18, 3) := by decide +kernel
theorem dX2_setVariables_75 : decode cX2_setVariables 75 = .ok (.invokestatic 184, 3) := by decide +kernel
theorem dX2_setVariables_78 : decode cX2_setVariables 78 = .ok (.iastore, 1) := by decide +kernel
theorem dX2_setVariables_79 : decode cX2_setVariables 79 = .ok (.aload 6, 2) := by decide +kernel
theorem dX2_setVariables_81 : decode cX2_setVariables 81 = .ok (.bipush 8, 2) := by decide +kernel
theorem dX2_setVariables_83 : decode cX2_setVariables 83 = .ok (.iload 5, 2) := by decide +kernel
theorem dX2_setVariables_85 : decode cX2_setVariables 85 = .ok (.iastore, 1) := by decide +kernel
theorem dX2_setVariables_86 : decode cX2_setVariables 86 = .ok (.return_, 1) := by decide +kernel
theorem dX2_bothIn_0 : decode cX2_bothIn 0 = .ok (.aload_n 0, 1) := by decide +kernel
theorem dX2_bothIn_1 : decode cX2_bothIn 1 = .ok (.getfield 15, 3) := by decide +kernel
theorem dX2_bothIn_4 : decode cX2_bothIn 4 = .ok (.iload_n 1, 1) := by decide +kernel
theorem dX2_bothIn_5 : decode cX2_bothIn 5 = .ok (.invokestatic 121, 3) := by decide +kernel
theorem dX2_bothIn_8 : decode cX2_bothIn 8 = .ok (.iconst 1, 1) := by decide +kernel
theorem dX2_bothIn_9 : decode cX2_bothIn 9 = .ok (.if_icmp .ne 19, 3) := by decide +kernel
theorem dX2_bothIn_12 : decode cX2_bothIn 12 = .ok (.aload_n 0, 1) := by decide +kernel
theorem dX2_bothIn_13 : decode cX2_bothIn 13 = .ok (.getfield 15, 3) := by decide +kernel
theorem dX2_bothIn_16 : decode cX2_bothIn 16 = .ok (.iload_n 2, 1) := by decide +kernel
theorem dX2_bothIn_17 : decode cX2_bothIn 17 = .ok (.invokestatic 121, 3) := by decide +kernel
theorem dX2_bothIn_20 : decode cX2_bothIn 20 = .ok (.iconst 1, 1) := by decide +kernel
theorem dX2_bothIn_21 : decode cX2_bothIn 21 = .ok (.if_icmp .ne 7, 3) := by decide +kernel
theorem dX2_bothIn_24 : decode cX2_bothIn 24 = .ok (.iconst 1, 1) := by decide +kernel
theorem dX2_bothIn_25 : decode cX2_bothIn 25 = .ok (.goto 4, 3) := by decide +kernel
theorem dX2_bothIn_28 : decode cX2_bothIn 28 = .ok (.iconst 0, 1) := by decide +kernel
theorem dX2_bothIn_29 : decode cX2_bothIn 29 = .ok (.ireturn, 1) := by decide +kernel
theorem dX2_swapPeople_0 : decode cX2_swapPeople 0 = .ok (.aload_n 0, 1) := by decide +kernel
theorem dX2_swapPeople_1 : decode cX2_swapPeople 1 = .ok (.getfield 46, 3) := by decide +kernel
theorem dX2_swapPeople_4 : decode cX2_swapPeople 4 = .ok (.iload_n 1, 1) := by decide +kernel
theorem dX2_swapPeople_5 : decode cX2_swapPeople 5 = .ok (.iload_n 2, 1) := by decide +kernel
theorem dX2_swapPeople_6 : decode cX2_swapPeople 6 = .ok (.invokestatic 189, 3) := by decide +kernel
theorem dX2_swapPeople_9 : decode cX2_swapPeople 9 = .ok (.aload_n 0, 1) := by decide +kernel
theorem dX2_swapPeople_10 : decode cX2_swapPeople 10 = .ok (.getfield 50, 3) := by decide +kernel
theorem dX2_swapPeople_13 : decode cX2_swapPeople 13 = .ok (.iload_n 1, 1) := by decide +kernel
theorem dX2_swapPeople_14 : decode cX2_swapPeople 14 = .ok (.iload_n 2, 1) := by decide +kernel
theorem dX2_swapPeople_15 : decode cX2_swapPeople 15 = .ok (.invokestatic 189, 3) := by decide +kernel
theorem dX2_swapPeople_18 : decode cX2_swapPeople 18 = .ok (.aload_n 0, 1) := by decide +kernel
theorem dX2_swapPeople_19 : decode cX2_swapPeople 19 = .ok (.getfield 53, 3) := by decide +kernel
theorem dX2_swapPeople_22 : decode cX2_swapPeople 22 = .ok (.iload_n 1, 1) := by decide +kernel
theorem dX2_swapPeople_23 : decode cX2_swapPeople 23 = .ok (.iload_n 2, 1) := by decide +kernel
theorem dX2_swapPeople_24 : decode cX2_swapPeople 24 = .ok (.invokestatic 189, 3) := by decide +kernel
theorem dX2_swapPeople_27 : decode cX2_swapPeople 27 = .ok (.aload_n 0, 1) := by decide +kernel
theorem dX2_swapPeople_28 : decode cX2_swapPeople 28 = .ok (.getfield 56, 3) := by decide +kernel
theorem dX2_swapPeople_31 : decode cX2_swapPeople 31 = .ok (.iload_n 1, 1) := by decide +kernel
theorem dX2_swapPeople_32 : decode cX2_swapPeople 32 = .ok (.iload_n 2, 1) := by decide +kernel
theorem dX2_swapPeople_33 : decode cX2_swapPeople 33 = .ok (.invokestatic 189, 3) := by decide +kernel
theorem dX2_swapPeople_36 : decode cX2_swapPeople 36 = .ok (.aload_n 0, 1) := by decide +kernel
theorem dX2_swapPeople_37 : decode cX2_swapPeople 37 = .ok (.getfield 21, 3) := by decide +kernel
theorem dX2_swapPeople_40 : decode cX2_swapPeople 40 = .ok (.iload_n 1, 1) := by decide +kernel
theorem dX2_swapPeople_41 : decode cX2_swapPeople 41 = .ok (.invokestatic 121, 3) := by decide +kernel
theorem dX2_swapPeople_44 : decode cX2_swapPeople 44 = .ok (.aload_n 0, 1) := by decide +kernel
theorem dX2_swapPeople_45 : decode cX2_swapPeople 45 = .ok (.getfield 21, 3) := by decide +kernel
theorem dX2_swapPeople_48 : decode cX2_swapPeople 48 = .ok (.iload_n 2, 1) := by decide +kernel
theorem dX2_swapPeople_49 : decode cX2_swapPeople 49 = .ok (.invokestatic 121, 3) := by decide +kernel
theorem dX2_swapPeople_52 : decode cX2_swapPeople 52 = .ok (.if_icmp .eq 19, 3) := by decide +kernel
theorem dX2_swapPeople_55 : decode cX2_swapPeople 55 = .ok (.aload_n 0, 1) := by decide +kernel
theorem dX2_swapPeople_56 : decode cX2_swapPeople 56 = .ok (.dup, 1) := by decide +kernel
theorem dX2_swapPeople_57 : decode cX2_swapPeople 57 = .ok (.getfield 21, 3) := by decide +kernel
theorem dX2_swapPeople_60 : decode cX2_swapPeople 60 = .ok (.iconst 1, 1) := by decide +kernel
theorem dX2_swapPeople_61 : decode cX2_swapPeople 61 = .ok (.iload_n 1, 1) := by decide +kernel
theorem dX2_swapPeople_62 : decode cX2_swapPeople 62 = .ok (.ishl, 1) := by decide +kernel
theorem dX2_swapPeople_63 : decode cX2_swapPeople 63 = .ok (.iconst 1, 1) := by decide +kernel
theorem dX2_swapPeople_64 : decode cX2_swapPeople 64 = .ok (.iload_n 2, 1) := by decide +kernel
theorem dX2_swapPeople_65 : decode cX2_swapPeople 65 = .ok (.ishl, 1) := by decide +kernel
theorem dX2_swapPeople_66 : decode cX2_swapPeople 66 = .ok (.ior, 1) := by decide +kernel
theorem dX2_swapPeople_67 : decode cX2_swapPeople 67 = .ok (.ixor, 1) := by decide +kernel
theorem dX2_swapPeople_68 : decode cX2_swapPeople 68 = .ok (.putfield 21, 3) := by decide +kernel
theorem dX2_swapPeople_71 : decode cX2_swapPeople 71 = .ok (.return_, 1) := by decide +kernel
theorem dX2_swap_0 : decode cX2_swap 0 = .ok (.aload_n 0, 1) := by decide +kernel
theorem dX2_swap_1 : decode cX2_swap 1 = .ok (.iload_n 1, 1) := by decide +kernel
theorem dX2_swap_2 : decode cX2_swap 2 = .ok (.iaload, 1) := by decide +kernel
theorem dX2_swap_3 : decode cX2_swap 3 = .ok (.istore_n 3, 1) := by decide +kernel
theorem dX2_swap_4 : decode cX2_swap 4 = .ok (.aload_n 0, 1) := by decide +kernel
theorem dX2_swap_5 : decode cX2_swap 5 = .ok (.iload_n 1, 1) := by decide +kernel
theorem dX2_swap_6 : decode cX2_swap 6 = .ok (.aload_n 0, 1) := by decide +kernel
theorem dX2_swap_7 : decode cX2_swap 7 = .ok (.iload_n 2, 1) := by decide +kernel
theorem dX2_swap_8 : decode cX2_swap 8 = .ok (.iaload, 1) := by decide +kernel
theorem dX2_swap_9 : decode cX2_swap 9 = .ok (.iastore, 1) := by decide +kernel
theorem dX2_swap_10 : decode cX2_swap 10 = .ok (.aload_n 0, 1) := by decide +kernel
theorem dX2_swap_11 : decode cX2_swap 11 = .ok (.iload_n 2, 1) := by decide +kernel
theorem dX2_swap_12 : decode cX2_swap 12 = .ok (.iload_n 3, 1) := by decide +kernel
theorem dX2_swap_13 : decode cX2_swap 13 = .ok (.iastore, 1) := by decide +kernel
theorem dX2_swap_14 : decode cX2_swap 14 = .ok (.return_, 1) := by decide +kernel
theorem dX2_bringIn_0 : decode cX2_bringIn 0 = .ok (.aload_n 0, 1) := by decide +kernel
theorem dX2_bringIn_1 : decode cX2_bringIn 1 = .ok (.dup, 1) := by decide +kernel
theorem dX2_bringIn_2 : decode cX2_bringIn 2 = .ok (.getfield 15, 3) := by decide +kernel
theorem dX2_bringIn_5 : decode cX2_bringIn 5 = .ok (.iconst 1, 1) := by decide +kernel
theorem dX2_bringIn_6 : decode cX2_bringIn 6 = .ok (.iload_n 1, 1) := by decide +kernel
theorem dX2_bringIn_7 : decode cX2_bringIn 7 = .ok (.ishl, 1) := by decide +kernel
theorem dX2_bringIn_8 : decode cX2_bringIn 8 = .ok (.ior, 1) := by decide +kernel
theorem dX2_bringIn_9 : decode cX2_bringIn 9 = .ok (.putfield 15, 3) := by decide +kernel
theorem dX2_bringIn_12 : decode cX2_bringIn 12 = .ok (.aload_n 0, 1) := by decide +kernel
theorem dX2_bringIn_13 : decode cX2_bringIn 13 = .ok (.dup, 1) := by decide +kernel
theorem dX2_bringIn_14 : decode cX2_bringIn 14 = .ok (.getfield 18, 3) := by decide +kernel
theorem dX2_bringIn_17 : decode cX2_bringIn 17 = .ok (.iconst 1, 1) := by decide +kernel
theorem dX2_bringIn_18 : decode cX2_bringIn 18 = .ok (.iload_n 1, 1) := by decide +kernel
theorem dX2_bringIn_19 : decode cX2_bringIn 19 = .ok (.ishl, 1) := by decide +kernel
theorem dX2_bringIn_20 : decode cX2_bringIn 20 = .ok (.iconst (-1), 1) := by decide +kernel
theorem dX2_bringIn_21 : decode cX2_bringIn 21 = .ok (.ixor, 1) := by decide +kernel
theorem dX2_bringIn_22 : decode cX2_bringIn 22 = .ok (.iand, 1) := by decide +kernel
theorem dX2_bringIn_23 : decode cX2_bringIn 23 = .ok (.putfield 18, 3) := by decide +kernel
theorem dX2_bringIn_26 : decode cX2_bringIn 26 = .ok (.aload_n 0, 1) := by decide +kernel
theorem dX2_bringIn_27 : decode cX2_bringIn 27 = .ok (.getfield 59, 3) := by decide +kernel
theorem dX2_bringIn_30 : decode cX2_bringIn 30 = .ok (.iload_n 1, 1) := by decide +kernel
theorem dX2_bringIn_31 : decode cX2_bringIn 31 = .ok (.iconst 0, 1) := by decide +kernel
theorem dX2_bringIn_32 : decode cX2_bringIn 32 = .ok (.iastore, 1) := by decide +kernel
theorem dX2_bringIn_33 : decode cX2_bringIn 33 = .ok (.return_, 1) := by decide +kernel
theorem dX2_sendAway_0 : decode cX2_sendAway 0 = .ok (.aload_n 0, 1) := by decide +kernel
theorem dX2_sendAway_1 : decode cX2_sendAway 1 = .ok (.dup, 1) := by decide +kernel
theorem dX2_sendAway_2 : decode cX2_sendAway 2 = .ok (.getfield 15, 3) := by decide +kernel
theorem dX2_sendAway_5 : decode cX2_sendAway 5 = .ok (.iconst 1, 1) := by decide +kernel
theorem dX2_sendAway_6 : decode cX2_sendAway 6 = .ok (.iload_n 1, 1) := by decide +kernel
theorem dX2_sendAway_7 : decode cX2_sendAway 7 = .ok (.ishl, 1) := by decide +kernel
theorem dX2_sendAway_8 : decode cX2_sendAway 8 = .ok (.iconst (-1), 1) := by decide +kernel
theorem dX2_sendAway_9 : decode cX2_sendAway 9 = .ok (.ixor, 1) := by decide +kernel
theorem dX2_sendAway_10 : decode cX2_sendAway 10 = .ok (.iand, 1) := by decide +kernel
theorem dX2_sendAway_11 : decode cX2_sendAway 11 = .ok (.putfield 15, 3) := by decide +kernel
theorem dX2_sendAway_14 : decode cX2_sendAway 14 = .ok (.aload_n 0, 1) := by decide +kernel
theorem dX2_sendAway_15 : decode cX2_sendAway 15 = .ok (.dup, 1) := by decide +kernel
theorem dX2_sendAway_16 : decode cX2_sendAway 16 = .ok (.getfield 18, 3) := by decide +kernel
theorem dX2_sendAway_19 : decode cX2_sendAway 19 = .ok (.iconst 1, 1) := by decide +kernel
theorem dX2_sendAway_20 : decode cX2_sendAway 20 = .ok (.iload_n 1, 1) := by decide +kernel
theorem dX2_sendAway_21 : decode cX2_sendAway 21 = .ok (.ishl, 1) := by decide +kernel
theorem dX2_sendAway_22 : decode cX2_sendAway 22 = .ok (.iconst (-1), 1) := by decide +kernel
theorem dX2_sendAway_23 : decode cX2_sendAway 23 = .ok (.ixor, 1) := by decide +kernel
theorem dX2_sendAway_24 : decode cX2_sendAway 24 = .ok (.iand, 1) := by decide +kernel
theorem dX2_sendAway_25 : decode cX2_sendAway 25 = .ok (.putfield 18, 3) := by decide +kernel
theorem dX2_sendAway_28 : decode cX2_sendAway 28 = .ok (.aload_n 0, 1) := by decide +kernel
theorem dX2_sendAway_29 : decode cX2_sendAway 29 = .ok (.dup, 1) := by decide +kernel
theorem dX2_sendAway_30 : decode cX2_sendAway 30 = .ok (.getfield 27, 3) := by decide +kernel
theorem dX2_sendAway_33 : decode cX2_sendAway 33 = .ok (.iconst 1, 1) := by decide +kernel
theorem dX2_sendAway_34 : decode cX2_sendAway 34 = .ok (.iload_n 1, 1) := by decide +kernel
theorem dX2_sendAway_35 : decode cX2_sendAway 35 = .ok (.ishl, 1) := by decide +kernel
theorem dX2_sendAway_36 : decode cX2_sendAway 36 = .ok (.ior, 1) := by decide +kernel
theorem dX2_sendAway_37 : decode cX2_sendAway 37 = .ok (.putfield 27, 3) := by decide +kernel
theorem dX2_sendAway_40 : decode cX2_sendAway 40 = .ok (.aload_n 0, 1) := by decide +kernel
theorem dX2_sendAway_41 : decode cX2_sendAway 41 = .ok (.getfield 59, 3) := by decide +kernel
theorem dX2_sendAway_44 : decode cX2_sendAway 44 = .ok (.iload_n 1, 1) := by decide +kernel
theorem dX2_sendAway_45 : decode cX2_sendAway 45 = .ok (.iconst 0, 1) := by decide +kernel
theorem dX2_sendAway_46 : decode cX2_sendAway 46 = .ok (.iastore, 1) := by decide +kernel
theorem dX2_sendAway_47 : decode cX2_sendAway 47 = .ok (.return_, 1) := by decide +kernel
theorem dX2_whereIs_0 : decode cX2_whereIs 0 = .ok (.aload_n 0, 1) := by decide +kernel
theorem dX2_whereIs_1 : decode cX2_whereIs 1 = .ok (.getfield 15, 3) := by decide +kernel
theorem dX2_whereIs_4 : decode cX2_whereIs 4 = .ok (.iload_n 1, 1) := by decide +kernel
theorem dX2_whereIs_5 : decode cX2_whereIs 5 = .ok (.invokestatic 121, 3) := by decide +kernel
theorem dX2_whereIs_8 : decode cX2_whereIs 8 = .ok (.iconst 1, 1) := by decide +kernel
theorem dX2_whereIs_9 : decode cX2_whereIs 9 = .ok (.if_icmp .ne 7, 3) := by decide +kernel
theorem dX2_whereIs_12 : decode cX2_whereIs 12 = .ok (.iconst 0, 1) := by decide +kernel
theorem dX2_whereIs_13 : decode cX2_whereIs 13 = .ok (.goto 13, 3) := by decide +kernel
theorem dX2_whereIs_16 : decode cX2_whereIs 16 = .ok (.iconst 1, 1) := by decide +kernel
theorem dX2_whereIs_17 : decode cX2_whereIs 17 = .ok (.aload_n 0, 1) := by decide +kernel
theorem dX2_whereIs_18 : decode cX2_whereIs 18 = .ok (.getfield 18, 3) := by decide +kernel
theorem dX2_whereIs_21 : decode cX2_whereIs 21 = .ok (.iload_n 1, 1) := by decide +kernel
theorem dX2_whereIs_22 : decode cX2_whereIs 22 = .ok (.invokestatic 121, 3) := by decide +kernel
theorem dX2_whereIs_25 : decode cX2_whereIs 25 = .ok (.iadd, 1) := by decide +kernel
theorem dX2_whereIs_26 : decode cX2_whereIs 26 = .ok (.ireturn, 1) := by decide +kernel
theorem dX2_isOut_0 : decode cX2_isOut 0 = .ok (.aload_n 0, 1) := by decide +kernel
theorem dX2_isOut_1 : decode cX2_isOut 1 = .ok (.getfield 15, 3) := by decide +kernel
theorem dX2_isOut_4 : decode cX2_isOut 4 = .ok (.aload_n 0, 1) := by decide +kernel
theorem dX2_isOut_5 : decode cX2_isOut 5 = .ok (.getfield 18, 3) := by decide +kernel
theorem dX2_isOut_8 : decode cX2_isOut 8 = .ok (.ior, 1) := by decide +kernel
theorem dX2_isOut_9 : decode cX2_isOut 9 = .ok (.iload_n 1, 1) := by decide +kernel
theorem dX2_isOut_10 : decode cX2_isOut 10 = .ok (.invokestatic 121, 3) := by decide +kernel
theorem dX2_isOut_13 : decode cX2_isOut 13 = .ok (.ifCond .ne 7, 3) := by decide +kernel
theorem dX2_isOut_16 : decode cX2_isOut 16 = .ok (.iconst 1, 1) := by decide +kernel
theorem dX2_isOut_17 : decode cX2_isOut 17 = .ok (.goto 4, 3) := by decide +kernel
theorem dX2_isOut_20 : decode cX2_isOut 20 = .ok (.iconst 0, 1) := by decide +kernel
theorem dX2_isOut_21 : decode cX2_isOut 21 = .ok (.ireturn, 1) := by decide +kernel
theorem dX2_leftOf_0 : decode cX2_leftOf 0 = .ok (.iload_n 1, 1) := by decide +kernel
theorem dX2_leftOf_1 : decode cX2_leftOf 1 = .ok (.ifCond .le 9, 3) := by decide +kernel
theorem dX2_leftOf_4 : decode cX2_leftOf 4 = .ok (.iload_n 1, 1) := by decide +kernel
theorem dX2_leftOf_5 : decode cX2_leftOf 5 = .ok (.iconst 1, 1) := by decide +kernel
theorem dX2_leftOf_6 : decode cX2_leftOf 6 = .ok (.isub, 1) := by decide +kernel
theorem dX2_leftOf_7 : decode cX2_leftOf 7 = .ok (.goto 12, 3) := by decide +kernel
theorem dX2_leftOf_10 : decode cX2_leftOf 10 = .ok (.aload_n 0, 1) := by decide +kernel
theorem dX2_leftOf_11 : decode cX2_leftOf 11 = .ok (.getfield 71, 3) := by decide +kernel
theorem dX2_leftOf_14 : decode cX2_leftOf 14 = .ok (.getfield 75, 3) := by decide +kernel
theorem dX2_leftOf_17 : decode cX2_leftOf 17 = .ok (.iconst 1, 1) := by decide +kernel
theorem dX2_leftOf_18 : decode cX2_leftOf 18 = .ok (.isub, 1) := by decide +kernel
theorem dX2_leftOf_19 : decode cX2_leftOf 19 = .ok (.ireturn, 1) := by decide +kernel
theorem dX2_rightOf_0 : decode cX2_rightOf 0 = .ok (.iload_n 1, 1) := by decide +kernel
theorem dX2_rightOf_1 : decode cX2_rightOf 1 = .ok (.iconst 1, 1) := by decide +kernel
theorem dX2_rightOf_2 : decode cX2_rightOf 2 = .ok (.iadd, 1) := by decide +kernel
theorem dX2_rightOf_3 : decode cX2_rightOf 3 = .ok (.aload_n 0, 1) := by decide +kernel
theorem dX2_rightOf_4 : decode cX2_rightOf 4 = .ok (.getfield 71, 3) := by decide +kernel
theorem dX2_rightOf_7 : decode cX2_rightOf 7 = .ok (.getfield 75, 3) := by decide +kernel
theorem dX2_rightOf_10 : decode cX2_rightOf 10 = .ok (.if_icmp .ge 9, 3) := by decide +kernel
theorem dX2_rightOf_13 : decode cX2_rightOf 13 = .ok (.iload_n 1, 1) := by decide +kernel
theorem dX2_rightOf_14 : decode cX2_rightOf 14 = .ok (.iconst 1, 1) := by decide +kernel
theorem dX2_rightOf_15 : decode cX2_rightOf 15 = .ok (.iadd, 1) := by decide +kernel
theorem dX2_rightOf_16 : decode cX2_rightOf 16 = .ok (.goto 4, 3) := by decide +kernel
theorem dX2_rightOf_19 : decode cX2_rightOf 19 = .ok (.iconst 0, 1) := by decide +kernel
theorem dX2_rightOf_20 : decode cX2_rightOf 20 = .ok (.ireturn, 1) := by decide +kernel
theorem dX2_hasOwnSpare_0 : decode cX2_hasOwnSpare 0 = .ok (.iconst 0, 1) := by decide +kernel
theorem dX2_hasOwnSpare_1 : decode cX2_hasOwnSpare 1 = .ok (.istore_n 2, 1) := by decide +kernel
theorem dX2_hasOwnSpare_2 : decode cX2_hasOwnSpare 2 = .ok (.iload_n 2, 1) := by decide +kernel
theorem dX2_hasOwnSpare_3 : decode cX2_hasOwnSpare 3 = .ok (.aload_n 0, 1) := by decide +kernel
theorem dX2_hasOwnSpare_4 : decode cX2_hasOwnSpare 4 = .ok (.getfield 71, 3) := by decide +kernel
theorem dX2_hasOwnSpare_7 : decode cX2_hasOwnSpare 7 = .ok (.getfield 114, 3) := by decide +kernel
theorem dX2_hasOwnSpare_10 : decode cX2_hasOwnSpare 10 = .ok (.if_icmp .ge 34, 3) := by decide +kernel
theorem dX2_hasOwnSpare_13 : decode cX2_hasOwnSpare 13 = .ok (.aload_n 0, 1) := by decide +kernel
theorem dX2_hasOwnSpare_14 : decode cX2_hasOwnSpare 14 = .ok (.getfield 71, 3) := by decide +kernel
theorem dX2_hasOwnSpare_17 : decode cX2_hasOwnSpare 17 = .ok (.getfield 193, 3) := by decide +kernel
theorem dX2_hasOwnSpare_20 : decode cX2_hasOwnSpare 20 = .ok (.iload_n 2, 1) := by decide +kernel
theorem dX2_hasOwnSpare_21 : decode cX2_hasOwnSpare 21 = .ok (.iaload, 1) := by decide +kernel
theorem dX2_hasOwnSpare_22 : decode cX2_hasOwnSpare 22 = .ok (.iload_n 1, 1) := by decide +kernel
theorem dX2_hasOwnSpare_23 : decode cX2_hasOwnSpare 23 = .ok (.if_icmp .ne 15, 3) := by decide +kernel
theorem dX2_hasOwnSpare_26 : decode cX2_hasOwnSpare 26 = .ok (.aload_n 0, 1) := by decide +kernel
theorem dX2_hasOwnSpare_27 : decode cX2_hasOwnSpare 27 = .ok (.getfield 65, 3) := by decide +kernel
theorem dX2_hasOwnSpare_30 : decode cX2_hasOwnSpare 30 = .ok (.iload_n 2, 1) := by decide +kernel
theorem dX2_hasOwnSpare_31 : decode cX2_hasOwnSpare 31 = .ok (.iaload, 1) := by decide +kernel
theorem dX2_hasOwnSpare_32 : decode cX2_hasOwnSpare 32 = .ok (.iload_n 1, 1) := by decide +kernel
theorem dX2_hasOwnSpare_33 : decode cX2_hasOwnSpare 33 = .ok (.if_icmp .ne 5, 3) := by decide +kernel
theorem dX2_hasOwnSpare_36 : decode cX2_hasOwnSpare 36 = .ok (.iconst 1, 1) := by decide +kernel
theorem dX2_hasOwnSpare_37 : decode cX2_hasOwnSpare 37 = .ok (.ireturn, 1) := by decide +kernel
theorem dX2_hasOwnSpare_38 : decode cX2_hasOwnSpare 38 = .ok (.iinc 2 1, 3) := by decide +kernel
theorem dX2_hasOwnSpare_41 : decode cX2_hasOwnSpare 41 = .ok (.goto (-39), 3) := by decide +kernel
theorem dX2_hasOwnSpare_44 : decode cX2_hasOwnSpare 44 = .ok (.iconst 0, 1) := by decide +kernel
theorem dX2_hasOwnSpare_45 : decode cX2_hasOwnSpare 45 = .ok (.ireturn, 1) := by decide +kernel
theorem dX2_openersOf_0 : decode cX2_openersOf 0 = .ok (.aload_n 0, 1) := by decide +kernel
theorem dX2_openersOf_1 : decode cX2_openersOf 1 = .ok (.iload_n 1, 1) := by decide +kernel
theorem dX2_openersOf_2 : decode cX2_openersOf 2 = .ok (.invokevirtual 161, 3) := by decide +kernel
theorem dX2_openersOf_5 : decode cX2_openersOf 5 = .ok (.istore_n 2, 1) := by decide +kernel
theorem dX2_openersOf_6 : decode cX2_openersOf 6 = .ok (.aload_n 0, 1) := by decide +kernel
theorem dX2_openersOf_7 : decode cX2_openersOf 7 = .ok (.iload_n 1, 1) := by decide +kernel
theorem dX2_openersOf_8 : decode cX2_openersOf 8 = .ok (.invokevirtual 117, 3) := by decide +kernel
theorem dX2_openersOf_11 : decode cX2_openersOf 11 = .ok (.istore_n 3, 1) := by decide +kernel
theorem dX2_openersOf_12 : decode cX2_openersOf 12 = .ok (.iconst 0, 1) := by decide +kernel
theorem dX2_openersOf_13 : decode cX2_openersOf 13 = .ok (.istore 4, 2) := by decide +kernel
theorem dX2_openersOf_15 : decode cX2_openersOf 15 = .ok (.aload_n 0, 1) := by decide +kernel
theorem dX2_openersOf_16 : decode cX2_openersOf 16 = .ok (.getfield 71, 3) := by decide +kernel
theorem dX2_openersOf_19 : decode cX2_openersOf 19 = .ok (.getfield 75, 3) := by decide +kernel
theorem dX2_openersOf_22 : decode cX2_openersOf 22 = .ok (.iconst 1, 1) := by decide +kernel
theorem dX2_openersOf_23 : decode cX2_openersOf 23 = .ok (.if_icmp .eq 11, 3) := by decide +kernel
theorem dX2_openersOf_26 : decode cX2_openersOf 26 = .ok (.aload_n 0, 1) := by decide +kernel
theorem dX2_openersOf_27 : decode cX2_openersOf 27 = .ok (.iload_n 1, 1) := by decide +kernel
theorem dX2_openersOf_28 : decode cX2_openersOf 28 = .ok (.invokevirtual 158, 3) := by decide +kernel
theorem dX2_openersOf_31 : decode cX2_openersOf 31 = .ok (.ifCond .eq 11, 3) := by decide +kernel
theorem dX2_openersOf_34 : decode cX2_openersOf 34 = .ok (.iload 4, 2) := by decide +kernel
theorem dX2_openersOf_36 : decode cX2_openersOf 36 = .ok (.iconst 1, 1) := by decide +kernel
theorem dX2_openersOf_37 : decode cX2_openersOf 37 = .ok (.iload_n 1, 1) := by decide +kernel
theorem dX2_openersOf_38 : decode cX2_openersOf 38 = .ok (.ishl, 1) := by decide +kernel
theorem dX2_openersOf_39 : decode cX2_openersOf 39 = .ok (.ior, 1) := by decide +kernel
theorem dX2_openersOf_40 : decode cX2_openersOf 40 = .ok (.istore 4, 2) := by decide +kernel
theorem dX2_openersOf_42 : decode cX2_openersOf 42 = .ok (.aload_n 0, 1) := by decide +kernel
theorem dX2_openersOf_43 : decode cX2_openersOf 43 = .ok (.iload_n 2, 1) := by decide +kernel
theorem dX2_openersOf_44 : decode cX2_openersOf 44 = .ok (.invokevirtual 164, 3) := by decide +kernel
theorem dX2_openersOf_47 : decode cX2_openersOf 47 = .ok (.ifCond .ne 11, 3) := by decide +kernel
theorem dX2_openersOf_50 : decode cX2_openersOf 50 = .ok (.iload 4, 2) := by decide +kernel
theorem dX2_openersOf_52 : decode cX2_openersOf 52 = .ok (.iconst 1, 1) := by decide +kernel
theorem dX2_openersOf_53 : decode cX2_openersOf 53 = .ok (.iload_n 2, 1) := by decide +kernel
theorem dX2_openersOf_54 : decode cX2_openersOf 54 = .ok (.ishl, 1) := by decide +kernel
theorem dX2_openersOf_55 : decode cX2_openersOf 55 = .ok (.ior, 1) := by decide +kernel
theorem dX2_openersOf_56 : decode cX2_openersOf 56 = .ok (.istore 4, 2) := by decide +kernel
theorem dX2_openersOf_58 : decode cX2_openersOf 58 = .ok (.aload_n 0, 1) := by decide +kernel
theorem dX2_openersOf_59 : decode cX2_openersOf 59 = .ok (.iload_n 3, 1) := by decide +kernel
theorem dX2_openersOf_60 : decode cX2_openersOf 60 = .ok (.invokevirtual 164, 3) := by decide +kernel
theorem dX2_openersOf_63 : decode cX2_openersOf 63 = .ok (.ifCond .ne 26, 3) := by decide +kernel
theorem dX2_openersOf_66 : decode cX2_openersOf 66 = .ok (.aload_n 0, 1) := by decide +kernel
theorem dX2_openersOf_67 : decode cX2_openersOf 67 = .ok (.getfield 71, 3) := by decide +kernel
theorem dX2_openersOf_70 : decode cX2_openersOf 70 = .ok (.getfield 171, 3) := by decide +kernel
theorem dX2_openersOf_73 : decode cX2_openersOf 73 = .ok (.iload_n 3, 1) := by decide +kernel
theorem dX2_openersOf_74 : decode cX2_openersOf 74 = .ok (.invokestatic 121, 3) := by decide +kernel
theorem dX2_openersOf_77 : decode cX2_openersOf 77 = .ok (.iconst 1, 1) := by decide +kernel
theorem dX2_openersOf_78 : decode cX2_openersOf 78 = .ok (.if_icmp .ne 11, 3) := by decide +kernel
theorem dX2_openersOf_81 : decode cX2_openersOf 81 = .ok (.iload 4, 2) := by decide +kernel
theorem dX2_openersOf_83 : decode cX2_openersOf 83 = .ok (.iconst 1, 1) := by decide +kernel
theorem dX2_openersOf_84 : decode cX2_openersOf 84 = .ok (.iload_n 3, 1) := by decide +kernel
theorem dX2_openersOf_85 : decode cX2_openersOf 85 = .ok (.ishl, 1) := by decide +kernel
theorem dX2_openersOf_86 : decode cX2_openersOf 86 = .ok (.ior, 1) := by decide +kernel
theorem dX2_openersOf_87 : decode cX2_openersOf 87 = .ok (.istore 4, 2) := by decide +kernel
theorem dX2_openersOf_89 : decode cX2_openersOf 89 = .ok (.iload 4, 2) := by decide +kernel
theorem dX2_openersOf_91 : decode cX2_openersOf 91 = .ok (.ireturn, 1) := by decide +kernel
theorem dX2_waysOf_0 : decode cX2_waysOf 0 = .ok (.iload_n 2, 1) := by decide +kernel
theorem dX2_waysOf_1 : decode cX2_waysOf 1 = .ok (.aload_n 0, 1) := by decide +kernel
theorem dX2_waysOf_2 : decode cX2_waysOf 2 = .ok (.getfield 65, 3) := by decide +kernel
theorem dX2_waysOf_5 : decode cX2_waysOf 5 = .ok (.iload_n 1, 1) := by decide +kernel
theorem dX2_waysOf_6 : decode cX2_waysOf 6 = .ok (.iaload, 1) := by decide +kernel
theorem dX2_waysOf_7 : decode cX2_waysOf 7 = .ok (.isub, 1) := by decide +kernel
theorem dX2_waysOf_8 : decode cX2_waysOf 8 = .ok (.istore_n 3, 1) := by decide +kernel
theorem dX2_waysOf_9 : decode cX2_waysOf 9 = .ok (.iload_n 3, 1) := by decide +kernel
theorem dX2_waysOf_10 : decode cX2_waysOf 10 = .ok (.ifCond .ge 15, 3) := by decide +kernel
theorem dX2_waysOf_13 : decode cX2_waysOf 13 = .ok (.iload_n 3, 1) := by decide +kernel
theorem dX2_waysOf_14 : decode cX2_waysOf 14 = .ok (.aload_n 0, 1) := by decide +kernel
theorem dX2_waysOf_15 : decode cX2_waysOf 15 = .ok (.getfield 71, 3) := by decide +kernel
theorem dX2_waysOf_18 : decode cX2_waysOf 18 = .ok (.getfield 75, 3) := by decide +kernel
theorem dX2_waysOf_21 : decode cX2_waysOf 21 = .ok (.iadd, 1) := by decide +kernel
theorem dX2_waysOf_22 : decode cX2_waysOf 22 = .ok (.goto 4, 3) := by decide +kernel
theorem dX2_waysOf_25 : decode cX2_waysOf 25 = .ok (.iload_n 3, 1) := by decide +kernel
theorem dX2_waysOf_26 : decode cX2_waysOf 26 = .ok (.ireturn, 1) := by decide +kernel
theorem dX2_sparesWithGoal_0 : decode cX2_sparesWithGoal 0 = .ok (.iconst 0, 1) := by decide +kernel
theorem dX2_sparesWithGoal_1 : decode cX2_sparesWithGoal 1 = .ok (.istore_n 1, 1) := by decide +kernel
theorem dX2_sparesWithGoal_2 : decode cX2_sparesWithGoal 2 = .ok (.iconst 0, 1) := by decide +kernel
theorem dX2_sparesWithGoal_3 : decode cX2_sparesWithGoal 3 = .ok (.istore_n 2, 1) := by decide +kernel
theorem dX2_sparesWithGoal_4 : decode cX2_sparesWithGoal 4 = .ok (.iload_n 2, 1) := by decide +kernel
theorem dX2_sparesWithGoal_5 : decode cX2_sparesWithGoal 5 = .ok (.aload_n 0, 1) := by decide +kernel
theorem dX2_sparesWithGoal_6 : decode cX2_sparesWithGoal 6 = .ok (.getfield 71, 3) := by decide +kernel
theorem dX2_sparesWithGoal_9 : decode cX2_sparesWithGoal 9 = .ok (.getfield 114, 3) := by decide +kernel
theorem dX2_sparesWithGoal_12 : decode cX2_sparesWithGoal 12 = .ok (.if_icmp .ge 26, 3) := by decide +kernel
theorem dX2_sparesWithGoal_15 : decode cX2_sparesWithGoal 15 = .ok (.aload_n 0, 1) := by decide +kernel
theorem dX2_sparesWithGoal_16 : decode cX2_sparesWithGoal 16 = .ok (.getfield 68, 3) := by decide +kernel
theorem dX2_sparesWithGoal_19 : decode cX2_sparesWithGoal 19 = .ok (.iload_n 2, 1) := by decide +kernel
theorem dX2_sparesWithGoal_20 : decode cX2_sparesWithGoal 20 = .ok (.iaload, 1) := by decide +kernel
theorem dX2_sparesWithGoal_21 : decode cX2_sparesWithGoal 21 = .ok (.bipush (-2), 2) := by decide +kernel
theorem dX2_sparesWithGoal_23 : decode cX2_sparesWithGoal 23 = .ok (.if_icmp .eq 9, 3) := by decide +kernel
theorem dX2_sparesWithGoal_26 : decode cX2_sparesWithGoal 26 = .ok (.iload_n 1, 1) := by decide +kernel
theorem dX2_sparesWithGoal_27 : decode cX2_sparesWithGoal 27 = .ok (.iconst 1, 1) := by decide +kernel
theorem dX2_sparesWithGoal_28 : decode cX2_sparesWithGoal 28 = .ok (.iload_n 2, 1) := by decide +kernel
theorem dX2_sparesWithGoal_29 : decode cX2_sparesWithGoal 29 = .ok (.ishl, 1) := by decide +kernel
theorem dX2_sparesWithGoal_30 : decode cX2_sparesWithGoal 30 = .ok (.ior, 1) := by decide +kernel
theorem dX2_sparesWithGoal_31 : decode cX2_sparesWithGoal 31 = .ok (.istore_n 1, 1) := by decide +kernel
theorem dX2_sparesWithGoal_32 : decode cX2_sparesWithGoal 32 = .ok (.iinc 2 1, 3) := by decide +kernel
theorem dX2_sparesWithGoal_35 : decode cX2_sparesWithGoal 35 = .ok (.goto (-31), 3) := by decide +kernel
theorem dX2_sparesWithGoal_38 : decode cX2_sparesWithGoal 38 = .ok (.iload_n 1, 1) := by decide +kernel
theorem dX2_sparesWithGoal_39 : decode cX2_sparesWithGoal 39 = .ok (.ireturn, 1) := by decide +kernel
theorem dX2_rentOf_0 : decode cX2_rentOf 0 = .ok (.iconst 0, 1) := by decide +kernel
theorem dX2_rentOf_1 : decode cX2_rentOf 1 = .ok (.istore_n 2, 1) := by decide +kernel
theorem dX2_rentOf_2 : decode cX2_rentOf 2 = .ok (.iconst 0, 1) := by decide +kernel
theorem dX2_rentOf_3 : decode cX2_rentOf 3 = .ok (.istore_n 3, 1) := by decide +kernel
theorem dX2_rentOf_4 : decode cX2_rentOf 4 = .ok (.iload_n 3, 1) := by decide +kernel
theorem dX2_rentOf_5 : decode cX2_rentOf 5 = .ok (.aload_n 0, 1) := by decide +kernel
theorem dX2_rentOf_6 : decode cX2_rentOf 6 = .ok (.getfield 71, 3) := by decide +kernel
theorem dX2_rentOf_9 : decode cX2_rentOf 9 = .ok (.getfield 114, 3) := by decide +kernel
theorem dX2_rentOf_12 : decode cX2_rentOf 12 = .ok (.if_icmp .ge 22, 3) := by decide +kernel
theorem dX2_rentOf_15 : decode cX2_rentOf 15 = .ok (.aload_n 0, 1) := by decide +kernel
theorem dX2_rentOf_16 : decode cX2_rentOf 16 = .ok (.getfield 65, 3) := by decide +kernel
theorem dX2_rentOf_19 : decode cX2_rentOf 19 = .ok (.iload_n 3, 1) := by decide +kernel
theorem dX2_rentOf_20 : decode cX2_rentOf 20 = .ok (.iaload, 1) := by decide +kernel
theorem dX2_rentOf_21 : decode cX2_rentOf 21 = .ok (.iload_n 1, 1) := by decide +kernel
theorem dX2_rentOf_22 : decode cX2_rentOf 22 = .ok (.if_icmp .ne 6, 3) := by decide +kernel
theorem dX2_rentOf_25 : decode cX2_rentOf 25 = .ok (.iinc 2 1, 3) := by decide +kernel
theorem dX2_rentOf_28 : decode cX2_rentOf 28 = .ok (.iinc 3 1, 3) := by decide +kernel
theorem dX2_rentOf_31 : decode cX2_rentOf 31 = .ok (.goto (-27), 3) := by decide +kernel
theorem dX2_rentOf_34 : decode cX2_rentOf 34 = .ok (.aload_n 0, 1) := by decide +kernel
theorem dX2_rentOf_35 : decode cX2_rentOf 35 = .ok (.iconst 0, 1) := by decide +kernel
theorem dX2_rentOf_36 : decode cX2_rentOf 36 = .ok (.aload_n 0, 1) := by decide +kernel
theorem dX2_rentOf_37 : decode cX2_rentOf 37 = .ok (.getfield 53, 3) := by decide +kernel
theorem dX2_rentOf_40 : decode cX2_rentOf 40 = .ok (.iload_n 1, 1) := by decide +kernel
theorem dX2_rentOf_41 : decode cX2_rentOf 41 = .ok (.iaload, 1) := by decide +kernel
theorem dX2_rentOf_42 : decode cX2_rentOf 42 = .ok (.iconst 0, 1) := by decide +kernel
theorem dX2_rentOf_43 : decode cX2_rentOf 43 = .ok (.iload_n 1, 1) := by decide +kernel
theorem dX2_rentOf_44 : decode cX2_rentOf 44 = .ok (.iload_n 2, 1) := by decide +kernel
theorem dX2_rentOf_45 : decode cX2_rentOf 45 = .ok (.invokevirtual 129, 3) := by decide +kernel
theorem dX2_rentOf_48 : decode cX2_rentOf 48 = .ok (.iconst 0, 1) := by decide +kernel
theorem dX2_rentOf_49 : decode cX2_rentOf 49 = .ok (.bipush 99, 2) := by decide +kernel
theorem dX2_rentOf_51 : decode cX2_rentOf 51 = .ok (.aload_n 0, 1) := by decide +kernel
theorem dX2_rentOf_52 : decode cX2_rentOf 52 = .ok (.getfield 71, 3) := by decide +kernel
theorem dX2_rentOf_55 : decode cX2_rentOf 55 = .ok (.getfield 133, 3) := by decide +kernel
theorem dX2_rentOf_58 : decode cX2_rentOf 58 = .ok (.iconst 2, 1) := by decide +kernel
theorem dX2_rentOf_59 : decode cX2_rentOf 59 = .ok (.invokevirtual 137, 3) := by decide +kernel
theorem dX2_rentOf_62 : decode cX2_rentOf 62 = .ok (.invokestatic 146, 3) := by decide +kernel
theorem dX2_rentOf_65 : decode cX2_rentOf 65 = .ok (.invokestatic 151, 3) := by decide +kernel
theorem dX2_rentOf_68 : decode cX2_rentOf 68 = .ok (.ireturn, 1) := by decide +kernel
theorem dX2_rentOfAll_0 : decode cX2_rentOfAll 0 = .ok (.iconst 0, 1) := by decide +kernel
theorem dX2_rentOfAll_1 : decode cX2_rentOfAll 1 = .ok (.istore_n 1, 1) := by decide +kernel
theorem dX2_rentOfAll_2 : decode cX2_rentOfAll 2 = .ok (.iconst 0, 1) := by decide +kernel
theorem dX2_rentOfAll_3 : decode cX2_rentOfAll 3 = .ok (.istore_n 2, 1) := by decide +kernel
theorem dX2_rentOfAll_4 : decode cX2_rentOfAll 4 = .ok (.iload_n 2, 1) := by decide +kernel
theorem dX2_rentOfAll_5 : decode cX2_rentOfAll 5 = .ok (.aload_n 0, 1) := by decide +kernel
theorem dX2_rentOfAll_6 : decode cX2_rentOfAll 6 = .ok (.getfield 71, 3) := by decide +kernel
theorem dX2_rentOfAll_9 : decode cX2_rentOfAll 9 = .ok (.getfield 75, 3) := by decide +kernel
theorem dX2_rentOfAll_12 : decode cX2_rentOfAll 12 = .ok (.if_icmp .ge 17, 3) := by decide +kernel
theorem dX2_rentOfAll_15 : decode cX2_rentOfAll 15 = .ok (.iload_n 1, 1) := by decide +kernel
theorem dX2_rentOfAll_16 : decode cX2_rentOfAll 16 = .ok (.aload_n 0, 1) := by decide +kernel
theorem dX2_rentOfAll_17 : decode cX2_rentOfAll 17 = .ok (.iload_n 2, 1) := by decide +kernel
theorem dX2_rentOfAll_18 : decode cX2_rentOfAll 18 = .ok (.invokevirtual 196, 3) := by decide +kernel
theorem dX2_rentOfAll_21 : decode cX2_rentOfAll 21 = .ok (.iadd, 1) := by decide +kernel
theorem dX2_rentOfAll_22 : decode cX2_rentOfAll 22 = .ok (.istore_n 1, 1) := by decide +kernel
theorem dX2_rentOfAll_23 : decode cX2_rentOfAll 23 = .ok (.iinc 2 1, 3) := by decide +kernel
theorem dX2_rentOfAll_26 : decode cX2_rentOfAll 26 = .ok (.goto (-22), 3) := by decide +kernel
theorem dX2_rentOfAll_29 : decode cX2_rentOfAll 29 = .ok (.iload_n 1, 1) := by decide +kernel
theorem dX2_rentOfAll_30 : decode cX2_rentOfAll 30 = .ok (.ireturn, 1) := by decide +kernel
theorem dX3_init_0 : decode cX3_init 0 = .ok (.aload_n 0, 1) := by decide +kernel
theorem dX3_init_1 : decode cX3_init 1 = .ok (.invokespecial 3, 3) := by decide +kernel
theorem dX3_init_4 : decode cX3_init 4 = .ok (.aload_n 0, 1) := by decide +kernel
theorem dX3_init_5 : decode cX3_init 5 = .ok (.iconst 0, 1) := by decide +kernel
theorem dX3_init_6 : decode cX3_init 6 = .ok (.putfield 9, 3) := by decide +kernel
theorem dX3_init_9 : decode cX3_init 9 = .ok (.aload_n 0, 1) := by decide +kernel
theorem dX3_init_10 : decode cX3_init 10 = .ok (.iconst 0, 1) := by decide +kernel
theorem dX3_init_11 : decode cX3_init 11 = .ok (.putfield 15, 3) := by decide +kernel
theorem dX3_init_14 : decode cX3_init 14 = .ok (.aload_n 0, 1) := by decide +kernel
theorem dX3_init_15 : decode cX3_init 15 = .ok (.iconst 0, 1) := by decide +kernel
theorem dX3_init_16 : decode cX3_init 16 = .ok (.putfield 18, 3) := by decide +kernel
theorem dX3_init_19 : decode cX3_init 19 = .ok (.aload_n 0, 1) := by decide +kernel
theorem dX3_init_20 : decode cX3_init 20 = .ok (.iconst 0, 1) := by decide +kernel
theorem dX3_init_21 : decode cX3_init 21 = .ok (.putfield 21, 3) := by decide +kernel
theorem dX3_init_24 : decode cX3_init 24 = .ok (.aload_n 0, 1) := by decide +kernel
theorem dX3_init_25 : decode cX3_init 25 = .ok (.bipush 8, 2) := by decide +kernel
theorem dX3_init_27 : decode cX3_init 27 = .ok (.newarray .long, 2) := by decide +kernel
theorem dX3_init_29 : decode cX3_init 29 = .ok (.putfield 24, 3) := by decide +kernel
theorem dX3_init_32 : decode cX3_init 32 = .ok (.aload_n 0, 1) := by decide +kernel
theorem dX3_init_33 : decode cX3_init 33 = .ok (.bipush 8, 2) := by decide +kernel
theorem dX3_init_35 : decode cX3_init 35 = .ok (.newarray .int, 2) := by decide +kernel
theorem dX3_init_37 : decode cX3_init 37 = .ok (.putfield 28, 3) := by decide +kernel
theorem dX3_init_40 : decode cX3_init 40 = .ok (.aload_n 0, 1) := by decide +kernel
theorem dX3_init_41 : decode cX3_init 41 = .ok (.bipush 8, 2) := by decide +kernel
theorem dX3_init_43 : decode cX3_init 43 = .ok (.newarray .int, 2) := by decide +kernel
theorem dX3_init_45 : decode cX3_init 45 = .ok (.putfield 32, 3) := by decide +kernel
theorem dX3_init_48 : decode cX3_init 48 = .ok (.aload_n 0, 1) := by decide +kernel
theorem dX3_init_49 : decode cX3_init 49 = .ok (.bipush 8, 2) := by decide +kernel
theorem dX3_init_51 : decode cX3_init 51 = .ok (.newarray .int, 2) := by decide +kernel
theorem dX3_init_53 : decode cX3_init 53 = .ok (.putfield 35, 3) := by decide +kernel
theorem dX3_init_56 : decode cX3_init 56 = .ok (.aload_n 0, 1) := by decide +kernel
theorem dX3_init_57 : decode cX3_init 57 = .ok (.bipush 6, 2) := by decide +kernel
theorem dX3_init_59 : decode cX3_init 59 = .ok (.newarray .int, 2) := by decide +kernel
theorem dX3_init_61 : decode cX3_init 61 = .ok (.putfield 38, 3) := by decide +kernel
theorem dX3_init_64 : decode cX3_init 64 = .ok (.aload_n 0, 1) := by decide +kernel
theorem dX3_init_65 : decode cX3_init 65 = .ok (.bipush 6, 2) := by decide +kernel
theorem dX3_init_67 : decode cX3_init 67 = .ok (.newarray .int, 2) := by decide +kernel
theorem dX3_init_69 : decode cX3_init 69 = .ok (.putfield 41, 3) := by decide +kernel
theorem dX3_init_72 : decode cX3_init 72 = .ok (.aload_n 0, 1) := by decide +kernel
theorem dX3_init_73 : decode cX3_init 73 = .ok (.new 44, 3) := by decide +kernel
theorem dX3_init_76 : decode cX3_init 76 = .ok (.dup, 1) := by decide +kernel
theorem dX3_init_77 : decode cX3_init 77 = .ok (.invokespecial 46, 3) := by decide +kernel
theorem dX3_init_80 : decode cX3_init 80 = .ok (.putfield 47, 3) := by decide +kernel
theorem dX3_init_83 : decode cX3_init 83 = .ok (.return_, 1) := by decide +kernel
theorem dX3_clear_0 : decode cX3_clear 0 = .ok (.aload_n 0, 1) := by decide +kernel
theorem dX3_clear_1 : decode cX3_clear 1 = .ok (.iconst 0, 1) := by decide +kernel
theorem dX3_clear_2 : decode cX3_clear 2 = .ok (.putfield 9, 3) := by decide +kernel
theorem dX3_clear_5 : decode cX3_clear 5 = .ok (.aload_n 0, 1) := by decide +kernel
theorem dX3_clear_6 : decode cX3_clear 6 = .ok (.iconst 0, 1) := by decide +kernel
theorem dX3_clear_7 : decode cX3_clear 7 = .ok (.putfield 15, 3) := by decide +kernel
theorem dX3_clear_10 : decode cX3_clear 10 = .ok (.aload_n 0, 1) := by decide +kernel
theorem dX3_clear_11 : decode cX3_clear 11 = .ok (.iconst 0, 1) := by decide +kernel
theorem dX3_clear_12 : decode cX3_clear 12 = .ok (.putfield 18, 3) := by decide +kernel
theorem dX3_clear_15 : decode cX3_clear 15 = .ok (.aload_n 0, 1) := by decide +kernel
theorem dX3_clear_16 : decode cX3_clear 16 = .ok (.iconst 0, 1) := by decide +kernel
theorem dX3_clear_17 : decode cX3_clear 17 = .ok (.putfield 21, 3) := by decide +kernel
theorem dX3_clear_20 : decode cX3_clear 20 = .ok (.aload_n 0, 1) := by decide +kernel
theorem dX3_clear_21 : decode cX3_clear 21 = .ok (.getfield 47, 3) := by decide +kernel
theorem dX3_clear_24 : decode cX3_clear 24 = .ok (.invokevirtual 51, 3) := by decide +kernel
theorem dX3_clear_27 : decode cX3_clear 27 = .ok (.return_, 1) := by decide +kernel
theorem dX3_houseNamed_0 : decode cX3_houseNamed 0 = .ok (.iconst 0, 1) := by decide +kernel
theorem dX3_houseNamed_1 : decode cX3_houseNamed 1 = .ok (.istore_n 3, 1) := by decide +kernel
theorem dX3_houseNamed_2 : decode cX3_houseNamed 2 = .ok (.iload_n 3, 1) := by decide +kernel
theorem dX3_houseNamed_3 : decode cX3_houseNamed 3 = .ok (.aload_n 0, 1) := by decide +kernel
theorem dX3_houseNamed_4 : decode cX3_houseNamed 4 = .ok (.getfield 9, 3) := by decide +kernel
theorem dX3_houseNamed_7 : decode cX3_houseNamed 7 = .ok (.if_icmp .ge 22, 3) := by decide +kernel
theorem dX3_houseNamed_10 : decode cX3_houseNamed 10 = .ok (.aload_n 0, 1) := by decide +kernel
theorem dX3_houseNamed_11 : decode cX3_houseNamed 11 = .ok (.getfield 24, 3) := by decide +kernel
theorem dX3_houseNamed_14 : decode cX3_houseNamed 14 = .ok (.iload_n 3, 1) := by decide +kernel
theorem dX3_houseNamed_15 : decode cX3_houseNamed 15 = .ok (.laload, 1) := by decide +kernel
theorem dX3_houseNamed_16 : decode cX3_houseNamed 16 = .ok (.lload_n 1, 1) := by decide +kernel
theorem dX3_houseNamed_17 : decode cX3_houseNamed 17 = .ok (.lcmp, 1) := by decide +kernel
theorem dX3_houseNamed_18 : decode cX3_houseNamed 18 = .ok (.ifCond .ne 5, 3) := by decide +kernel
theorem dX3_houseNamed_21 : decode cX3_houseNamed 21 = .ok (.iload_n 3, 1) := by decide +kernel
theorem dX3_houseNamed_22 : decode cX3_houseNamed 22 = .ok (.ireturn, 1) := by decide +kernel
theorem dX3_houseNamed_23 : decode cX3_houseNamed 23 = .ok (.iinc 3 1, 3) := by decide +kernel
theorem dX3_houseNamed_26 : decode cX3_houseNamed 26 = .ok (.goto (-24), 3) := by decide +kernel
theorem dX3_houseNamed_29 : decode cX3_houseNamed 29 = .ok (.iconst (-1), 1) := by decide +kernel
theorem dX3_houseNamed_30 : decode cX3_houseNamed 30 = .ok (.ireturn, 1) := by decide +kernel
theorem dX4_init_0 : decode cX4_init 0 = .ok (.aload_n 0, 1) := by decide +kernel
theorem dX4_init_1 : decode cX4_init 1 = .ok (.invokespecial 3, 3) := by decide +kernel
theorem dX4_init_4 : decode cX4_init 4 = .ok (.aload_n 0, 1) := by decide +kernel
theorem dX4_init_5 : decode cX4_init 5 = .ok (.sipush 402, 3) := by decide +kernel
theorem dX4_init_8 : decode cX4_init 8 = .ok (.newarray .int, 2) := by decide +kernel
theorem dX4_init_10 : decode cX4_init 10 = .ok (.putfield 11, 3) := by decide +kernel
theorem dX4_init_13 : decode cX4_init 13 = .ok (.aload_n 0, 1) := by decide +kernel
theorem dX4_init_14 : decode cX4_init 14 = .ok (.sipush 402, 3) := by decide +kernel
theorem dX4_init_17 : decode cX4_init 17 = .ok (.newarray .int, 2) := by decide +kernel
theorem dX4_init_19 : decode cX4_init 19 = .ok (.putfield 15, 3) := by decide +kernel
theorem dX4_init_22 : decode cX4_init 22 = .ok (.aload_n 0, 1) := by decide +kernel
theorem dX4_init_23 : decode cX4_init 23 = .ok (.sipush 402, 3) := by decide +kernel
theorem dX4_init_26 : decode cX4_init 26 = .ok (.newarray .long, 2) := by decide +kernel
theorem dX4_init_28 : decode cX4_init 28 = .ok (.putfield 18, 3) := by decide +kernel
theorem dX4_init_31 : decode cX4_init 31 = .ok (.aload_n 0, 1) := by decide +kernel
theorem dX4_init_32 : decode cX4_init 32 = .ok (.iconst 0, 1) := by decide +kernel
theorem dX4_init_33 : decode cX4_init 33 = .ok (.putfield 22, 3) := by decide +kernel
theorem dX4_init_36 : decode cX4_init 36 = .ok (.return_, 1) := by decide +kernel
theorem dX4_scan_0 : decode cX4_scan 0 = .ok (.aload_n 0, 1) := by decide +kernel
theorem dX4_scan_1 : decode cX4_scan 1 = .ok (.iconst 0, 1) := by decide +kernel
theorem dX4_scan_2 : decode cX4_scan 2 = .ok (.putfield 22, 3) := by decide +kernel
theorem dX4_scan_5 : decode cX4_scan 5 = .ok (.iconst 0, 1) := by decide +kernel
theorem dX4_scan_6 : decode cX4_scan 6 = .ok (.istore_n 3, 1) := by decide +kernel
theorem dX4_scan_7 : decode cX4_scan 7 = .ok (.iload_n 3, 1) := by decide +kernel
theorem dX4_scan_8 : decode cX4_scan 8 = .ok (.iload_n 2, 1) := by decide +kernel
theorem dX4_scan_9 : decode cX4_scan 9 = .ok (.if_icmp .ge 81, 3) := by decide +kernel
theorem dX4_scan_12 : decode cX4_scan 12 = .ok (.aload_n 0, 1) := by decide +kernel
theorem dX4_scan_13 : decode cX4_scan 13 = .ok (.getfield 22, 3) := by decide +kernel
theorem dX4_scan_16 : decode cX4_scan 16 = .ok (.sipush 400, 3) := by decide +kernel
theorem dX4_scan_19 : decode cX4_scan 19 = .ok (.if_icmp .gt 71, 3) := by decide +kernel
theorem dX4_scan_22 : decode cX4_scan 22 = .ok (.aload_n 1, 1) := by decide +kernel
theorem dX4_scan_23 : decode cX4_scan 23 = .ok (.iload_n 3, 1) := by decide +kernel
theorem dX4_scan_24 : decode cX4_scan 24 = .ok (.baload, 1) := by decide +kernel
theorem dX4_scan_25 : decode cX4_scan 25 = .ok (.invokestatic 26, 3) := by decide +kernel
theorem dX4_scan_28 : decode cX4_scan 28 = .ok (.ifCond .eq 9, 3) := by decide +kernel
theorem dX4_scan_31 : decode cX4_scan 31 = .ok (.iinc 3 1, 3) := by decide +kernel
theorem dX4_scan_34 : decode cX4_scan 34 = .ok (.goto (-27), 3) := by decide +kernel
theorem dX4_scan_37 : decode cX4_scan 37 = .ok (.aload_n 1, 1) := by decide +kernel
theorem dX4_scan_38 : decode cX4_scan 38 = .ok (.iload_n 3, 1) := by decide +kernel
theorem dX4_scan_39 : decode cX4_scan 39 = .ok (.iload_n 2, 1) := by decide +kernel
theorem dX4_scan_40 : decode cX4_scan 40 = .ok (.invokestatic 30, 3) := by decide +kernel
theorem dX4_scan_43 : decode cX4_scan 43 = .ok (.istore 4, 2) := by decide +kernel
theorem dX4_scan_45 : decode cX4_scan 45 = .ok (.aload_n 0, 1) := by decide +kernel
theorem dX4_scan_46 : decode cX4_scan 46 = .ok (.aload_n 1, 1) := by decide +kernel
theorem dX4_scan_47 : decode cX4_scan 47 = .ok (.iload_n 3, 1) := by decide +kernel
theorem dX4_scan_48 : decode cX4_scan 48 = .ok (.iload 4, 2) := by decide +kernel
theorem dX4_scan_50 : decode cX4_scan 50 = .ok (.invokestatic 34, 3) := by decide +kernel
theorem dX4_scan_53 : decode cX4_scan 53 = .ok (.iload_n 3, 1) := by decide +kernel
theorem dX4_scan_54 : decode cX4_scan 54 = .ok (.aload_n 1, 1) := by decide +kernel
theorem dX4_scan_55 : decode cX4_scan 55 = .ok (.iload_n 3, 1) := by decide +kernel
theorem dX4_scan_56 : decode cX4_scan 56 = .ok (.iload 4, 2) := by decide +kernel
theorem dX4_scan_58 : decode cX4_scan 58 = .ok (.invokestatic 37, 3) := by decide +kernel
theorem dX4_scan_61 : decode cX4_scan 61 = .ok (.invokevirtual 41, 3) := by decide +kernel
theorem dX4_scan_64 : decode cX4_scan 64 = .ok (.aload_n 0, 1) := by decide +kernel
theorem dX4_scan_65 : decode cX4_scan 65 = .ok (.getfield 11, 3) := by decide +kernel
theorem dX4_scan_68 : decode cX4_scan 68 = .ok (.aload_n 0, 1) := by decide +kernel
theorem dX4_scan_69 : decode cX4_scan 69 = .ok (.getfield 22, 3) := by decide +kernel
theorem dX4_scan_72 : decode cX4_scan 72 = .ok (.iconst 1, 1) := by decide +kernel
theorem dX4_scan_73 : decode cX4_scan 73 = .ok (.isub, 1) := by decide +kernel
theorem dX4_scan_74 : decode cX4_scan 74 = .ok (.iaload, 1) := by decide +kernel
theorem dX4_scan_75 : decode cX4_scan 75 = .ok (.bipush 32, 2) := by decide +kernel
theorem dX4_scan_77 : decode cX4_scan 77 = .ok (.if_icmp .ne 7, 3) := by decide +kernel
theorem dX4_scan_80 : decode cX4_scan 80 = .ok (.iload_n 2, 1) := by decide +kernel
theorem dX4_scan_81 : decode cX4_scan 81 = .ok (.goto 5, 3) := by decide +kernel
theorem dX4_scan_84 : decode cX4_scan 84 = .ok (.iload 4, 2) := by decide +kernel
theorem dX4_scan_86 : decode cX4_scan 86 = .ok (.istore_n 3, 1) := by decide +kernel
theorem dX4_scan_87 : decode cX4_scan 87 = .ok (.goto (-80), 3) := by decide +kernel
theorem dX4_scan_90 : decode cX4_scan 90 = .ok (.aload_n 0, 1) := by decide +kernel
theorem dX4_scan_91 : decode cX4_scan 91 = .ok (.getfield 22, 3) := by decide +kernel
theorem dX4_scan_94 : decode cX4_scan 94 = .ok (.ifCond .eq 19, 3) := by decide +kernel
theorem dX4_scan_97 : decode cX4_scan 97 = .ok (.aload_n 0, 1) := by decide +kernel
theorem dX4_scan_98 : decode cX4_scan 98 = .ok (.getfield 11, 3) := by decide +kernel
theorem dX4_scan_101 : decode cX4_scan 101 = .ok (.aload_n 0, 1) := by decide +kernel
theorem dX4_scan_102 : decode cX4_scan 102 = .ok (.getfield 22, 3) := by decide +kernel
theorem dX4_scan_105 : decode cX4_scan 105 = .ok (.iconst 1, 1) := by decide +kernel
theorem dX4_scan_106 : decode cX4_scan 106 = .ok (.isub, 1) := by decide +kernel
theorem dX4_scan_107 : decode cX4_scan 107 = .ok (.iaload, 1) := by decide +kernel
theorem dX4_scan_108 : decode cX4_scan 108 = .ok (.bipush 32, 2) := by decide +kernel
theorem dX4_scan_110 : decode cX4_scan 110 = .ok (.if_icmp .eq 11, 3) := by decide +kernel
theorem dX4_scan_113 : decode cX4_scan 113 = .ok (.aload_n 0, 1) := by decide +kernel
theorem dX4_scan_114 : decode cX4_scan 114 = .ok (.bipush 31, 2) := by decide +kernel
theorem dX4_scan_116 : decode cX4_scan 116 = .ok (.iload_n 2, 1) := by decide +kernel
theorem dX4_scan_117 : decode cX4_scan 117 = .ok (.lconst 0, 1) := by decide +kernel
theorem dX4_scan_118 : decode cX4_scan 118 = .ok (.invokevirtual 41, 3) := by decide +kernel
theorem dX4_scan_121 : decode cX4_scan 121 = .ok (.return_, 1) := by decide +kernel
theorem dX4_put_0 : decode cX4_put 0 = .ok (.aload_n 0, 1) := by decide +kernel
theorem dX4_put_1 : decode cX4_put 1 = .ok (.getfield 22, 3) := by decide +kernel
theorem dX4_put_4 : decode cX4_put 4 = .ok (.sipush 402, 3) := by decide +kernel
theorem dX4_put_7 : decode cX4_put 7 = .ok (.if_icmp .ge 43, 3) := by decide +kernel
theorem dX4_put_10 : decode cX4_put 10 = .ok (.aload_n 0, 1) := by decide +kernel
theorem dX4_put_11 : decode cX4_put 11 = .ok (.getfield 11, 3) := by decide +kernel
theorem dX4_put_14 : decode cX4_put 14 = .ok (.aload_n 0, 1) := by decide +kernel
theorem dX4_put_15 : decode cX4_put 15 = .ok (.getfield 22, 3) := by decide +kernel
theorem dX4_put_18 : decode cX4_put 18 = .ok (.iload_n 1, 1) := by decide +kernel
theorem dX4_put_19 : decode cX4_put 19 = .ok (.iastore, 1) := by decide +kernel
theorem dX4_put_20 : decode cX4_put 20 = .ok (.aload_n 0, 1) := by decide +kernel
theorem dX4_put_21 : decode cX4_put 21 = .ok (.getfield 15, 3) := by decide +kernel
theorem dX4_put_24 : decode cX4_put 24 = .ok (.aload_n 0, 1) := by decide +kernel
theorem dX4_put_25 : decode cX4_put 25 = .ok (.getfield 22, 3) := by decide +kernel
theorem dX4_put_28 : decode cX4_put 28 = .ok (.iload_n 2, 1) := by decide +kernel
theorem dX4_put_29 : decode cX4_put 29 = .ok (.iastore, 1) := by decide +kernel
theorem dX4_put_30 : decode cX4_put 30 = .ok (.aload_n 0, 1) := by decide +kernel
theorem dX4_put_31 : decode cX4_put 31 = .ok (.getfield 18, 3) := by decide +kernel
theorem dX4_put_34 : decode cX4_put 34 = .ok (.aload_n 0, 1) := by decide +kernel
theorem dX4_put_35 : decode cX4_put 35 = .ok (.getfield 22, 3) := by decide +kernel
theorem dX4_put_38 : decode cX4_put 38 = .ok (.lload_n 3, 1) := by decide +kernel
theorem dX4_put_39 : decode cX4_put 39 = .ok (.lastore, 1) := by decide +kernel
theorem dX4_put_40 : decode cX4_put 40 = .ok (.aload_n 0, 1) := by decide +kernel
theorem dX4_put_41 : decode cX4_put 41 = .ok (.dup, 1) := by decide +kernel
theorem dX4_put_42 : decode cX4_put 42 = .ok (.getfield 22, 3) := by decide +kernel
theorem dX4_put_45 : decode cX4_put 45 = .ok (.iconst 1, 1) := by decide +kernel
theorem dX4_put_46 : decode cX4_put 46 = .ok (.iadd, 1) := by decide +kernel
theorem dX4_put_47 : decode cX4_put 47 = .ok (.putfield 22, 3) := by decide +kernel
theorem dX4_put_50 : decode cX4_put 50 = .ok (.return_, 1) := by decide +kernel
theorem dX4_runEnd_0 : decode cX4_runEnd 0 = .ok (.iload_n 1, 1) := by decide +kernel
theorem dX4_runEnd_1 : decode cX4_runEnd 1 = .ok (.iconst 1, 1) := by decide +kernel
theorem dX4_runEnd_2 : decode cX4_runEnd 2 = .ok (.iadd, 1) := by decide +kernel
theorem dX4_runEnd_3 : decode cX4_runEnd 3 = .ok (.istore_n 3, 1) := by decide +kernel
theorem dX4_runEnd_4 : decode cX4_runEnd 4 = .ok (.aload_n 0, 1) := by decide +kernel
theorem dX4_runEnd_5 : decode cX4_runEnd 5 = .ok (.iload_n 1, 1) := by decide +kernel
theorem dX4_runEnd_6 : decode cX4_runEnd 6 = .ok (.baload, 1) := by decide +kernel
theorem dX4_runEnd_7 : decode cX4_runEnd 7 = .ok (.invokestatic 45, 3) := by decide +kernel
theorem dX4_runEnd_10 : decode cX4_runEnd 10 = .ok (.ifCond .eq 23, 3) := by decide +kernel
theorem dX4_runEnd_13 : decode cX4_runEnd 13 = .ok (.iload_n 3, 1) := by decide +kernel
theorem dX4_runEnd_14 : decode cX4_runEnd 14 = .ok (.iload_n 2, 1) := by decide +kernel
theorem dX4_runEnd_15 : decode cX4_runEnd 15 = .ok (.if_icmp .ge 47, 3) := by decide +kernel
theorem dX4_runEnd_18 : decode cX4_runEnd 18 = .ok (.aload_n 0, 1) := by decide +kernel
theorem dX4_runEnd_19 : decode cX4_runEnd 19 = .ok (.iload_n 3, 1) := by decide +kernel
theorem dX4_runEnd_20 : decode cX4_runEnd 20 = .ok (.baload, 1) := by decide +kernel
theorem dX4_runEnd_21 : decode cX4_runEnd 21 = .ok (.invokestatic 45, 3) := by decide +kernel
theorem dX4_runEnd_24 : decode cX4_runEnd 24 = .ok (.ifCond .eq 38, 3) := by decide +kernel
theorem dX4_runEnd_27 : decode cX4_runEnd 27 = .ok (.iinc 3 1, 3) := by decide +kernel
theorem dX4_runEnd_30 : decode cX4_runEnd 30 = .ok (.goto (-17), 3) := by decide +kernel
theorem dX4_runEnd_33 : decode cX4_runEnd 33 = .ok (.aload_n 0, 1) := by decide +kernel
theorem dX4_runEnd_34 : decode cX4_runEnd 34 = .ok (.iload_n 1, 1) := by decide +kernel
theorem dX4_runEnd_35 : decode cX4_runEnd 35 = .ok (.baload, 1) := by decide +kernel
theorem dX4_runEnd_36 : decode cX4_runEnd 36 = .ok (.invokestatic 48, 3) := by decide +kernel
theorem dX4_runEnd_39 : decode cX4_runEnd 39 = .ok (.ifCond .eq 23, 3) := by decide +kernel
theorem dX4_runEnd_42 : decode cX4_runEnd 42 = .ok (.iload_n 3, 1) := by decide +kernel
theorem dX4_runEnd_43 : decode cX4_runEnd 43 = .ok (.iload_n 2, 1) := by decide +kernel
theorem dX4_runEnd_44 : decode cX4_runEnd 44 = .ok (.if_icmp .ge 18, 3) := by decide +kernel
theorem dX4_runEnd_47 : decode cX4_runEnd 47 = .ok (.aload_n 0, 1) := by decide +kernel
theorem dX4_runEnd_48 : decode cX4_runEnd 48 = .ok (.iload_n 3, 1) := by decide +kernel
theorem dX4_runEnd_49 : decode cX4_runEnd 49 = .ok (.baload, 1) := by decide +kernel
theorem dX4_runEnd_50 : decode cX4_runEnd 50 = .ok (.invokestatic 48, 3) := by decide +kernel
theorem dX4_runEnd_53 : decode cX4_runEnd 53 = .ok (.ifCond .eq 9, 3) := by decide +kernel
theorem dX4_runEnd_56 : decode cX4_runEnd 56 = .ok (.iinc 3 1, 3) := by decide +kernel
theorem dX4_runEnd_59 : decode cX4_runEnd 59 = .ok (.goto (-17), 3) := by decide +kernel
theorem dX4_runEnd_62 : decode cX4_runEnd 62 = .ok (.iload_n 3, 1) := by decide +kernel
theorem dX4_runEnd_63 : decode cX4_runEnd 63 = .ok (.ireturn, 1) := by decide +kernel
theorem dX4_kindOf_0 : decode cX4_kindOf 0 = .ok (.aload_n 0, 1) := by decide +kernel
theorem dX4_kindOf_1 : decode cX4_kindOf 1 = .ok (.iload_n 1, 1) := by decide +kernel
theorem dX4_kindOf_2 : decode cX4_kindOf 2 = .ok (.baload, 1) := by decide +kernel
theorem dX4_kindOf_3 : decode cX4_kindOf 3 = .ok (.invokestatic 45, 3) := by decide +kernel
theorem dX4_kindOf_6 : decode cX4_kindOf 6 = .ok (.ifCond .eq 23, 3) := by decide +kernel
theorem dX4_kindOf_9 : decode cX4_kindOf 9 = .ok (.iload_n 2, 1) := by decide +kernel
theorem dX4_kindOf_10 : decode cX4_kindOf 10 = .ok (.iload_n 1, 1) := by decide +kernel
theorem dX4_kindOf_11 : decode cX4_kindOf 11 = .ok (.isub, 1) := by decide +kernel
theorem dX4_kindOf_12 : decode cX4_kindOf 12 = .ok (.bipush 8, 2) := by decide +kernel
theorem dX4_kindOf_14 : decode cX4_kindOf 14 = .ok (.if_icmp .le 8, 3) := by decide +kernel
theorem dX4_kindOf_17 : decode cX4_kindOf 17 = .ok (.bipush 32, 2) := by decide +kernel
theorem dX4_kindOf_19 : decode cX4_kindOf 19 = .ok (.goto 9, 3) := by decide +kernel
theorem dX4_kindOf_22 : decode cX4_kindOf 22 = .ok (.aload_n 0, 1) := by decide +kernel
theorem dX4_kindOf_23 : decode cX4_kindOf 23 = .ok (.iload_n 1, 1) := by decide +kernel
theorem dX4_kindOf_24 : decode cX4_kindOf 24 = .ok (.iload_n 2, 1) := by decide +kernel
theorem dX4_kindOf_25 : decode cX4_kindOf 25 = .ok (.invokestatic 51, 3) := by decide +kernel
theorem dX4_kindOf_28 : decode cX4_kindOf 28 = .ok (.ireturn, 1) := by decide +kernel
theorem dX4_kindOf_29 : decode cX4_kindOf 29 = .ok (.aload_n 0, 1) := by decide +kernel
theorem dX4_kindOf_30 : decode cX4_kindOf 30 = .ok (.iload_n 1, 1) := by decide +kernel
theorem dX4_kindOf_31 : decode cX4_kindOf 31 = .ok (.baload, 1) := by decide +kernel
theorem dX4_kindOf_32 : decode cX4_kindOf 32 = .ok (.invokestatic 48, 3) := by decide +kernel
theorem dX4_kindOf_35 : decode cX4_kindOf 35 = .ok (.ifCond .eq 18, 3) := by decide +kernel
theorem dX4_kindOf_38 : decode cX4_kindOf 38 = .ok (.iload_n 2, 1) := by decide +kernel
theorem dX4_kindOf_39 : decode cX4_kindOf 39 = .ok (.iload_n 1, 1) := by decide +kernel
theorem dX4_kindOf_40 : decode cX4_kindOf 40 = .ok (.isub, 1) := by decide +kernel
theorem dX4_kindOf_41 : decode cX4_kindOf 41 = .ok (.iconst 4, 1) := by decide +kernel
theorem dX4_kindOf_42 : decode cX4_kindOf 42 = .ok (.if_icmp .le 8, 3) := by decide +kernel
theorem dX4_kindOf_45 : decode cX4_kindOf 45 = .ok (.bipush 32, 2) := by decide +kernel
theorem dX4_kindOf_47 : decode cX4_kindOf 47 = .ok (.goto 5, 3) := by decide +kernel
theorem dX4_kindOf_50 : decode cX4_kindOf 50 = .ok (.bipush 21, 2) := by decide +kernel
theorem dX4_kindOf_52 : decode cX4_kindOf 52 = .ok (.ireturn, 1) := by decide +kernel
theorem dX4_kindOf_53 : decode cX4_kindOf 53 = .ok (.iconst 0, 1) := by decide +kernel
theorem dX4_kindOf_54 : decode cX4_kindOf 54 = .ok (.istore_n 3, 1) := by decide +kernel
theorem dX4_kindOf_55 : decode cX4_kindOf 55 = .ok (.iload_n 3, 1) := by decide +kernel
theorem dX4_kindOf_56 : decode cX4_kindOf 56 = .ok (.ldc 54, 2) := by decide +kernel
theorem dX4_kindOf_58 : decode cX4_kindOf 58 = .ok (.invokevirtual 56, 3) := by decide +kernel
theorem dX4_kindOf_61 : decode cX4_kindOf 61 = .ok (.if_icmp .ge 26, 3) := by decide +kernel
theorem dX4_kindOf_64 : decode cX4_kindOf 64 = .ok (.ldc 54, 2) := by decide +kernel
theorem dX4_kindOf_66 : decode cX4_kindOf 66 = .ok (.iload_n 3, 1) := by decide +kernel
theorem dX4_kindOf_67 : decode cX4_kindOf 67 = .ok (.invokevirtual 62, 3) := by decide +kernel
theorem dX4_kindOf_70 : decode cX4_kindOf 70 = .ok (.aload_n 0, 1) := by decide +kernel
theorem dX4_kindOf_71 : decode cX4_kindOf 71 = .ok (.iload_n 1, 1) := by decide +kernel
theorem dX4_kindOf_72 : decode cX4_kindOf 72 = .ok (.baload, 1) := by decide +kernel
theorem dX4_kindOf_73 : decode cX4_kindOf 73 = .ok (.if_icmp .ne 8, 3) := by decide +kernel
theorem dX4_kindOf_76 : decode cX4_kindOf 76 = .ok (.bipush 22, 2) := by decide +kernel
theorem dX4_kindOf_78 : decode cX4_kindOf 78 = .ok (.iload_n 3, 1) := by decide +kernel
theorem dX4_kindOf_79 : decode cX4_kindOf 79 = .ok (.iadd, 1) := by decide +kernel
theorem dX4_kindOf_80 : decode cX4_kindOf 80 = .ok (.ireturn, 1) := by decide +kernel
theorem dX4_kindOf_81 : decode cX4_kindOf 81 = .ok (.iinc 3 1, 3) := by decide +kernel
theorem dX4_kindOf_84 : decode cX4_kindOf 84 = .ok (.goto (-29), 3) := by decide +kernel
theorem dX4_kindOf_87 : decode cX4_kindOf 87 = .ok (.bipush 32, 2) := by decide +kernel
theorem dX4_kindOf_89 : decode cX4_kindOf 89 = .ok (.ireturn, 1) := by decide +kernel
theorem dX4_wordOf_0 : decode cX4_wordOf 0 = .ok (.iconst 0, 1) := by decide +kernel
theorem dX4_wordOf_1 : decode cX4_wordOf 1 = .ok (.istore_n 3, 1) := by decide +kernel
theorem dX4_wordOf_2 : decode cX4_wordOf 2 = .ok (.iload_n 3, 1) := by decide +kernel
theorem dX4_wordOf_3 : decode cX4_wordOf 3 = .ok (.bipush 20, 2) := by decide +kernel
theorem dX4_wordOf_5 : decode cX4_wordOf 5 = .ok (.if_icmp .ge 24, 3) := by decide +kernel
theorem dX4_wordOf_8 : decode cX4_wordOf 8 = .ok (.aload_n 0, 1) := by decide +kernel
theorem dX4_wordOf_9 : decode cX4_wordOf 9 = .ok (.iload_n 1, 1) := by decide +kernel
theorem dX4_wordOf_10 : decode cX4_wordOf 10 = .ok (.iload_n 2, 1) := by decide +kernel
theorem dX4_wordOf_11 : decode cX4_wordOf 11 = .ok (.iload_n 3, 1) := by decide +kernel
theorem dX4_wordOf_12 : decode cX4_wordOf 12 = .ok (.bipush 8, 2) := by decide +kernel
theorem dX4_wordOf_14 : decode cX4_wordOf 14 = .ok (.imul, 1) := by decide +kernel
theorem dX4_wordOf_15 : decode cX4_wordOf 15 = .ok (.invokestatic 66, 3) := by decide +kernel
theorem dX4_wordOf_18 : decode cX4_wordOf 18 = .ok (.ifCond .eq 5, 3) := by decide +kernel
theorem dX4_wordOf_21 : decode cX4_wordOf 21 = .ok (.iload_n 3, 1) := by decide +kernel
theorem dX4_wordOf_22 : decode cX4_wordOf 22 = .ok (.ireturn, 1) := by decide +kernel
theorem dX4_wordOf_23 : decode cX4_wordOf 23 = .ok (.iinc 3 1, 3) := by decide +kernel
theorem dX4_wordOf_26 : decode cX4_wordOf 26 = .ok (.goto (-24), 3) := by decide +kernel
theorem dX4_wordOf_29 : decode cX4_wordOf 29 = .ok (.bipush 20, 2) := by decide +kernel
theorem dX4_wordOf_31 : decode cX4_wordOf 31 = .ok (.ireturn, 1) := by decide +kernel
theorem dX4_isWord_0 : decode cX4_isWord 0 = .ok (.iconst 0, 1) := by decide +kernel
theorem dX4_isWord_1 : decode cX4_isWord 1 = .ok (.istore 4, 2) := by decide +kernel
theorem dX4_isWord_3 : decode cX4_isWord 3 = .ok (.iload 4, 2) := by decide +kernel
theorem dX4_isWord_5 : decode cX4_isWord 5 = .ok (.bipush 8, 2) := by decide +kernel
theorem dX4_isWord_7 : decode cX4_isWord 7 = .ok (.if_icmp .ge 46, 3) := by decide +kernel
theorem dX4_isWord_10 : decode cX4_isWord 10 = .ok (.iload_n 1, 1) := by decide +kernel
theorem dX4_isWord_11 : decode cX4_isWord 11 = .ok (.iload 4, 2) := by decide +kernel
theorem dX4_isWord_13 : decode cX4_isWord 13 = .ok (.iadd, 1) := by decide +kernel
theorem dX4_isWord_14 : decode cX4_isWord 14 = .ok (.iload_n 2, 1) := by decide +kernel
theorem dX4_isWord_15 : decode cX4_isWord 15 = .ok (.if_icmp .ge 12, 3) := by decide +kernel
theorem dX4_isWord_18 : decode cX4_isWord 18 = .ok (.aload_n 0, 1) := by decide +kernel
theorem dX4_isWord_19 : decode cX4_isWord 19 = .ok (.iload_n 1, 1) := by decide +kernel
theorem dX4_isWord_20 : decode cX4_isWord 20 = .ok (.iload 4, 2) := by decide +kernel
theorem dX4_isWord_22 : decode cX4_isWord 22 = .ok (.iadd, 1) := by decide +kernel
theorem dX4_isWord_23 : decode cX4_isWord 23 = .ok (.baload, 1) := by decide +kernel
theorem dX4_isWord_24 : decode cX4_isWord 24 = .ok (.goto 5, 3) := by decide +kernel
theorem dX4_isWord_27 : decode cX4_isWord 27 = .ok (.bipush 32, 2) := by decide +kernel
theorem dX4_isWord_29 : decode cX4_isWord 29 = .ok (.istore 5, 2) := by decide +kernel
theorem dX4_isWord_31 : decode cX4_isWord 31 = .ok (.ldc 70, 2) := by decide +kernel
theorem dX4_isWord_33 : decode cX4_isWord 33 = .ok (.iload_n 3, 1) := by decide +kernel
theorem dX4_isWord_34 : decode cX4_isWord 34 = .ok (.iload 4, 2) := by decide +kernel
theorem dX4_isWord_36 : decode cX4_isWord 36 = .ok (.iadd, 1) := by decide +kernel
theorem dX4_isWord_37 : decode cX4_isWord 37 = .ok (.invokevirtual 62, 3) := by decide +kernel
theorem dX4_isWord_40 : decode cX4_isWord 40 = .ok (.iload 5, 2) := by decide +kernel
theorem dX4_isWord_42 : decode cX4_isWord 42 = .ok (.if_icmp .eq 5, 3) := by decide +kernel
theorem dX4_isWord_45 : decode cX4_isWord 45 = .ok (.iconst 0, 1) := by decide +kernel
theorem dX4_isWord_46 : decode cX4_isWord 46 = .ok (.ireturn, 1) := by decide +kernel
theorem dX4_isWord_47 : decode cX4_isWord 47 = .ok (.iinc 4 1, 3) := by decide +kernel
theorem dX4_isWord_50 : decode cX4_isWord 50 = .ok (.goto (-47), 3) := by decide +kernel
theorem dX4_isWord_53 : decode cX4_isWord 53 = .ok (.iconst 1, 1) := by decide +kernel
theorem dX4_isWord_54 : decode cX4_isWord 54 = .ok (.ireturn, 1) := by decide +kernel
theorem dX4_valueOf_0 : decode cX4_valueOf 0 = .ok (.lconst 0, 1) := by decide +kernel
theorem dX4_valueOf_1 : decode cX4_valueOf 1 = .ok (.lstore_n 3, 1) := by decide +kernel
theorem dX4_valueOf_2 : decode cX4_valueOf 2 = .ok (.aload_n 0, 1) := by decide +kernel
theorem dX4_valueOf_3 : decode cX4_valueOf 3 = .ok (.iload_n 1, 1) := by decide +kernel
theorem dX4_valueOf_4 : decode cX4_valueOf 4 = .ok (.baload, 1) := by decide +kernel
theorem dX4_valueOf_5 : decode cX4_valueOf 5 = .ok (.invokestatic 45, 3) := by decide +kernel
theorem dX4_valueOf_8 : decode cX4_valueOf 8 = .ok (.istore 5, 2) := by decide +kernel
theorem dX4_valueOf_10 : decode cX4_valueOf 10 = .ok (.iload_n 2, 1) := by decide +kernel
theorem dX4_valueOf_11 : decode cX4_valueOf 11 = .ok (.iload_n 1, 1) := by decide +kernel
theorem dX4_valueOf_12 : decode cX4_valueOf 12 = .ok (.bipush 8, 2) := by decide +kernel
theorem dX4_valueOf_14 : decode cX4_valueOf 14 = .ok (.iadd, 1) := by decide +kernel
theorem dX4_valueOf_15 : decode cX4_valueOf 15 = .ok (.invokestatic 72, 3) := by decide +kernel
theorem dX4_valueOf_18 : decode cX4_valueOf 18 = .ok (.istore 6, 2) := by decide +kernel
theorem dX4_valueOf_20 : decode cX4_valueOf 20 = .ok (.iload_n 1, 1) := by decide +kernel
theorem dX4_valueOf_21 : decode cX4_valueOf 21 = .ok (.istore 7, 2) := by decide +kernel
theorem dX4_valueOf_23 : decode cX4_valueOf 23 = .ok (.iload 7, 2) := by decide +kernel
theorem dX4_valueOf_25 : decode cX4_valueOf 25 = .ok (.iload 6, 2) := by decide +kernel
theorem dX4_valueOf_27 : decode cX4_valueOf 27 = .ok (.if_icmp .ge 48, 3) := by decide +kernel
theorem dX4_valueOf_30 : decode cX4_valueOf 30 = .ok (.iload 5, 2) := by decide +kernel
theorem dX4_valueOf_32 : decode cX4_valueOf 32 = .ok (.ifCond .eq 22, 3) := by decide +kernel
theorem dX4_valueOf_35 : decode cX4_valueOf 35 = .ok (.lload_n 3, 1) := by decide +kernel
theorem dX4_valueOf_36 : decode cX4_valueOf 36 = .ok (.ldc2_w 78, 3) := by decide +kernel
theorem dX4_valueOf_39 : decode cX4_valueOf 39 = .ok (.lmul, 1) := by decide +kernel
theorem dX4_valueOf_40 : decode cX4_valueOf 40 = .ok (.aload_n 0, 1) := by decide +kernel
theorem dX4_valueOf_41 : decode cX4_valueOf 41 = .ok (.iload 7, 2) := by decide +kernel
theorem dX4_valueOf_43 : decode cX4_valueOf 43 = .ok (.baload, 1) := by decide +kernel
theorem dX4_valueOf_44 : decode cX4_valueOf 44 = .ok (.bipush 97, 2) := by decide +kernel
theorem dX4_valueOf_46 : decode cX4_valueOf 46 = .ok (.isub, 1) := by decide +kernel
theorem dX4_valueOf_47 : decode cX4_valueOf 47 = .ok (.iconst 1, 1) := by decide +kernel
theorem dX4_valueOf_48 : decode cX4_valueOf 48 = .ok (.iadd, 1) := by decide +kernel
theorem dX4_valueOf_49 : decode cX4_valueOf 49 = .ok (.i2l, 1) := by decide +kernel
theorem dX4_valueOf_50 : decode cX4_valueOf 50 = .ok (.ladd, 1) := by decide +kernel
theorem dX4_valueOf_51 : decode cX4_valueOf 51 = .ok (.goto 17, 3) := by decide +kernel
theorem dX4_valueOf_54 : decode cX4_valueOf 54 = .ok (.lload_n 3, 1) := by decide +kernel
theorem dX4_valueOf_55 : decode cX4_valueOf 55 = .ok (.ldc2_w 80, 3) := by decide +kernel
theorem dX4_valueOf_58 : decode cX4_valueOf 58 = .ok (.lmul, 1) := by decide +kernel
theorem dX4_valueOf_59 : decode cX4_valueOf 59 = .ok (.aload_n 0, 1) := by decide +kernel
theorem dX4_valueOf_60 : decode cX4_valueOf 60 = .ok (.iload 7, 2) := by decide +kernel
theorem dX4_valueOf_62 : decode cX4_valueOf 62 = .ok (.baload, 1) := by decide +kernel
theorem dX4_valueOf_63 : decode cX4_valueOf 63 = .ok (.bipush 48, 2) := by decide +kernel
theorem dX4_valueOf_65 : decode cX4_valueOf 65 = .ok (.isub, 1) := by decide +kernel
theorem dX4_valueOf_66 : decode cX4_valueOf 66 = .ok (.i2l, 1) := by decide +kernel
theorem dX4_valueOf_67 : decode cX4_valueOf 67 = .ok (.ladd, 1) := by decide +kernel
theorem dX4_valueOf_68 : decode cX4_valueOf 68 = .ok (.lstore_n 3, 1) := by decide +kernel
theorem dX4_valueOf_69 : decode cX4_valueOf 69 = .ok (.iinc 7 1, 3) := by decide +kernel
theorem dX4_valueOf_72 : decode cX4_valueOf 72 = .ok (.goto (-49), 3) := by decide +kernel
theorem dX4_valueOf_75 : decode cX4_valueOf 75 = .ok (.lload_n 3, 1) := by decide +kernel
theorem dX4_valueOf_76 : decode cX4_valueOf 76 = .ok (.lreturn, 1) := by decide +kernel
theorem dX4_isBlank_0 : decode cX4_isBlank 0 = .ok (.iload_n 0, 1) := by decide +kernel
theorem dX4_isBlank_1 : decode cX4_isBlank 1 = .ok (.bipush 9, 2) := by decide +kernel
theorem dX4_isBlank_3 : decode cX4_isBlank 3 = .ok (.if_icmp .eq 21, 3) := by decide +kernel
theorem dX4_isBlank_6 : decode cX4_isBlank 6 = .ok (.iload_n 0, 1) := by decide +kernel
theorem dX4_isBlank_7 : decode cX4_isBlank 7 = .ok (.bipush 10, 2) := by decide +kernel
theorem dX4_isBlank_9 : decode cX4_isBlank 9 = .ok (.if_icmp .eq 15, 3) := by decide +kernel
theorem dX4_isBlank_12 : decode cX4_isBlank 12 = .ok (.iload_n 0, 1) := by decide +kernel
theorem dX4_isBlank_13 : decode cX4_isBlank 13 = .ok (.bipush 13, 2) := by decide +kernel
theorem dX4_isBlank_15 : decode cX4_isBlank 15 = .ok (.if_icmp .eq 9, 3) := by decide +kernel
theorem dX4_isBlank_18 : decode cX4_isBlank 18 = .ok (.iload_n 0, 1) := by decide +kernel
theorem dX4_isBlank_19 : decode cX4_isBlank 19 = .ok (.bipush 32, 2) := by decide +kernel
theorem dX4_isBlank_21 : decode cX4_isBlank 21 = .ok (.if_icmp .ne 7, 3) := by decide +kernel
theorem dX4_isBlank_24 : decode cX4_isBlank 24 = .ok (.iconst 1, 1) := by decide +kernel
theorem dX4_isBlank_25 : decode cX4_isBlank 25 = .ok (.goto 4, 3) := by decide +kernel
theorem dX4_isBlank_28 : decode cX4_isBlank 28 = .ok (.iconst 0, 1) := by decide +kernel
theorem dX4_isBlank_29 : decode cX4_isBlank 29 = .ok (.ireturn, 1) := by decide +kernel
theorem dX4_isLetter_0 : decode cX4_isLetter 0 = .ok (.iload_n 0, 1) := by decide +kernel
theorem dX4_isLetter_1 : decode cX4_isLetter 1 = .ok (.bipush 97, 2) := by decide +kernel
theorem dX4_isLetter_3 : decode cX4_isLetter 3 = .ok (.if_icmp .lt 13, 3) := by decide +kernel
theorem dX4_isLetter_6 : decode cX4_isLetter 6 = .ok (.iload_n 0, 1) := by decide +kernel
theorem dX4_isLetter_7 : decode cX4_isLetter 7 = .ok (.bipush 122, 2) := by decide +kernel
theorem dX4_isLetter_9 : decode cX4_isLetter 9 = .ok (.if_icmp .gt 7, 3) := by decide +kernel
theorem dX4_isLetter_12 : decode cX4_isLetter 12 = .ok (.iconst 1, 1) := by decide +kernel
theorem dX4_isLetter_13 : decode cX4_isLetter 13 = .ok (.goto 4, 3) := by decide +kernel
theorem dX4_isLetter_16 : decode cX4_isLetter 16 = .ok (.iconst 0, 1) := by decide +kernel
theorem dX4_isLetter_17 : decode cX4_isLetter 17 = .ok (.ireturn, 1) := by decide +kernel
theorem dX4_isDigit_0 : decode cX4_isDigit 0 = .ok (.iload_n 0, 1) := by decide +kernel
theorem dX4_isDigit_1 : decode cX4_isDigit 1 = .ok (.bipush 48, 2) := by decide +kernel
theorem dX4_isDigit_3 : decode cX4_isDigit 3 = .ok (.if_icmp .lt 13, 3) := by decide +kernel
theorem dX4_isDigit_6 : decode cX4_isDigit 6 = .ok (.iload_n 0, 1) := by decide +kernel
theorem dX4_isDigit_7 : decode cX4_isDigit 7 = .ok (.bipush 57, 2) := by decide +kernel
theorem dX4_isDigit_9 : decode cX4_isDigit 9 = .ok (.if_icmp .gt 7, 3) := by decide +kernel
theorem dX4_isDigit_12 : decode cX4_isDigit 12 = .ok (.iconst 1, 1) := by decide +kernel
theorem dX4_isDigit_13 : decode cX4_isDigit 13 = .ok (.goto 4, 3) := by decide +kernel
theorem dX4_isDigit_16 : decode cX4_isDigit 16 = .ok (.iconst 0, 1) := by decide +kernel
theorem dX4_isDigit_17 : decode cX4_isDigit 17 = .ok (.ireturn, 1) := by decide +kernel
theorem dX5_init_0 : decode cX5_init 0 = .ok (.aload_n 0, 1) := by decide +kernel
theorem dX5_init_1 : decode cX5_init 1 = .ok (.invokespecial 3, 3) := by decide +kernel
theorem dX5_init_4 : decode cX5_init 4 = .ok (.aload_n 0, 1) := by decide +kernel
theorem dX5_init_5 : decode cX5_init 5 = .ok (.bipush 8, 2) := by decide +kernel
theorem dX5_init_7 : decode cX5_init 7 = .ok (.newarray .int, 2) := by decide +kernel
theorem dX5_init_9 : decode cX5_init 9 = .ok (.putfield 9, 3) := by decide +kernel
theorem dX5_init_12 : decode cX5_init 12 = .ok (.aload_n 0, 1) := by decide +kernel
theorem dX5_init_13 : decode cX5_init 13 = .ok (.iconst 0, 1) := by decide +kernel
theorem dX5_init_14 : decode cX5_init 14 = .ok (.putfield 15, 3) := by decide +kernel
theorem dX5_init_17 : decode cX5_init 17 = .ok (.aload_n 0, 1) := by decide +kernel
theorem dX5_init_18 : decode cX5_init 18 = .ok (.iconst 0, 1) := by decide +kernel
theorem dX5_init_19 : decode cX5_init 19 = .ok (.putfield 19, 3) := by decide +kernel
theorem dX5_init_22 : decode cX5_init 22 = .ok (.aload_n 0, 1) := by decide +kernel
theorem dX5_init_23 : decode cX5_init 23 = .ok (.iconst 0, 1) := by decide +kernel
theorem dX5_init_24 : decode cX5_init 24 = .ok (.putfield 22, 3) := by decide +kernel
theorem dX5_init_27 : decode cX5_init 27 = .ok (.aload_n 0, 1) := by decide +kernel
theorem dX5_init_28 : decode cX5_init 28 = .ok (.iconst 0, 1) := by decide +kernel
theorem dX5_init_29 : decode cX5_init 29 = .ok (.putfield 25, 3) := by decide +kernel
theorem dX5_init_32 : decode cX5_init 32 = .ok (.return_, 1) := by decide +kernel
theorem dX5_follow_0 : decode cX5_follow 0 = .ok (.aload_n 0, 1) := by decide +kernel
theorem dX5_follow_1 : decode cX5_follow 1 = .ok (.getfield 9, 3) := by decide +kernel
theorem dX5_follow_4 : decode cX5_follow 4 = .ok (.iconst 0, 1) := by decide +kernel
theorem dX5_follow_5 : decode cX5_follow 5 = .ok (.invokestatic 28, 3) := by decide +kernel
theorem dX5_follow_8 : decode cX5_follow 8 = .ok (.aload_n 0, 1) := by decide +kernel
theorem dX5_follow_9 : decode cX5_follow 9 = .ok (.iconst 0, 1) := by decide +kernel
theorem dX5_follow_10 : decode cX5_follow 10 = .ok (.putfield 15, 3) := by decide +kernel
theorem dX5_follow_13 : decode cX5_follow 13 = .ok (.aload_n 0, 1) := by decide +kernel
theorem dX5_follow_14 : decode cX5_follow 14 = .ok (.iconst 0, 1) := by decide +kernel
theorem dX5_follow_15 : decode cX5_follow 15 = .ok (.putfield 19, 3) := by decide +kernel
theorem dX5_follow_18 : decode cX5_follow 18 = .ok (.aload_n 0, 1) := by decide +kernel
theorem dX5_follow_19 : decode cX5_follow 19 = .ok (.iconst 0, 1) := by decide +kernel
theorem dX5_follow_20 : decode cX5_follow 20 = .ok (.putfield 22, 3) := by decide +kernel
theorem dX5_follow_23 : decode cX5_follow 23 = .ok (.aload_n 0, 1) := by decide +kernel
theorem dX5_follow_24 : decode cX5_follow 24 = .ok (.iconst 0, 1) := by decide +kernel
theorem dX5_follow_25 : decode cX5_follow 25 = .ok (.putfield 25, 3) := by decide +kernel
theorem dX5_follow_28 : decode cX5_follow 28 = .ok (.iconst 0, 1) := by decide +kernel
theorem dX5_follow_29 : decode cX5_follow 29 = .ok (.istore_n 3, 1) := by decide +kernel
theorem dX5_follow_30 : decode cX5_follow 30 = .ok (.iload_n 3, 1) := by decide +kernel
theorem dX5_follow_31 : decode cX5_follow 31 = .ok (.iload_n 2, 1) := by decide +kernel
theorem dX5_follow_32 : decode cX5_follow 32 = .ok (.if_icmp .ge 22, 3) := by decide +kernel
theorem dX5_follow_35 : decode cX5_follow 35 = .ok (.aload_n 1, 1) := by decide +kernel
theorem dX5_follow_36 : decode cX5_follow 36 = .ok (.invokevirtual 34, 3) := by decide +kernel
theorem dX5_follow_39 : decode cX5_follow 39 = .ok (.aload_n 0, 1) := by decide +kernel
theorem dX5_follow_40 : decode cX5_follow 40 = .ok (.aload_n 1, 1) := by decide +kernel
theorem dX5_follow_41 : decode cX5_follow 41 = .ok (.getfield 39, 3) := by decide +kernel
theorem dX5_follow_44 : decode cX5_follow 44 = .ok (.iload_n 3, 1) := by decide +kernel
theorem dX5_follow_45 : decode cX5_follow 45 = .ok (.invokevirtual 42, 3) := by decide +kernel
theorem dX5_follow_48 : decode cX5_follow 48 = .ok (.iinc 3 1, 3) := by decide +kernel
theorem dX5_follow_51 : decode cX5_follow 51 = .ok (.goto (-21), 3) := by decide +kernel
theorem dX5_follow_54 : decode cX5_follow 54 = .ok (.return_, 1) := by decide +kernel
theorem dX5_note_0 : decode cX5_note 0 = .ok (.iload_n 1, 1) := by decide +kernel
theorem dX5_note_1 : decode cX5_note 1 = .ok (.invokestatic 46, 3) := by decide +kernel
theorem dX5_note_4 : decode cX5_note 4 = .ok (.istore_n 3, 1) := by decide +kernel
theorem dX5_note_5 : decode cX5_note 5 = .ok (.aload_n 0, 1) := by decide +kernel
theorem dX5_note_6 : decode cX5_note 6 = .ok (.dup, 1) := by decide +kernel
theorem dX5_note_7 : decode cX5_note 7 = .ok (.getfield 15, 3) := by decide +kernel
theorem dX5_note_10 : decode cX5_note 10 = .ok (.iload_n 3, 1) := by decide +kernel
theorem dX5_note_11 : decode cX5_note 11 = .ok (.iadd, 1) := by decide +kernel
theorem dX5_note_12 : decode cX5_note 12 = .ok (.putfield 15, 3) := by decide +kernel
theorem dX5_note_15 : decode cX5_note 15 = .ok (.aload_n 0, 1) := by decide +kernel
theorem dX5_note_16 : decode cX5_note 16 = .ok (.dup, 1) := by decide +kernel
theorem dX5_note_17 : decode cX5_note 17 = .ok (.getfield 25, 3) := by decide +kernel
theorem dX5_note_20 : decode cX5_note 20 = .ok (.iload_n 1, 1) := by decide +kernel
theorem dX5_note_21 : decode cX5_note 21 = .ok (.ior, 1) := by decide +kernel
theorem dX5_note_22 : decode cX5_note 22 = .ok (.putfield 25, 3) := by decide +kernel
theorem dX5_note_25 : decode cX5_note 25 = .ok (.iload_n 3, 1) := by decide +kernel
theorem dX5_note_26 : decode cX5_note 26 = .ok (.aload_n 0, 1) := by decide +kernel
theorem dX5_note_27 : decode cX5_note 27 = .ok (.getfield 19, 3) := by decide +kernel
theorem dX5_note_30 : decode cX5_note 30 = .ok (.if_icmp .le 13, 3) := by decide +kernel
theorem dX5_note_33 : decode cX5_note 33 = .ok (.aload_n 0, 1) := by decide +kernel
theorem dX5_note_34 : decode cX5_note 34 = .ok (.iload_n 3, 1) := by decide +kernel
theorem dX5_note_35 : decode cX5_note 35 = .ok (.putfield 19, 3) := by decide +kernel
theorem dX5_note_38 : decode cX5_note 38 = .ok (.aload_n 0, 1) := by decide +kernel
theorem dX5_note_39 : decode cX5_note 39 = .ok (.iload_n 2, 1) := by decide +kernel
theorem dX5_note_40 : decode cX5_note 40 = .ok (.putfield 22, 3) := by decide +kernel
theorem dX5_note_43 : decode cX5_note 43 = .ok (.iconst 0, 1) := by decide +kernel
theorem dX5_note_44 : decode cX5_note 44 = .ok (.istore 4, 2) := by decide +kernel
theorem dX5_note_46 : decode cX5_note 46 = .ok (.iload 4, 2) := by decide +kernel
theorem dX5_note_48 : decode cX5_note 48 = .ok (.bipush 8, 2) := by decide +kernel
theorem dX5_note_50 : decode cX5_note 50 = .ok (.if_icmp .ge 29, 3) := by decide +kernel
theorem dX5_note_53 : decode cX5_note 53 = .ok (.iload_n 3, 1) := by decide +kernel
theorem dX5_note_54 : decode cX5_note 54 = .ok (.ifCond .le 25, 3) := by decide +kernel
theorem dX5_note_57 : decode cX5_note 57 = .ok (.aload_n 0, 1) := by decide +kernel
theorem dX5_note_58 : decode cX5_note 58 = .ok (.getfield 9, 3) := by decide +kernel
theorem dX5_note_61 : decode cX5_note 61 = .ok (.iload 4, 2) := by decide +kernel
theorem dX5_note_63 : decode cX5_note 63 = .ok (.dup2, 1) := by decide +kernel
theorem dX5_note_64 : decode cX5_note 64 = .ok (.iaload, 1) := by decide +kernel
theorem dX5_note_65 : decode cX5_note 65 = .ok (.iload_n 1, 1) := by decide +kernel
theorem dX5_note_66 : decode cX5_note 66 = .ok (.iload 4, 2) := by decide +kernel
theorem dX5_note_68 : decode cX5_note 68 = .ok (.invokestatic 52, 3) := by decide +kernel
theorem dX5_note_71 : decode cX5_note 71 = .ok (.iadd, 1) := by decide +kernel
theorem dX5_note_72 : decode cX5_note 72 = .ok (.iastore, 1) := by decide +kernel
theorem dX5_note_73 : decode cX5_note 73 = .ok (.iinc 4 1, 3) := by decide +kernel
theorem dX5_note_76 : decode cX5_note 76 = .ok (.goto (-30), 3) := by decide +kernel
theorem dX5_note_79 : decode cX5_note 79 = .ok (.return_, 1) := by decide +kernel
theorem dX5_firstHour_0 : decode cX5_firstHour 0 = .ok (.iconst 0, 1) := by decide +kernel
theorem dX5_firstHour_1 : decode cX5_firstHour 1 = .ok (.istore_n 3, 1) := by decide +kernel
theorem dX5_firstHour_2 : decode cX5_firstHour 2 = .ok (.iload_n 3, 1) := by decide +kernel
theorem dX5_firstHour_3 : decode cX5_firstHour 3 = .ok (.iload_n 2, 1) := by decide +kernel
theorem dX5_firstHour_4 : decode cX5_firstHour 4 = .ok (.if_icmp .ge 22, 3) := by decide +kernel
theorem dX5_firstHour_7 : decode cX5_firstHour 7 = .ok (.aload_n 1, 1) := by decide +kernel
theorem dX5_firstHour_8 : decode cX5_firstHour 8 = .ok (.invokevirtual 34, 3) := by decide +kernel
theorem dX5_firstHour_11 : decode cX5_firstHour 11 = .ok (.aload_n 1, 1) := by decide +kernel
theorem dX5_firstHour_12 : decode cX5_firstHour 12 = .ok (.getfield 39, 3) := by decide +kernel
theorem dX5_firstHour_15 : decode cX5_firstHour 15 = .ok (.ifCond .eq 5, 3) := by decide +kernel
theorem dX5_firstHour_18 : decode cX5_firstHour 18 = .ok (.iload_n 3, 1) := by decide +kernel
theorem dX5_firstHour_19 : decode cX5_firstHour 19 = .ok (.ireturn, 1) := by decide +kernel
theorem dX5_firstHour_20 : decode cX5_firstHour 20 = .ok (.iinc 3 1, 3) := by decide +kernel
theorem dX5_firstHour_23 : decode cX5_firstHour 23 = .ok (.goto (-21), 3) := by decide +kernel
theorem dX5_firstHour_26 : decode cX5_firstHour 26 = .ok (.bipush (-2), 2) := by decide +kernel
theorem dX5_firstHour_28 : decode cX5_firstHour 28 = .ok (.ireturn, 1) := by decide +kernel
theorem dX6_init_0 : decode cX6_init 0 = .ok (.aload_n 0, 1) := by decide +kernel
theorem dX6_init_1 : decode cX6_init 1 = .ok (.invokespecial 1, 3) := by decide +kernel
theorem dX6_init_4 : decode cX6_init 4 = .ok (.aload_n 0, 1) := by decide +kernel
theorem dX6_init_5 : decode cX6_init 5 = .ok (.sipush 2000, 3) := by decide +kernel
theorem dX6_init_8 : decode cX6_init 8 = .ok (.newarray .byte, 2) := by decide +kernel
theorem dX6_init_10 : decode cX6_init 10 = .ok (.putfield 9, 3) := by decide +kernel
theorem dX6_init_13 : decode cX6_init 13 = .ok (.aload_n 0, 1) := by decide +kernel
theorem dX6_init_14 : decode cX6_init 14 = .ok (.iconst 0, 1) := by decide +kernel
theorem dX6_init_15 : decode cX6_init 15 = .ok (.putfield 13, 3) := by decide +kernel
theorem dX6_init_18 : decode cX6_init 18 = .ok (.aload_n 0, 1) := by decide +kernel
theorem dX6_init_19 : decode cX6_init 19 = .ok (.iconst (-1), 1) := by decide +kernel
theorem dX6_init_20 : decode cX6_init 20 = .ok (.putfield 17, 3) := by decide +kernel
theorem dX6_init_23 : decode cX6_init 23 = .ok (.aload_n 0, 1) := by decide +kernel
theorem dX6_init_24 : decode cX6_init 24 = .ok (.new 20, 3) := by decide +kernel
theorem dX6_init_27 : decode cX6_init 27 = .ok (.dup, 1) := by decide +kernel
theorem dX6_init_28 : decode cX6_init 28 = .ok (.invokespecial 22, 3) := by decide +kernel
theorem dX6_init_31 : decode cX6_init 31 = .ok (.putfield 23, 3) := by decide +kernel
theorem dX6_init_34 : decode cX6_init 34 = .ok (.aload_n 0, 1) := by decide +kernel
theorem dX6_init_35 : decode cX6_init 35 = .ok (.new 20, 3) := by decide +kernel
theorem dX6_init_38 : decode cX6_init 38 = .ok (.dup, 1) := by decide +kernel
theorem dX6_init_39 : decode cX6_init 39 = .ok (.invokespecial 22, 3) := by decide +kernel
theorem dX6_init_42 : decode cX6_init 42 = .ok (.putfield 27, 3) := by decide +kernel
theorem dX6_init_45 : decode cX6_init 45 = .ok (.aload_n 0, 1) := by decide +kernel
theorem dX6_init_46 : decode cX6_init 46 = .ok (.new 30, 3) := by decide +kernel
theorem dX6_init_49 : decode cX6_init 49 = .ok (.dup, 1) := by decide +kernel
theorem dX6_init_50 : decode cX6_init 50 = .ok (.aload_n 0, 1) := by decide +kernel
theorem dX6_init_51 : decode cX6_init 51 = .ok (.getfield 27, 3) := by decide +kernel
theorem dX6_init_54 : decode cX6_init 54 = .ok (.invokespecial 32, 3) := by decide +kernel
theorem dX6_init_57 : decode cX6_init 57 = .ok (.putfield 35, 3) := by decide +kernel
theorem dX6_init_60 : decode cX6_init 60 = .ok (.aload_n 0, 1) := by decide +kernel
theorem dX6_init_61 : decode cX6_init 61 = .ok (.new 39, 3) := by decide +kernel
theorem dX6_init_64 : decode cX6_init 64 = .ok (.dup, 1) := by decide +kernel
theorem dX6_init_65 : decode cX6_init 65 = .ok (.aload_n 0, 1) := by decide +kernel
theorem dX6_init_66 : decode cX6_init 66 = .ok (.getfield 23, 3) := by decide +kernel
theorem dX6_init_69 : decode cX6_init 69 = .ok (.invokespecial 41, 3) := by decide +kernel
theorem dX6_init_72 : decode cX6_init 72 = .ok (.putfield 42, 3) := by decide +kernel
theorem dX6_init_75 : decode cX6_init 75 = .ok (.aload_n 0, 1) := by decide +kernel
theorem dX6_init_76 : decode cX6_init 76 = .ok (.new 39, 3) := by decide +kernel
theorem dX6_init_79 : decode cX6_init 79 = .ok (.dup, 1) := by decide +kernel
theorem dX6_init_80 : decode cX6_init 80 = .ok (.aload_n 0, 1) := by decide +kernel
theorem dX6_init_81 : decode cX6_init 81 = .ok (.getfield 23, 3) := by decide +kernel
theorem dX6_init_84 : decode cX6_init 84 = .ok (.invokespecial 41, 3) := by decide +kernel
theorem dX6_init_87 : decode cX6_init 87 = .ok (.putfield 46, 3) := by decide +kernel
theorem dX6_init_90 : decode cX6_init 90 = .ok (.aload_n 0, 1) := by decide +kernel
theorem dX6_init_91 : decode cX6_init 91 = .ok (.new 49, 3) := by decide +kernel
theorem dX6_init_94 : decode cX6_init 94 = .ok (.dup, 1) := by decide +kernel
theorem dX6_init_95 : decode cX6_init 95 = .ok (.invokespecial 51, 3) := by decide +kernel
theorem dX6_init_98 : decode cX6_init 98 = .ok (.putfield 52, 3) := by decide +kernel
theorem dX6_init_101 : decode cX6_init 101 = .ok (.aload_n 0, 1) := by decide +kernel
theorem dX6_init_102 : decode cX6_init 102 = .ok (.bipush 40, 2) := by decide +kernel
theorem dX6_init_104 : decode cX6_init 104 = .ok (.anewarray 39, 3) := by decide +kernel
theorem dX6_init_107 : decode cX6_init 107 = .ok (.putfield 56, 3) := by decide +kernel
theorem dX6_init_110 : decode cX6_init 110 = .ok (.aload_n 0, 1) := by decide +kernel
theorem dX6_init_111 : decode cX6_init 111 = .ok (.iconst 0, 1) := by decide +kernel
theorem dX6_init_112 : decode cX6_init 112 = .ok (.putfield 60, 3) := by decide +kernel
theorem dX6_init_115 : decode cX6_init 115 = .ok (.aload_n 0, 1) := by decide +kernel
theorem dX6_init_116 : decode cX6_init 116 = .ok (.iconst 0, 1) := by decide +kernel
theorem dX6_init_117 : decode cX6_init 117 = .ok (.putfield 63, 3) := by decide +kernel
theorem dX6_init_120 : decode cX6_init 120 = .ok (.aload_n 0, 1) := by decide +kernel
theorem dX6_init_121 : decode cX6_init 121 = .ok (.iconst 3, 1) := by decide +kernel
theorem dX6_init_122 : decode cX6_init 122 = .ok (.anewarray 39, 3) := by decide +kernel
theorem dX6_init_125 : decode cX6_init 125 = .ok (.putfield 66, 3) := by decide +kernel
theorem dX6_init_128 : decode cX6_init 128 = .ok (.aload_n 0, 1) := by decide +kernel
theorem dX6_init_129 : decode cX6_init 129 = .ok (.iconst 0, 1) := by decide +kernel
theorem dX6_init_130 : decode cX6_init 130 = .ok (.putfield 69, 3) := by decide +kernel
theorem dX6_init_133 : decode cX6_init 133 = .ok (.aload_n 0, 1) := by decide +kernel
theorem dX6_init_134 : decode cX6_init 134 = .ok (.bipush 20, 2) := by decide +kernel
theorem dX6_init_136 : decode cX6_init 136 = .ok (.newarray .int, 2) := by decide +kernel
theorem dX6_init_138 : decode cX6_init 138 = .ok (.putfield 72, 3) := by decide +kernel
theorem dX6_init_141 : decode cX6_init 141 = .ok (.aload_n 0, 1) := by decide +kernel
theorem dX6_init_142 : decode cX6_init 142 = .ok (.iconst 0, 1) := by decide +kernel
theorem dX6_init_143 : decode cX6_init 143 = .ok (.putfield 76, 3) := by decide +kernel
theorem dX6_init_146 : decode cX6_init 146 = .ok (.aload_n 0, 1) := by decide +kernel
theorem dX6_init_147 : decode cX6_init 147 = .ok (.iconst 0, 1) := by decide +kernel
theorem dX6_init_148 : decode cX6_init 148 = .ok (.putfield 79, 3) := by decide +kernel
theorem dX6_init_151 : decode cX6_init 151 = .ok (.aload_n 0, 1) := by decide +kernel
theorem dX6_init_152 : decode cX6_init 152 = .ok (.bipush 8, 2) := by decide +kernel
theorem dX6_init_154 : decode cX6_init 154 = .ok (.newarray .int, 2) := by decide +kernel
theorem dX6_init_156 : decode cX6_init 156 = .ok (.putfield 82, 3) := by decide +kernel
theorem dX6_init_159 : decode cX6_init 159 = .ok (.iconst 0, 1) := by decide +kernel
theorem dX6_init_160 : decode cX6_init 160 = .ok (.istore_n 1, 1) := by decide +kernel
theorem dX6_init_161 : decode cX6_init 161 = .ok (.iload_n 1, 1) := by decide +kernel
theorem dX6_init_162 : decode cX6_init 162 = .ok (.bipush 40, 2) := by decide +kernel
theorem dX6_init_164 : decode cX6_init 164 = .ok (.if_icmp .ge 26, 3) := by decide +kernel
theorem dX6_init_167 : decode cX6_init 167 = .ok (.aload_n 0, 1) := by decide +kernel
theorem dX6_init_168 : decode cX6_init 168 = .ok (.getfield 56, 3) := by decide +kernel
theorem dX6_init_171 : decode cX6_init 171 = .ok (.iload_n 1, 1) := by decide +kernel
theorem dX6_init_172 : decode cX6_init 172 = .ok (.new 39, 3) := by decide +kernel
theorem dX6_init_175 : decode cX6_init 175 = .ok (.dup, 1) := by decide +kernel
theorem dX6_init_176 : decode cX6_init 176 = .ok (.aload_n 0, 1) := by decide +kernel
theorem dX6_init_177 : decode cX6_init 177 = .ok (.getfield 23, 3) := by decide +kernel
theorem dX6_init_180 : decode cX6_init 180 = .ok (.invokespecial 41, 3) := by decide +kernel
theorem dX6_init_183 : decode cX6_init 183 = .ok (.aastore, 1) := by decide +kernel
theorem dX6_init_184 : decode cX6_init 184 = .ok (.iinc 1 1, 3) := by decide +kernel
theorem dX6_init_187 : decode cX6_init 187 = .ok (.goto (-26), 3) := by decide +kernel
theorem dX6_init_190 : decode cX6_init 190 = .ok (.iconst 0, 1) := by decide +kernel
theorem dX6_init_191 : decode cX6_init 191 = .ok (.istore_n 1, 1) := by decide +kernel
theorem dX6_init_192 : decode cX6_init 192 = .ok (.iload_n 1, 1) := by decide +kernel
theorem dX6_init_193 : decode cX6_init 193 = .ok (.iconst 3, 1) := by decide +kernel
theorem dX6_init_194 : decode cX6_init 194 = .ok (.if_icmp .ge 26, 3) := by decide +kernel
theorem dX6_init_197 : decode cX6_init 197 = .ok (.aload_n 0, 1) := by decide +kernel
theorem dX6_init_198 : decode cX6_init 198 = .ok (.getfield 66, 3) := by decide +kernel
theorem dX6_init_201 : decode cX6_init 201 = .ok (.iload_n 1, 1) := by decide +kernel
theorem dX6_init_202 : decode cX6_init 202 = .ok (.new 39, 3) := by decide +kernel
theorem dX6_init_205 : decode cX6_init 205 = .ok (.dup, 1) := by decide +kernel
theorem dX6_init_206 : decode cX6_init 206 = .ok (.aload_n 0, 1) := by decide +kernel
theorem dX6_init_207 : decode cX6_init 207 = .ok (.getfield 23, 3) := by decide +kernel
theorem dX6_init_210 : decode cX6_init 210 = .ok (.invokespecial 41, 3) := by decide +kernel
theorem dX6_init_213 : decode cX6_init 213 = .ok (.aastore, 1) := by decide +kernel
theorem dX6_init_214 : decode cX6_init 214 = .ok (.iinc 1 1, 3) := by decide +kernel
theorem dX6_init_217 : decode cX6_init 217 = .ok (.goto (-25), 3) := by decide +kernel
theorem dX6_init_220 : decode cX6_init 220 = .ok (.return_, 1) := by decide +kernel
theorem dX6_feed_0 : decode cX6_feed 0 = .ok (.aload_n 0, 1) := by decide +kernel
theorem dX6_feed_1 : decode cX6_feed 1 = .ok (.getfield 13, 3) := by decide +kernel
theorem dX6_feed_4 : decode cX6_feed 4 = .ok (.sipush 1980, 3) := by decide +kernel
theorem dX6_feed_7 : decode cX6_feed 7 = .ok (.if_icmp .le 5, 3) := by decide +kernel
theorem dX6_feed_10 : decode cX6_feed 10 = .ok (.iconst (-1), 1) := by decide +kernel
theorem dX6_feed_11 : decode cX6_feed 11 = .ok (.ireturn, 1) := by decide +kernel
theorem dX6_feed_12 : decode cX6_feed 12 = .ok (.aload_n 0, 1) := by decide +kernel
theorem dX6_feed_13 : decode cX6_feed 13 = .ok (.iload_n 1, 1) := by decide +kernel
theorem dX6_feed_14 : decode cX6_feed 14 = .ok (.invokevirtual 85, 3) := by decide +kernel
theorem dX6_feed_17 : decode cX6_feed 17 = .ok (.aload_n 0, 1) := by decide +kernel
theorem dX6_feed_18 : decode cX6_feed 18 = .ok (.iload_n 2, 1) := by decide +kernel
theorem dX6_feed_19 : decode cX6_feed 19 = .ok (.invokevirtual 85, 3) := by decide +kernel
theorem dX6_feed_22 : decode cX6_feed 22 = .ok (.aload_n 0, 1) := by decide +kernel
theorem dX6_feed_23 : decode cX6_feed 23 = .ok (.iload_n 3, 1) := by decide +kernel
theorem dX6_feed_24 : decode cX6_feed 24 = .ok (.invokevirtual 85, 3) := by decide +kernel
theorem dX6_feed_27 : decode cX6_feed 27 = .ok (.aload_n 0, 1) := by decide +kernel
theorem dX6_feed_28 : decode cX6_feed 28 = .ok (.iload 4, 2) := by decide +kernel
theorem dX6_feed_30 : decode cX6_feed 30 = .ok (.invokevirtual 85, 3) := by decide +kernel
theorem dX6_feed_33 : decode cX6_feed 33 = .ok (.aload_n 0, 1) := by decide +kernel
theorem dX6_feed_34 : decode cX6_feed 34 = .ok (.iload 5, 2) := by decide +kernel
theorem dX6_feed_36 : decode cX6_feed 36 = .ok (.invokevirtual 85, 3) := by decide +kernel
theorem dX6_feed_39 : decode cX6_feed 39 = .ok (.aload_n 0, 1) := by decide +kernel
theorem dX6_feed_40 : decode cX6_feed 40 = .ok (.getfield 13, 3) := by decide +kernel
theorem dX6_feed_43 : decode cX6_feed 43 = .ok (.ireturn, 1) := by decide +kernel
theorem dX6_putBytes_0 : decode cX6_putBytes 0 = .ok (.bipush 24, 2) := by decide +kernel
theorem dX6_putBytes_2 : decode cX6_putBytes 2 = .ok (.istore_n 2, 1) := by decide +kernel
theorem dX6_putBytes_3 : decode cX6_putBytes 3 = .ok (.iload_n 2, 1) := by decide +kernel
theorem dX6_putBytes_4 : decode cX6_putBytes 4 = .ok (.ifCond .lt 42, 3) := by decide +kernel
theorem dX6_putBytes_7 : decode cX6_putBytes 7 = .ok (.aload_n 0, 1) := by decide +kernel
theorem dX6_putBytes_8 : decode cX6_putBytes 8 = .ok (.getfield 13, 3) := by decide +kernel
theorem dX6_putBytes_11 : decode cX6_putBytes 11 = .ok (.sipush 2000, 3) := by decide +kernel
theorem dX6_putBytes_14 : decode cX6_putBytes 14 = .ok (.if_icmp .ge 26, 3) := by decide +kernel
theorem dX6_putBytes_17 : decode cX6_putBytes 17 = .ok (.aload_n 0, 1) := by decide +kernel
theorem dX6_putBytes_18 : decode cX6_putBytes 18 = .ok (.getfield 9, 3) := by decide +kernel
theorem dX6_putBytes_21 : decode cX6_putBytes 21 = .ok (.aload_n 0, 1) := by decide +kernel
theorem dX6_putBytes_22 : decode cX6_putBytes 22 = .ok (.getfield 13, 3) := by decide +kernel
theorem dX6_putBytes_25 : decode cX6_putBytes 25 = .ok (.iload_n 1, 1) := by decide +kernel
theorem dX6_putBytes_26 : decode cX6_putBytes 26 = .ok (.iload_n 2, 1) := by decide +kernel
theorem dX6_putBytes_27 : decode cX6_putBytes 27 = .ok (.iushr, 1) := by decide +kernel
theorem dX6_putBytes_28 : decode cX6_putBytes 28 = .ok (.i2b, 1) := by decide +kernel
theorem dX6_putBytes_29 : decode cX6_putBytes 29 = .ok (.bastore, 1) := by decide +kernel
theorem dX6_putBytes_30 : decode cX6_putBytes 30 = .ok (.aload_n 0, 1) := by decide +kernel
theorem dX6_putBytes_31 : decode cX6_putBytes 31 = .ok (.dup, 1) := by decide +kernel
theorem dX6_putBytes_32 : decode cX6_putBytes 32 = .ok (.getfield 13, 3) := by decide +kernel
theorem dX6_putBytes_35 : decode cX6_putBytes 35 = .ok (.iconst 1, 1) := by decide +kernel
theorem dX6_putBytes_36 : decode cX6_putBytes 36 = .ok (.iadd, 1) := by decide +kernel
theorem dX6_putBytes_37 : decode cX6_putBytes 37 = .ok (.putfield 13, 3) := by decide +kernel
theorem dX6_putBytes_40 : decode cX6_putBytes 40 = .ok (.iinc 2 (-8), 3) := by decide +kernel
theorem dX6_putBytes_43 : decode cX6_putBytes 43 = .ok (.goto (-40), 3) := by decide +kernel
theorem dX6_putBytes_46 : decode cX6_putBytes 46 = .ok (.return_, 1) := by decide +kernel
theorem dX6_back_0 : decode cX6_back 0 = .ok (.iload_n 1, 1) := by decide +kernel
theorem dX6_back_1 : decode cX6_back 1 = .ok (.ifCond .lt 11, 3) := by decide +kernel
theorem dX6_back_4 : decode cX6_back 4 = .ok (.iload_n 1, 1) := by decide +kernel
theorem dX6_back_5 : decode cX6_back 5 = .ok (.aload_n 0, 1) := by decide +kernel
theorem dX6_back_6 : decode cX6_back 6 = .ok (.getfield 13, 3) := by decide +kernel
theorem dX6_back_9 : decode cX6_back 9 = .ok (.if_icmp .le 5, 3) := by decide +kernel
theorem dX6_back_12 : decode cX6_back 12 = .ok (.iconst (-1), 1) := by decide +kernel
theorem dX6_back_13 : decode cX6_back 13 = .ok (.ireturn, 1) := by decide +kernel
theorem dX6_back_14 : decode cX6_back 14 = .ok (.aload_n 0, 1) := by decide +kernel
theorem dX6_back_15 : decode cX6_back 15 = .ok (.dup, 1) := by decide +kernel
theorem dX6_back_16 : decode cX6_back 16 = .ok (.getfield 13, 3) := by decide +kernel
theorem dX6_back_19 : decode cX6_back 19 = .ok (.iload_n 1, 1) := by decide +kernel
theorem dX6_back_20 : decode cX6_back 20 = .ok (.isub, 1) := by decide +kernel
theorem dX6_back_21 : decode cX6_back 21 = .ok (.putfield 13, 3) := by decide +kernel
theorem dX6_back_24 : decode cX6_back 24 = .ok (.aload_n 0, 1) := by decide +kernel
theorem dX6_back_25 : decode cX6_back 25 = .ok (.getfield 13, 3) := by decide +kernel
theorem dX6_back_28 : decode cX6_back 28 = .ok (.ireturn, 1) := by decide +kernel
theorem dX6_read_0 : decode cX6_read 0 = .ok (.aload_n 0, 1) := by decide +kernel
theorem dX6_read_1 : decode cX6_read 1 = .ok (.getfield 35, 3) := by decide +kernel
theorem dX6_read_4 : decode cX6_read 4 = .ok (.aload_n 0, 1) := by decide +kernel
theorem dX6_read_5 : decode cX6_read 5 = .ok (.getfield 9, 3) := by decide +kernel
theorem dX6_read_8 : decode cX6_read 8 = .ok (.aload_n 0, 1) := by decide +kernel
theorem dX6_read_9 : decode cX6_read 9 = .ok (.getfield 13, 3) := by decide +kernel
theorem dX6_read_12 : decode cX6_read 12 = .ok (.aload_n 0, 1) := by decide +kernel
theorem dX6_read_13 : decode cX6_read 13 = .ok (.getfield 27, 3) := by decide +kernel
theorem dX6_read_16 : decode cX6_read 16 = .ok (.invokevirtual 89, 3) := by decide +kernel
theorem dX6_read_19 : decode cX6_read 19 = .ok (.istore_n 1, 1) := by decide +kernel
theorem dX6_read_20 : decode cX6_read 20 = .ok (.aload_n 0, 1) := by decide +kernel
theorem dX6_read_21 : decode cX6_read 21 = .ok (.iconst 0, 1) := by decide +kernel
theorem dX6_read_22 : decode cX6_read 22 = .ok (.putfield 13, 3) := by decide +kernel
theorem dX6_read_25 : decode cX6_read 25 = .ok (.aload_n 0, 1) := by decide +kernel
theorem dX6_read_26 : decode cX6_read 26 = .ok (.aload_n 0, 1) := by decide +kernel
theorem dX6_read_27 : decode cX6_read 27 = .ok (.getfield 35, 3) := by decide +kernel
theorem dX6_read_30 : decode cX6_read 30 = .ok (.getfield 93, 3) := by decide +kernel
theorem dX6_read_33 : decode cX6_read 33 = .ok (.putfield 17, 3) := by decide +kernel
theorem dX6_read_36 : decode cX6_read 36 = .ok (.iload_n 1, 1) := by decide +kernel
theorem dX6_read_37 : decode cX6_read 37 = .ok (.ifCond .ne 7, 3) := by decide +kernel
theorem dX6_read_40 : decode cX6_read 40 = .ok (.aload_n 0, 1) := by decide +kernel
theorem dX6_read_41 : decode cX6_read 41 = .ok (.invokevirtual 96, 3) := by decide +kernel
theorem dX6_read_44 : decode cX6_read 44 = .ok (.iload_n 1, 1) := by decide +kernel
theorem dX6_read_45 : decode cX6_read 45 = .ok (.ireturn, 1) := by decide +kernel
theorem dX6_takeDraft_0 : decode cX6_takeDraft 0 = .ok (.aload_n 0, 1) := by decide +kernel
theorem dX6_takeDraft_1 : decode cX6_takeDraft 1 = .ok (.getfield 23, 3) := by decide +kernel
theorem dX6_takeDraft_4 : decode cX6_takeDraft 4 = .ok (.astore_n 1, 1) := by decide +kernel
theorem dX6_takeDraft_5 : decode cX6_takeDraft 5 = .ok (.aload_n 0, 1) := by decide +kernel
theorem dX6_takeDraft_6 : decode cX6_takeDraft 6 = .ok (.aload_n 0, 1) := by decide +kernel
theorem dX6_takeDraft_7 : decode cX6_takeDraft 7 = .ok (.getfield 27, 3) := by decide +kernel
theorem dX6_takeDraft_10 : decode cX6_takeDraft 10 = .ok (.putfield 23, 3) := by decide +kernel
theorem dX6_takeDraft_13 : decode cX6_takeDraft 13 = .ok (.aload_n 0, 1) := by decide +kernel
theorem dX6_takeDraft_14 : decode cX6_takeDraft 14 = .ok (.aload_n 1, 1) := by decide +kernel
theorem dX6_takeDraft_15 : decode cX6_takeDraft 15 = .ok (.putfield 27, 3) := by decide +kernel
theorem dX6_takeDraft_18 : decode cX6_takeDraft 18 = .ok (.aload_n 0, 1) := by decide +kernel
theorem dX6_takeDraft_19 : decode cX6_takeDraft 19 = .ok (.getfield 42, 3) := by decide +kernel
theorem dX6_takeDraft_22 : decode cX6_takeDraft 22 = .ok (.aload_n 0, 1) := by decide +kernel
theorem dX6_takeDraft_23 : decode cX6_takeDraft 23 = .ok (.getfield 23, 3) := by decide +kernel
theorem dX6_takeDraft_26 : decode cX6_takeDraft 26 = .ok (.invokevirtual 99, 3) := by decide +kernel
theorem dX6_takeDraft_29 : decode cX6_takeDraft 29 = .ok (.aload_n 0, 1) := by decide +kernel
theorem dX6_takeDraft_30 : decode cX6_takeDraft 30 = .ok (.iconst 0, 1) := by decide +kernel
theorem dX6_takeDraft_31 : decode cX6_takeDraft 31 = .ok (.putfield 63, 3) := by decide +kernel
theorem dX6_takeDraft_34 : decode cX6_takeDraft 34 = .ok (.aload_n 0, 1) := by decide +kernel
theorem dX6_takeDraft_35 : decode cX6_takeDraft 35 = .ok (.iconst 0, 1) := by decide +kernel
theorem dX6_takeDraft_36 : decode cX6_takeDraft 36 = .ok (.putfield 69, 3) := by decide +kernel
theorem dX6_takeDraft_39 : decode cX6_takeDraft 39 = .ok (.aload_n 0, 1) := by decide +kernel
theorem dX6_takeDraft_40 : decode cX6_takeDraft 40 = .ok (.iconst 0, 1) := by decide +kernel
theorem dX6_takeDraft_41 : decode cX6_takeDraft 41 = .ok (.putfield 79, 3) := by decide +kernel
theorem dX6_takeDraft_44 : decode cX6_takeDraft 44 = .ok (.aload_n 0, 1) := by decide +kernel
theorem dX6_takeDraft_45 : decode cX6_takeDraft 45 = .ok (.iconst 0, 1) := by decide +kernel
theorem dX6_takeDraft_46 : decode cX6_takeDraft 46 = .ok (.putfield 76, 3) := by decide +kernel
theorem dX6_takeDraft_49 : decode cX6_takeDraft 49 = .ok (.return_, 1) := by decide +kernel
theorem dX6_place_0 : decode cX6_place 0 = .ok (.aload_n 0, 1) := by decide +kernel
theorem dX6_place_1 : decode cX6_place 1 = .ok (.getfield 17, 3) := by decide +kernel
theorem dX6_place_4 : decode cX6_place 4 = .ok (.ireturn, 1) := by decide +kernel
theorem dX6_house_0 : decode cX6_house 0 = .ok (.aload_n 0, 1) := by decide +kernel
theorem dX6_house_1 : decode cX6_house 1 = .ok (.iload_n 1, 1) := by decide +kernel
theorem dX6_house_2 : decode cX6_house 2 = .ok (.invokevirtual 102, 3) := by decide +kernel
theorem dX6_house_5 : decode cX6_house 5 = .ok (.ifCond .ne 5, 3) := by decide +kernel
theorem dX6_house_8 : decode cX6_house 8 = .ok (.iconst (-1), 1) := by decide +kernel
theorem dX6_house_9 : decode cX6_house 9 = .ok (.ireturn, 1) := by decide +kernel
theorem dX6_house_10 : decode cX6_house 10 = .ok (.iload_n 2, 1) := by decide +kernel
theorem dX6_house_11 : decode cX6_house 11 = .ok (.tableswitch 157 0 9 #[53, 63, 73, 83, 92, 102, 114, 126, 136, 148], 53) := by decide +kernel
theorem dX6_house_64 : decode cX6_house 64 = .ok (.aload_n 0, 1) := by decide +kernel
theorem dX6_house_65 : decode cX6_house 65 = .ok (.getfield 42, 3) := by decide +kernel
theorem dX6_house_68 : decode cX6_house 68 = .ok (.getfield 106, 3) := by decide +kernel
theorem dX6_house_71 : decode cX6_house 71 = .ok (.iload_n 1, 1) := by decide +kernel
theorem dX6_house_72 : decode cX6_house 72 = .ok (.iaload, 1) := by decide +kernel
theorem dX6_house_73 : decode cX6_house 73 = .ok (.ireturn, 1) := by decide +kernel
theorem dX6_house_74 : decode cX6_house 74 = .ok (.aload_n 0, 1) := by decide +kernel
theorem dX6_house_75 : decode cX6_house 75 = .ok (.getfield 42, 3) := by decide +kernel
theorem dX6_house_78 : decode cX6_house 78 = .ok (.getfield 109, 3) := by decide +kernel
theorem dX6_house_81 : decode cX6_house 81 = .ok (.iload_n 1, 1) := by decide +kernel
theorem dX6_house_82 : decode cX6_house 82 = .ok (.iaload, 1) := by decide +kernel
theorem dX6_house_83 : decode cX6_house 83 = .ok (.ireturn, 1) := by decide +kernel
theorem dX6_house_84 : decode cX6_house 84 = .ok (.aload_n 0, 1) := by decide +kernel
theorem dX6_house_85 : decode cX6_house 85 = .ok (.getfield 42, 3) := by decide +kernel
theorem dX6_house_88 : decode cX6_house 88 = .ok (.getfield 112, 3) := by decide +kernel
theorem dX6_house_91 : decode cX6_house 91 = .ok (.iload_n 1, 1) := by decide +kernel
theorem dX6_house_92 : decode cX6_house 92 = .ok (.iaload, 1) := by decide +kernel
theorem dX6_house_93 : decode cX6_house 93 = .ok (.ireturn, 1) := by decide +kernel
theorem dX6_house_94 : decode cX6_house 94 = .ok (.aload_n 0, 1) := by decide +kernel
theorem dX6_house_95 : decode cX6_house 95 = .ok (.getfield 42, 3) := by decide +kernel
theorem dX6_house_98 : decode cX6_house 98 = .ok (.iload_n 1, 1) := by decide +kernel
theorem dX6_house_99 : decode cX6_house 99 = .ok (.invokevirtual 115, 3) := by decide +kernel
theorem dX6_house_102 : decode cX6_house 102 = .ok (.ireturn, 1) := by decide +kernel
theorem dX6_house_103 : decode cX6_house 103 = .ok (.aload_n 0, 1) := by decide +kernel
theorem dX6_house_104 : decode cX6_house 104 = .ok (.getfield 42, 3) := by decide +kernel
theorem dX6_house_107 : decode cX6_house 107 = .ok (.getfield 119, 3) := by decide +kernel
theorem dX6_house_110 : decode cX6_house 110 = .ok (.iload_n 1, 1) := by decide +kernel
theorem dX6_house_111 : decode cX6_house 111 = .ok (.iaload, 1) := by decide +kernel
theorem dX6_house_112 : decode cX6_house 112 = .ok (.ireturn, 1) := by decide +kernel
theorem dX6_house_113 : decode cX6_house 113 = .ok (.aload_n 0, 1) := by decide +kernel
theorem dX6_house_114 : decode cX6_house 114 = .ok (.getfield 42, 3) := by decide +kernel
theorem dX6_house_117 : decode cX6_house 117 = .ok (.getfield 122, 3) := by decide +kernel
theorem dX6_house_120 : decode cX6_house 120 = .ok (.iload_n 1, 1) := by decide +kernel
theorem dX6_house_121 : decode cX6_house 121 = .ok (.invokestatic 125, 3) := by decide +kernel
theorem dX6_house_124 : decode cX6_house 124 = .ok (.ireturn, 1) := by decide +kernel
theorem dX6_house_125 : decode cX6_house 125 = .ok (.aload_n 0, 1) := by decide +kernel
theorem dX6_house_126 : decode cX6_house 126 = .ok (.getfield 23, 3) := by decide +kernel
theorem dX6_house_129 : decode cX6_house 129 = .ok (.getfield 129, 3) := by decide +kernel
theorem dX6_house_132 : decode cX6_house 132 = .ok (.iload_n 1, 1) := by decide +kernel
theorem dX6_house_133 : decode cX6_house 133 = .ok (.invokestatic 125, 3) := by decide +kernel
theorem dX6_house_136 : decode cX6_house 136 = .ok (.ireturn, 1) := by decide +kernel
theorem dX6_house_137 : decode cX6_house 137 = .ok (.aload_n 0, 1) := by decide +kernel
theorem dX6_house_138 : decode cX6_house 138 = .ok (.getfield 42, 3) := by decide +kernel
theorem dX6_house_141 : decode cX6_house 141 = .ok (.getfield 132, 3) := by decide +kernel
theorem dX6_house_144 : decode cX6_house 144 = .ok (.iload_n 1, 1) := by decide +kernel
theorem dX6_house_145 : decode cX6_house 145 = .ok (.iaload, 1) := by decide +kernel
theorem dX6_house_146 : decode cX6_house 146 = .ok (.ireturn, 1) := by decide +kernel
theorem dX6_house_147 : decode cX6_house 147 = .ok (.aload_n 0, 1) := by decide +kernel
theorem dX6_house_148 : decode cX6_house 148 = .ok (.getfield 42, 3) := by decide +kernel
theorem dX6_house_151 : decode cX6_house 151 = .ok (.getfield 135, 3) := by decide +kernel
theorem dX6_house_154 : decode cX6_house 154 = .ok (.iload_n 1, 1) := by decide +kernel
theorem dX6_house_155 : decode cX6_house 155 = .ok (.invokestatic 125, 3) := by decide +kernel
theorem dX6_house_158 : decode cX6_house 158 = .ok (.ireturn, 1) := by decide +kernel
theorem dX6_house_159 : decode cX6_house 159 = .ok (.aload_n 0, 1) := by decide +kernel
theorem dX6_house_160 : decode cX6_house 160 = .ok (.getfield 42, 3) := by decide +kernel
theorem dX6_house_163 : decode cX6_house 163 = .ok (.iload_n 1, 1) := by decide +kernel
theorem dX6_house_164 : decode cX6_house 164 = .ok (.invokevirtual 138, 3) := by decide +kernel
theorem dX6_house_167 : decode cX6_house 167 = .ok (.ireturn, 1) := by decide +kernel
theorem dX6_house_168 : decode cX6_house 168 = .ok (.iconst (-1), 1) := by decide +kernel
theorem dX6_house_169 : decode cX6_house 169 = .ok (.ireturn, 1) := by decide +kernel
theorem dX6_spare_0 : decode cX6_spare 0 = .ok (.aload_n 0, 1) := by decide +kernel
theorem dX6_spare_1 : decode cX6_spare 1 = .ok (.iload_n 1, 1) := by decide +kernel
theorem dX6_spare_2 : decode cX6_spare 2 = .ok (.invokevirtual 141, 3) := by decide +kernel
theorem dX6_spare_5 : decode cX6_spare 5 = .ok (.ifCond .ne 5, 3) := by decide +kernel
theorem dX6_spare_8 : decode cX6_spare 8 = .ok (.iconst (-1), 1) := by decide +kernel
theorem dX6_spare_9 : decode cX6_spare 9 = .ok (.ireturn, 1) := by decide +kernel
theorem dX6_spare_10 : decode cX6_spare 10 = .ok (.iload_n 2, 1) := by decide +kernel
theorem dX6_spare_11 : decode cX6_spare 11 = .ok (.tableswitch 55 0 2 #[25, 35, 45], 25) := by decide +kernel
theorem dX6_spare_36 : decode cX6_spare 36 = .ok (.aload_n 0, 1) := by decide +kernel
theorem dX6_spare_37 : decode cX6_spare 37 = .ok (.getfield 23, 3) := by decide +kernel
theorem dX6_spare_40 : decode cX6_spare 40 = .ok (.getfield 144, 3) := by decide +kernel
theorem dX6_spare_43 : decode cX6_spare 43 = .ok (.iload_n 1, 1) := by decide +kernel
theorem dX6_spare_44 : decode cX6_spare 44 = .ok (.iaload, 1) := by decide +kernel
theorem dX6_spare_45 : decode cX6_spare 45 = .ok (.ireturn, 1) := by decide +kernel
theorem dX6_spare_46 : decode cX6_spare 46 = .ok (.aload_n 0, 1) := by decide +kernel
theorem dX6_spare_47 : decode cX6_spare 47 = .ok (.getfield 42, 3) := by decide +kernel
theorem dX6_spare_50 : decode cX6_spare 50 = .ok (.getfield 147, 3) := by decide +kernel
theorem dX6_spare_53 : decode cX6_spare 53 = .ok (.iload_n 1, 1) := by decide +kernel
theorem dX6_spare_54 : decode cX6_spare 54 = .ok (.iaload, 1) := by decide +kernel
theorem dX6_spare_55 : decode cX6_spare 55 = .ok (.ireturn, 1) := by decide +kernel
theorem dX6_spare_56 : decode cX6_spare 56 = .ok (.aload_n 0, 1) := by decide +kernel
theorem dX6_spare_57 : decode cX6_spare 57 = .ok (.getfield 42, 3) := by decide +kernel
theorem dX6_spare_60 : decode cX6_spare 60 = .ok (.getfield 150, 3) := by decide +kernel
theorem dX6_spare_63 : decode cX6_spare 63 = .ok (.iload_n 1, 1) := by decide +kernel
theorem dX6_spare_64 : decode cX6_spare 64 = .ok (.iaload, 1) := by decide +kernel
theorem dX6_spare_65 : decode cX6_spare 65 = .ok (.ireturn, 1) := by decide +kernel
theorem dX6_spare_66 : decode cX6_spare 66 = .ok (.iconst (-1), 1) := by decide +kernel
theorem dX6_spare_67 : decode cX6_spare 67 = .ok (.ireturn, 1) := by decide +kernel
theorem dX6_lets_0 : decode cX6_lets 0 = .ok (.aload_n 0, 1) := by decide +kernel
theorem dX6_lets_1 : decode cX6_lets 1 = .ok (.iload_n 1, 1) := by decide +kernel
theorem dX6_lets_2 : decode cX6_lets 2 = .ok (.invokevirtual 102, 3) := by decide +kernel
theorem dX6_lets_5 : decode cX6_lets 5 = .ok (.ifCond .eq 16, 3) := by decide +kernel
theorem dX6_lets_8 : decode cX6_lets 8 = .ok (.aload_n 0, 1) := by decide +kernel
theorem dX6_lets_9 : decode cX6_lets 9 = .ok (.iload_n 2, 1) := by decide +kernel
theorem dX6_lets_10 : decode cX6_lets 10 = .ok (.invokevirtual 102, 3) := by decide +kernel
theorem dX6_lets_13 : decode cX6_lets 13 = .ok (.ifCond .eq 8, 3) := by decide +kernel
theorem dX6_lets_16 : decode cX6_lets 16 = .ok (.iload_n 1, 1) := by decide +kernel
theorem dX6_lets_17 : decode cX6_lets 17 = .ok (.iload_n 2, 1) := by decide +kernel
theorem dX6_lets_18 : decode cX6_lets 18 = .ok (.if_icmp .ne 5, 3) := by decide +kernel
theorem dX6_lets_21 : decode cX6_lets 21 = .ok (.iconst (-1), 1) := by decide +kernel
theorem dX6_lets_22 : decode cX6_lets 22 = .ok (.ireturn, 1) := by decide +kernel
theorem dX6_lets_23 : decode cX6_lets 23 = .ok (.aload_n 0, 1) := by decide +kernel
theorem dX6_lets_24 : decode cX6_lets 24 = .ok (.getfield 42, 3) := by decide +kernel
theorem dX6_lets_27 : decode cX6_lets 27 = .ok (.iload_n 1, 1) := by decide +kernel
theorem dX6_lets_28 : decode cX6_lets 28 = .ok (.iload_n 2, 1) := by decide +kernel
theorem dX6_lets_29 : decode cX6_lets 29 = .ok (.invokevirtual 153, 3) := by decide +kernel
theorem dX6_lets_32 : decode cX6_lets 32 = .ok (.ifCond .eq 7, 3) := by decide +kernel
theorem dX6_lets_35 : decode cX6_lets 35 = .ok (.iconst 1, 1) := by decide +kernel
theorem dX6_lets_36 : decode cX6_lets 36 = .ok (.goto 4, 3) := by decide +kernel
theorem dX6_lets_39 : decode cX6_lets 39 = .ok (.iconst 0, 1) := by decide +kernel
theorem dX6_lets_40 : decode cX6_lets 40 = .ok (.ireturn, 1) := by decide +kernel
theorem dX6_openers_0 : decode cX6_openers 0 = .ok (.aload_n 0, 1) := by decide +kernel
theorem dX6_openers_1 : decode cX6_openers 1 = .ok (.iload_n 1, 1) := by decide +kernel
theorem dX6_openers_2 : decode cX6_openers 2 = .ok (.invokevirtual 102, 3) := by decide +kernel
theorem dX6_openers_5 : decode cX6_openers 5 = .ok (.ifCond .eq 14, 3) := by decide +kernel
theorem dX6_openers_8 : decode cX6_openers 8 = .ok (.aload_n 0, 1) := by decide +kernel
theorem dX6_openers_9 : decode cX6_openers 9 = .ok (.getfield 42, 3) := by decide +kernel
theorem dX6_openers_12 : decode cX6_openers 12 = .ok (.iload_n 1, 1) := by decide +kernel
theorem dX6_openers_13 : decode cX6_openers 13 = .ok (.invokevirtual 157, 3) := by decide +kernel
theorem dX6_openers_16 : decode cX6_openers 16 = .ok (.goto 4, 3) := by decide +kernel
theorem dX6_openers_19 : decode cX6_openers 19 = .ok (.iconst (-1), 1) := by decide +kernel
theorem dX6_openers_20 : decode cX6_openers 20 = .ok (.ireturn, 1) := by decide +kernel
theorem dX6_by_0 : decode cX6_by 0 = .ok (.aload_n 0, 1) := by decide +kernel
theorem dX6_by_1 : decode cX6_by 1 = .ok (.iload_n 1, 1) := by decide +kernel
theorem dX6_by_2 : decode cX6_by 2 = .ok (.invokevirtual 102, 3) := by decide +kernel
theorem dX6_by_5 : decode cX6_by 5 = .ok (.ifCond .eq 15, 3) := by decide +kernel
theorem dX6_by_8 : decode cX6_by 8 = .ok (.aload_n 0, 1) := by decide +kernel
theorem dX6_by_9 : decode cX6_by 9 = .ok (.getfield 42, 3) := by decide +kernel
theorem dX6_by_12 : decode cX6_by 12 = .ok (.getfield 160, 3) := by decide +kernel
theorem dX6_by_15 : decode cX6_by 15 = .ok (.iload_n 1, 1) := by decide +kernel
theorem dX6_by_16 : decode cX6_by 16 = .ok (.iaload, 1) := by decide +kernel
theorem dX6_by_17 : decode cX6_by 17 = .ok (.goto 4, 3) := by decide +kernel
theorem dX6_by_20 : decode cX6_by 20 = .ok (.iconst (-1), 1) := by decide +kernel
theorem dX6_by_21 : decode cX6_by 21 = .ok (.ireturn, 1) := by decide +kernel
theorem dX6_count_0 : decode cX6_count 0 = .ok (.iload_n 1, 1) := by decide +kernel
theorem dX6_count_1 : decode cX6_count 1 = .ok (.tableswitch 228 0 16 #[83, 91, 99, 107, 118, 126, 149, 157, 165, 173, 178, 183, 188, 196, 204, 212, 220], 83) := by decide +kernel
theorem dX6_count_84 : decode cX6_count 84 = .ok (.aload_n 0, 1) := by decide +kernel
theorem dX6_count_85 : decode cX6_count 85 = .ok (.getfield 23, 3) := by decide +kernel
theorem dX6_count_88 : decode cX6_count 88 = .ok (.getfield 163, 3) := by decide +kernel
theorem dX6_count_91 : decode cX6_count 91 = .ok (.ireturn, 1) := by decide +kernel
theorem dX6_count_92 : decode cX6_count 92 = .ok (.aload_n 0, 1) := by decide +kernel
theorem dX6_count_93 : decode cX6_count 93 = .ok (.getfield 23, 3) := by decide +kernel
theorem dX6_count_96 : decode cX6_count 96 = .ok (.getfield 166, 3) := by decide +kernel
theorem dX6_count_99 : decode cX6_count 99 = .ok (.ireturn, 1) := by decide +kernel
theorem dX6_count_100 : decode cX6_count 100 = .ok (.aload_n 0, 1) := by decide +kernel
theorem dX6_count_101 : decode cX6_count 101 = .ok (.getfield 42, 3) := by decide +kernel
theorem dX6_count_104 : decode cX6_count 104 = .ok (.getfield 169, 3) := by decide +kernel
theorem dX6_count_107 : decode cX6_count 107 = .ok (.ireturn, 1) := by decide +kernel
theorem dX6_count_108 : decode cX6_count 108 = .ok (.aload_n 0, 1) := by decide +kernel
theorem dX6_count_109 : decode cX6_count 109 = .ok (.getfield 42, 3) := by decide +kernel
theorem dX6_count_112 : decode cX6_count 112 = .ok (.getfield 169, 3) := by decide +kernel
theorem dX6_count_115 : decode cX6_count 115 = .ok (.bipush 24, 2) := by decide +kernel
theorem dX6_count_117 : decode cX6_count 117 = .ok (.irem, 1) := by decide +kernel
theorem dX6_count_118 : decode cX6_count 118 = .ok (.ireturn, 1) := by decide +kernel
theorem dX6_count_119 : decode cX6_count 119 = .ok (.aload_n 0, 1) := by decide +kernel
theorem dX6_count_120 : decode cX6_count 120 = .ok (.getfield 42, 3) := by decide +kernel
theorem dX6_count_123 : decode cX6_count 123 = .ok (.getfield 172, 3) := by decide +kernel
theorem dX6_count_126 : decode cX6_count 126 = .ok (.ireturn, 1) := by decide +kernel
theorem dX6_count_127 : decode cX6_count 127 = .ok (.aload_n 0, 1) := by decide +kernel
theorem dX6_count_128 : decode cX6_count 128 = .ok (.invokevirtual 175, 3) := by decide +kernel
theorem dX6_count_131 : decode cX6_count 131 = .ok (.aload_n 0, 1) := by decide +kernel
theorem dX6_count_132 : decode cX6_count 132 = .ok (.getfield 42, 3) := by decide +kernel
theorem dX6_count_135 : decode cX6_count 135 = .ok (.getfield 172, 3) := by decide +kernel
theorem dX6_count_138 : decode cX6_count 138 = .ok (.aload_n 0, 1) := by decide +kernel
theorem dX6_count_139 : decode cX6_count 139 = .ok (.getfield 42, 3) := by decide +kernel
theorem dX6_count_142 : decode cX6_count 142 = .ok (.getfield 179, 3) := by decide +kernel
theorem dX6_count_145 : decode cX6_count 145 = .ok (.ior, 1) := by decide +kernel
theorem dX6_count_146 : decode cX6_count 146 = .ok (.iconst (-1), 1) := by decide +kernel
theorem dX6_count_147 : decode cX6_count 147 = .ok (.ixor, 1) := by decide +kernel
theorem dX6_count_148 : decode cX6_count 148 = .ok (.iand, 1) := by decide +kernel
theorem dX6_count_149 : decode cX6_count 149 = .ok (.ireturn, 1) := by decide +kernel
theorem dX6_count_150 : decode cX6_count 150 = .ok (.aload_n 0, 1) := by decide +kernel
theorem dX6_count_151 : decode cX6_count 151 = .ok (.getfield 42, 3) := by decide +kernel
theorem dX6_count_154 : decode cX6_count 154 = .ok (.getfield 179, 3) := by decide +kernel
theorem dX6_count_157 : decode cX6_count 157 = .ok (.ireturn, 1) := by decide +kernel
theorem dX6_count_158 : decode cX6_count 158 = .ok (.aload_n 0, 1) := by decide +kernel
theorem dX6_count_159 : decode cX6_count 159 = .ok (.getfield 42, 3) := by decide +kernel
theorem dX6_count_162 : decode cX6_count 162 = .ok (.getfield 182, 3) := by decide +kernel
theorem dX6_count_165 : decode cX6_count 165 = .ok (.ireturn, 1) := by decide +kernel
theorem dX6_count_166 : decode cX6_count 166 = .ok (.aload_n 0, 1) := by decide +kernel
theorem dX6_count_167 : decode cX6_count 167 = .ok (.getfield 42, 3) := by decide +kernel
theorem dX6_count_170 : decode cX6_count 170 = .ok (.getfield 122, 3) := by decide +kernel
theorem dX6_count_173 : decode cX6_count 173 = .ok (.ireturn, 1) := by decide +kernel
theorem dX6_count_174 : decode cX6_count 174 = .ok (.aload_n 0, 1) := by decide +kernel
theorem dX6_count_175 : decode cX6_count 175 = .ok (.getfield 13, 3) := by decide +kernel
theorem dX6_count_178 : decode cX6_count 178 = .ok (.ireturn, 1) := by decide +kernel
theorem dX6_count_179 : decode cX6_count 179 = .ok (.aload_n 0, 1) := by decide +kernel
theorem dX6_count_180 : decode cX6_count 180 = .ok (.getfield 63, 3) := by decide +kernel
theorem dX6_count_183 : decode cX6_count 183 = .ok (.ireturn, 1) := by decide +kernel
theorem dX6_count_184 : decode cX6_count 184 = .ok (.aload_n 0, 1) := by decide +kernel
theorem dX6_count_185 : decode cX6_count 185 = .ok (.getfield 79, 3) := by decide +kernel
theorem dX6_count_188 : decode cX6_count 188 = .ok (.ireturn, 1) := by decide +kernel
theorem dX6_count_189 : decode cX6_count 189 = .ok (.aload_n 0, 1) := by decide +kernel
theorem dX6_count_190 : decode cX6_count 190 = .ok (.getfield 69, 3) := by decide +kernel
theorem dX6_count_193 : decode cX6_count 193 = .ok (.invokestatic 185, 3) := by decide +kernel
theorem dX6_count_196 : decode cX6_count 196 = .ok (.ireturn, 1) := by decide +kernel
theorem dX6_count_197 : decode cX6_count 197 = .ok (.aload_n 0, 1) := by decide +kernel
theorem dX6_count_198 : decode cX6_count 198 = .ok (.getfield 42, 3) := by decide +kernel
theorem dX6_count_201 : decode cX6_count 201 = .ok (.getfield 190, 3) := by decide +kernel
theorem dX6_count_204 : decode cX6_count 204 = .ok (.ireturn, 1) := by decide +kernel
theorem dX6_count_205 : decode cX6_count 205 = .ok (.aload_n 0, 1) := by decide +kernel
theorem dX6_count_206 : decode cX6_count 206 = .ok (.getfield 42, 3) := by decide +kernel
theorem dX6_count_209 : decode cX6_count 209 = .ok (.getfield 193, 3) := by decide +kernel
theorem dX6_count_212 : decode cX6_count 212 = .ok (.ireturn, 1) := by decide +kernel
theorem dX6_count_213 : decode cX6_count 213 = .ok (.aload_n 0, 1) := by decide +kernel
theorem dX6_count_214 : decode cX6_count 214 = .ok (.getfield 42, 3) := by decide +kernel
theorem dX6_count_217 : decode cX6_count 217 = .ok (.invokevirtual 196, 3) := by decide +kernel
theorem dX6_count_220 : decode cX6_count 220 = .ok (.ireturn, 1) := by decide +kernel
theorem dX6_count_221 : decode cX6_count 221 = .ok (.aload_n 0, 1) := by decide +kernel
theorem dX6_count_222 : decode cX6_count 222 = .ok (.getfield 42, 3) := by decide +kernel
theorem dX6_count_225 : decode cX6_count 225 = .ok (.invokevirtual 199, 3) := by decide +kernel
theorem dX6_count_228 : decode cX6_count 228 = .ok (.ireturn, 1) := by decide +kernel
theorem dX6_count_229 : decode cX6_count 229 = .ok (.iconst (-1), 1) := by decide +kernel
theorem dX6_count_230 : decode cX6_count 230 = .ok (.ireturn, 1) := by decide +kernel
theorem dX6_keep_0 : decode cX6_keep 0 = .ok (.aload_n 0, 1) := by decide +kernel
theorem dX6_keep_1 : decode cX6_keep 1 = .ok (.iload_n 1, 1) := by decide +kernel
theorem dX6_keep_2 : decode cX6_keep 2 = .ok (.invokevirtual 102, 3) := by decide +kernel
theorem dX6_keep_5 : decode cX6_keep 5 = .ok (.ifCond .eq 27, 3) := by decide +kernel
theorem dX6_keep_8 : decode cX6_keep 8 = .ok (.aload_n 0, 1) := by decide +kernel
theorem dX6_keep_9 : decode cX6_keep 9 = .ok (.getfield 42, 3) := by decide +kernel
theorem dX6_keep_12 : decode cX6_keep 12 = .ok (.getfield 122, 3) := by decide +kernel
theorem dX6_keep_15 : decode cX6_keep 15 = .ok (.iload_n 1, 1) := by decide +kernel
theorem dX6_keep_16 : decode cX6_keep 16 = .ok (.invokestatic 125, 3) := by decide +kernel
theorem dX6_keep_19 : decode cX6_keep 19 = .ok (.iconst 1, 1) := by decide +kernel
theorem dX6_keep_20 : decode cX6_keep 20 = .ok (.if_icmp .ne 7, 3) := by decide +kernel
theorem dX6_keep_23 : decode cX6_keep 23 = .ok (.iconst 1, 1) := by decide +kernel
theorem dX6_keep_24 : decode cX6_keep 24 = .ok (.goto 4, 3) := by decide +kernel
theorem dX6_keep_27 : decode cX6_keep 27 = .ok (.iconst 0, 1) := by decide +kernel
theorem dX6_keep_28 : decode cX6_keep 28 = .ok (.iload_n 2, 1) := by decide +kernel
theorem dX6_keep_29 : decode cX6_keep 29 = .ok (.if_icmp .ne 5, 3) := by decide +kernel
theorem dX6_keep_32 : decode cX6_keep 32 = .ok (.iconst 0, 1) := by decide +kernel
theorem dX6_keep_33 : decode cX6_keep 33 = .ok (.ireturn, 1) := by decide +kernel
theorem dX6_keep_34 : decode cX6_keep 34 = .ok (.aload_n 0, 1) := by decide +kernel
theorem dX6_keep_35 : decode cX6_keep 35 = .ok (.invokevirtual 202, 3) := by decide +kernel
theorem dX6_keep_38 : decode cX6_keep 38 = .ok (.aload_n 0, 1) := by decide +kernel
theorem dX6_keep_39 : decode cX6_keep 39 = .ok (.getfield 42, 3) := by decide +kernel
theorem dX6_keep_42 : decode cX6_keep 42 = .ok (.dup, 1) := by decide +kernel
theorem dX6_keep_43 : decode cX6_keep 43 = .ok (.getfield 122, 3) := by decide +kernel
theorem dX6_keep_46 : decode cX6_keep 46 = .ok (.iconst 1, 1) := by decide +kernel
theorem dX6_keep_47 : decode cX6_keep 47 = .ok (.iload_n 1, 1) := by decide +kernel
theorem dX6_keep_48 : decode cX6_keep 48 = .ok (.ishl, 1) := by decide +kernel
theorem dX6_keep_49 : decode cX6_keep 49 = .ok (.ixor, 1) := by decide +kernel
theorem dX6_keep_50 : decode cX6_keep 50 = .ok (.putfield 122, 3) := by decide +kernel
theorem dX6_keep_53 : decode cX6_keep 53 = .ok (.iconst 1, 1) := by decide +kernel
theorem dX6_keep_54 : decode cX6_keep 54 = .ok (.ireturn, 1) := by decide +kernel
theorem dX6_pass_0 : decode cX6_pass 0 = .ok (.aload_n 0, 1) := by decide +kernel
theorem dX6_pass_1 : decode cX6_pass 1 = .ok (.iload_n 1, 1) := by decide +kernel
theorem dX6_pass_2 : decode cX6_pass 2 = .ok (.invokevirtual 141, 3) := by decide +kernel
theorem dX6_pass_5 : decode cX6_pass 5 = .ok (.ifCond .eq 16, 3) := by decide +kernel
theorem dX6_pass_8 : decode cX6_pass 8 = .ok (.iload_n 2, 1) := by decide +kernel
theorem dX6_pass_9 : decode cX6_pass 9 = .ok (.iconst (-1), 1) := by decide +kernel
theorem dX6_pass_10 : decode cX6_pass 10 = .ok (.if_icmp .eq 13, 3) := by decide +kernel
theorem dX6_pass_13 : decode cX6_pass 13 = .ok (.aload_n 0, 1) := by decide +kernel
theorem dX6_pass_14 : decode cX6_pass 14 = .ok (.iload_n 2, 1) := by decide +kernel
theorem dX6_pass_15 : decode cX6_pass 15 = .ok (.invokevirtual 102, 3) := by decide +kernel
theorem dX6_pass_18 : decode cX6_pass 18 = .ok (.ifCond .ne 5, 3) := by decide +kernel
theorem dX6_pass_21 : decode cX6_pass 21 = .ok (.iconst 0, 1) := by decide +kernel
theorem dX6_pass_22 : decode cX6_pass 22 = .ok (.ireturn, 1) := by decide +kernel
theorem dX6_pass_23 : decode cX6_pass 23 = .ok (.iload_n 2, 1) := by decide +kernel
theorem dX6_pass_24 : decode cX6_pass 24 = .ok (.iconst (-1), 1) := by decide +kernel
theorem dX6_pass_25 : decode cX6_pass 25 = .ok (.if_icmp .ne 8, 3) := by decide +kernel
theorem dX6_pass_28 : decode cX6_pass 28 = .ok (.bipush (-2), 2) := by decide +kernel
theorem dX6_pass_30 : decode cX6_pass 30 = .ok (.goto 4, 3) := by decide +kernel
theorem dX6_pass_33 : decode cX6_pass 33 = .ok (.iload_n 2, 1) := by decide +kernel
theorem dX6_pass_34 : decode cX6_pass 34 = .ok (.istore_n 3, 1) := by decide +kernel
theorem dX6_pass_35 : decode cX6_pass 35 = .ok (.aload_n 0, 1) := by decide +kernel
theorem dX6_pass_36 : decode cX6_pass 36 = .ok (.getfield 42, 3) := by decide +kernel
theorem dX6_pass_39 : decode cX6_pass 39 = .ok (.getfield 150, 3) := by decide +kernel
theorem dX6_pass_42 : decode cX6_pass 42 = .ok (.iload_n 1, 1) := by decide +kernel
theorem dX6_pass_43 : decode cX6_pass 43 = .ok (.iaload, 1) := by decide +kernel
theorem dX6_pass_44 : decode cX6_pass 44 = .ok (.iload_n 3, 1) := by decide +kernel
theorem dX6_pass_45 : decode cX6_pass 45 = .ok (.if_icmp .ne 5, 3) := by decide +kernel
theorem dX6_pass_48 : decode cX6_pass 48 = .ok (.iconst 0, 1) := by decide +kernel
theorem dX6_pass_49 : decode cX6_pass 49 = .ok (.ireturn, 1) := by decide +kernel
theorem dX6_pass_50 : decode cX6_pass 50 = .ok (.aload_n 0, 1) := by decide +kernel
theorem dX6_pass_51 : decode cX6_pass 51 = .ok (.invokevirtual 202, 3) := by decide +kernel
theorem dX6_pass_54 : decode cX6_pass 54 = .ok (.aload_n 0, 1) := by decide +kernel
theorem dX6_pass_55 : decode cX6_pass 55 = .ok (.getfield 42, 3) := by decide +kernel
theorem dX6_pass_58 : decode cX6_pass 58 = .ok (.getfield 150, 3) := by decide +kernel
theorem dX6_pass_61 : decode cX6_pass 61 = .ok (.iload_n 1, 1) := by decide +kernel
theorem dX6_pass_62 : decode cX6_pass 62 = .ok (.iload_n 3, 1) := by decide +kernel
theorem dX6_pass_63 : decode cX6_pass 63 = .ok (.iastore, 1) := by decide +kernel
theorem dX6_pass_64 : decode cX6_pass 64 = .ok (.iconst 1, 1) := by decide +kernel
theorem dX6_pass_65 : decode cX6_pass 65 = .ok (.ireturn, 1) := by decide +kernel
theorem dX6_change_0 : decode cX6_change 0 = .ok (.aload_n 0, 1) := by decide +kernel
theorem dX6_change_1 : decode cX6_change 1 = .ok (.iload_n 1, 1) := by decide +kernel
theorem dX6_change_2 : decode cX6_change 2 = .ok (.invokevirtual 102, 3) := by decide +kernel
theorem dX6_change_5 : decode cX6_change 5 = .ok (.ifCond .eq 28, 3) := by decide +kernel
theorem dX6_change_8 : decode cX6_change 8 = .ok (.aload_n 0, 1) := by decide +kernel
theorem dX6_change_9 : decode cX6_change 9 = .ok (.iload_n 2, 1) := by decide +kernel
theorem dX6_change_10 : decode cX6_change 10 = .ok (.invokevirtual 102, 3) := by decide +kernel
theorem dX6_change_13 : decode cX6_change 13 = .ok (.ifCond .eq 20, 3) := by decide +kernel
theorem dX6_change_16 : decode cX6_change 16 = .ok (.iload_n 1, 1) := by decide +kernel
theorem dX6_change_17 : decode cX6_change 17 = .ok (.iload_n 2, 1) := by decide +kernel
theorem dX6_change_18 : decode cX6_change 18 = .ok (.if_icmp .eq 15, 3) := by decide +kernel
theorem dX6_change_21 : decode cX6_change 21 = .ok (.aload_n 0, 1) := by decide +kernel
theorem dX6_change_22 : decode cX6_change 22 = .ok (.getfield 42, 3) := by decide +kernel
theorem dX6_change_25 : decode cX6_change 25 = .ok (.iload_n 1, 1) := by decide +kernel
theorem dX6_change_26 : decode cX6_change 26 = .ok (.iload_n 2, 1) := by decide +kernel
theorem dX6_change_27 : decode cX6_change 27 = .ok (.invokevirtual 205, 3) := by decide +kernel
theorem dX6_change_30 : decode cX6_change 30 = .ok (.ifCond .ne 5, 3) := by decide +kernel
theorem dX6_change_33 : decode cX6_change 33 = .ok (.iconst 0, 1) := by decide +kernel
theorem dX6_change_34 : decode cX6_change 34 = .ok (.ireturn, 1) := by decide +kernel
theorem dX6_change_35 : decode cX6_change 35 = .ok (.aload_n 0, 1) := by decide +kernel
theorem dX6_change_36 : decode cX6_change 36 = .ok (.invokevirtual 202, 3) := by decide +kernel
theorem dX6_change_39 : decode cX6_change 39 = .ok (.aload_n 0, 1) := by decide +kernel
theorem dX6_change_40 : decode cX6_change 40 = .ok (.getfield 42, 3) := by decide +kernel
theorem dX6_change_43 : decode cX6_change 43 = .ok (.iload_n 1, 1) := by decide +kernel
theorem dX6_change_44 : decode cX6_change 44 = .ok (.iload_n 2, 1) := by decide +kernel
theorem dX6_change_45 : decode cX6_change 45 = .ok (.invokevirtual 208, 3) := by decide +kernel
theorem dX6_change_48 : decode cX6_change 48 = .ok (.iconst 1, 1) := by decide +kernel
theorem dX6_change_49 : decode cX6_change 49 = .ok (.ireturn, 1) := by decide +kernel
theorem dX6_hours_0 : decode cX6_hours 0 = .ok (.iload_n 1, 1) := by decide +kernel
theorem dX6_hours_1 : decode cX6_hours 1 = .ok (.ifCond .lt 9, 3) := by decide +kernel
theorem dX6_hours_4 : decode cX6_hours 4 = .ok (.iload_n 1, 1) := by decide +kernel
theorem dX6_hours_5 : decode cX6_hours 5 = .ok (.bipush 72, 2) := by decide +kernel
theorem dX6_hours_7 : decode cX6_hours 7 = .ok (.if_icmp .le 5, 3) := by decide +kernel
theorem dX6_hours_10 : decode cX6_hours 10 = .ok (.iconst (-1), 1) := by decide +kernel
theorem dX6_hours_11 : decode cX6_hours 11 = .ok (.ireturn, 1) := by decide +kernel
theorem dX6_hours_12 : decode cX6_hours 12 = .ok (.iload_n 1, 1) := by decide +kernel
theorem dX6_hours_13 : decode cX6_hours 13 = .ok (.ifCond .le 7, 3) := by decide +kernel
theorem dX6_hours_16 : decode cX6_hours 16 = .ok (.aload_n 0, 1) := by decide +kernel
theorem dX6_hours_17 : decode cX6_hours 17 = .ok (.invokevirtual 202, 3) := by decide +kernel
theorem dX6_hours_20 : decode cX6_hours 20 = .ok (.iconst 0, 1) := by decide +kernel
theorem dX6_hours_21 : decode cX6_hours 21 = .ok (.istore_n 2, 1) := by decide +kernel
theorem dX6_hours_22 : decode cX6_hours 22 = .ok (.iload_n 2, 1) := by decide +kernel
theorem dX6_hours_23 : decode cX6_hours 23 = .ok (.iload_n 1, 1) := by decide +kernel
theorem dX6_hours_24 : decode cX6_hours 24 = .ok (.if_icmp .ge 16, 3) := by decide +kernel
theorem dX6_hours_27 : decode cX6_hours 27 = .ok (.aload_n 0, 1) := by decide +kernel
theorem dX6_hours_28 : decode cX6_hours 28 = .ok (.getfield 42, 3) := by decide +kernel
theorem dX6_hours_31 : decode cX6_hours 31 = .ok (.invokevirtual 212, 3) := by decide +kernel
theorem dX6_hours_34 : decode cX6_hours 34 = .ok (.iinc 2 1, 3) := by decide +kernel
theorem dX6_hours_37 : decode cX6_hours 37 = .ok (.goto (-15), 3) := by decide +kernel
theorem dX6_hours_40 : decode cX6_hours 40 = .ok (.aload_n 0, 1) := by decide +kernel
theorem dX6_hours_41 : decode cX6_hours 41 = .ok (.getfield 42, 3) := by decide +kernel
theorem dX6_hours_44 : decode cX6_hours 44 = .ok (.getfield 169, 3) := by decide +kernel
theorem dX6_hours_47 : decode cX6_hours 47 = .ok (.ireturn, 1) := by decide +kernel
theorem dX6_remember_0 : decode cX6_remember 0 = .ok (.aload_n 0, 1) := by decide +kernel
theorem dX6_remember_1 : decode cX6_remember 1 = .ok (.getfield 56, 3) := by decide +kernel
theorem dX6_remember_4 : decode cX6_remember 4 = .ok (.aload_n 0, 1) := by decide +kernel
theorem dX6_remember_5 : decode cX6_remember 5 = .ok (.getfield 60, 3) := by decide +kernel
theorem dX6_remember_8 : decode cX6_remember 8 = .ok (.aaload, 1) := by decide +kernel
theorem dX6_remember_9 : decode cX6_remember 9 = .ok (.aload_n 0, 1) := by decide +kernel
theorem dX6_remember_10 : decode cX6_remember 10 = .ok (.getfield 42, 3) := by decide +kernel
theorem dX6_remember_13 : decode cX6_remember 13 = .ok (.invokevirtual 215, 3) := by decide +kernel
theorem dX6_remember_16 : decode cX6_remember 16 = .ok (.aload_n 0, 1) := by decide +kernel
theorem dX6_remember_17 : decode cX6_remember 17 = .ok (.aload_n 0, 1) := by decide +kernel
theorem dX6_remember_18 : decode cX6_remember 18 = .ok (.getfield 60, 3) := by decide +kernel
theorem dX6_remember_21 : decode cX6_remember 21 = .ok (.iconst 1, 1) := by decide +kernel
theorem dX6_remember_22 : decode cX6_remember 22 = .ok (.iadd, 1) := by decide +kernel
theorem dX6_remember_23 : decode cX6_remember 23 = .ok (.bipush 40, 2) := by decide +kernel
theorem dX6_remember_25 : decode cX6_remember 25 = .ok (.if_icmp .ge 12, 3) := by decide +kernel
theorem dX6_remember_28 : decode cX6_remember 28 = .ok (.aload_n 0, 1) := by decide +kernel
theorem dX6_remember_29 : decode cX6_remember 29 = .ok (.getfield 60, 3) := by decide +kernel
theorem dX6_remember_32 : decode cX6_remember 32 = .ok (.iconst 1, 1) := by decide +kernel
theorem dX6_remember_33 : decode cX6_remember 33 = .ok (.iadd, 1) := by decide +kernel
theorem dX6_remember_34 : decode cX6_remember 34 = .ok (.goto 4, 3) := by decide +kernel
theorem dX6_remember_37 : decode cX6_remember 37 = .ok (.iconst 0, 1) := by decide +kernel
theorem dX6_remember_38 : decode cX6_remember 38 = .ok (.putfield 60, 3) := by decide +kernel
theorem dX6_remember_41 : decode cX6_remember 41 = .ok (.aload_n 0, 1) := by decide +kernel
theorem dX6_remember_42 : decode cX6_remember 42 = .ok (.aload_n 0, 1) := by decide +kernel
theorem dX6_remember_43 : decode cX6_remember 43 = .ok (.getfield 63, 3) := by decide +kernel
theorem dX6_remember_46 : decode cX6_remember 46 = .ok (.iconst 1, 1) := by decide +kernel
theorem dX6_remember_47 : decode cX6_remember 47 = .ok (.iadd, 1) := by decide +kernel
theorem dX6_remember_48 : decode cX6_remember 48 = .ok (.bipush 40, 2) := by decide +kernel
theorem dX6_remember_50 : decode cX6_remember 50 = .ok (.invokestatic 219, 3) := by decide +kernel
theorem dX6_remember_53 : decode cX6_remember 53 = .ok (.putfield 63, 3) := by decide +kernel
theorem dX6_remember_56 : decode cX6_remember 56 = .ok (.return_, 1) := by decide +kernel
theorem dX6_undo_0 : decode cX6_undo 0 = .ok (.aload_n 0, 1) := by decide +kernel
theorem dX6_undo_1 : decode cX6_undo 1 = .ok (.getfield 63, 3) := by decide +kernel
theorem dX6_undo_4 : decode cX6_undo 4 = .ok (.ifCond .ne 5, 3) := by decide +kernel
theorem dX6_undo_7 : decode cX6_undo 7 = .ok (.iconst 0, 1) := by decide +kernel
theorem dX6_undo_8 : decode cX6_undo 8 = .ok (.ireturn, 1) := by decide +kernel
theorem dX6_undo_9 : decode cX6_undo 9 = .ok (.aload_n 0, 1) := by decide +kernel
theorem dX6_undo_10 : decode cX6_undo 10 = .ok (.dup, 1) := by decide +kernel
theorem dX6_undo_11 : decode cX6_undo 11 = .ok (.getfield 63, 3) := by decide +kernel
theorem dX6_undo_14 : decode cX6_undo 14 = .ok (.iconst 1, 1) := by decide +kernel
theorem dX6_undo_15 : decode cX6_undo 15 = .ok (.isub, 1) := by decide +kernel
theorem dX6_undo_16 : decode cX6_undo 16 = .ok (.putfield 63, 3) := by decide +kernel
theorem dX6_undo_19 : decode cX6_undo 19 = .ok (.aload_n 0, 1) := by decide +kernel
theorem dX6_undo_20 : decode cX6_undo 20 = .ok (.aload_n 0, 1) := by decide +kernel
theorem dX6_undo_21 : decode cX6_undo 21 = .ok (.getfield 60, 3) := by decide +kernel
theorem dX6_undo_24 : decode cX6_undo 24 = .ok (.ifCond .le 12, 3) := by decide +kernel
theorem dX6_undo_27 : decode cX6_undo 27 = .ok (.aload_n 0, 1) := by decide +kernel
theorem dX6_undo_28 : decode cX6_undo 28 = .ok (.getfield 60, 3) := by decide +kernel
theorem dX6_undo_31 : decode cX6_undo 31 = .ok (.iconst 1, 1) := by decide +kernel
theorem dX6_undo_32 : decode cX6_undo 32 = .ok (.isub, 1) := by decide +kernel
theorem dX6_undo_33 : decode cX6_undo 33 = .ok (.goto 5, 3) := by decide +kernel
theorem dX6_undo_36 : decode cX6_undo 36 = .ok (.bipush 39, 2) := by decide +kernel
theorem dX6_undo_38 : decode cX6_undo 38 = .ok (.putfield 60, 3) := by decide +kernel
theorem dX6_undo_41 : decode cX6_undo 41 = .ok (.aload_n 0, 1) := by decide +kernel
theorem dX6_undo_42 : decode cX6_undo 42 = .ok (.getfield 42, 3) := by decide +kernel
theorem dX6_undo_45 : decode cX6_undo 45 = .ok (.aload_n 0, 1) := by decide +kernel
theorem dX6_undo_46 : decode cX6_undo 46 = .ok (.getfield 56, 3) := by decide +kernel
theorem dX6_undo_49 : decode cX6_undo 49 = .ok (.aload_n 0, 1) := by decide +kernel
theorem dX6_undo_50 : decode cX6_undo 50 = .ok (.getfield 60, 3) := by decide +kernel
theorem dX6_undo_53 : decode cX6_undo 53 = .ok (.aaload, 1) := by decide +kernel
theorem dX6_undo_54 : decode cX6_undo 54 = .ok (.invokevirtual 215, 3) := by decide +kernel
theorem dX6_undo_57 : decode cX6_undo 57 = .ok (.iconst 1, 1) := by decide +kernel
theorem dX6_undo_58 : decode cX6_undo 58 = .ok (.ireturn, 1) := by decide +kernel
