theorem dX6_hold_0 : decode cX6_hold 0 = .ok (.iload_n 1, 1) := by decide +kernel
theorem dX6_hold_1 : decode cX6_hold 1 = .ok (.invokestatic 224, 3) := by decide +kernel
theorem dX6_hold_4 : decode cX6_hold 4 = .ok (.ifCond .ne 5, 3) := by decide +kernel
theorem dX6_hold_7 : decode cX6_hold 7 = .ok (.iconst 0, 1) := by decide +kernel
theorem dX6_hold_8 : decode cX6_hold 8 = .ok (.ireturn, 1) := by decide +kernel
theorem dX6_hold_9 : decode cX6_hold 9 = .ok (.aload_n 0, 1) := by decide +kernel
theorem dX6_hold_10 : decode cX6_hold 10 = .ok (.getfield 66, 3) := by decide +kernel
theorem dX6_hold_13 : decode cX6_hold 13 = .ok (.iload_n 1, 1) := by decide +kernel
theorem dX6_hold_14 : decode cX6_hold 14 = .ok (.aaload, 1) := by decide +kernel
theorem dX6_hold_15 : decode cX6_hold 15 = .ok (.aload_n 0, 1) := by decide +kernel
theorem dX6_hold_16 : decode cX6_hold 16 = .ok (.getfield 42, 3) := by decide +kernel
theorem dX6_hold_19 : decode cX6_hold 19 = .ok (.invokevirtual 215, 3) := by decide +kernel
theorem dX6_hold_22 : decode cX6_hold 22 = .ok (.aload_n 0, 1) := by decide +kernel
theorem dX6_hold_23 : decode cX6_hold 23 = .ok (.dup, 1) := by decide +kernel
theorem dX6_hold_24 : decode cX6_hold 24 = .ok (.getfield 69, 3) := by decide +kernel
theorem dX6_hold_27 : decode cX6_hold 27 = .ok (.iconst 1, 1) := by decide +kernel
theorem dX6_hold_28 : decode cX6_hold 28 = .ok (.iload_n 1, 1) := by decide +kernel
theorem dX6_hold_29 : decode cX6_hold 29 = .ok (.ishl, 1) := by decide +kernel
theorem dX6_hold_30 : decode cX6_hold 30 = .ok (.ior, 1) := by decide +kernel
theorem dX6_hold_31 : decode cX6_hold 31 = .ok (.putfield 69, 3) := by decide +kernel
theorem dX6_hold_34 : decode cX6_hold 34 = .ok (.iconst 1, 1) := by decide +kernel
theorem dX6_hold_35 : decode cX6_hold 35 = .ok (.ireturn, 1) := by decide +kernel
theorem dX6_restore_0 : decode cX6_restore 0 = .ok (.iload_n 1, 1) := by decide +kernel
theorem dX6_restore_1 : decode cX6_restore 1 = .ok (.invokestatic 224, 3) := by decide +kernel
theorem dX6_restore_4 : decode cX6_restore 4 = .ok (.ifCond .eq 14, 3) := by decide +kernel
theorem dX6_restore_7 : decode cX6_restore 7 = .ok (.aload_n 0, 1) := by decide +kernel
theorem dX6_restore_8 : decode cX6_restore 8 = .ok (.getfield 69, 3) := by decide +kernel
theorem dX6_restore_11 : decode cX6_restore 11 = .ok (.iload_n 1, 1) := by decide +kernel
theorem dX6_restore_12 : decode cX6_restore 12 = .ok (.invokestatic 125, 3) := by decide +kernel
theorem dX6_restore_15 : decode cX6_restore 15 = .ok (.ifCond .ne 5, 3) := by decide +kernel
theorem dX6_restore_18 : decode cX6_restore 18 = .ok (.iconst 0, 1) := by decide +kernel
theorem dX6_restore_19 : decode cX6_restore 19 = .ok (.ireturn, 1) := by decide +kernel
theorem dX6_restore_20 : decode cX6_restore 20 = .ok (.aload_n 0, 1) := by decide +kernel
theorem dX6_restore_21 : decode cX6_restore 21 = .ok (.getfield 42, 3) := by decide +kernel
theorem dX6_restore_24 : decode cX6_restore 24 = .ok (.aload_n 0, 1) := by decide +kernel
theorem dX6_restore_25 : decode cX6_restore 25 = .ok (.getfield 66, 3) := by decide +kernel
theorem dX6_restore_28 : decode cX6_restore 28 = .ok (.iload_n 1, 1) := by decide +kernel
theorem dX6_restore_29 : decode cX6_restore 29 = .ok (.aaload, 1) := by decide +kernel
theorem dX6_restore_30 : decode cX6_restore 30 = .ok (.invokevirtual 215, 3) := by decide +kernel
theorem dX6_restore_33 : decode cX6_restore 33 = .ok (.aload_n 0, 1) := by decide +kernel
theorem dX6_restore_34 : decode cX6_restore 34 = .ok (.iconst 0, 1) := by decide +kernel
theorem dX6_restore_35 : decode cX6_restore 35 = .ok (.putfield 63, 3) := by decide +kernel
theorem dX6_restore_38 : decode cX6_restore 38 = .ok (.iconst 1, 1) := by decide +kernel
theorem dX6_restore_39 : decode cX6_restore 39 = .ok (.ireturn, 1) := by decide +kernel
theorem dX6_stand_0 : decode cX6_stand 0 = .ok (.iload_n 2, 1) := by decide +kernel
theorem dX6_stand_1 : decode cX6_stand 1 = .ok (.invokestatic 227, 3) := by decide +kernel
theorem dX6_stand_4 : decode cX6_stand 4 = .ok (.ifCond .eq 16, 3) := by decide +kernel
theorem dX6_stand_7 : decode cX6_stand 7 = .ok (.iload_n 1, 1) := by decide +kernel
theorem dX6_stand_8 : decode cX6_stand 8 = .ok (.iconst (-1), 1) := by decide +kernel
theorem dX6_stand_9 : decode cX6_stand 9 = .ok (.if_icmp .eq 13, 3) := by decide +kernel
theorem dX6_stand_12 : decode cX6_stand 12 = .ok (.aload_n 0, 1) := by decide +kernel
theorem dX6_stand_13 : decode cX6_stand 13 = .ok (.iload_n 1, 1) := by decide +kernel
theorem dX6_stand_14 : decode cX6_stand 14 = .ok (.invokevirtual 102, 3) := by decide +kernel
theorem dX6_stand_17 : decode cX6_stand 17 = .ok (.ifCond .ne 5, 3) := by decide +kernel
theorem dX6_stand_20 : decode cX6_stand 20 = .ok (.iconst (-1), 1) := by decide +kernel
theorem dX6_stand_21 : decode cX6_stand 21 = .ok (.ireturn, 1) := by decide +kernel
theorem dX6_stand_22 : decode cX6_stand 22 = .ok (.aload_n 0, 1) := by decide +kernel
theorem dX6_stand_23 : decode cX6_stand 23 = .ok (.invokevirtual 230, 3) := by decide +kernel
theorem dX6_stand_26 : decode cX6_stand 26 = .ok (.aload_n 0, 1) := by decide +kernel
theorem dX6_stand_27 : decode cX6_stand 27 = .ok (.getfield 52, 3) := by decide +kernel
theorem dX6_stand_30 : decode cX6_stand 30 = .ok (.aload_n 0, 1) := by decide +kernel
theorem dX6_stand_31 : decode cX6_stand 31 = .ok (.getfield 46, 3) := by decide +kernel
theorem dX6_stand_34 : decode cX6_stand 34 = .ok (.iload_n 2, 1) := by decide +kernel
theorem dX6_stand_35 : decode cX6_stand 35 = .ok (.invokevirtual 233, 3) := by decide +kernel
theorem dX6_stand_38 : decode cX6_stand 38 = .ok (.iload_n 1, 1) := by decide +kernel
theorem dX6_stand_39 : decode cX6_stand 39 = .ok (.iconst (-1), 1) := by decide +kernel
theorem dX6_stand_40 : decode cX6_stand 40 = .ok (.if_icmp .ne 13, 3) := by decide +kernel
theorem dX6_stand_43 : decode cX6_stand 43 = .ok (.aload_n 0, 1) := by decide +kernel
theorem dX6_stand_44 : decode cX6_stand 44 = .ok (.getfield 52, 3) := by decide +kernel
theorem dX6_stand_47 : decode cX6_stand 47 = .ok (.getfield 237, 3) := by decide +kernel
theorem dX6_stand_50 : decode cX6_stand 50 = .ok (.goto 12, 3) := by decide +kernel
theorem dX6_stand_53 : decode cX6_stand 53 = .ok (.aload_n 0, 1) := by decide +kernel
theorem dX6_stand_54 : decode cX6_stand 54 = .ok (.getfield 52, 3) := by decide +kernel
theorem dX6_stand_57 : decode cX6_stand 57 = .ok (.getfield 240, 3) := by decide +kernel
theorem dX6_stand_60 : decode cX6_stand 60 = .ok (.iload_n 1, 1) := by decide +kernel
theorem dX6_stand_61 : decode cX6_stand 61 = .ok (.iaload, 1) := by decide +kernel
theorem dX6_stand_62 : decode cX6_stand 62 = .ok (.ireturn, 1) := by decide +kernel
theorem dX6_firstStand_0 : decode cX6_firstStand 0 = .ok (.iload_n 1, 1) := by decide +kernel
theorem dX6_firstStand_1 : decode cX6_firstStand 1 = .ok (.invokestatic 227, 3) := by decide +kernel
theorem dX6_firstStand_4 : decode cX6_firstStand 4 = .ok (.ifCond .ne 5, 3) := by decide +kernel
theorem dX6_firstStand_7 : decode cX6_firstStand 7 = .ok (.iconst (-1), 1) := by decide +kernel
theorem dX6_firstStand_8 : decode cX6_firstStand 8 = .ok (.ireturn, 1) := by decide +kernel
theorem dX6_firstStand_9 : decode cX6_firstStand 9 = .ok (.aload_n 0, 1) := by decide +kernel
theorem dX6_firstStand_10 : decode cX6_firstStand 10 = .ok (.invokevirtual 230, 3) := by decide +kernel
theorem dX6_firstStand_13 : decode cX6_firstStand 13 = .ok (.aload_n 0, 1) := by decide +kernel
theorem dX6_firstStand_14 : decode cX6_firstStand 14 = .ok (.getfield 52, 3) := by decide +kernel
theorem dX6_firstStand_17 : decode cX6_firstStand 17 = .ok (.aload_n 0, 1) := by decide +kernel
theorem dX6_firstStand_18 : decode cX6_firstStand 18 = .ok (.getfield 46, 3) := by decide +kernel
theorem dX6_firstStand_21 : decode cX6_firstStand 21 = .ok (.iload_n 1, 1) := by decide +kernel
theorem dX6_firstStand_22 : decode cX6_firstStand 22 = .ok (.invokevirtual 243, 3) := by decide +kernel
theorem dX6_firstStand_25 : decode cX6_firstStand 25 = .ok (.ireturn, 1) := by decide +kernel
theorem dX6_stay_0 : decode cX6_stay 0 = .ok (.iload_n 1, 1) := by decide +kernel
theorem dX6_stay_1 : decode cX6_stay 1 = .ok (.invokestatic 247, 3) := by decide +kernel
theorem dX6_stay_4 : decode cX6_stay 4 = .ok (.ifCond .ne 5, 3) := by decide +kernel
theorem dX6_stay_7 : decode cX6_stay 7 = .ok (.iconst (-1), 1) := by decide +kernel
theorem dX6_stay_8 : decode cX6_stay 8 = .ok (.ireturn, 1) := by decide +kernel
theorem dX6_stay_9 : decode cX6_stay 9 = .ok (.aload_n 0, 1) := by decide +kernel
theorem dX6_stay_10 : decode cX6_stay 10 = .ok (.invokevirtual 175, 3) := by decide +kernel
theorem dX6_stay_13 : decode cX6_stay 13 = .ok (.istore_n 2, 1) := by decide +kernel
theorem dX6_stay_14 : decode cX6_stay 14 = .ok (.iconst 0, 1) := by decide +kernel
theorem dX6_stay_15 : decode cX6_stay 15 = .ok (.istore_n 3, 1) := by decide +kernel
theorem dX6_stay_16 : decode cX6_stay 16 = .ok (.iload_n 3, 1) := by decide +kernel
theorem dX6_stay_17 : decode cX6_stay 17 = .ok (.aload_n 0, 1) := by decide +kernel
theorem dX6_stay_18 : decode cX6_stay 18 = .ok (.getfield 23, 3) := by decide +kernel
theorem dX6_stay_21 : decode cX6_stay 21 = .ok (.getfield 163, 3) := by decide +kernel
theorem dX6_stay_24 : decode cX6_stay 24 = .ok (.if_icmp .gt 93, 3) := by decide +kernel
theorem dX6_stay_27 : decode cX6_stay 27 = .ok (.iconst 0, 1) := by decide +kernel
theorem dX6_stay_28 : decode cX6_stay 28 = .ok (.istore 4, 2) := by decide +kernel
theorem dX6_stay_30 : decode cX6_stay 30 = .ok (.iload 4, 2) := by decide +kernel
theorem dX6_stay_32 : decode cX6_stay 32 = .ok (.iload_n 2, 1) := by decide +kernel
theorem dX6_stay_33 : decode cX6_stay 33 = .ok (.if_icmp .gt 78, 3) := by decide +kernel
theorem dX6_stay_36 : decode cX6_stay 36 = .ok (.iload 4, 2) := by decide +kernel
theorem dX6_stay_38 : decode cX6_stay 38 = .ok (.invokestatic 185, 3) := by decide +kernel
theorem dX6_stay_41 : decode cX6_stay 41 = .ok (.iload_n 3, 1) := by decide +kernel
theorem dX6_stay_42 : decode cX6_stay 42 = .ok (.if_icmp .ne 63, 3) := by decide +kernel
theorem dX6_stay_45 : decode cX6_stay 45 = .ok (.iload 4, 2) := by decide +kernel
theorem dX6_stay_47 : decode cX6_stay 47 = .ok (.aload_n 0, 1) := by decide +kernel
theorem dX6_stay_48 : decode cX6_stay 48 = .ok (.getfield 42, 3) := by decide +kernel
theorem dX6_stay_51 : decode cX6_stay 51 = .ok (.getfield 122, 3) := by decide +kernel
theorem dX6_stay_54 : decode cX6_stay 54 = .ok (.iand, 1) := by decide +kernel
theorem dX6_stay_55 : decode cX6_stay 55 = .ok (.ifCond .ne 50, 3) := by decide +kernel
theorem dX6_stay_58 : decode cX6_stay 58 = .ok (.aload_n 0, 1) := by decide +kernel
theorem dX6_stay_59 : decode cX6_stay 59 = .ok (.invokevirtual 230, 3) := by decide +kernel
theorem dX6_stay_62 : decode cX6_stay 62 = .ok (.aload_n 0, 1) := by decide +kernel
theorem dX6_stay_63 : decode cX6_stay 63 = .ok (.getfield 46, 3) := by decide +kernel
theorem dX6_stay_66 : decode cX6_stay 66 = .ok (.dup, 1) := by decide +kernel
theorem dX6_stay_67 : decode cX6_stay 67 = .ok (.getfield 122, 3) := by decide +kernel
theorem dX6_stay_70 : decode cX6_stay 70 = .ok (.iload 4, 2) := by decide +kernel
theorem dX6_stay_72 : decode cX6_stay 72 = .ok (.ior, 1) := by decide +kernel
theorem dX6_stay_73 : decode cX6_stay 73 = .ok (.putfield 122, 3) := by decide +kernel
theorem dX6_stay_76 : decode cX6_stay 76 = .ok (.aload_n 0, 1) := by decide +kernel
theorem dX6_stay_77 : decode cX6_stay 77 = .ok (.getfield 52, 3) := by decide +kernel
theorem dX6_stay_80 : decode cX6_stay 80 = .ok (.aload_n 0, 1) := by decide +kernel
theorem dX6_stay_81 : decode cX6_stay 81 = .ok (.getfield 46, 3) := by decide +kernel
theorem dX6_stay_84 : decode cX6_stay 84 = .ok (.bipush 72, 2) := by decide +kernel
theorem dX6_stay_86 : decode cX6_stay 86 = .ok (.invokevirtual 243, 3) := by decide +kernel
theorem dX6_stay_89 : decode cX6_stay 89 = .ok (.bipush (-2), 2) := by decide +kernel
theorem dX6_stay_91 : decode cX6_stay 91 = .ok (.if_icmp .ne 14, 3) := by decide +kernel
theorem dX6_stay_94 : decode cX6_stay 94 = .ok (.iload_n 1, 1) := by decide +kernel
theorem dX6_stay_95 : decode cX6_stay 95 = .ok (.ifCond .ne 7, 3) := by decide +kernel
theorem dX6_stay_98 : decode cX6_stay 98 = .ok (.iload_n 3, 1) := by decide +kernel
theorem dX6_stay_99 : decode cX6_stay 99 = .ok (.goto 5, 3) := by decide +kernel
theorem dX6_stay_102 : decode cX6_stay 102 = .ok (.iload 4, 2) := by decide +kernel
theorem dX6_stay_104 : decode cX6_stay 104 = .ok (.ireturn, 1) := by decide +kernel
theorem dX6_stay_105 : decode cX6_stay 105 = .ok (.iinc 4 1, 3) := by decide +kernel
theorem dX6_stay_108 : decode cX6_stay 108 = .ok (.goto (-78), 3) := by decide +kernel
theorem dX6_stay_111 : decode cX6_stay 111 = .ok (.iinc 3 1, 3) := by decide +kernel
theorem dX6_stay_114 : decode cX6_stay 114 = .ok (.goto (-98), 3) := by decide +kernel
theorem dX6_stay_117 : decode cX6_stay 117 = .ok (.bipush (-2), 2) := by decide +kernel
theorem dX6_stay_119 : decode cX6_stay 119 = .ok (.ireturn, 1) := by decide +kernel
theorem dX6_shift_0 : decode cX6_shift 0 = .ok (.aload_n 0, 1) := by decide +kernel
theorem dX6_shift_1 : decode cX6_shift 1 = .ok (.iload_n 1, 1) := by decide +kernel
theorem dX6_shift_2 : decode cX6_shift 2 = .ok (.invokevirtual 102, 3) := by decide +kernel
theorem dX6_shift_5 : decode cX6_shift 5 = .ok (.ifCond .eq 10, 3) := by decide +kernel
theorem dX6_shift_8 : decode cX6_shift 8 = .ok (.iload_n 2, 1) := by decide +kernel
theorem dX6_shift_9 : decode cX6_shift 9 = .ok (.invokestatic 247, 3) := by decide +kernel
theorem dX6_shift_12 : decode cX6_shift 12 = .ok (.ifCond .ne 5, 3) := by decide +kernel
theorem dX6_shift_15 : decode cX6_shift 15 = .ok (.iconst (-1), 1) := by decide +kernel
theorem dX6_shift_16 : decode cX6_shift 16 = .ok (.ireturn, 1) := by decide +kernel
theorem dX6_shift_17 : decode cX6_shift 17 = .ok (.iconst 0, 1) := by decide +kernel
theorem dX6_shift_18 : decode cX6_shift 18 = .ok (.istore_n 3, 1) := by decide +kernel
theorem dX6_shift_19 : decode cX6_shift 19 = .ok (.ldc 250, 2) := by decide +kernel
theorem dX6_shift_21 : decode cX6_shift 21 = .ok (.istore 4, 2) := by decide +kernel
theorem dX6_shift_23 : decode cX6_shift 23 = .ok (.bipush 24, 2) := by decide +kernel
theorem dX6_shift_25 : decode cX6_shift 25 = .ok (.istore 5, 2) := by decide +kernel
theorem dX6_shift_27 : decode cX6_shift 27 = .ok (.iconst 0, 1) := by decide +kernel
theorem dX6_shift_28 : decode cX6_shift 28 = .ok (.istore 6, 2) := by decide +kernel
theorem dX6_shift_30 : decode cX6_shift 30 = .ok (.iload 6, 2) := by decide +kernel
theorem dX6_shift_32 : decode cX6_shift 32 = .ok (.bipush 24, 2) := by decide +kernel
theorem dX6_shift_34 : decode cX6_shift 34 = .ok (.if_icmp .ge 113, 3) := by decide +kernel
theorem dX6_shift_37 : decode cX6_shift 37 = .ok (.aload_n 0, 1) := by decide +kernel
theorem dX6_shift_38 : decode cX6_shift 38 = .ok (.invokevirtual 230, 3) := by decide +kernel
theorem dX6_shift_41 : decode cX6_shift 41 = .ok (.aload_n 0, 1) := by decide +kernel
theorem dX6_shift_42 : decode cX6_shift 42 = .ok (.getfield 46, 3) := by decide +kernel
theorem dX6_shift_45 : decode cX6_shift 45 = .ok (.getfield 109, 3) := by decide +kernel
theorem dX6_shift_48 : decode cX6_shift 48 = .ok (.iload_n 1, 1) := by decide +kernel
theorem dX6_shift_49 : decode cX6_shift 49 = .ok (.iload 6, 2) := by decide +kernel
theorem dX6_shift_51 : decode cX6_shift 51 = .ok (.iastore, 1) := by decide +kernel
theorem dX6_shift_52 : decode cX6_shift 52 = .ok (.aload_n 0, 1) := by decide +kernel
theorem dX6_shift_53 : decode cX6_shift 53 = .ok (.getfield 52, 3) := by decide +kernel
theorem dX6_shift_56 : decode cX6_shift 56 = .ok (.aload_n 0, 1) := by decide +kernel
theorem dX6_shift_57 : decode cX6_shift 57 = .ok (.getfield 46, 3) := by decide +kernel
theorem dX6_shift_60 : decode cX6_shift 60 = .ok (.bipush 72, 2) := by decide +kernel
theorem dX6_shift_62 : decode cX6_shift 62 = .ok (.invokevirtual 233, 3) := by decide +kernel
theorem dX6_shift_65 : decode cX6_shift 65 = .ok (.iload 6, 2) := by decide +kernel
theorem dX6_shift_67 : decode cX6_shift 67 = .ok (.aload_n 0, 1) := by decide +kernel
theorem dX6_shift_68 : decode cX6_shift 68 = .ok (.getfield 42, 3) := by decide +kernel
theorem dX6_shift_71 : decode cX6_shift 71 = .ok (.getfield 109, 3) := by decide +kernel
theorem dX6_shift_74 : decode cX6_shift 74 = .ok (.iload_n 1, 1) := by decide +kernel
theorem dX6_shift_75 : decode cX6_shift 75 = .ok (.iaload, 1) := by decide +kernel
theorem dX6_shift_76 : decode cX6_shift 76 = .ok (.isub, 1) := by decide +kernel
theorem dX6_shift_77 : decode cX6_shift 77 = .ok (.invokestatic 251, 3) := by decide +kernel
theorem dX6_shift_80 : decode cX6_shift 80 = .ok (.istore 7, 2) := by decide +kernel
theorem dX6_shift_82 : decode cX6_shift 82 = .ok (.iload 7, 2) := by decide +kernel
theorem dX6_shift_84 : decode cX6_shift 84 = .ok (.bipush 24, 2) := by decide +kernel
theorem dX6_shift_86 : decode cX6_shift 86 = .ok (.iload 7, 2) := by decide +kernel
theorem dX6_shift_88 : decode cX6_shift 88 = .ok (.isub, 1) := by decide +kernel
theorem dX6_shift_89 : decode cX6_shift 89 = .ok (.invokestatic 219, 3) := by decide +kernel
theorem dX6_shift_92 : decode cX6_shift 92 = .ok (.istore 8, 2) := by decide +kernel
theorem dX6_shift_94 : decode cX6_shift 94 = .ok (.aload_n 0, 1) := by decide +kernel
theorem dX6_shift_95 : decode cX6_shift 95 = .ok (.getfield 52, 3) := by decide +kernel
theorem dX6_shift_98 : decode cX6_shift 98 = .ok (.getfield 237, 3) := by decide +kernel
theorem dX6_shift_101 : decode cX6_shift 101 = .ok (.iload 4, 2) := by decide +kernel
theorem dX6_shift_103 : decode cX6_shift 103 = .ok (.if_icmp .lt 22, 3) := by decide +kernel
theorem dX6_shift_106 : decode cX6_shift 106 = .ok (.aload_n 0, 1) := by decide +kernel
theorem dX6_shift_107 : decode cX6_shift 107 = .ok (.getfield 52, 3) := by decide +kernel
theorem dX6_shift_110 : decode cX6_shift 110 = .ok (.getfield 237, 3) := by decide +kernel
theorem dX6_shift_113 : decode cX6_shift 113 = .ok (.iload 4, 2) := by decide +kernel
theorem dX6_shift_115 : decode cX6_shift 115 = .ok (.if_icmp .ne 26, 3) := by decide +kernel
theorem dX6_shift_118 : decode cX6_shift 118 = .ok (.iload 8, 2) := by decide +kernel
theorem dX6_shift_120 : decode cX6_shift 120 = .ok (.iload 5, 2) := by decide +kernel
theorem dX6_shift_122 : decode cX6_shift 122 = .ok (.if_icmp .ge 19, 3) := by decide +kernel
theorem dX6_shift_125 : decode cX6_shift 125 = .ok (.iload 6, 2) := by decide +kernel
theorem dX6_shift_127 : decode cX6_shift 127 = .ok (.istore_n 3, 1) := by decide +kernel
theorem dX6_shift_128 : decode cX6_shift 128 = .ok (.aload_n 0, 1) := by decide +kernel
theorem dX6_shift_129 : decode cX6_shift 129 = .ok (.getfield 52, 3) := by decide +kernel
theorem dX6_shift_132 : decode cX6_shift 132 = .ok (.getfield 237, 3) := by decide +kernel
theorem dX6_shift_135 : decode cX6_shift 135 = .ok (.istore 4, 2) := by decide +kernel
theorem dX6_shift_137 : decode cX6_shift 137 = .ok (.iload 8, 2) := by decide +kernel
theorem dX6_shift_139 : decode cX6_shift 139 = .ok (.istore 5, 2) := by decide +kernel
theorem dX6_shift_141 : decode cX6_shift 141 = .ok (.iinc 6 1, 3) := by decide +kernel
theorem dX6_shift_144 : decode cX6_shift 144 = .ok (.goto (-114), 3) := by decide +kernel
theorem dX6_shift_147 : decode cX6_shift 147 = .ok (.iload_n 2, 1) := by decide +kernel
theorem dX6_shift_148 : decode cX6_shift 148 = .ok (.ifCond .ne 7, 3) := by decide +kernel
theorem dX6_shift_151 : decode cX6_shift 151 = .ok (.iload_n 3, 1) := by decide +kernel
theorem dX6_shift_152 : decode cX6_shift 152 = .ok (.goto 5, 3) := by decide +kernel
theorem dX6_shift_155 : decode cX6_shift 155 = .ok (.iload 4, 2) := by decide +kernel
theorem dX6_shift_157 : decode cX6_shift 157 = .ok (.ireturn, 1) := by decide +kernel
theorem dX6_changeBest_0 : decode cX6_changeBest 0 = .ok (.iload_n 1, 1) := by decide +kernel
theorem dX6_changeBest_1 : decode cX6_changeBest 1 = .ok (.invokestatic 247, 3) := by decide +kernel
theorem dX6_changeBest_4 : decode cX6_changeBest 4 = .ok (.ifCond .ne 5, 3) := by decide +kernel
theorem dX6_changeBest_7 : decode cX6_changeBest 7 = .ok (.iconst (-1), 1) := by decide +kernel
theorem dX6_changeBest_8 : decode cX6_changeBest 8 = .ok (.ireturn, 1) := by decide +kernel
theorem dX6_changeBest_9 : decode cX6_changeBest 9 = .ok (.aload_n 0, 1) := by decide +kernel
theorem dX6_changeBest_10 : decode cX6_changeBest 10 = .ok (.invokevirtual 230, 3) := by decide +kernel
theorem dX6_changeBest_13 : decode cX6_changeBest 13 = .ok (.aload_n 0, 1) := by decide +kernel
theorem dX6_changeBest_14 : decode cX6_changeBest 14 = .ok (.getfield 52, 3) := by decide +kernel
theorem dX6_changeBest_17 : decode cX6_changeBest 17 = .ok (.aload_n 0, 1) := by decide +kernel
theorem dX6_changeBest_18 : decode cX6_changeBest 18 = .ok (.getfield 46, 3) := by decide +kernel
theorem dX6_changeBest_21 : decode cX6_changeBest 21 = .ok (.bipush 72, 2) := by decide +kernel
theorem dX6_changeBest_23 : decode cX6_changeBest 23 = .ok (.invokevirtual 233, 3) := by decide +kernel
theorem dX6_changeBest_26 : decode cX6_changeBest 26 = .ok (.aload_n 0, 1) := by decide +kernel
theorem dX6_changeBest_27 : decode cX6_changeBest 27 = .ok (.getfield 52, 3) := by decide +kernel
theorem dX6_changeBest_30 : decode cX6_changeBest 30 = .ok (.getfield 237, 3) := by decide +kernel
theorem dX6_changeBest_33 : decode cX6_changeBest 33 = .ok (.istore_n 2, 1) := by decide +kernel
theorem dX6_changeBest_34 : decode cX6_changeBest 34 = .ok (.bipush (-2), 2) := by decide +kernel
theorem dX6_changeBest_36 : decode cX6_changeBest 36 = .ok (.istore_n 3, 1) := by decide +kernel
theorem dX6_changeBest_37 : decode cX6_changeBest 37 = .ok (.iconst 0, 1) := by decide +kernel
theorem dX6_changeBest_38 : decode cX6_changeBest 38 = .ok (.istore 4, 2) := by decide +kernel
theorem dX6_changeBest_40 : decode cX6_changeBest 40 = .ok (.iload 4, 2) := by decide +kernel
theorem dX6_changeBest_42 : decode cX6_changeBest 42 = .ok (.aload_n 0, 1) := by decide +kernel
theorem dX6_changeBest_43 : decode cX6_changeBest 43 = .ok (.getfield 23, 3) := by decide +kernel
theorem dX6_changeBest_46 : decode cX6_changeBest 46 = .ok (.getfield 163, 3) := by decide +kernel
theorem dX6_changeBest_49 : decode cX6_changeBest 49 = .ok (.if_icmp .ge 103, 3) := by decide +kernel
theorem dX6_changeBest_52 : decode cX6_changeBest 52 = .ok (.iload 4, 2) := by decide +kernel
theorem dX6_changeBest_54 : decode cX6_changeBest 54 = .ok (.iconst 1, 1) := by decide +kernel
theorem dX6_changeBest_55 : decode cX6_changeBest 55 = .ok (.iadd, 1) := by decide +kernel
theorem dX6_changeBest_56 : decode cX6_changeBest 56 = .ok (.istore 5, 2) := by decide +kernel
theorem dX6_changeBest_58 : decode cX6_changeBest 58 = .ok (.iload 5, 2) := by decide +kernel
theorem dX6_changeBest_60 : decode cX6_changeBest 60 = .ok (.aload_n 0, 1) := by decide +kernel
theorem dX6_changeBest_61 : decode cX6_changeBest 61 = .ok (.getfield 23, 3) := by decide +kernel
theorem dX6_changeBest_64 : decode cX6_changeBest 64 = .ok (.getfield 163, 3) := by decide +kernel
theorem dX6_changeBest_67 : decode cX6_changeBest 67 = .ok (.if_icmp .ge 79, 3) := by decide +kernel
theorem dX6_changeBest_70 : decode cX6_changeBest 70 = .ok (.aload_n 0, 1) := by decide +kernel
theorem dX6_changeBest_71 : decode cX6_changeBest 71 = .ok (.getfield 42, 3) := by decide +kernel
theorem dX6_changeBest_74 : decode cX6_changeBest 74 = .ok (.iload 4, 2) := by decide +kernel
theorem dX6_changeBest_76 : decode cX6_changeBest 76 = .ok (.iload 5, 2) := by decide +kernel
theorem dX6_changeBest_78 : decode cX6_changeBest 78 = .ok (.invokevirtual 205, 3) := by decide +kernel
theorem dX6_changeBest_81 : decode cX6_changeBest 81 = .ok (.ifCond .eq 59, 3) := by decide +kernel
theorem dX6_changeBest_84 : decode cX6_changeBest 84 = .ok (.aload_n 0, 1) := by decide +kernel
theorem dX6_changeBest_85 : decode cX6_changeBest 85 = .ok (.invokevirtual 230, 3) := by decide +kernel
theorem dX6_changeBest_88 : decode cX6_changeBest 88 = .ok (.aload_n 0, 1) := by decide +kernel
theorem dX6_changeBest_89 : decode cX6_changeBest 89 = .ok (.getfield 46, 3) := by decide +kernel
theorem dX6_changeBest_92 : decode cX6_changeBest 92 = .ok (.iload 4, 2) := by decide +kernel
theorem dX6_changeBest_94 : decode cX6_changeBest 94 = .ok (.iload 5, 2) := by decide +kernel
theorem dX6_changeBest_96 : decode cX6_changeBest 96 = .ok (.invokevirtual 208, 3) := by decide +kernel
theorem dX6_changeBest_99 : decode cX6_changeBest 99 = .ok (.aload_n 0, 1) := by decide +kernel
theorem dX6_changeBest_100 : decode cX6_changeBest 100 = .ok (.getfield 52, 3) := by decide +kernel
theorem dX6_changeBest_103 : decode cX6_changeBest 103 = .ok (.aload_n 0, 1) := by decide +kernel
theorem dX6_changeBest_104 : decode cX6_changeBest 104 = .ok (.getfield 46, 3) := by decide +kernel
theorem dX6_changeBest_107 : decode cX6_changeBest 107 = .ok (.bipush 72, 2) := by decide +kernel
theorem dX6_changeBest_109 : decode cX6_changeBest 109 = .ok (.invokevirtual 233, 3) := by decide +kernel
theorem dX6_changeBest_112 : decode cX6_changeBest 112 = .ok (.aload_n 0, 1) := by decide +kernel
theorem dX6_changeBest_113 : decode cX6_changeBest 113 = .ok (.getfield 52, 3) := by decide +kernel
theorem dX6_changeBest_116 : decode cX6_changeBest 116 = .ok (.getfield 237, 3) := by decide +kernel
theorem dX6_changeBest_119 : decode cX6_changeBest 119 = .ok (.iload_n 2, 1) := by decide +kernel
theorem dX6_changeBest_120 : decode cX6_changeBest 120 = .ok (.if_icmp .ge 20, 3) := by decide +kernel
theorem dX6_changeBest_123 : decode cX6_changeBest 123 = .ok (.aload_n 0, 1) := by decide +kernel
theorem dX6_changeBest_124 : decode cX6_changeBest 124 = .ok (.getfield 52, 3) := by decide +kernel
theorem dX6_changeBest_127 : decode cX6_changeBest 127 = .ok (.getfield 237, 3) := by decide +kernel
theorem dX6_changeBest_130 : decode cX6_changeBest 130 = .ok (.istore_n 2, 1) := by decide +kernel
theorem dX6_changeBest_131 : decode cX6_changeBest 131 = .ok (.bipush 10, 2) := by decide +kernel
theorem dX6_changeBest_133 : decode cX6_changeBest 133 = .ok (.iload 4, 2) := by decide +kernel
theorem dX6_changeBest_135 : decode cX6_changeBest 135 = .ok (.imul, 1) := by decide +kernel
theorem dX6_changeBest_136 : decode cX6_changeBest 136 = .ok (.iload 5, 2) := by decide +kernel
theorem dX6_changeBest_138 : decode cX6_changeBest 138 = .ok (.iadd, 1) := by decide +kernel
theorem dX6_changeBest_139 : decode cX6_changeBest 139 = .ok (.istore_n 3, 1) := by decide +kernel
theorem dX6_changeBest_140 : decode cX6_changeBest 140 = .ok (.iinc 5 1, 3) := by decide +kernel
theorem dX6_changeBest_143 : decode cX6_changeBest 143 = .ok (.goto (-85), 3) := by decide +kernel
theorem dX6_changeBest_146 : decode cX6_changeBest 146 = .ok (.iinc 4 1, 3) := by decide +kernel
theorem dX6_changeBest_149 : decode cX6_changeBest 149 = .ok (.goto (-109), 3) := by decide +kernel
theorem dX6_changeBest_152 : decode cX6_changeBest 152 = .ok (.iload_n 1, 1) := by decide +kernel
theorem dX6_changeBest_153 : decode cX6_changeBest 153 = .ok (.ifCond .eq 9, 3) := by decide +kernel
theorem dX6_changeBest_156 : decode cX6_changeBest 156 = .ok (.iload_n 3, 1) := by decide +kernel
theorem dX6_changeBest_157 : decode cX6_changeBest 157 = .ok (.bipush (-2), 2) := by decide +kernel
theorem dX6_changeBest_159 : decode cX6_changeBest 159 = .ok (.if_icmp .ne 7, 3) := by decide +kernel
theorem dX6_changeBest_162 : decode cX6_changeBest 162 = .ok (.iload_n 3, 1) := by decide +kernel
theorem dX6_changeBest_163 : decode cX6_changeBest 163 = .ok (.goto 4, 3) := by decide +kernel
theorem dX6_changeBest_166 : decode cX6_changeBest 166 = .ok (.iload_n 2, 1) := by decide +kernel
theorem dX6_changeBest_167 : decode cX6_changeBest 167 = .ok (.ireturn, 1) := by decide +kernel
theorem dX6_frees_0 : decode cX6_frees 0 = .ok (.aload_n 0, 1) := by decide +kernel
theorem dX6_frees_1 : decode cX6_frees 1 = .ok (.iload_n 1, 1) := by decide +kernel
theorem dX6_frees_2 : decode cX6_frees 2 = .ok (.invokevirtual 102, 3) := by decide +kernel
theorem dX6_frees_5 : decode cX6_frees 5 = .ok (.ifCond .ne 5, 3) := by decide +kernel
theorem dX6_frees_8 : decode cX6_frees 8 = .ok (.iconst (-1), 1) := by decide +kernel
theorem dX6_frees_9 : decode cX6_frees 9 = .ok (.ireturn, 1) := by decide +kernel
theorem dX6_frees_10 : decode cX6_frees 10 = .ok (.aload_n 0, 1) := by decide +kernel
theorem dX6_frees_11 : decode cX6_frees 11 = .ok (.invokevirtual 230, 3) := by decide +kernel
theorem dX6_frees_14 : decode cX6_frees 14 = .ok (.aload_n 0, 1) := by decide +kernel
theorem dX6_frees_15 : decode cX6_frees 15 = .ok (.getfield 46, 3) := by decide +kernel
theorem dX6_frees_18 : decode cX6_frees 18 = .ok (.iload_n 1, 1) := by decide +kernel
theorem dX6_frees_19 : decode cX6_frees 19 = .ok (.invokevirtual 254, 3) := by decide +kernel
theorem dX6_frees_22 : decode cX6_frees 22 = .ok (.aload_n 0, 1) := by decide +kernel
theorem dX6_frees_23 : decode cX6_frees 23 = .ok (.getfield 46, 3) := by decide +kernel
theorem dX6_frees_26 : decode cX6_frees 26 = .ok (.getfield 190, 3) := by decide +kernel
theorem dX6_frees_29 : decode cX6_frees 29 = .ok (.istore_n 2, 1) := by decide +kernel
theorem dX6_frees_30 : decode cX6_frees 30 = .ok (.aload_n 0, 1) := by decide +kernel
theorem dX6_frees_31 : decode cX6_frees 31 = .ok (.getfield 46, 3) := by decide +kernel
theorem dX6_frees_34 : decode cX6_frees 34 = .ok (.invokevirtual 257, 3) := by decide +kernel
theorem dX6_frees_37 : decode cX6_frees 37 = .ok (.aload_n 0, 1) := by decide +kernel
theorem dX6_frees_38 : decode cX6_frees 38 = .ok (.getfield 46, 3) := by decide +kernel
theorem dX6_frees_41 : decode cX6_frees 41 = .ok (.getfield 190, 3) := by decide +kernel
theorem dX6_frees_44 : decode cX6_frees 44 = .ok (.iload_n 2, 1) := by decide +kernel
theorem dX6_frees_45 : decode cX6_frees 45 = .ok (.isub, 1) := by decide +kernel
theorem dX6_frees_46 : decode cX6_frees 46 = .ok (.ireturn, 1) := by decide +kernel
theorem dX6_worst_0 : decode cX6_worst 0 = .ok (.iload_n 1, 1) := by decide +kernel
theorem dX6_worst_1 : decode cX6_worst 1 = .ok (.invokestatic 227, 3) := by decide +kernel
theorem dX6_worst_4 : decode cX6_worst 4 = .ok (.ifCond .eq 10, 3) := by decide +kernel
theorem dX6_worst_7 : decode cX6_worst 7 = .ok (.iload_n 2, 1) := by decide +kernel
theorem dX6_worst_8 : decode cX6_worst 8 = .ok (.invokestatic 247, 3) := by decide +kernel
theorem dX6_worst_11 : decode cX6_worst 11 = .ok (.ifCond .ne 5, 3) := by decide +kernel
theorem dX6_worst_14 : decode cX6_worst 14 = .ok (.iconst (-1), 1) := by decide +kernel
theorem dX6_worst_15 : decode cX6_worst 15 = .ok (.ireturn, 1) := by decide +kernel
theorem dX6_worst_16 : decode cX6_worst 16 = .ok (.aload_n 0, 1) := by decide +kernel
theorem dX6_worst_17 : decode cX6_worst 17 = .ok (.getfield 23, 3) := by decide +kernel
theorem dX6_worst_20 : decode cX6_worst 20 = .ok (.getfield 163, 3) := by decide +kernel
theorem dX6_worst_23 : decode cX6_worst 23 = .ok (.ifCond .ne 6, 3) := by decide +kernel
theorem dX6_worst_26 : decode cX6_worst 26 = .ok (.bipush (-2), 2) := by decide +kernel
theorem dX6_worst_28 : decode cX6_worst 28 = .ok (.ireturn, 1) := by decide +kernel
theorem dX6_worst_29 : decode cX6_worst 29 = .ok (.aload_n 0, 1) := by decide +kernel
theorem dX6_worst_30 : decode cX6_worst 30 = .ok (.invokevirtual 230, 3) := by decide +kernel
theorem dX6_worst_33 : decode cX6_worst 33 = .ok (.aload_n 0, 1) := by decide +kernel
theorem dX6_worst_34 : decode cX6_worst 34 = .ok (.getfield 52, 3) := by decide +kernel
theorem dX6_worst_37 : decode cX6_worst 37 = .ok (.aload_n 0, 1) := by decide +kernel
theorem dX6_worst_38 : decode cX6_worst 38 = .ok (.getfield 46, 3) := by decide +kernel
theorem dX6_worst_41 : decode cX6_worst 41 = .ok (.iload_n 1, 1) := by decide +kernel
theorem dX6_worst_42 : decode cX6_worst 42 = .ok (.invokevirtual 233, 3) := by decide +kernel
theorem dX6_worst_45 : decode cX6_worst 45 = .ok (.iconst 0, 1) := by decide +kernel
theorem dX6_worst_46 : decode cX6_worst 46 = .ok (.istore_n 3, 1) := by decide +kernel
theorem dX6_worst_47 : decode cX6_worst 47 = .ok (.iconst 1, 1) := by decide +kernel
theorem dX6_worst_48 : decode cX6_worst 48 = .ok (.istore 4, 2) := by decide +kernel
theorem dX6_worst_50 : decode cX6_worst 50 = .ok (.iload 4, 2) := by decide +kernel
theorem dX6_worst_52 : decode cX6_worst 52 = .ok (.aload_n 0, 1) := by decide +kernel
theorem dX6_worst_53 : decode cX6_worst 53 = .ok (.getfield 23, 3) := by decide +kernel
theorem dX6_worst_56 : decode cX6_worst 56 = .ok (.getfield 163, 3) := by decide +kernel
theorem dX6_worst_59 : decode cX6_worst 59 = .ok (.if_icmp .ge 34, 3) := by decide +kernel
theorem dX6_worst_62 : decode cX6_worst 62 = .ok (.aload_n 0, 1) := by decide +kernel
theorem dX6_worst_63 : decode cX6_worst 63 = .ok (.getfield 52, 3) := by decide +kernel
theorem dX6_worst_66 : decode cX6_worst 66 = .ok (.getfield 240, 3) := by decide +kernel
theorem dX6_worst_69 : decode cX6_worst 69 = .ok (.iload 4, 2) := by decide +kernel
theorem dX6_worst_71 : decode cX6_worst 71 = .ok (.iaload, 1) := by decide +kernel
theorem dX6_worst_72 : decode cX6_worst 72 = .ok (.aload_n 0, 1) := by decide +kernel
theorem dX6_worst_73 : decode cX6_worst 73 = .ok (.getfield 52, 3) := by decide +kernel
theorem dX6_worst_76 : decode cX6_worst 76 = .ok (.getfield 240, 3) := by decide +kernel
theorem dX6_worst_79 : decode cX6_worst 79 = .ok (.iload_n 3, 1) := by decide +kernel
theorem dX6_worst_80 : decode cX6_worst 80 = .ok (.iaload, 1) := by decide +kernel
theorem dX6_worst_81 : decode cX6_worst 81 = .ok (.if_icmp .le 6, 3) := by decide +kernel
theorem dX6_worst_84 : decode cX6_worst 84 = .ok (.iload 4, 2) := by decide +kernel
theorem dX6_worst_86 : decode cX6_worst 86 = .ok (.istore_n 3, 1) := by decide +kernel
theorem dX6_worst_87 : decode cX6_worst 87 = .ok (.iinc 4 1, 3) := by decide +kernel
theorem dX6_worst_90 : decode cX6_worst 90 = .ok (.goto (-40), 3) := by decide +kernel
theorem dX6_worst_93 : decode cX6_worst 93 = .ok (.iload_n 2, 1) := by decide +kernel
theorem dX6_worst_94 : decode cX6_worst 94 = .ok (.ifCond .ne 7, 3) := by decide +kernel
theorem dX6_worst_97 : decode cX6_worst 97 = .ok (.iload_n 3, 1) := by decide +kernel
theorem dX6_worst_98 : decode cX6_worst 98 = .ok (.goto 12, 3) := by decide +kernel
theorem dX6_worst_101 : decode cX6_worst 101 = .ok (.aload_n 0, 1) := by decide +kernel
theorem dX6_worst_102 : decode cX6_worst 102 = .ok (.getfield 52, 3) := by decide +kernel
theorem dX6_worst_105 : decode cX6_worst 105 = .ok (.getfield 240, 3) := by decide +kernel
theorem dX6_worst_108 : decode cX6_worst 108 = .ok (.iload_n 3, 1) := by decide +kernel
theorem dX6_worst_109 : decode cX6_worst 109 = .ok (.iaload, 1) := by decide +kernel
theorem dX6_worst_110 : decode cX6_worst 110 = .ok (.ireturn, 1) := by decide +kernel
theorem dX6_peak_0 : decode cX6_peak 0 = .ok (.iload_n 1, 1) := by decide +kernel
theorem dX6_peak_1 : decode cX6_peak 1 = .ok (.invokestatic 227, 3) := by decide +kernel
theorem dX6_peak_4 : decode cX6_peak 4 = .ok (.ifCond .eq 10, 3) := by decide +kernel
theorem dX6_peak_7 : decode cX6_peak 7 = .ok (.iload_n 2, 1) := by decide +kernel
theorem dX6_peak_8 : decode cX6_peak 8 = .ok (.invokestatic 247, 3) := by decide +kernel
theorem dX6_peak_11 : decode cX6_peak 11 = .ok (.ifCond .ne 5, 3) := by decide +kernel
theorem dX6_peak_14 : decode cX6_peak 14 = .ok (.iconst (-1), 1) := by decide +kernel
theorem dX6_peak_15 : decode cX6_peak 15 = .ok (.ireturn, 1) := by decide +kernel
theorem dX6_peak_16 : decode cX6_peak 16 = .ok (.aload_n 0, 1) := by decide +kernel
theorem dX6_peak_17 : decode cX6_peak 17 = .ok (.invokevirtual 230, 3) := by decide +kernel
theorem dX6_peak_20 : decode cX6_peak 20 = .ok (.aload_n 0, 1) := by decide +kernel
theorem dX6_peak_21 : decode cX6_peak 21 = .ok (.getfield 52, 3) := by decide +kernel
theorem dX6_peak_24 : decode cX6_peak 24 = .ok (.aload_n 0, 1) := by decide +kernel
theorem dX6_peak_25 : decode cX6_peak 25 = .ok (.getfield 46, 3) := by decide +kernel
theorem dX6_peak_28 : decode cX6_peak 28 = .ok (.iload_n 1, 1) := by decide +kernel
theorem dX6_peak_29 : decode cX6_peak 29 = .ok (.invokevirtual 233, 3) := by decide +kernel
theorem dX6_peak_32 : decode cX6_peak 32 = .ok (.iload_n 2, 1) := by decide +kernel
theorem dX6_peak_33 : decode cX6_peak 33 = .ok (.ifCond .ne 13, 3) := by decide +kernel
theorem dX6_peak_36 : decode cX6_peak 36 = .ok (.aload_n 0, 1) := by decide +kernel
theorem dX6_peak_37 : decode cX6_peak 37 = .ok (.getfield 52, 3) := by decide +kernel
theorem dX6_peak_40 : decode cX6_peak 40 = .ok (.getfield 260, 3) := by decide +kernel
theorem dX6_peak_43 : decode cX6_peak 43 = .ok (.goto 10, 3) := by decide +kernel
theorem dX6_peak_46 : decode cX6_peak 46 = .ok (.aload_n 0, 1) := by decide +kernel
theorem dX6_peak_47 : decode cX6_peak 47 = .ok (.getfield 52, 3) := by decide +kernel
theorem dX6_peak_50 : decode cX6_peak 50 = .ok (.getfield 263, 3) := by decide +kernel
theorem dX6_peak_53 : decode cX6_peak 53 = .ok (.ireturn, 1) := by decide +kernel
theorem dX6_gain_0 : decode cX6_gain 0 = .ok (.aload_n 0, 1) := by decide +kernel
theorem dX6_gain_1 : decode cX6_gain 1 = .ok (.iload_n 1, 1) := by decide +kernel
theorem dX6_gain_2 : decode cX6_gain 2 = .ok (.invokevirtual 141, 3) := by decide +kernel
theorem dX6_gain_5 : decode cX6_gain 5 = .ok (.ifCond .ne 7, 3) := by decide +kernel
theorem dX6_gain_8 : decode cX6_gain 8 = .ok (.ldc_w 266, 3) := by decide +kernel
theorem dX6_gain_11 : decode cX6_gain 11 = .ok (.ireturn, 1) := by decide +kernel
theorem dX6_gain_12 : decode cX6_gain 12 = .ok (.aload_n 0, 1) := by decide +kernel
theorem dX6_gain_13 : decode cX6_gain 13 = .ok (.invokevirtual 230, 3) := by decide +kernel
theorem dX6_gain_16 : decode cX6_gain 16 = .ok (.aload_n 0, 1) := by decide +kernel
theorem dX6_gain_17 : decode cX6_gain 17 = .ok (.getfield 52, 3) := by decide +kernel
theorem dX6_gain_20 : decode cX6_gain 20 = .ok (.aload_n 0, 1) := by decide +kernel
theorem dX6_gain_21 : decode cX6_gain 21 = .ok (.getfield 46, 3) := by decide +kernel
theorem dX6_gain_24 : decode cX6_gain 24 = .ok (.bipush 72, 2) := by decide +kernel
theorem dX6_gain_26 : decode cX6_gain 26 = .ok (.invokevirtual 233, 3) := by decide +kernel
theorem dX6_gain_29 : decode cX6_gain 29 = .ok (.aload_n 0, 1) := by decide +kernel
theorem dX6_gain_30 : decode cX6_gain 30 = .ok (.getfield 52, 3) := by decide +kernel
theorem dX6_gain_33 : decode cX6_gain 33 = .ok (.getfield 237, 3) := by decide +kernel
theorem dX6_gain_36 : decode cX6_gain 36 = .ok (.istore_n 2, 1) := by decide +kernel
theorem dX6_gain_37 : decode cX6_gain 37 = .ok (.aload_n 0, 1) := by decide +kernel
theorem dX6_gain_38 : decode cX6_gain 38 = .ok (.invokevirtual 230, 3) := by decide +kernel
theorem dX6_gain_41 : decode cX6_gain 41 = .ok (.aload_n 0, 1) := by decide +kernel
theorem dX6_gain_42 : decode cX6_gain 42 = .ok (.getfield 46, 3) := by decide +kernel
theorem dX6_gain_45 : decode cX6_gain 45 = .ok (.getfield 147, 3) := by decide +kernel
theorem dX6_gain_48 : decode cX6_gain 48 = .ok (.iload_n 1, 1) := by decide +kernel
theorem dX6_gain_49 : decode cX6_gain 49 = .ok (.aload_n 0, 1) := by decide +kernel
theorem dX6_gain_50 : decode cX6_gain 50 = .ok (.getfield 23, 3) := by decide +kernel
theorem dX6_gain_53 : decode cX6_gain 53 = .ok (.getfield 144, 3) := by decide +kernel
theorem dX6_gain_56 : decode cX6_gain 56 = .ok (.iload_n 1, 1) := by decide +kernel
theorem dX6_gain_57 : decode cX6_gain 57 = .ok (.iaload, 1) := by decide +kernel
theorem dX6_gain_58 : decode cX6_gain 58 = .ok (.iastore, 1) := by decide +kernel
theorem dX6_gain_59 : decode cX6_gain 59 = .ok (.aload_n 0, 1) := by decide +kernel
theorem dX6_gain_60 : decode cX6_gain 60 = .ok (.getfield 52, 3) := by decide +kernel
theorem dX6_gain_63 : decode cX6_gain 63 = .ok (.aload_n 0, 1) := by decide +kernel
theorem dX6_gain_64 : decode cX6_gain 64 = .ok (.getfield 46, 3) := by decide +kernel
theorem dX6_gain_67 : decode cX6_gain 67 = .ok (.bipush 72, 2) := by decide +kernel
theorem dX6_gain_69 : decode cX6_gain 69 = .ok (.invokevirtual 233, 3) := by decide +kernel
theorem dX6_gain_72 : decode cX6_gain 72 = .ok (.iload_n 2, 1) := by decide +kernel
theorem dX6_gain_73 : decode cX6_gain 73 = .ok (.aload_n 0, 1) := by decide +kernel
theorem dX6_gain_74 : decode cX6_gain 74 = .ok (.getfield 52, 3) := by decide +kernel
theorem dX6_gain_77 : decode cX6_gain 77 = .ok (.getfield 237, 3) := by decide +kernel
theorem dX6_gain_80 : decode cX6_gain 80 = .ok (.isub, 1) := by decide +kernel
theorem dX6_gain_81 : decode cX6_gain 81 = .ok (.ireturn, 1) := by decide +kernel
theorem dX6_shut_0 : decode cX6_shut 0 = .ok (.aload_n 0, 1) := by decide +kernel
theorem dX6_shut_1 : decode cX6_shut 1 = .ok (.iload_n 1, 1) := by decide +kernel
theorem dX6_shut_2 : decode cX6_shut 2 = .ok (.invokevirtual 102, 3) := by decide +kernel
theorem dX6_shut_5 : decode cX6_shut 5 = .ok (.ifCond .ne 5, 3) := by decide +kernel
theorem dX6_shut_8 : decode cX6_shut 8 = .ok (.iconst (-1), 1) := by decide +kernel
theorem dX6_shut_9 : decode cX6_shut 9 = .ok (.ireturn, 1) := by decide +kernel
theorem dX6_shut_10 : decode cX6_shut 10 = .ok (.aload_n 0, 1) := by decide +kernel
theorem dX6_shut_11 : decode cX6_shut 11 = .ok (.invokevirtual 230, 3) := by decide +kernel
theorem dX6_shut_14 : decode cX6_shut 14 = .ok (.aload_n 0, 1) := by decide +kernel
theorem dX6_shut_15 : decode cX6_shut 15 = .ok (.getfield 52, 3) := by decide +kernel
theorem dX6_shut_18 : decode cX6_shut 18 = .ok (.aload_n 0, 1) := by decide +kernel
theorem dX6_shut_19 : decode cX6_shut 19 = .ok (.getfield 46, 3) := by decide +kernel
theorem dX6_shut_22 : decode cX6_shut 22 = .ok (.bipush 24, 2) := by decide +kernel
theorem dX6_shut_24 : decode cX6_shut 24 = .ok (.invokevirtual 233, 3) := by decide +kernel
theorem dX6_shut_27 : decode cX6_shut 27 = .ok (.aload_n 0, 1) := by decide +kernel
theorem dX6_shut_28 : decode cX6_shut 28 = .ok (.getfield 52, 3) := by decide +kernel
theorem dX6_shut_31 : decode cX6_shut 31 = .ok (.getfield 267, 3) := by decide +kernel
theorem dX6_shut_34 : decode cX6_shut 34 = .ok (.istore_n 2, 1) := by decide +kernel
theorem dX6_shut_35 : decode cX6_shut 35 = .ok (.aload_n 0, 1) := by decide +kernel
theorem dX6_shut_36 : decode cX6_shut 36 = .ok (.invokevirtual 230, 3) := by decide +kernel
theorem dX6_shut_39 : decode cX6_shut 39 = .ok (.aload_n 0, 1) := by decide +kernel
theorem dX6_shut_40 : decode cX6_shut 40 = .ok (.getfield 46, 3) := by decide +kernel
theorem dX6_shut_43 : decode cX6_shut 43 = .ok (.iload_n 1, 1) := by decide +kernel
theorem dX6_shut_44 : decode cX6_shut 44 = .ok (.invokevirtual 270, 3) := by decide +kernel
theorem dX6_shut_47 : decode cX6_shut 47 = .ok (.aload_n 0, 1) := by decide +kernel
theorem dX6_shut_48 : decode cX6_shut 48 = .ok (.getfield 52, 3) := by decide +kernel
theorem dX6_shut_51 : decode cX6_shut 51 = .ok (.aload_n 0, 1) := by decide +kernel
theorem dX6_shut_52 : decode cX6_shut 52 = .ok (.getfield 46, 3) := by decide +kernel
theorem dX6_shut_55 : decode cX6_shut 55 = .ok (.bipush 24, 2) := by decide +kernel
theorem dX6_shut_57 : decode cX6_shut 57 = .ok (.invokevirtual 233, 3) := by decide +kernel
theorem dX6_shut_60 : decode cX6_shut 60 = .ok (.aload_n 0, 1) := by decide +kernel
theorem dX6_shut_61 : decode cX6_shut 61 = .ok (.getfield 52, 3) := by decide +kernel
theorem dX6_shut_64 : decode cX6_shut 64 = .ok (.getfield 267, 3) := by decide +kernel
theorem dX6_shut_67 : decode cX6_shut 67 = .ok (.iload_n 2, 1) := by decide +kernel
theorem dX6_shut_68 : decode cX6_shut 68 = .ok (.iconst (-1), 1) := by decide +kernel
theorem dX6_shut_69 : decode cX6_shut 69 = .ok (.ixor, 1) := by decide +kernel
theorem dX6_shut_70 : decode cX6_shut 70 = .ok (.iand, 1) := by decide +kernel
theorem dX6_shut_71 : decode cX6_shut 71 = .ok (.ireturn, 1) := by decide +kernel
theorem dX6_startTrial_0 : decode cX6_startTrial 0 = .ok (.aload_n 0, 1) := by decide +kernel
theorem dX6_startTrial_1 : decode cX6_startTrial 1 = .ok (.getfield 46, 3) := by decide +kernel
theorem dX6_startTrial_4 : decode cX6_startTrial 4 = .ok (.aload_n 0, 1) := by decide +kernel
theorem dX6_startTrial_5 : decode cX6_startTrial 5 = .ok (.getfield 42, 3) := by decide +kernel
theorem dX6_startTrial_8 : decode cX6_startTrial 8 = .ok (.invokevirtual 215, 3) := by decide +kernel
theorem dX6_startTrial_11 : decode cX6_startTrial 11 = .ok (.aload_n 0, 1) := by decide +kernel
theorem dX6_startTrial_12 : decode cX6_startTrial 12 = .ok (.getfield 46, 3) := by decide +kernel
theorem dX6_startTrial_15 : decode cX6_startTrial 15 = .ok (.iconst 1, 1) := by decide +kernel
theorem dX6_startTrial_16 : decode cX6_startTrial 16 = .ok (.putfield 273, 3) := by decide +kernel
theorem dX6_startTrial_19 : decode cX6_startTrial 19 = .ok (.return_, 1) := by decide +kernel
theorem dX6_days_0 : decode cX6_days 0 = .ok (.aload_n 0, 1) := by decide +kernel
theorem dX6_days_1 : decode cX6_days 1 = .ok (.iload_n 1, 1) := by decide +kernel
theorem dX6_days_2 : decode cX6_days 2 = .ok (.invokevirtual 141, 3) := by decide +kernel
theorem dX6_days_5 : decode cX6_days 5 = .ok (.ifCond .eq 23, 3) := by decide +kernel
theorem dX6_days_8 : decode cX6_days 8 = .ok (.aload_n 0, 1) := by decide +kernel
theorem dX6_days_9 : decode cX6_days 9 = .ok (.iload_n 2, 1) := by decide +kernel
theorem dX6_days_10 : decode cX6_days 10 = .ok (.invokevirtual 102, 3) := by decide +kernel
theorem dX6_days_13 : decode cX6_days 13 = .ok (.ifCond .eq 15, 3) := by decide +kernel
theorem dX6_days_16 : decode cX6_days 16 = .ok (.aload_n 0, 1) := by decide +kernel
theorem dX6_days_17 : decode cX6_days 17 = .ok (.getfield 42, 3) := by decide +kernel
theorem dX6_days_20 : decode cX6_days 20 = .ok (.iload_n 1, 1) := by decide +kernel
theorem dX6_days_21 : decode cX6_days 21 = .ok (.iload_n 2, 1) := by decide +kernel
theorem dX6_days_22 : decode cX6_days 22 = .ok (.invokevirtual 277, 3) := by decide +kernel
theorem dX6_days_25 : decode cX6_days 25 = .ok (.goto 4, 3) := by decide +kernel
theorem dX6_days_28 : decode cX6_days 28 = .ok (.iconst (-1), 1) := by decide +kernel
theorem dX6_days_29 : decode cX6_days 29 = .ok (.ireturn, 1) := by decide +kernel
theorem dX6_soonest_0 : decode cX6_soonest 0 = .ok (.aload_n 0, 1) := by decide +kernel
theorem dX6_soonest_1 : decode cX6_soonest 1 = .ok (.iload_n 1, 1) := by decide +kernel
theorem dX6_soonest_2 : decode cX6_soonest 2 = .ok (.invokevirtual 102, 3) := by decide +kernel
theorem dX6_soonest_5 : decode cX6_soonest 5 = .ok (.ifCond .eq 10, 3) := by decide +kernel
theorem dX6_soonest_8 : decode cX6_soonest 8 = .ok (.iload_n 2, 1) := by decide +kernel
theorem dX6_soonest_9 : decode cX6_soonest 9 = .ok (.invokestatic 247, 3) := by decide +kernel
theorem dX6_soonest_12 : decode cX6_soonest 12 = .ok (.ifCond .ne 5, 3) := by decide +kernel
theorem dX6_soonest_15 : decode cX6_soonest 15 = .ok (.iconst (-1), 1) := by decide +kernel
theorem dX6_soonest_16 : decode cX6_soonest 16 = .ok (.ireturn, 1) := by decide +kernel
theorem dX6_soonest_17 : decode cX6_soonest 17 = .ok (.bipush (-2), 2) := by decide +kernel
theorem dX6_soonest_19 : decode cX6_soonest 19 = .ok (.istore_n 3, 1) := by decide +kernel
theorem dX6_soonest_20 : decode cX6_soonest 20 = .ok (.bipush (-2), 2) := by decide +kernel
theorem dX6_soonest_22 : decode cX6_soonest 22 = .ok (.istore 4, 2) := by decide +kernel
theorem dX6_soonest_24 : decode cX6_soonest 24 = .ok (.iconst 0, 1) := by decide +kernel
theorem dX6_soonest_25 : decode cX6_soonest 25 = .ok (.istore 5, 2) := by decide +kernel
theorem dX6_soonest_27 : decode cX6_soonest 27 = .ok (.iload 5, 2) := by decide +kernel
theorem dX6_soonest_29 : decode cX6_soonest 29 = .ok (.aload_n 0, 1) := by decide +kernel
theorem dX6_soonest_30 : decode cX6_soonest 30 = .ok (.getfield 23, 3) := by decide +kernel
theorem dX6_soonest_33 : decode cX6_soonest 33 = .ok (.getfield 166, 3) := by decide +kernel
theorem dX6_soonest_36 : decode cX6_soonest 36 = .ok (.if_icmp .ge 55, 3) := by decide +kernel
theorem dX6_soonest_39 : decode cX6_soonest 39 = .ok (.aload_n 0, 1) := by decide +kernel
theorem dX6_soonest_40 : decode cX6_soonest 40 = .ok (.getfield 23, 3) := by decide +kernel
theorem dX6_soonest_43 : decode cX6_soonest 43 = .ok (.getfield 144, 3) := by decide +kernel
theorem dX6_soonest_46 : decode cX6_soonest 46 = .ok (.iload 5, 2) := by decide +kernel
theorem dX6_soonest_48 : decode cX6_soonest 48 = .ok (.iaload, 1) := by decide +kernel
theorem dX6_soonest_49 : decode cX6_soonest 49 = .ok (.iload_n 1, 1) := by decide +kernel
theorem dX6_soonest_50 : decode cX6_soonest 50 = .ok (.if_icmp .ne 35, 3) := by decide +kernel
theorem dX6_soonest_53 : decode cX6_soonest 53 = .ok (.aload_n 0, 1) := by decide +kernel
theorem dX6_soonest_54 : decode cX6_soonest 54 = .ok (.getfield 42, 3) := by decide +kernel
theorem dX6_soonest_57 : decode cX6_soonest 57 = .ok (.iload 5, 2) := by decide +kernel
theorem dX6_soonest_59 : decode cX6_soonest 59 = .ok (.iload_n 1, 1) := by decide +kernel
theorem dX6_soonest_60 : decode cX6_soonest 60 = .ok (.invokevirtual 277, 3) := by decide +kernel
theorem dX6_soonest_63 : decode cX6_soonest 63 = .ok (.istore 6, 2) := by decide +kernel
theorem dX6_soonest_65 : decode cX6_soonest 65 = .ok (.iload_n 3, 1) := by decide +kernel
theorem dX6_soonest_66 : decode cX6_soonest 66 = .ok (.bipush (-2), 2) := by decide +kernel
theorem dX6_soonest_68 : decode cX6_soonest 68 = .ok (.if_icmp .eq 10, 3) := by decide +kernel
theorem dX6_soonest_71 : decode cX6_soonest 71 = .ok (.iload 6, 2) := by decide +kernel
theorem dX6_soonest_73 : decode cX6_soonest 73 = .ok (.iload 4, 2) := by decide +kernel
theorem dX6_soonest_75 : decode cX6_soonest 75 = .ok (.if_icmp .ge 10, 3) := by decide +kernel
theorem dX6_soonest_78 : decode cX6_soonest 78 = .ok (.iload 5, 2) := by decide +kernel
theorem dX6_soonest_80 : decode cX6_soonest 80 = .ok (.istore_n 3, 1) := by decide +kernel
theorem dX6_soonest_81 : decode cX6_soonest 81 = .ok (.iload 6, 2) := by decide +kernel
theorem dX6_soonest_83 : decode cX6_soonest 83 = .ok (.istore 4, 2) := by decide +kernel
theorem dX6_soonest_85 : decode cX6_soonest 85 = .ok (.iinc 5 1, 3) := by decide +kernel
theorem dX6_soonest_88 : decode cX6_soonest 88 = .ok (.goto (-61), 3) := by decide +kernel
theorem dX6_soonest_91 : decode cX6_soonest 91 = .ok (.iload_n 2, 1) := by decide +kernel
theorem dX6_soonest_92 : decode cX6_soonest 92 = .ok (.ifCond .ne 7, 3) := by decide +kernel
theorem dX6_soonest_95 : decode cX6_soonest 95 = .ok (.iload_n 3, 1) := by decide +kernel
theorem dX6_soonest_96 : decode cX6_soonest 96 = .ok (.goto 5, 3) := by decide +kernel
theorem dX6_soonest_99 : decode cX6_soonest 99 = .ok (.iload 4, 2) := by decide +kernel
theorem dX6_soonest_101 : decode cX6_soonest 101 = .ok (.ireturn, 1) := by decide +kernel
theorem dX6_rents_0 : decode cX6_rents 0 = .ok (.iload_n 1, 1) := by decide +kernel
theorem dX6_rents_1 : decode cX6_rents 1 = .ok (.invokestatic 280, 3) := by decide +kernel
theorem dX6_rents_4 : decode cX6_rents 4 = .ok (.ifCond .ne 5, 3) := by decide +kernel
theorem dX6_rents_7 : decode cX6_rents 7 = .ok (.iconst (-1), 1) := by decide +kernel
theorem dX6_rents_8 : decode cX6_rents 8 = .ok (.ireturn, 1) := by decide +kernel
theorem dX6_rents_9 : decode cX6_rents 9 = .ok (.aload_n 0, 1) := by decide +kernel
theorem dX6_rents_10 : decode cX6_rents 10 = .ok (.iload_n 1, 1) := by decide +kernel
theorem dX6_rents_11 : decode cX6_rents 11 = .ok (.aload_n 0, 1) := by decide +kernel
theorem dX6_rents_12 : decode cX6_rents 12 = .ok (.getfield 23, 3) := by decide +kernel
theorem dX6_rents_15 : decode cX6_rents 15 = .ok (.getfield 283, 3) := by decide +kernel
theorem dX6_rents_18 : decode cX6_rents 18 = .ok (.invokevirtual 286, 3) := by decide +kernel
theorem dX6_rents_21 : decode cX6_rents 21 = .ok (.aload_n 0, 1) := by decide +kernel
theorem dX6_rents_22 : decode cX6_rents 22 = .ok (.getfield 46, 3) := by decide +kernel
theorem dX6_rents_25 : decode cX6_rents 25 = .ok (.invokevirtual 199, 3) := by decide +kernel
theorem dX6_rents_28 : decode cX6_rents 28 = .ok (.ireturn, 1) := by decide +kernel
theorem dX6_then_0 : decode cX6_then 0 = .ok (.iload_n 2, 1) := by decide +kernel
theorem dX6_then_1 : decode cX6_then 1 = .ok (.invokestatic 280, 3) := by decide +kernel
theorem dX6_then_4 : decode cX6_then 4 = .ok (.ifCond .eq 25, 3) := by decide +kernel
theorem dX6_then_7 : decode cX6_then 7 = .ok (.iload_n 3, 1) := by decide +kernel
theorem dX6_then_8 : decode cX6_then 8 = .ok (.ifCond .lt 21, 3) := by decide +kernel
theorem dX6_then_11 : decode cX6_then 11 = .ok (.iload_n 3, 1) := by decide +kernel
theorem dX6_then_12 : decode cX6_then 12 = .ok (.iconst 2, 1) := by decide +kernel
theorem dX6_then_13 : decode cX6_then 13 = .ok (.if_icmp .gt 16, 3) := by decide +kernel
theorem dX6_then_16 : decode cX6_then 16 = .ok (.iload_n 3, 1) := by decide +kernel
theorem dX6_then_17 : decode cX6_then 17 = .ok (.iconst 2, 1) := by decide +kernel
theorem dX6_then_18 : decode cX6_then 18 = .ok (.if_icmp .ge 13, 3) := by decide +kernel
theorem dX6_then_21 : decode cX6_then 21 = .ok (.aload_n 0, 1) := by decide +kernel
theorem dX6_then_22 : decode cX6_then 22 = .ok (.iload_n 1, 1) := by decide +kernel
theorem dX6_then_23 : decode cX6_then 23 = .ok (.invokevirtual 102, 3) := by decide +kernel
theorem dX6_then_26 : decode cX6_then 26 = .ok (.ifCond .ne 5, 3) := by decide +kernel
theorem dX6_then_29 : decode cX6_then 29 = .ok (.iconst (-1), 1) := by decide +kernel
theorem dX6_then_30 : decode cX6_then 30 = .ok (.ireturn, 1) := by decide +kernel
theorem dX6_then_31 : decode cX6_then 31 = .ok (.aload_n 0, 1) := by decide +kernel
theorem dX6_then_32 : decode cX6_then 32 = .ok (.iload_n 2, 1) := by decide +kernel
theorem dX6_then_33 : decode cX6_then 33 = .ok (.aload_n 0, 1) := by decide +kernel
theorem dX6_then_34 : decode cX6_then 34 = .ok (.getfield 23, 3) := by decide +kernel
theorem dX6_then_37 : decode cX6_then 37 = .ok (.getfield 283, 3) := by decide +kernel
theorem dX6_then_40 : decode cX6_then 40 = .ok (.invokevirtual 286, 3) := by decide +kernel
theorem dX6_then_43 : decode cX6_then 43 = .ok (.iload_n 3, 1) := by decide +kernel
theorem dX6_then_44 : decode cX6_then 44 = .ok (.iconst 2, 1) := by decide +kernel
theorem dX6_then_45 : decode cX6_then 45 = .ok (.if_icmp .ne 19, 3) := by decide +kernel
theorem dX6_then_48 : decode cX6_then 48 = .ok (.aload_n 0, 1) := by decide +kernel
theorem dX6_then_49 : decode cX6_then 49 = .ok (.getfield 46, 3) := by decide +kernel
theorem dX6_then_52 : decode cX6_then 52 = .ok (.getfield 182, 3) := by decide +kernel
theorem dX6_then_55 : decode cX6_then 55 = .ok (.aload_n 0, 1) := by decide +kernel
theorem dX6_then_56 : decode cX6_then 56 = .ok (.getfield 42, 3) := by decide +kernel
theorem dX6_then_59 : decode cX6_then 59 = .ok (.getfield 182, 3) := by decide +kernel
theorem dX6_then_62 : decode cX6_then 62 = .ok (.isub, 1) := by decide +kernel
theorem dX6_then_63 : decode cX6_then 63 = .ok (.ireturn, 1) := by decide +kernel
theorem dX6_then_64 : decode cX6_then 64 = .ok (.iload_n 3, 1) := by decide +kernel
theorem dX6_then_65 : decode cX6_then 65 = .ok (.ifCond .ne 14, 3) := by decide +kernel
theorem dX6_then_68 : decode cX6_then 68 = .ok (.aload_n 0, 1) := by decide +kernel
theorem dX6_then_69 : decode cX6_then 69 = .ok (.getfield 46, 3) := by decide +kernel
theorem dX6_then_72 : decode cX6_then 72 = .ok (.iload_n 1, 1) := by decide +kernel
theorem dX6_then_73 : decode cX6_then 73 = .ok (.invokevirtual 115, 3) := by decide +kernel
theorem dX6_then_76 : decode cX6_then 76 = .ok (.goto 12, 3) := by decide +kernel
theorem dX6_then_79 : decode cX6_then 79 = .ok (.aload_n 0, 1) := by decide +kernel
theorem dX6_then_80 : decode cX6_then 80 = .ok (.getfield 46, 3) := by decide +kernel
theorem dX6_then_83 : decode cX6_then 83 = .ok (.getfield 119, 3) := by decide +kernel
theorem dX6_then_86 : decode cX6_then 86 = .ok (.iload_n 1, 1) := by decide +kernel
theorem dX6_then_87 : decode cX6_then 87 = .ok (.iaload, 1) := by decide +kernel
theorem dX6_then_88 : decode cX6_then 88 = .ok (.ireturn, 1) := by decide +kernel
theorem dX6_year_0 : decode cX6_year 0 = .ok (.iload_n 1, 1) := by decide +kernel
theorem dX6_year_1 : decode cX6_year 1 = .ok (.invokestatic 280, 3) := by decide +kernel
theorem dX6_year_4 : decode cX6_year 4 = .ok (.ifCond .eq 14, 3) := by decide +kernel
theorem dX6_year_7 : decode cX6_year 7 = .ok (.iload_n 2, 1) := by decide +kernel
theorem dX6_year_8 : decode cX6_year 8 = .ok (.iconst 1, 1) := by decide +kernel
theorem dX6_year_9 : decode cX6_year 9 = .ok (.if_icmp .lt 9, 3) := by decide +kernel
theorem dX6_year_12 : decode cX6_year 12 = .ok (.iload_n 2, 1) := by decide +kernel
theorem dX6_year_13 : decode cX6_year 13 = .ok (.bipush 20, 2) := by decide +kernel
theorem dX6_year_15 : decode cX6_year 15 = .ok (.if_icmp .le 5, 3) := by decide +kernel
theorem dX6_year_18 : decode cX6_year 18 = .ok (.iconst (-1), 1) := by decide +kernel
theorem dX6_year_19 : decode cX6_year 19 = .ok (.ireturn, 1) := by decide +kernel
theorem dX6_year_20 : decode cX6_year 20 = .ok (.iconst 0, 1) := by decide +kernel
theorem dX6_year_21 : decode cX6_year 21 = .ok (.istore_n 3, 1) := by decide +kernel
theorem dX6_year_22 : decode cX6_year 22 = .ok (.iconst 0, 1) := by decide +kernel
theorem dX6_year_23 : decode cX6_year 23 = .ok (.istore 4, 2) := by decide +kernel
theorem dX6_year_25 : decode cX6_year 25 = .ok (.iload 4, 2) := by decide +kernel
theorem dX6_year_27 : decode cX6_year 27 = .ok (.iload_n 2, 1) := by decide +kernel
theorem dX6_year_28 : decode cX6_year 28 = .ok (.if_icmp .ge 37, 3) := by decide +kernel
theorem dX6_year_31 : decode cX6_year 31 = .ok (.aload_n 0, 1) := by decide +kernel
theorem dX6_year_32 : decode cX6_year 32 = .ok (.iload_n 1, 1) := by decide +kernel
theorem dX6_year_33 : decode cX6_year 33 = .ok (.aload_n 0, 1) := by decide +kernel
theorem dX6_year_34 : decode cX6_year 34 = .ok (.getfield 23, 3) := by decide +kernel
theorem dX6_year_37 : decode cX6_year 37 = .ok (.getfield 283, 3) := by decide +kernel
theorem dX6_year_40 : decode cX6_year 40 = .ok (.iload 4, 2) := by decide +kernel
theorem dX6_year_42 : decode cX6_year 42 = .ok (.iadd, 1) := by decide +kernel
theorem dX6_year_43 : decode cX6_year 43 = .ok (.invokevirtual 286, 3) := by decide +kernel
theorem dX6_year_46 : decode cX6_year 46 = .ok (.aload_n 0, 1) := by decide +kernel
theorem dX6_year_47 : decode cX6_year 47 = .ok (.getfield 46, 3) := by decide +kernel
theorem dX6_year_50 : decode cX6_year 50 = .ok (.getfield 179, 3) := by decide +kernel
theorem dX6_year_53 : decode cX6_year 53 = .ok (.ifCond .ne 6, 3) := by decide +kernel
theorem dX6_year_56 : decode cX6_year 56 = .ok (.iinc 3 1, 3) := by decide +kernel
theorem dX6_year_59 : decode cX6_year 59 = .ok (.iinc 4 1, 3) := by decide +kernel
theorem dX6_year_62 : decode cX6_year 62 = .ok (.goto (-37), 3) := by decide +kernel
theorem dX6_year_65 : decode cX6_year 65 = .ok (.iload_n 3, 1) := by decide +kernel
theorem dX6_year_66 : decode cX6_year 66 = .ok (.ireturn, 1) := by decide +kernel
theorem dX6_tryHours_0 : decode cX6_tryHours 0 = .ok (.aload_n 0, 1) := by decide +kernel
theorem dX6_tryHours_1 : decode cX6_tryHours 1 = .ok (.getfield 46, 3) := by decide +kernel
theorem dX6_tryHours_4 : decode cX6_tryHours 4 = .ok (.aload_n 0, 1) := by decide +kernel
theorem dX6_tryHours_5 : decode cX6_tryHours 5 = .ok (.getfield 42, 3) := by decide +kernel
theorem dX6_tryHours_8 : decode cX6_tryHours 8 = .ok (.invokevirtual 215, 3) := by decide +kernel
theorem dX6_tryHours_11 : decode cX6_tryHours 11 = .ok (.aload_n 0, 1) := by decide +kernel
theorem dX6_tryHours_12 : decode cX6_tryHours 12 = .ok (.getfield 46, 3) := by decide +kernel
theorem dX6_tryHours_15 : decode cX6_tryHours 15 = .ok (.iload_n 2, 1) := by decide +kernel
theorem dX6_tryHours_16 : decode cX6_tryHours 16 = .ok (.putfield 289, 3) := by decide +kernel
theorem dX6_tryHours_19 : decode cX6_tryHours 19 = .ok (.iconst 0, 1) := by decide +kernel
theorem dX6_tryHours_20 : decode cX6_tryHours 20 = .ok (.istore_n 3, 1) := by decide +kernel
theorem dX6_tryHours_21 : decode cX6_tryHours 21 = .ok (.iload_n 3, 1) := by decide +kernel
theorem dX6_tryHours_22 : decode cX6_tryHours 22 = .ok (.iload_n 1, 1) := by decide +kernel
theorem dX6_tryHours_23 : decode cX6_tryHours 23 = .ok (.if_icmp .ge 16, 3) := by decide +kernel
theorem dX6_tryHours_26 : decode cX6_tryHours 26 = .ok (.aload_n 0, 1) := by decide +kernel
theorem dX6_tryHours_27 : decode cX6_tryHours 27 = .ok (.getfield 46, 3) := by decide +kernel
theorem dX6_tryHours_30 : decode cX6_tryHours 30 = .ok (.invokevirtual 212, 3) := by decide +kernel
theorem dX6_tryHours_33 : decode cX6_tryHours 33 = .ok (.iinc 3 1, 3) := by decide +kernel
theorem dX6_tryHours_36 : decode cX6_tryHours 36 = .ok (.goto (-15), 3) := by decide +kernel
theorem dX6_tryHours_39 : decode cX6_tryHours 39 = .ok (.return_, 1) := by decide +kernel
theorem dX6_tell_0 : decode cX6_tell 0 = .ok (.aload_n 0, 1) := by decide +kernel
theorem dX6_tell_1 : decode cX6_tell 1 = .ok (.iload_n 1, 1) := by decide +kernel
theorem dX6_tell_2 : decode cX6_tell 2 = .ok (.invokevirtual 102, 3) := by decide +kernel
theorem dX6_tell_5 : decode cX6_tell 5 = .ok (.ifCond .eq 12, 3) := by decide +kernel
theorem dX6_tell_8 : decode cX6_tell 8 = .ok (.aload_n 0, 1) := by decide +kernel
theorem dX6_tell_9 : decode cX6_tell 9 = .ok (.getfield 79, 3) := by decide +kernel
theorem dX6_tell_12 : decode cX6_tell 12 = .ok (.bipush 20, 2) := by decide +kernel
theorem dX6_tell_14 : decode cX6_tell 14 = .ok (.if_icmp .lt 5, 3) := by decide +kernel
theorem dX6_tell_17 : decode cX6_tell 17 = .ok (.iconst (-1), 1) := by decide +kernel
theorem dX6_tell_18 : decode cX6_tell 18 = .ok (.ireturn, 1) := by decide +kernel
theorem dX6_tell_19 : decode cX6_tell 19 = .ok (.aload_n 0, 1) := by decide +kernel
theorem dX6_tell_20 : decode cX6_tell 20 = .ok (.getfield 79, 3) := by decide +kernel
theorem dX6_tell_23 : decode cX6_tell 23 = .ok (.istore_n 3, 1) := by decide +kernel
theorem dX6_tell_24 : decode cX6_tell 24 = .ok (.aload_n 0, 1) := by decide +kernel
theorem dX6_tell_25 : decode cX6_tell 25 = .ok (.getfield 72, 3) := by decide +kernel
theorem dX6_tell_28 : decode cX6_tell 28 = .ok (.iload_n 3, 1) := by decide +kernel
theorem dX6_tell_29 : decode cX6_tell 29 = .ok (.iload_n 1, 1) := by decide +kernel
theorem dX6_tell_30 : decode cX6_tell 30 = .ok (.iastore, 1) := by decide +kernel
theorem dX6_tell_31 : decode cX6_tell 31 = .ok (.aload_n 0, 1) := by decide +kernel
theorem dX6_tell_32 : decode cX6_tell 32 = .ok (.iload_n 2, 1) := by decide +kernel
theorem dX6_tell_33 : decode cX6_tell 33 = .ok (.ifCond .eq 14, 3) := by decide +kernel
theorem dX6_tell_36 : decode cX6_tell 36 = .ok (.aload_n 0, 1) := by decide +kernel
theorem dX6_tell_37 : decode cX6_tell 37 = .ok (.getfield 76, 3) := by decide +kernel
theorem dX6_tell_40 : decode cX6_tell 40 = .ok (.iconst 1, 1) := by decide +kernel
theorem dX6_tell_41 : decode cX6_tell 41 = .ok (.iload_n 3, 1) := by decide +kernel
theorem dX6_tell_42 : decode cX6_tell 42 = .ok (.ishl, 1) := by decide +kernel
theorem dX6_tell_43 : decode cX6_tell 43 = .ok (.ior, 1) := by decide +kernel
theorem dX6_tell_44 : decode cX6_tell 44 = .ok (.goto 13, 3) := by decide +kernel
theorem dX6_tell_47 : decode cX6_tell 47 = .ok (.aload_n 0, 1) := by decide +kernel
theorem dX6_tell_48 : decode cX6_tell 48 = .ok (.getfield 76, 3) := by decide +kernel
theorem dX6_tell_51 : decode cX6_tell 51 = .ok (.iconst 1, 1) := by decide +kernel
theorem dX6_tell_52 : decode cX6_tell 52 = .ok (.iload_n 3, 1) := by decide +kernel
theorem dX6_tell_53 : decode cX6_tell 53 = .ok (.ishl, 1) := by decide +kernel
theorem dX6_tell_54 : decode cX6_tell 54 = .ok (.iconst (-1), 1) := by decide +kernel
theorem dX6_tell_55 : decode cX6_tell 55 = .ok (.ixor, 1) := by decide +kernel
theorem dX6_tell_56 : decode cX6_tell 56 = .ok (.iand, 1) := by decide +kernel
theorem dX6_tell_57 : decode cX6_tell 57 = .ok (.putfield 76, 3) := by decide +kernel
theorem dX6_tell_60 : decode cX6_tell 60 = .ok (.aload_n 0, 1) := by decide +kernel
theorem dX6_tell_61 : decode cX6_tell 61 = .ok (.dup, 1) := by decide +kernel
theorem dX6_tell_62 : decode cX6_tell 62 = .ok (.getfield 79, 3) := by decide +kernel
theorem dX6_tell_65 : decode cX6_tell 65 = .ok (.iconst 1, 1) := by decide +kernel
theorem dX6_tell_66 : decode cX6_tell 66 = .ok (.iadd, 1) := by decide +kernel
theorem dX6_tell_67 : decode cX6_tell 67 = .ok (.putfield 79, 3) := by decide +kernel
theorem dX6_tell_70 : decode cX6_tell 70 = .ok (.iload_n 3, 1) := by decide +kernel
theorem dX6_tell_71 : decode cX6_tell 71 = .ok (.ireturn, 1) := by decide +kernel
theorem dX6_forget_0 : decode cX6_forget 0 = .ok (.aload_n 0, 1) := by decide +kernel
theorem dX6_forget_1 : decode cX6_forget 1 = .ok (.getfield 79, 3) := by decide +kernel
theorem dX6_forget_4 : decode cX6_forget 4 = .ok (.istore_n 1, 1) := by decide +kernel
theorem dX6_forget_5 : decode cX6_forget 5 = .ok (.aload_n 0, 1) := by decide +kernel
theorem dX6_forget_6 : decode cX6_forget 6 = .ok (.iconst 0, 1) := by decide +kernel
theorem dX6_forget_7 : decode cX6_forget 7 = .ok (.putfield 79, 3) := by decide +kernel
theorem dX6_forget_10 : decode cX6_forget 10 = .ok (.iload_n 1, 1) := by decide +kernel
theorem dX6_forget_11 : decode cX6_forget 11 = .ok (.ireturn, 1) := by decide +kernel
theorem dX6_overslept_0 : decode cX6_overslept 0 = .ok (.iload_n 1, 1) := by decide +kernel
theorem dX6_overslept_1 : decode cX6_overslept 1 = .ok (.ifCond .lt 18, 3) := by decide +kernel
theorem dX6_overslept_4 : decode cX6_overslept 4 = .ok (.iload_n 1, 1) := by decide +kernel
theorem dX6_overslept_5 : decode cX6_overslept 5 = .ok (.aload_n 0, 1) := by decide +kernel
theorem dX6_overslept_6 : decode cX6_overslept 6 = .ok (.getfield 79, 3) := by decide +kernel
theorem dX6_overslept_9 : decode cX6_overslept 9 = .ok (.if_icmp .gt 10, 3) := by decide +kernel
theorem dX6_overslept_12 : decode cX6_overslept 12 = .ok (.iload_n 2, 1) := by decide +kernel
theorem dX6_overslept_13 : decode cX6_overslept 13 = .ok (.invokestatic 247, 3) := by decide +kernel
theorem dX6_overslept_16 : decode cX6_overslept 16 = .ok (.ifCond .ne 5, 3) := by decide +kernel
theorem dX6_overslept_19 : decode cX6_overslept 19 = .ok (.iconst (-1), 1) := by decide +kernel
theorem dX6_overslept_20 : decode cX6_overslept 20 = .ok (.ireturn, 1) := by decide +kernel
theorem dX6_overslept_21 : decode cX6_overslept 21 = .ok (.iconst 0, 1) := by decide +kernel
theorem dX6_overslept_22 : decode cX6_overslept 22 = .ok (.istore_n 3, 1) := by decide +kernel
theorem dX6_overslept_23 : decode cX6_overslept 23 = .ok (.iconst 0, 1) := by decide +kernel
theorem dX6_overslept_24 : decode cX6_overslept 24 = .ok (.istore 4, 2) := by decide +kernel
theorem dX6_overslept_26 : decode cX6_overslept 26 = .ok (.iload 4, 2) := by decide +kernel
theorem dX6_overslept_28 : decode cX6_overslept 28 = .ok (.aload_n 0, 1) := by decide +kernel
theorem dX6_overslept_29 : decode cX6_overslept 29 = .ok (.getfield 23, 3) := by decide +kernel
theorem dX6_overslept_32 : decode cX6_overslept 32 = .ok (.getfield 163, 3) := by decide +kernel
theorem dX6_overslept_35 : decode cX6_overslept 35 = .ok (.if_icmp .ge 61, 3) := by decide +kernel
theorem dX6_overslept_38 : decode cX6_overslept 38 = .ok (.aload_n 0, 1) := by decide +kernel
theorem dX6_overslept_39 : decode cX6_overslept 39 = .ok (.invokevirtual 230, 3) := by decide +kernel
theorem dX6_overslept_42 : decode cX6_overslept 42 = .ok (.aload_n 0, 1) := by decide +kernel
theorem dX6_overslept_43 : decode cX6_overslept 43 = .ok (.getfield 46, 3) := by decide +kernel
theorem dX6_overslept_46 : decode cX6_overslept 46 = .ok (.iload 4, 2) := by decide +kernel
theorem dX6_overslept_48 : decode cX6_overslept 48 = .ok (.invokevirtual 270, 3) := by decide +kernel
theorem dX6_overslept_51 : decode cX6_overslept 51 = .ok (.aload_n 0, 1) := by decide +kernel
theorem dX6_overslept_52 : decode cX6_overslept 52 = .ok (.getfield 52, 3) := by decide +kernel
theorem dX6_overslept_55 : decode cX6_overslept 55 = .ok (.aload_n 0, 1) := by decide +kernel
theorem dX6_overslept_56 : decode cX6_overslept 56 = .ok (.getfield 46, 3) := by decide +kernel
theorem dX6_overslept_59 : decode cX6_overslept 59 = .ok (.bipush 24, 2) := by decide +kernel
theorem dX6_overslept_61 : decode cX6_overslept 61 = .ok (.invokevirtual 233, 3) := by decide +kernel
theorem dX6_overslept_64 : decode cX6_overslept 64 = .ok (.iload_n 3, 1) := by decide +kernel
theorem dX6_overslept_65 : decode cX6_overslept 65 = .ok (.aload_n 0, 1) := by decide +kernel
theorem dX6_overslept_66 : decode cX6_overslept 66 = .ok (.aload_n 0, 1) := by decide +kernel
theorem dX6_overslept_67 : decode cX6_overslept 67 = .ok (.getfield 52, 3) := by decide +kernel
theorem dX6_overslept_70 : decode cX6_overslept 70 = .ok (.getfield 267, 3) := by decide +kernel
theorem dX6_overslept_73 : decode cX6_overslept 73 = .ok (.iload_n 1, 1) := by decide +kernel
theorem dX6_overslept_74 : decode cX6_overslept 74 = .ok (.invokevirtual 290, 3) := by decide +kernel
theorem dX6_overslept_77 : decode cX6_overslept 77 = .ok (.ifCond .eq 10, 3) := by decide +kernel
theorem dX6_overslept_80 : decode cX6_overslept 80 = .ok (.iconst 1, 1) := by decide +kernel
theorem dX6_overslept_81 : decode cX6_overslept 81 = .ok (.iload 4, 2) := by decide +kernel
theorem dX6_overslept_83 : decode cX6_overslept 83 = .ok (.ishl, 1) := by decide +kernel
theorem dX6_overslept_84 : decode cX6_overslept 84 = .ok (.goto 4, 3) := by decide +kernel
theorem dX6_overslept_87 : decode cX6_overslept 87 = .ok (.iconst 0, 1) := by decide +kernel
theorem dX6_overslept_88 : decode cX6_overslept 88 = .ok (.ior, 1) := by decide +kernel
theorem dX6_overslept_89 : decode cX6_overslept 89 = .ok (.istore_n 3, 1) := by decide +kernel
theorem dX6_overslept_90 : decode cX6_overslept 90 = .ok (.iinc 4 1, 3) := by decide +kernel
theorem dX6_overslept_93 : decode cX6_overslept 93 = .ok (.goto (-67), 3) := by decide +kernel
theorem dX6_overslept_96 : decode cX6_overslept 96 = .ok (.iload_n 2, 1) := by decide +kernel
theorem dX6_overslept_97 : decode cX6_overslept 97 = .ok (.ifCond .ne 10, 3) := by decide +kernel
theorem dX6_overslept_100 : decode cX6_overslept 100 = .ok (.iload_n 3, 1) := by decide +kernel
theorem dX6_overslept_101 : decode cX6_overslept 101 = .ok (.invokestatic 185, 3) := by decide +kernel
theorem dX6_overslept_104 : decode cX6_overslept 104 = .ok (.goto 4, 3) := by decide +kernel
theorem dX6_overslept_107 : decode cX6_overslept 107 = .ok (.iload_n 3, 1) := by decide +kernel
theorem dX6_overslept_108 : decode cX6_overslept 108 = .ok (.ireturn, 1) := by decide +kernel
theorem dX6_ask_0 : decode cX6_ask 0 = .ok (.iload_n 1, 1) := by decide +kernel
theorem dX6_ask_1 : decode cX6_ask 1 = .ok (.ifCond .lt 11, 3) := by decide +kernel
theorem dX6_ask_4 : decode cX6_ask 4 = .ok (.iload_n 1, 1) := by decide +kernel
theorem dX6_ask_5 : decode cX6_ask 5 = .ok (.aload_n 0, 1) := by decide +kernel
theorem dX6_ask_6 : decode cX6_ask 6 = .ok (.getfield 79, 3) := by decide +kernel
theorem dX6_ask_9 : decode cX6_ask 9 = .ok (.if_icmp .le 5, 3) := by decide +kernel
theorem dX6_ask_12 : decode cX6_ask 12 = .ok (.iconst (-1), 1) := by decide +kernel
theorem dX6_ask_13 : decode cX6_ask 13 = .ok (.ireturn, 1) := by decide +kernel
theorem dX6_ask_14 : decode cX6_ask 14 = .ok (.iconst 0, 1) := by decide +kernel
theorem dX6_ask_15 : decode cX6_ask 15 = .ok (.istore_n 2, 1) := by decide +kernel
theorem dX6_ask_16 : decode cX6_ask 16 = .ok (.iconst 0, 1) := by decide +kernel
theorem dX6_ask_17 : decode cX6_ask 17 = .ok (.istore_n 3, 1) := by decide +kernel
theorem dX6_ask_18 : decode cX6_ask 18 = .ok (.iload_n 3, 1) := by decide +kernel
theorem dX6_ask_19 : decode cX6_ask 19 = .ok (.aload_n 0, 1) := by decide +kernel
theorem dX6_ask_20 : decode cX6_ask 20 = .ok (.getfield 23, 3) := by decide +kernel
theorem dX6_ask_23 : decode cX6_ask 23 = .ok (.getfield 163, 3) := by decide +kernel
theorem dX6_ask_26 : decode cX6_ask 26 = .ok (.if_icmp .ge 72, 3) := by decide +kernel
theorem dX6_ask_29 : decode cX6_ask 29 = .ok (.aload_n 0, 1) := by decide +kernel
theorem dX6_ask_30 : decode cX6_ask 30 = .ok (.invokevirtual 230, 3) := by decide +kernel
theorem dX6_ask_33 : decode cX6_ask 33 = .ok (.aload_n 0, 1) := by decide +kernel
theorem dX6_ask_34 : decode cX6_ask 34 = .ok (.getfield 46, 3) := by decide +kernel
theorem dX6_ask_37 : decode cX6_ask 37 = .ok (.iload_n 3, 1) := by decide +kernel
theorem dX6_ask_38 : decode cX6_ask 38 = .ok (.invokevirtual 270, 3) := by decide +kernel
theorem dX6_ask_41 : decode cX6_ask 41 = .ok (.aload_n 0, 1) := by decide +kernel
theorem dX6_ask_42 : decode cX6_ask 42 = .ok (.getfield 52, 3) := by decide +kernel
theorem dX6_ask_45 : decode cX6_ask 45 = .ok (.aload_n 0, 1) := by decide +kernel
theorem dX6_ask_46 : decode cX6_ask 46 = .ok (.getfield 46, 3) := by decide +kernel
theorem dX6_ask_49 : decode cX6_ask 49 = .ok (.bipush 24, 2) := by decide +kernel
theorem dX6_ask_51 : decode cX6_ask 51 = .ok (.invokevirtual 233, 3) := by decide +kernel
theorem dX6_ask_54 : decode cX6_ask 54 = .ok (.aload_n 0, 1) := by decide +kernel
theorem dX6_ask_55 : decode cX6_ask 55 = .ok (.getfield 82, 3) := by decide +kernel
theorem dX6_ask_58 : decode cX6_ask 58 = .ok (.iload_n 3, 1) := by decide +kernel
theorem dX6_ask_59 : decode cX6_ask 59 = .ok (.aload_n 0, 1) := by decide +kernel
theorem dX6_ask_60 : decode cX6_ask 60 = .ok (.getfield 52, 3) := by decide +kernel
theorem dX6_ask_63 : decode cX6_ask 63 = .ok (.getfield 267, 3) := by decide +kernel
theorem dX6_ask_66 : decode cX6_ask 66 = .ok (.iastore, 1) := by decide +kernel
theorem dX6_ask_67 : decode cX6_ask 67 = .ok (.iload_n 2, 1) := by decide +kernel
theorem dX6_ask_68 : decode cX6_ask 68 = .ok (.aload_n 0, 1) := by decide +kernel
theorem dX6_ask_69 : decode cX6_ask 69 = .ok (.aload_n 0, 1) := by decide +kernel
theorem dX6_ask_70 : decode cX6_ask 70 = .ok (.getfield 52, 3) := by decide +kernel
theorem dX6_ask_73 : decode cX6_ask 73 = .ok (.getfield 267, 3) := by decide +kernel
theorem dX6_ask_76 : decode cX6_ask 76 = .ok (.iload_n 1, 1) := by decide +kernel
theorem dX6_ask_77 : decode cX6_ask 77 = .ok (.invokevirtual 290, 3) := by decide +kernel
theorem dX6_ask_80 : decode cX6_ask 80 = .ok (.ifCond .eq 9, 3) := by decide +kernel
theorem dX6_ask_83 : decode cX6_ask 83 = .ok (.iconst 1, 1) := by decide +kernel
theorem dX6_ask_84 : decode cX6_ask 84 = .ok (.iload_n 3, 1) := by decide +kernel
theorem dX6_ask_85 : decode cX6_ask 85 = .ok (.ishl, 1) := by decide +kernel
theorem dX6_ask_86 : decode cX6_ask 86 = .ok (.goto 4, 3) := by decide +kernel
theorem dX6_ask_89 : decode cX6_ask 89 = .ok (.iconst 0, 1) := by decide +kernel
theorem dX6_ask_90 : decode cX6_ask 90 = .ok (.ior, 1) := by decide +kernel
theorem dX6_ask_91 : decode cX6_ask 91 = .ok (.istore_n 2, 1) := by decide +kernel
theorem dX6_ask_92 : decode cX6_ask 92 = .ok (.iinc 3 1, 3) := by decide +kernel
theorem dX6_ask_95 : decode cX6_ask 95 = .ok (.goto (-77), 3) := by decide +kernel
theorem dX6_ask_98 : decode cX6_ask 98 = .ok (.iload_n 2, 1) := by decide +kernel
theorem dX6_ask_99 : decode cX6_ask 99 = .ok (.ifCond .ne 8, 3) := by decide +kernel
theorem dX6_ask_102 : decode cX6_ask 102 = .ok (.bipush (-2), 2) := by decide +kernel
theorem dX6_ask_104 : decode cX6_ask 104 = .ok (.goto 8, 3) := by decide +kernel
theorem dX6_ask_107 : decode cX6_ask 107 = .ok (.aload_n 0, 1) := by decide +kernel
theorem dX6_ask_108 : decode cX6_ask 108 = .ok (.iload_n 2, 1) := by decide +kernel
theorem dX6_ask_109 : decode cX6_ask 109 = .ok (.invokevirtual 293, 3) := by decide +kernel
theorem dX6_ask_112 : decode cX6_ask 112 = .ok (.ireturn, 1) := by decide +kernel
theorem dX6_bestToAsk_0 : decode cX6_bestToAsk 0 = .ok (.iconst 0, 1) := by decide +kernel
theorem dX6_bestToAsk_1 : decode cX6_bestToAsk 1 = .ok (.istore_n 2, 1) := by decide +kernel
theorem dX6_bestToAsk_2 : decode cX6_bestToAsk 2 = .ok (.ldc 250, 2) := by decide +kernel
theorem dX6_bestToAsk_4 : decode cX6_bestToAsk 4 = .ok (.istore_n 3, 1) := by decide +kernel
theorem dX6_bestToAsk_5 : decode cX6_bestToAsk 5 = .ok (.iload_n 1, 1) := by decide +kernel
theorem dX6_bestToAsk_6 : decode cX6_bestToAsk 6 = .ok (.invokestatic 185, 3) := by decide +kernel
theorem dX6_bestToAsk_9 : decode cX6_bestToAsk 9 = .ok (.istore 4, 2) := by decide +kernel
theorem dX6_bestToAsk_11 : decode cX6_bestToAsk 11 = .ok (.iconst 0, 1) := by decide +kernel
theorem dX6_bestToAsk_12 : decode cX6_bestToAsk 12 = .ok (.istore 5, 2) := by decide +kernel
theorem dX6_bestToAsk_14 : decode cX6_bestToAsk 14 = .ok (.iload 5, 2) := by decide +kernel
theorem dX6_bestToAsk_16 : decode cX6_bestToAsk 16 = .ok (.aload_n 0, 1) := by decide +kernel
theorem dX6_bestToAsk_17 : decode cX6_bestToAsk 17 = .ok (.getfield 23, 3) := by decide +kernel
theorem dX6_bestToAsk_20 : decode cX6_bestToAsk 20 = .ok (.getfield 163, 3) := by decide +kernel
theorem dX6_bestToAsk_23 : decode cX6_bestToAsk 23 = .ok (.if_icmp .ge 42, 3) := by decide +kernel
theorem dX6_bestToAsk_26 : decode cX6_bestToAsk 26 = .ok (.aload_n 0, 1) := by decide +kernel
theorem dX6_bestToAsk_27 : decode cX6_bestToAsk 27 = .ok (.iload_n 1, 1) := by decide +kernel
theorem dX6_bestToAsk_28 : decode cX6_bestToAsk 28 = .ok (.iload 5, 2) := by decide +kernel
theorem dX6_bestToAsk_30 : decode cX6_bestToAsk 30 = .ok (.invokevirtual 296, 3) := by decide +kernel
theorem dX6_bestToAsk_33 : decode cX6_bestToAsk 33 = .ok (.istore 6, 2) := by decide +kernel
theorem dX6_bestToAsk_35 : decode cX6_bestToAsk 35 = .ok (.iload 6, 2) := by decide +kernel
theorem dX6_bestToAsk_37 : decode cX6_bestToAsk 37 = .ok (.iload 4, 2) := by decide +kernel
theorem dX6_bestToAsk_39 : decode cX6_bestToAsk 39 = .ok (.iload 6, 2) := by decide +kernel
theorem dX6_bestToAsk_41 : decode cX6_bestToAsk 41 = .ok (.isub, 1) := by decide +kernel
theorem dX6_bestToAsk_42 : decode cX6_bestToAsk 42 = .ok (.invokestatic 299, 3) := by decide +kernel
theorem dX6_bestToAsk_45 : decode cX6_bestToAsk 45 = .ok (.istore 7, 2) := by decide +kernel
theorem dX6_bestToAsk_47 : decode cX6_bestToAsk 47 = .ok (.iload 7, 2) := by decide +kernel
theorem dX6_bestToAsk_49 : decode cX6_bestToAsk 49 = .ok (.iload_n 3, 1) := by decide +kernel
theorem dX6_bestToAsk_50 : decode cX6_bestToAsk 50 = .ok (.if_icmp .ge 9, 3) := by decide +kernel
theorem dX6_bestToAsk_53 : decode cX6_bestToAsk 53 = .ok (.iload 7, 2) := by decide +kernel
theorem dX6_bestToAsk_55 : decode cX6_bestToAsk 55 = .ok (.istore_n 3, 1) := by decide +kernel
theorem dX6_bestToAsk_56 : decode cX6_bestToAsk 56 = .ok (.iload 5, 2) := by decide +kernel
theorem dX6_bestToAsk_58 : decode cX6_bestToAsk 58 = .ok (.istore_n 2, 1) := by decide +kernel
theorem dX6_bestToAsk_59 : decode cX6_bestToAsk 59 = .ok (.iinc 5 1, 3) := by decide +kernel
theorem dX6_bestToAsk_62 : decode cX6_bestToAsk 62 = .ok (.goto (-48), 3) := by decide +kernel
theorem dX6_bestToAsk_65 : decode cX6_bestToAsk 65 = .ok (.iload_n 2, 1) := by decide +kernel
theorem dX6_bestToAsk_66 : decode cX6_bestToAsk 66 = .ok (.ireturn, 1) := by decide +kernel
theorem dX6_agrees_0 : decode cX6_agrees 0 = .ok (.iconst 0, 1) := by decide +kernel
theorem dX6_agrees_1 : decode cX6_agrees 1 = .ok (.istore_n 3, 1) := by decide +kernel
theorem dX6_agrees_2 : decode cX6_agrees 2 = .ok (.iload_n 3, 1) := by decide +kernel
theorem dX6_agrees_3 : decode cX6_agrees 3 = .ok (.iload_n 2, 1) := by decide +kernel
theorem dX6_agrees_4 : decode cX6_agrees 4 = .ok (.if_icmp .ge 38, 3) := by decide +kernel
theorem dX6_agrees_7 : decode cX6_agrees 7 = .ok (.iload_n 3, 1) := by decide +kernel
theorem dX6_agrees_8 : decode cX6_agrees 8 = .ok (.bipush 20, 2) := by decide +kernel
theorem dX6_agrees_10 : decode cX6_agrees 10 = .ok (.if_icmp .ge 32, 3) := by decide +kernel
theorem dX6_agrees_13 : decode cX6_agrees 13 = .ok (.iload_n 1, 1) := by decide +kernel
theorem dX6_agrees_14 : decode cX6_agrees 14 = .ok (.aload_n 0, 1) := by decide +kernel
theorem dX6_agrees_15 : decode cX6_agrees 15 = .ok (.getfield 72, 3) := by decide +kernel
theorem dX6_agrees_18 : decode cX6_agrees 18 = .ok (.iload_n 3, 1) := by decide +kernel
theorem dX6_agrees_19 : decode cX6_agrees 19 = .ok (.iaload, 1) := by decide +kernel
theorem dX6_agrees_20 : decode cX6_agrees 20 = .ok (.invokestatic 125, 3) := by decide +kernel
theorem dX6_agrees_23 : decode cX6_agrees 23 = .ok (.aload_n 0, 1) := by decide +kernel
theorem dX6_agrees_24 : decode cX6_agrees 24 = .ok (.getfield 76, 3) := by decide +kernel
theorem dX6_agrees_27 : decode cX6_agrees 27 = .ok (.iload_n 3, 1) := by decide +kernel
theorem dX6_agrees_28 : decode cX6_agrees 28 = .ok (.invokestatic 125, 3) := by decide +kernel
theorem dX6_agrees_31 : decode cX6_agrees 31 = .ok (.if_icmp .eq 5, 3) := by decide +kernel
theorem dX6_agrees_34 : decode cX6_agrees 34 = .ok (.iconst 0, 1) := by decide +kernel
theorem dX6_agrees_35 : decode cX6_agrees 35 = .ok (.ireturn, 1) := by decide +kernel
theorem dX6_agrees_36 : decode cX6_agrees 36 = .ok (.iinc 3 1, 3) := by decide +kernel
theorem dX6_agrees_39 : decode cX6_agrees 39 = .ok (.goto (-37), 3) := by decide +kernel
theorem dX6_agrees_42 : decode cX6_agrees 42 = .ok (.iconst 1, 1) := by decide +kernel
theorem dX6_agrees_43 : decode cX6_agrees 43 = .ok (.ireturn, 1) := by decide +kernel
theorem dX6_countStood_0 : decode cX6_countStood 0 = .ok (.iconst 0, 1) := by decide +kernel
theorem dX6_countStood_1 : decode cX6_countStood 1 = .ok (.istore_n 3, 1) := by decide +kernel
theorem dX6_countStood_2 : decode cX6_countStood 2 = .ok (.iconst 0, 1) := by decide +kernel
theorem dX6_countStood_3 : decode cX6_countStood 3 = .ok (.istore 4, 2) := by decide +kernel
theorem dX6_countStood_5 : decode cX6_countStood 5 = .ok (.iload 4, 2) := by decide +kernel
theorem dX6_countStood_7 : decode cX6_countStood 7 = .ok (.aload_n 0, 1) := by decide +kernel
theorem dX6_countStood_8 : decode cX6_countStood 8 = .ok (.getfield 23, 3) := by decide +kernel
theorem dX6_countStood_11 : decode cX6_countStood 11 = .ok (.getfield 163, 3) := by decide +kernel
theorem dX6_countStood_14 : decode cX6_countStood 14 = .ok (.if_icmp .ge 33, 3) := by decide +kernel
theorem dX6_countStood_17 : decode cX6_countStood 17 = .ok (.iload_n 1, 1) := by decide +kernel
theorem dX6_countStood_18 : decode cX6_countStood 18 = .ok (.iload 4, 2) := by decide +kernel
theorem dX6_countStood_20 : decode cX6_countStood 20 = .ok (.invokestatic 125, 3) := by decide +kernel
theorem dX6_countStood_23 : decode cX6_countStood 23 = .ok (.iconst 1, 1) := by decide +kernel
theorem dX6_countStood_24 : decode cX6_countStood 24 = .ok (.if_icmp .ne 17, 3) := by decide +kernel
theorem dX6_countStood_27 : decode cX6_countStood 27 = .ok (.iload_n 3, 1) := by decide +kernel
theorem dX6_countStood_28 : decode cX6_countStood 28 = .ok (.aload_n 0, 1) := by decide +kernel
theorem dX6_countStood_29 : decode cX6_countStood 29 = .ok (.getfield 82, 3) := by decide +kernel
theorem dX6_countStood_32 : decode cX6_countStood 32 = .ok (.iload 4, 2) := by decide +kernel
theorem dX6_countStood_34 : decode cX6_countStood 34 = .ok (.iaload, 1) := by decide +kernel
theorem dX6_countStood_35 : decode cX6_countStood 35 = .ok (.iload_n 2, 1) := by decide +kernel
theorem dX6_countStood_36 : decode cX6_countStood 36 = .ok (.invokestatic 125, 3) := by decide +kernel
theorem dX6_countStood_39 : decode cX6_countStood 39 = .ok (.iadd, 1) := by decide +kernel
theorem dX6_countStood_40 : decode cX6_countStood 40 = .ok (.istore_n 3, 1) := by decide +kernel
theorem dX6_countStood_41 : decode cX6_countStood 41 = .ok (.iinc 4 1, 3) := by decide +kernel
theorem dX6_countStood_44 : decode cX6_countStood 44 = .ok (.goto (-39), 3) := by decide +kernel
theorem dX6_countStood_47 : decode cX6_countStood 47 = .ok (.iload_n 3, 1) := by decide +kernel
theorem dX6_countStood_48 : decode cX6_countStood 48 = .ok (.ireturn, 1) := by decide +kernel
theorem dX6_isHouse_0 : decode cX6_isHouse 0 = .ok (.iload_n 1, 1) := by decide +kernel
theorem dX6_isHouse_1 : decode cX6_isHouse 1 = .ok (.ifCond .lt 18, 3) := by decide +kernel
theorem dX6_isHouse_4 : decode cX6_isHouse 4 = .ok (.iload_n 1, 1) := by decide +kernel
theorem dX6_isHouse_5 : decode cX6_isHouse 5 = .ok (.aload_n 0, 1) := by decide +kernel
theorem dX6_isHouse_6 : decode cX6_isHouse 6 = .ok (.getfield 23, 3) := by decide +kernel
theorem dX6_isHouse_9 : decode cX6_isHouse 9 = .ok (.getfield 163, 3) := by decide +kernel
theorem dX6_isHouse_12 : decode cX6_isHouse 12 = .ok (.if_icmp .ge 7, 3) := by decide +kernel
theorem dX6_isHouse_15 : decode cX6_isHouse 15 = .ok (.iconst 1, 1) := by decide +kernel
theorem dX6_isHouse_16 : decode cX6_isHouse 16 = .ok (.goto 4, 3) := by decide +kernel
theorem dX6_isHouse_19 : decode cX6_isHouse 19 = .ok (.iconst 0, 1) := by decide +kernel
theorem dX6_isHouse_20 : decode cX6_isHouse 20 = .ok (.ireturn, 1) := by decide +kernel
theorem dX6_isSpare_0 : decode cX6_isSpare 0 = .ok (.iload_n 1, 1) := by decide +kernel
theorem dX6_isSpare_1 : decode cX6_isSpare 1 = .ok (.ifCond .lt 18, 3) := by decide +kernel
theorem dX6_isSpare_4 : decode cX6_isSpare 4 = .ok (.iload_n 1, 1) := by decide +kernel
theorem dX6_isSpare_5 : decode cX6_isSpare 5 = .ok (.aload_n 0, 1) := by decide +kernel
theorem dX6_isSpare_6 : decode cX6_isSpare 6 = .ok (.getfield 23, 3) := by decide +kernel
theorem dX6_isSpare_9 : decode cX6_isSpare 9 = .ok (.getfield 166, 3) := by decide +kernel
theorem dX6_isSpare_12 : decode cX6_isSpare 12 = .ok (.if_icmp .ge 7, 3) := by decide +kernel
theorem dX6_isSpare_15 : decode cX6_isSpare 15 = .ok (.iconst 1, 1) := by decide +kernel
theorem dX6_isSpare_16 : decode cX6_isSpare 16 = .ok (.goto 4, 3) := by decide +kernel
theorem dX6_isSpare_19 : decode cX6_isSpare 19 = .ok (.iconst 0, 1) := by decide +kernel
theorem dX6_isSpare_20 : decode cX6_isSpare 20 = .ok (.ireturn, 1) := by decide +kernel
theorem dX6_isSlot_0 : decode cX6_isSlot 0 = .ok (.iload_n 0, 1) := by decide +kernel
theorem dX6_isSlot_1 : decode cX6_isSlot 1 = .ok (.ifCond .lt 12, 3) := by decide +kernel
theorem dX6_isSlot_4 : decode cX6_isSlot 4 = .ok (.iload_n 0, 1) := by decide +kernel
theorem dX6_isSlot_5 : decode cX6_isSlot 5 = .ok (.iconst 3, 1) := by decide +kernel
theorem dX6_isSlot_6 : decode cX6_isSlot 6 = .ok (.if_icmp .ge 7, 3) := by decide +kernel
theorem dX6_isSlot_9 : decode cX6_isSlot 9 = .ok (.iconst 1, 1) := by decide +kernel
theorem dX6_isSlot_10 : decode cX6_isSlot 10 = .ok (.goto 4, 3) := by decide +kernel
theorem dX6_isSlot_13 : decode cX6_isSlot 13 = .ok (.iconst 0, 1) := by decide +kernel
theorem dX6_isSlot_14 : decode cX6_isSlot 14 = .ok (.ireturn, 1) := by decide +kernel
theorem dX6_isSpan_0 : decode cX6_isSpan 0 = .ok (.iload_n 0, 1) := by decide +kernel
theorem dX6_isSpan_1 : decode cX6_isSpan 1 = .ok (.iconst 1, 1) := by decide +kernel
theorem dX6_isSpan_2 : decode cX6_isSpan 2 = .ok (.if_icmp .lt 13, 3) := by decide +kernel
theorem dX6_isSpan_5 : decode cX6_isSpan 5 = .ok (.iload_n 0, 1) := by decide +kernel
theorem dX6_isSpan_6 : decode cX6_isSpan 6 = .ok (.bipush 72, 2) := by decide +kernel
theorem dX6_isSpan_8 : decode cX6_isSpan 8 = .ok (.if_icmp .gt 7, 3) := by decide +kernel
theorem dX6_isSpan_11 : decode cX6_isSpan 11 = .ok (.iconst 1, 1) := by decide +kernel
theorem dX6_isSpan_12 : decode cX6_isSpan 12 = .ok (.goto 4, 3) := by decide +kernel
theorem dX6_isSpan_15 : decode cX6_isSpan 15 = .ok (.iconst 0, 1) := by decide +kernel
theorem dX6_isSpan_16 : decode cX6_isSpan 16 = .ok (.ireturn, 1) := by decide +kernel
theorem dX6_isCount_0 : decode cX6_isCount 0 = .ok (.iload_n 0, 1) := by decide +kernel
theorem dX6_isCount_1 : decode cX6_isCount 1 = .ok (.ifCond .lt 13, 3) := by decide +kernel
theorem dX6_isCount_4 : decode cX6_isCount 4 = .ok (.iload_n 0, 1) := by decide +kernel
theorem dX6_isCount_5 : decode cX6_isCount 5 = .ok (.bipush 72, 2) := by decide +kernel
theorem dX6_isCount_7 : decode cX6_isCount 7 = .ok (.if_icmp .gt 7, 3) := by decide +kernel
theorem dX6_isCount_10 : decode cX6_isCount 10 = .ok (.iconst 1, 1) := by decide +kernel
theorem dX6_isCount_11 : decode cX6_isCount 11 = .ok (.goto 4, 3) := by decide +kernel
theorem dX6_isCount_14 : decode cX6_isCount 14 = .ok (.iconst 0, 1) := by decide +kernel
theorem dX6_isCount_15 : decode cX6_isCount 15 = .ok (.ireturn, 1) := by decide +kernel
theorem dX6_isEither_0 : decode cX6_isEither 0 = .ok (.iload_n 0, 1) := by decide +kernel
theorem dX6_isEither_1 : decode cX6_isEither 1 = .ok (.ifCond .eq 8, 3) := by decide +kernel
theorem dX6_isEither_4 : decode cX6_isEither 4 = .ok (.iload_n 0, 1) := by decide +kernel
theorem dX6_isEither_5 : decode cX6_isEither 5 = .ok (.iconst 1, 1) := by decide +kernel
theorem dX6_isEither_6 : decode cX6_isEither 6 = .ok (.if_icmp .ne 7, 3) := by decide +kernel
theorem dX6_isEither_9 : decode cX6_isEither 9 = .ok (.iconst 1, 1) := by decide +kernel
theorem dX6_isEither_10 : decode cX6_isEither 10 = .ok (.goto 4, 3) := by decide +kernel
theorem dX6_isEither_13 : decode cX6_isEither 13 = .ok (.iconst 0, 1) := by decide +kernel
theorem dX6_isEither_14 : decode cX6_isEither 14 = .ok (.ireturn, 1) := by decide +kernel
theorem dX6_allHouses_0 : decode cX6_allHouses 0 = .ok (.iconst 1, 1) := by decide +kernel
theorem dX6_allHouses_1 : decode cX6_allHouses 1 = .ok (.aload_n 0, 1) := by decide +kernel
theorem dX6_allHouses_2 : decode cX6_allHouses 2 = .ok (.getfield 23, 3) := by decide +kernel
theorem dX6_allHouses_5 : decode cX6_allHouses 5 = .ok (.getfield 163, 3) := by decide +kernel
theorem dX6_allHouses_8 : decode cX6_allHouses 8 = .ok (.ishl, 1) := by decide +kernel
theorem dX6_allHouses_9 : decode cX6_allHouses 9 = .ok (.iconst 1, 1) := by decide +kernel
theorem dX6_allHouses_10 : decode cX6_allHouses 10 = .ok (.isub, 1) := by decide +kernel
theorem dX6_allHouses_11 : decode cX6_allHouses 11 = .ok (.ireturn, 1) := by decide +kernel
theorem dX6_bit_0 : decode cX6_bit 0 = .ok (.iload_n 0, 1) := by decide +kernel
theorem dX6_bit_1 : decode cX6_bit 1 = .ok (.iload_n 1, 1) := by decide +kernel
theorem dX6_bit_2 : decode cX6_bit 2 = .ok (.iushr, 1) := by decide +kernel
theorem dX6_bit_3 : decode cX6_bit 3 = .ok (.iconst 1, 1) := by decide +kernel
theorem dX6_bit_4 : decode cX6_bit 4 = .ok (.iand, 1) := by decide +kernel
theorem dX6_bit_5 : decode cX6_bit 5 = .ok (.ireturn, 1) := by decide +kernel
theorem dX7_init_0 : decode cX7_init 0 = .ok (.aload_n 0, 1) := by decide +kernel
theorem dX7_init_1 : decode cX7_init 1 = .ok (.invokespecial 7, 3) := by decide +kernel
theorem dX7_init_4 : decode cX7_init 4 = .ok (.aload_n 0, 1) := by decide +kernel
theorem dX7_init_5 : decode cX7_init 5 = .ok (.sipush 2000, 3) := by decide +kernel
theorem dX7_init_8 : decode cX7_init 8 = .ok (.newarray .byte, 2) := by decide +kernel
theorem dX7_init_10 : decode cX7_init 10 = .ok (.putfield 13, 3) := by decide +kernel
theorem dX7_init_13 : decode cX7_init 13 = .ok (.aload_n 0, 1) := by decide +kernel
theorem dX7_init_14 : decode cX7_init 14 = .ok (.sipush 2000, 3) := by decide +kernel
theorem dX7_init_17 : decode cX7_init 17 = .ok (.newarray .byte, 2) := by decide +kernel
theorem dX7_init_19 : decode cX7_init 19 = .ok (.putfield 17, 3) := by decide +kernel
theorem dX7_init_22 : decode cX7_init 22 = .ok (.aload_n 0, 1) := by decide +kernel
theorem dX7_init_23 : decode cX7_init 23 = .ok (.sipush 403, 3) := by decide +kernel
theorem dX7_init_26 : decode cX7_init 26 = .ok (.newarray .int, 2) := by decide +kernel
theorem dX7_init_28 : decode cX7_init 28 = .ok (.putfield 20, 3) := by decide +kernel
theorem dX7_init_31 : decode cX7_init 31 = .ok (.aload_n 0, 1) := by decide +kernel
theorem dX7_init_32 : decode cX7_init 32 = .ok (.sipush 403, 3) := by decide +kernel
theorem dX7_init_35 : decode cX7_init 35 = .ok (.newarray .int, 2) := by decide +kernel
theorem dX7_init_37 : decode cX7_init 37 = .ok (.putfield 24, 3) := by decide +kernel
theorem dX7_init_40 : decode cX7_init 40 = .ok (.aload_n 0, 1) := by decide +kernel
theorem dX7_init_41 : decode cX7_init 41 = .ok (.sipush 403, 3) := by decide +kernel
theorem dX7_init_44 : decode cX7_init 44 = .ok (.newarray .int, 2) := by decide +kernel
theorem dX7_init_46 : decode cX7_init 46 = .ok (.putfield 27, 3) := by decide +kernel
theorem dX7_init_49 : decode cX7_init 49 = .ok (.aload_n 0, 1) := by decide +kernel
theorem dX7_init_50 : decode cX7_init 50 = .ok (.sipush 403, 3) := by decide +kernel
theorem dX7_init_53 : decode cX7_init 53 = .ok (.newarray .long, 2) := by decide +kernel
theorem dX7_init_55 : decode cX7_init 55 = .ok (.putfield 30, 3) := by decide +kernel
theorem dX7_init_58 : decode cX7_init 58 = .ok (.aload_n 0, 1) := by decide +kernel
theorem dX7_init_59 : decode cX7_init 59 = .ok (.bipush 20, 2) := by decide +kernel
theorem dX7_init_61 : decode cX7_init 61 = .ok (.newarray .long, 2) := by decide +kernel
theorem dX7_init_63 : decode cX7_init 63 = .ok (.putfield 34, 3) := by decide +kernel
theorem dX7_init_66 : decode cX7_init 66 = .ok (.aload_n 0, 1) := by decide +kernel
theorem dX7_init_67 : decode cX7_init 67 = .ok (.iconst (-1), 1) := by decide +kernel
theorem dX7_init_68 : decode cX7_init 68 = .ok (.putfield 37, 3) := by decide +kernel
theorem dX7_init_71 : decode cX7_init 71 = .ok (.aload_n 0, 1) := by decide +kernel
theorem dX7_init_72 : decode cX7_init 72 = .ok (.bipush 8, 2) := by decide +kernel
theorem dX7_init_74 : decode cX7_init 74 = .ok (.newarray .long, 2) := by decide +kernel
theorem dX7_init_76 : decode cX7_init 76 = .ok (.putfield 40, 3) := by decide +kernel
theorem dX7_init_79 : decode cX7_init 79 = .ok (.aload_n 0, 1) := by decide +kernel
theorem dX7_init_80 : decode cX7_init 80 = .ok (.iconst 2, 1) := by decide +kernel
theorem dX7_init_81 : decode cX7_init 81 = .ok (.newarray .int, 2) := by decide +kernel
theorem dX7_init_83 : decode cX7_init 83 = .ok (.putfield 43, 3) := by decide +kernel
theorem dX7_init_86 : decode cX7_init 86 = .ok (.aload_n 0, 1) := by decide +kernel
theorem dX7_init_87 : decode cX7_init 87 = .ok (.bipush 16, 2) := by decide +kernel
theorem dX7_init_89 : decode cX7_init 89 = .ok (.newarray .int, 2) := by decide +kernel
theorem dX7_init_91 : decode cX7_init 91 = .ok (.putfield 46, 3) := by decide +kernel
theorem dX7_init_94 : decode cX7_init 94 = .ok (.aload_n 0, 1) := by decide +kernel
theorem dX7_init_95 : decode cX7_init 95 = .ok (.bipush 16, 2) := by decide +kernel
theorem dX7_init_97 : decode cX7_init 97 = .ok (.newarray .int, 2) := by decide +kernel
theorem dX7_init_99 : decode cX7_init 99 = .ok (.putfield 49, 3) := by decide +kernel
theorem dX7_init_102 : decode cX7_init 102 = .ok (.aload_n 0, 1) := by decide +kernel
theorem dX7_init_103 : decode cX7_init 103 = .ok (.bipush 16, 2) := by decide +kernel
theorem dX7_init_105 : decode cX7_init 105 = .ok (.newarray .int, 2) := by decide +kernel
theorem dX7_init_107 : decode cX7_init 107 = .ok (.putfield 52, 3) := by decide +kernel
theorem dX7_init_110 : decode cX7_init 110 = .ok (.aload_n 0, 1) := by decide +kernel
theorem dX7_init_111 : decode cX7_init 111 = .ok (.bipush 16, 2) := by decide +kernel
theorem dX7_init_113 : decode cX7_init 113 = .ok (.newarray .boolean, 2) := by decide +kernel
theorem dX7_init_115 : decode cX7_init 115 = .ok (.putfield 55, 3) := by decide +kernel
theorem dX7_init_118 : decode cX7_init 118 = .ok (.aload_n 0, 1) := by decide +kernel
theorem dX7_init_119 : decode cX7_init 119 = .ok (.iconst 2, 1) := by decide +kernel
theorem dX7_init_120 : decode cX7_init 120 = .ok (.newarray .int, 2) := by decide +kernel
theorem dX7_init_122 : decode cX7_init 122 = .ok (.putfield 59, 3) := by decide +kernel
theorem dX7_init_125 : decode cX7_init 125 = .ok (.aload_n 0, 1) := by decide +kernel
theorem dX7_init_126 : decode cX7_init 126 = .ok (.bipush 12, 2) := by decide +kernel
theorem dX7_init_128 : decode cX7_init 128 = .ok (.newarray .int, 2) := by decide +kernel
theorem dX7_init_130 : decode cX7_init 130 = .ok (.putfield 62, 3) := by decide +kernel
theorem dX7_init_133 : decode cX7_init 133 = .ok (.aload_n 0, 1) := by decide +kernel
theorem dX7_init_134 : decode cX7_init 134 = .ok (.bipush 12, 2) := by decide +kernel
theorem dX7_init_136 : decode cX7_init 136 = .ok (.newarray .int, 2) := by decide +kernel
theorem dX7_init_138 : decode cX7_init 138 = .ok (.putfield 65, 3) := by decide +kernel
theorem dX7_init_141 : decode cX7_init 141 = .ok (.aload_n 0, 1) := by decide +kernel
theorem dX7_init_142 : decode cX7_init 142 = .ok (.iconst 2, 1) := by decide +kernel
theorem dX7_init_143 : decode cX7_init 143 = .ok (.newarray .int, 2) := by decide +kernel
theorem dX7_init_145 : decode cX7_init 145 = .ok (.putfield 68, 3) := by decide +kernel
theorem dX7_init_148 : decode cX7_init 148 = .ok (.aload_n 0, 1) := by decide +kernel
theorem dX7_init_149 : decode cX7_init 149 = .ok (.bipush 8, 2) := by decide +kernel
theorem dX7_init_151 : decode cX7_init 151 = .ok (.newarray .int, 2) := by decide +kernel
theorem dX7_init_153 : decode cX7_init 153 = .ok (.putfield 71, 3) := by decide +kernel
theorem dX7_init_156 : decode cX7_init 156 = .ok (.aload_n 0, 1) := by decide +kernel
theorem dX7_init_157 : decode cX7_init 157 = .ok (.bipush 8, 2) := by decide +kernel
theorem dX7_init_159 : decode cX7_init 159 = .ok (.newarray .int, 2) := by decide +kernel
theorem dX7_init_161 : decode cX7_init 161 = .ok (.putfield 74, 3) := by decide +kernel
theorem dX7_init_164 : decode cX7_init 164 = .ok (.aload_n 0, 1) := by decide +kernel
theorem dX7_init_165 : decode cX7_init 165 = .ok (.sipush 260, 3) := by decide +kernel
theorem dX7_init_168 : decode cX7_init 168 = .ok (.newarray .boolean, 2) := by decide +kernel
theorem dX7_init_170 : decode cX7_init 170 = .ok (.putfield 77, 3) := by decide +kernel
theorem dX7_init_173 : decode cX7_init 173 = .ok (.aload_n 0, 1) := by decide +kernel
theorem dX7_init_174 : decode cX7_init 174 = .ok (.sipush 260, 3) := by decide +kernel
theorem dX7_init_177 : decode cX7_init 177 = .ok (.newarray .int, 2) := by decide +kernel
theorem dX7_init_179 : decode cX7_init 179 = .ok (.putfield 80, 3) := by decide +kernel
theorem dX7_init_182 : decode cX7_init 182 = .ok (.aload_n 0, 1) := by decide +kernel
theorem dX7_init_183 : decode cX7_init 183 = .ok (.sipush 260, 3) := by decide +kernel
theorem dX7_init_186 : decode cX7_init 186 = .ok (.newarray .int, 2) := by decide +kernel
theorem dX7_init_188 : decode cX7_init 188 = .ok (.putfield 83, 3) := by decide +kernel
theorem dX7_init_191 : decode cX7_init 191 = .ok (.aload_n 0, 1) := by decide +kernel
theorem dX7_init_192 : decode cX7_init 192 = .ok (.sipush 260, 3) := by decide +kernel
theorem dX7_init_195 : decode cX7_init 195 = .ok (.newarray .int, 2) := by decide +kernel
theorem dX7_init_197 : decode cX7_init 197 = .ok (.putfield 86, 3) := by decide +kernel
theorem dX7_init_200 : decode cX7_init 200 = .ok (.aload_n 0, 1) := by decide +kernel
theorem dX7_init_201 : decode cX7_init 201 = .ok (.sipush 260, 3) := by decide +kernel
theorem dX7_init_204 : decode cX7_init 204 = .ok (.newarray .int, 2) := by decide +kernel
theorem dX7_init_206 : decode cX7_init 206 = .ok (.putfield 89, 3) := by decide +kernel
theorem dX7_init_209 : decode cX7_init 209 = .ok (.aload_n 0, 1) := by decide +kernel
theorem dX7_init_210 : decode cX7_init 210 = .ok (.sipush 840, 3) := by decide +kernel
theorem dX7_init_213 : decode cX7_init 213 = .ok (.newarray .int, 2) := by decide +kernel
theorem dX7_init_215 : decode cX7_init 215 = .ok (.putfield 92, 3) := by decide +kernel
theorem dX7_init_218 : decode cX7_init 218 = .ok (.aload_n 0, 1) := by decide +kernel
theorem dX7_init_219 : decode cX7_init 219 = .ok (.sipush 840, 3) := by decide +kernel
theorem dX7_init_222 : decode cX7_init 222 = .ok (.newarray .int, 2) := by decide +kernel
theorem dX7_init_224 : decode cX7_init 224 = .ok (.putfield 95, 3) := by decide +kernel
theorem dX7_init_227 : decode cX7_init 227 = .ok (.aload_n 0, 1) := by decide +kernel
theorem dX7_init_228 : decode cX7_init 228 = .ok (.bipush 64, 2) := by decide +kernel
theorem dX7_init_230 : decode cX7_init 230 = .ok (.newarray .int, 2) := by decide +kernel
theorem dX7_init_232 : decode cX7_init 232 = .ok (.putfield 98, 3) := by decide +kernel
theorem dX7_init_235 : decode cX7_init 235 = .ok (.aload_n 0, 1) := by decide +kernel
theorem dX7_init_236 : decode cX7_init 236 = .ok (.bipush 9, 2) := by decide +kernel
theorem dX7_init_238 : decode cX7_init 238 = .ok (.newarray .int, 2) := by decide +kernel
theorem dX7_init_240 : decode cX7_init 240 = .ok (.putfield 101, 3) := by decide +kernel
theorem dX7_init_243 : decode cX7_init 243 = .ok (.aload_n 0, 1) := by decide +kernel
theorem dX7_init_244 : decode cX7_init 244 = .ok (.sipush 400, 3) := by decide +kernel
theorem dX7_init_247 : decode cX7_init 247 = .ok (.newarray .int, 2) := by decide +kernel
theorem dX7_init_249 : decode cX7_init 249 = .ok (.putfield 104, 3) := by decide +kernel
theorem dX7_init_252 : decode cX7_init 252 = .ok (.aload_n 0, 1) := by decide +kernel
theorem dX7_init_253 : decode cX7_init 253 = .ok (.bipush 88, 2) := by decide +kernel
theorem dX7_init_255 : decode cX7_init 255 = .ok (.newarray .int, 2) := by decide +kernel
theorem dX7_init_257 : decode cX7_init 257 = .ok (.putfield 107, 3) := by decide +kernel
theorem dX7_init_260 : decode cX7_init 260 = .ok (.aload_n 0, 1) := by decide +kernel
theorem dX7_init_261 : decode cX7_init 261 = .ok (.bipush 88, 2) := by decide +kernel
theorem dX7_init_263 : decode cX7_init 263 = .ok (.newarray .int, 2) := by decide +kernel
theorem dX7_init_265 : decode cX7_init 265 = .ok (.putfield 110, 3) := by decide +kernel
theorem dX7_init_268 : decode cX7_init 268 = .ok (.aload_n 0, 1) := by decide +kernel
theorem dX7_init_269 : decode cX7_init 269 = .ok (.bipush 8, 2) := by decide +kernel
theorem dX7_init_271 : decode cX7_init 271 = .ok (.newarray .boolean, 2) := by decide +kernel
theorem dX7_init_273 : decode cX7_init 273 = .ok (.putfield 113, 3) := by decide +kernel
theorem dX7_init_276 : decode cX7_init 276 = .ok (.aload_n 0, 1) := by decide +kernel
theorem dX7_init_277 : decode cX7_init 277 = .ok (.sipush 3520, 3) := by decide +kernel
theorem dX7_init_280 : decode cX7_init 280 = .ok (.newarray .int, 2) := by decide +kernel
theorem dX7_init_282 : decode cX7_init 282 = .ok (.putfield 116, 3) := by decide +kernel
theorem dX7_init_285 : decode cX7_init 285 = .ok (.aload_n 0, 1) := by decide +kernel
theorem dX7_init_286 : decode cX7_init 286 = .ok (.bipush 8, 2) := by decide +kernel
theorem dX7_init_288 : decode cX7_init 288 = .ok (.newarray .int, 2) := by decide +kernel
theorem dX7_init_290 : decode cX7_init 290 = .ok (.putfield 119, 3) := by decide +kernel
theorem dX7_init_293 : decode cX7_init 293 = .ok (.aload_n 0, 1) := by decide +kernel
theorem dX7_init_294 : decode cX7_init 294 = .ok (.bipush 20, 2) := by decide +kernel
theorem dX7_init_296 : decode cX7_init 296 = .ok (.newarray .int, 2) := by decide +kernel
theorem dX7_init_298 : decode cX7_init 298 = .ok (.putfield 122, 3) := by decide +kernel
theorem dX7_init_301 : decode cX7_init 301 = .ok (.aload_n 0, 1) := by decide +kernel
theorem dX7_init_302 : decode cX7_init 302 = .ok (.bipush 20, 2) := by decide +kernel
theorem dX7_init_304 : decode cX7_init 304 = .ok (.newarray .int, 2) := by decide +kernel
theorem dX7_init_306 : decode cX7_init 306 = .ok (.putfield 125, 3) := by decide +kernel
theorem dX7_init_309 : decode cX7_init 309 = .ok (.aload_n 0, 1) := by decide +kernel
theorem dX7_init_310 : decode cX7_init 310 = .ok (.bipush 8, 2) := by decide +kernel
theorem dX7_init_312 : decode cX7_init 312 = .ok (.newarray .int, 2) := by decide +kernel
theorem dX7_init_314 : decode cX7_init 314 = .ok (.putfield 128, 3) := by decide +kernel
theorem dX7_init_317 : decode cX7_init 317 = .ok (.aload_n 0, 1) := by decide +kernel
theorem dX7_init_318 : decode cX7_init 318 = .ok (.iconst 3, 1) := by decide +kernel
theorem dX7_init_319 : decode cX7_init 319 = .ok (.newarray .boolean, 2) := by decide +kernel
theorem dX7_init_321 : decode cX7_init 321 = .ok (.putfield 131, 3) := by decide +kernel
theorem dX7_init_324 : decode cX7_init 324 = .ok (.aload_n 0, 1) := by decide +kernel
theorem dX7_init_325 : decode cX7_init 325 = .ok (.sipush 264, 3) := by decide +kernel
theorem dX7_init_328 : decode cX7_init 328 = .ok (.newarray .int, 2) := by decide +kernel
theorem dX7_init_330 : decode cX7_init 330 = .ok (.putfield 134, 3) := by decide +kernel
theorem dX7_init_333 : decode cX7_init 333 = .ok (.aload_n 0, 1) := by decide +kernel
theorem dX7_init_334 : decode cX7_init 334 = .ok (.iconst 0, 1) := by decide +kernel
theorem dX7_init_335 : decode cX7_init 335 = .ok (.invokevirtual 137, 3) := by decide +kernel
theorem dX7_init_338 : decode cX7_init 338 = .ok (.aload_n 0, 1) := by decide +kernel
theorem dX7_init_339 : decode cX7_init 339 = .ok (.getfield 34, 3) := by decide +kernel
theorem dX7_init_342 : decode cX7_init 342 = .ok (.iconst 0, 1) := by decide +kernel
theorem dX7_init_343 : decode cX7_init 343 = .ok (.bipush 104, 2) := by decide +kernel
theorem dX7_init_345 : decode cX7_init 345 = .ok (.bipush 111, 2) := by decide +kernel
theorem dX7_init_347 : decode cX7_init 347 = .ok (.bipush 117, 2) := by decide +kernel
theorem dX7_init_349 : decode cX7_init 349 = .ok (.bipush 115, 2) := by decide +kernel
theorem dX7_init_351 : decode cX7_init 351 = .ok (.bipush 101, 2) := by decide +kernel
theorem dX7_init_353 : decode cX7_init 353 = .ok (.iconst 0, 1) := by decide +kernel
theorem dX7_init_354 : decode cX7_init 354 = .ok (.iconst 0, 1) := by decide +kernel
theorem dX7_init_355 : decode cX7_init 355 = .ok (.invokestatic 141, 3) := by decide +kernel
theorem dX7_init_358 : decode cX7_init 358 = .ok (.lastore, 1) := by decide +kernel
theorem dX7_init_359 : decode cX7_init 359 = .ok (.aload_n 0, 1) := by decide +kernel
theorem dX7_init_360 : decode cX7_init 360 = .ok (.getfield 34, 3) := by decide +kernel
theorem dX7_init_363 : decode cX7_init 363 = .ok (.iconst 1, 1) := by decide +kernel
theorem dX7_init_364 : decode cX7_init 364 = .ok (.bipush 115, 2) := by decide +kernel
theorem dX7_init_366 : decode cX7_init 366 = .ok (.bipush 112, 2) := by decide +kernel
theorem dX7_init_368 : decode cX7_init 368 = .ok (.bipush 97, 2) := by decide +kernel
theorem dX7_init_370 : decode cX7_init 370 = .ok (.bipush 114, 2) := by decide +kernel
theorem dX7_init_372 : decode cX7_init 372 = .ok (.bipush 101, 2) := by decide +kernel
theorem dX7_init_374 : decode cX7_init 374 = .ok (.iconst 0, 1) := by decide +kernel
theorem dX7_init_375 : decode cX7_init 375 = .ok (.iconst 0, 1) := by decide +kernel
theorem dX7_init_376 : decode cX7_init 376 = .ok (.invokestatic 141, 3) := by decide +kernel
theorem dX7_init_379 : decode cX7_init 379 = .ok (.lastore, 1) := by decide +kernel
theorem dX7_init_380 : decode cX7_init 380 = .ok (.aload_n 0, 1) := by decide +kernel
theorem dX7_init_381 : decode cX7_init 381 = .ok (.getfield 34, 3) := by decide +kernel
theorem dX7_init_384 : decode cX7_init 384 = .ok (.iconst 2, 1) := by decide +kernel
theorem dX7_init_385 : decode cX7_init 385 = .ok (.bipush 98, 2) := by decide +kernel
theorem dX7_init_387 : decode cX7_init 387 = .ok (.bipush 111, 2) := by decide +kernel
theorem dX7_init_389 : decode cX7_init 389 = .ok (.bipush 116, 2) := by decide +kernel
theorem dX7_init_391 : decode cX7_init 391 = .ok (.bipush 104, 2) := by decide +kernel
theorem dX7_init_393 : decode cX7_init 393 = .ok (.iconst 0, 1) := by decide +kernel
theorem dX7_init_394 : decode cX7_init 394 = .ok (.iconst 0, 1) := by decide +kernel
theorem dX7_init_395 : decode cX7_init 395 = .ok (.iconst 0, 1) := by decide +kernel
theorem dX7_init_396 : decode cX7_init 396 = .ok (.invokestatic 141, 3) := by decide +kernel
theorem dX7_init_399 : decode cX7_init 399 = .ok (.lastore, 1) := by decide +kernel
theorem dX7_init_400 : decode cX7_init 400 = .ok (.aload_n 0, 1) := by decide +kernel
theorem dX7_init_401 : decode cX7_init 401 = .ok (.getfield 34, 3) := by decide +kernel
theorem dX7_init_404 : decode cX7_init 404 = .ok (.iconst 3, 1) := by decide +kernel
theorem dX7_init_405 : decode cX7_init 405 = .ok (.bipush 108, 2) := by decide +kernel
theorem dX7_init_407 : decode cX7_init 407 = .ok (.bipush 101, 2) := by decide +kernel
theorem dX7_init_409 : decode cX7_init 409 = .ok (.bipush 116, 2) := by decide +kernel
theorem dX7_init_411 : decode cX7_init 411 = .ok (.bipush 115, 2) := by decide +kernel
theorem dX7_init_413 : decode cX7_init 413 = .ok (.iconst 0, 1) := by decide +kernel
theorem dX7_init_414 : decode cX7_init 414 = .ok (.iconst 0, 1) := by decide +kernel
theorem dX7_init_415 : decode cX7_init 415 = .ok (.iconst 0, 1) := by decide +kernel
theorem dX7_init_416 : decode cX7_init 416 = .ok (.invokestatic 141, 3) := by decide +kernel
theorem dX7_init_419 : decode cX7_init 419 = .ok (.lastore, 1) := by decide +kernel
theorem dX7_init_420 : decode cX7_init 420 = .ok (.aload_n 0, 1) := by decide +kernel
theorem dX7_init_421 : decode cX7_init 421 = .ok (.getfield 34, 3) := by decide +kernel
theorem dX7_init_424 : decode cX7_init 424 = .ok (.iconst 4, 1) := by decide +kernel
theorem dX7_init_425 : decode cX7_init 425 = .ok (.bipush 113, 2) := by decide +kernel
theorem dX7_init_427 : decode cX7_init 427 = .ok (.bipush 117, 2) := by decide +kernel
theorem dX7_init_429 : decode cX7_init 429 = .ok (.bipush 97, 2) := by decide +kernel
theorem dX7_init_431 : decode cX7_init 431 = .ok (.bipush 114, 2) := by decide +kernel
theorem dX7_init_433 : decode cX7_init 433 = .ok (.bipush 114, 2) := by decide +kernel
theorem dX7_init_435 : decode cX7_init 435 = .ok (.bipush 101, 2) := by decide +kernel
theorem dX7_init_437 : decode cX7_init 437 = .ok (.bipush 108, 2) := by decide +kernel
theorem dX7_init_439 : decode cX7_init 439 = .ok (.invokestatic 141, 3) := by decide +kernel
theorem dX7_init_442 : decode cX7_init 442 = .ok (.lastore, 1) := by decide +kernel
theorem dX7_init_443 : decode cX7_init 443 = .ok (.aload_n 0, 1) := by decide +kernel
theorem dX7_init_444 : decode cX7_init 444 = .ok (.getfield 34, 3) := by decide +kernel
theorem dX7_init_447 : decode cX7_init 447 = .ok (.iconst 5, 1) := by decide +kernel
theorem dX7_init_448 : decode cX7_init 448 = .ok (.bipush 114, 2) := by decide +kernel
theorem dX7_init_450 : decode cX7_init 450 = .ok (.bipush 101, 2) := by decide +kernel
theorem dX7_init_452 : decode cX7_init 452 = .ok (.bipush 110, 2) := by decide +kernel
theorem dX7_init_454 : decode cX7_init 454 = .ok (.bipush 116, 2) := by decide +kernel
theorem dX7_init_456 : decode cX7_init 456 = .ok (.iconst 0, 1) := by decide +kernel
theorem dX7_init_457 : decode cX7_init 457 = .ok (.iconst 0, 1) := by decide +kernel
theorem dX7_init_458 : decode cX7_init 458 = .ok (.iconst 0, 1) := by decide +kernel
theorem dX7_init_459 : decode cX7_init 459 = .ok (.invokestatic 141, 3) := by decide +kernel
theorem dX7_init_462 : decode cX7_init 462 = .ok (.lastore, 1) := by decide +kernel
theorem dX7_init_463 : decode cX7_init 463 = .ok (.aload_n 0, 1) := by decide +kernel
theorem dX7_init_464 : decode cX7_init 464 = .ok (.getfield 34, 3) := by decide +kernel
theorem dX7_init_467 : decode cX7_init 467 = .ok (.bipush 6, 2) := by decide +kernel
theorem dX7_init_469 : decode cX7_init 469 = .ok (.bipush 108, 2) := by decide +kernel
theorem dX7_init_471 : decode cX7_init 471 = .ok (.bipush 97, 2) := by decide +kernel
theorem dX7_init_473 : decode cX7_init 473 = .ok (.bipush 116, 2) := by decide +kernel
theorem dX7_init_475 : decode cX7_init 475 = .ok (.bipush 101, 2) := by decide +kernel
theorem dX7_init_477 : decode cX7_init 477 = .ok (.iconst 0, 1) := by decide +kernel
theorem dX7_init_478 : decode cX7_init 478 = .ok (.iconst 0, 1) := by decide +kernel
theorem dX7_init_479 : decode cX7_init 479 = .ok (.iconst 0, 1) := by decide +kernel
theorem dX7_init_480 : decode cX7_init 480 = .ok (.invokestatic 141, 3) := by decide +kernel
theorem dX7_init_483 : decode cX7_init 483 = .ok (.lastore, 1) := by decide +kernel
theorem dX7_init_484 : decode cX7_init 484 = .ok (.aload_n 0, 1) := by decide +kernel
theorem dX7_init_485 : decode cX7_init 485 = .ok (.getfield 34, 3) := by decide +kernel
theorem dX7_init_488 : decode cX7_init 488 = .ok (.bipush 7, 2) := by decide +kernel
theorem dX7_init_490 : decode cX7_init 490 = .ok (.bipush 115, 2) := by decide +kernel
theorem dX7_init_492 : decode cX7_init 492 = .ok (.bipush 101, 2) := by decide +kernel
theorem dX7_init_494 : decode cX7_init 494 = .ok (.bipush 101, 2) := by decide +kernel
theorem dX7_init_496 : decode cX7_init 496 = .ok (.bipush 100, 2) := by decide +kernel
theorem dX7_init_498 : decode cX7_init 498 = .ok (.iconst 0, 1) := by decide +kernel
theorem dX7_init_499 : decode cX7_init 499 = .ok (.iconst 0, 1) := by decide +kernel
theorem dX7_init_500 : decode cX7_init 500 = .ok (.iconst 0, 1) := by decide +kernel
theorem dX7_init_501 : decode cX7_init 501 = .ok (.invokestatic 141, 3) := by decide +kernel
theorem dX7_init_504 : decode cX7_init 504 = .ok (.lastore, 1) := by decide +kernel
theorem dX7_init_505 : decode cX7_init 505 = .ok (.aload_n 0, 1) := by decide +kernel
theorem dX7_init_506 : decode cX7_init 506 = .ok (.getfield 34, 3) := by decide +kernel
theorem dX7_init_509 : decode cX7_init 509 = .ok (.bipush 8, 2) := by decide +kernel
theorem dX7_init_511 : decode cX7_init 511 = .ok (.bipush 105, 2) := by decide +kernel
theorem dX7_init_513 : decode cX7_init 513 = .ok (.bipush 102, 2) := by decide +kernel
theorem dX7_init_515 : decode cX7_init 515 = .ok (.iconst 0, 1) := by decide +kernel
theorem dX7_init_516 : decode cX7_init 516 = .ok (.iconst 0, 1) := by decide +kernel
theorem dX7_init_517 : decode cX7_init 517 = .ok (.iconst 0, 1) := by decide +kernel
theorem dX7_init_518 : decode cX7_init 518 = .ok (.iconst 0, 1) := by decide +kernel
theorem dX7_init_519 : decode cX7_init 519 = .ok (.iconst 0, 1) := by decide +kernel
theorem dX7_init_520 : decode cX7_init 520 = .ok (.invokestatic 141, 3) := by decide +kernel
theorem dX7_init_523 : decode cX7_init 523 = .ok (.lastore, 1) := by decide +kernel
theorem dX7_init_524 : decode cX7_init 524 = .ok (.aload_n 0, 1) := by decide +kernel
theorem dX7_init_525 : decode cX7_init 525 = .ok (.getfield 34, 3) := by decide +kernel
theorem dX7_init_528 : decode cX7_init 528 = .ok (.bipush 9, 2) := by decide +kernel
theorem dX7_init_530 : decode cX7_init 530 = .ok (.bipush 116, 2) := by decide +kernel
theorem dX7_init_532 : decode cX7_init 532 = .ok (.bipush 104, 2) := by decide +kernel
theorem dX7_init_534 : decode cX7_init 534 = .ok (.bipush 101, 2) := by decide +kernel
theorem dX7_init_536 : decode cX7_init 536 = .ok (.bipush 110, 2) := by decide +kernel
theorem dX7_init_538 : decode cX7_init 538 = .ok (.iconst 0, 1) := by decide +kernel
theorem dX7_init_539 : decode cX7_init 539 = .ok (.iconst 0, 1) := by decide +kernel
theorem dX7_init_540 : decode cX7_init 540 = .ok (.iconst 0, 1) := by decide +kernel
theorem dX7_init_541 : decode cX7_init 541 = .ok (.invokestatic 141, 3) := by decide +kernel
theorem dX7_init_544 : decode cX7_init 544 = .ok (.lastore, 1) := by decide +kernel
theorem dX7_init_545 : decode cX7_init 545 = .ok (.aload_n 0, 1) := by decide +kernel
theorem dX7_init_546 : decode cX7_init 546 = .ok (.getfield 34, 3) := by decide +kernel
theorem dX7_init_549 : decode cX7_init 549 = .ok (.bipush 10, 2) := by decide +kernel
theorem dX7_init_551 : decode cX7_init 551 = .ok (.bipush 101, 2) := by decide +kernel
theorem dX7_init_553 : decode cX7_init 553 = .ok (.bipush 108, 2) := by decide +kernel
theorem dX7_init_555 : decode cX7_init 555 = .ok (.bipush 115, 2) := by decide +kernel
theorem dX7_init_557 : decode cX7_init 557 = .ok (.bipush 101, 2) := by decide +kernel
theorem dX7_init_559 : decode cX7_init 559 = .ok (.iconst 0, 1) := by decide +kernel
theorem dX7_init_560 : decode cX7_init 560 = .ok (.iconst 0, 1) := by decide +kernel
theorem dX7_init_561 : decode cX7_init 561 = .ok (.iconst 0, 1) := by decide +kernel
theorem dX7_init_562 : decode cX7_init 562 = .ok (.invokestatic 141, 3) := by decide +kernel
theorem dX7_init_565 : decode cX7_init 565 = .ok (.lastore, 1) := by decide +kernel
theorem dX7_init_566 : decode cX7_init 566 = .ok (.aload_n 0, 1) := by decide +kernel
theorem dX7_init_567 : decode cX7_init 567 = .ok (.getfield 34, 3) := by decide +kernel
theorem dX7_init_570 : decode cX7_init 570 = .ok (.bipush 11, 2) := by decide +kernel
theorem dX7_init_572 : decode cX7_init 572 = .ok (.bipush 104, 2) := by decide +kernel
theorem dX7_init_574 : decode cX7_init 574 = .ok (.bipush 111, 2) := by decide +kernel
theorem dX7_init_576 : decode cX7_init 576 = .ok (.bipush 117, 2) := by decide +kernel
theorem dX7_init_578 : decode cX7_init 578 = .ok (.bipush 114, 2) := by decide +kernel
theorem dX7_init_580 : decode cX7_init 580 = .ok (.iconst 0, 1) := by decide +kernel
theorem dX7_init_581 : decode cX7_init 581 = .ok (.iconst 0, 1) := by decide +kernel
theorem dX7_init_582 : decode cX7_init 582 = .ok (.iconst 0, 1) := by decide +kernel
theorem dX7_init_583 : decode cX7_init 583 = .ok (.invokestatic 141, 3) := by decide +kernel
theorem dX7_init_586 : decode cX7_init 586 = .ok (.lastore, 1) := by decide +kernel
theorem dX7_init_587 : decode cX7_init 587 = .ok (.aload_n 0, 1) := by decide +kernel
theorem dX7_init_588 : decode cX7_init 588 = .ok (.getfield 34, 3) := by decide +kernel
theorem dX7_init_591 : decode cX7_init 591 = .ok (.bipush 12, 2) := by decide +kernel
theorem dX7_init_593 : decode cX7_init 593 = .ok (.bipush 100, 2) := by decide +kernel
theorem dX7_init_595 : decode cX7_init 595 = .ok (.bipush 97, 2) := by decide +kernel
theorem dX7_init_597 : decode cX7_init 597 = .ok (.bipush 121, 2) := by decide +kernel
theorem dX7_init_599 : decode cX7_init 599 = .ok (.iconst 0, 1) := by decide +kernel
theorem dX7_init_600 : decode cX7_init 600 = .ok (.iconst 0, 1) := by decide +kernel
theorem dX7_init_601 : decode cX7_init 601 = .ok (.iconst 0, 1) := by decide +kernel
theorem dX7_init_602 : decode cX7_init 602 = .ok (.iconst 0, 1) := by decide +kernel
theorem dX7_init_603 : decode cX7_init 603 = .ok (.invokestatic 141, 3) := by decide +kernel
theorem dX7_init_606 : decode cX7_init 606 = .ok (.lastore, 1) := by decide +kernel
theorem dX7_init_607 : decode cX7_init 607 = .ok (.aload_n 0, 1) := by decide +kernel
theorem dX7_init_608 : decode cX7_init 608 = .ok (.getfield 34, 3) := by decide +kernel
theorem dX7_init_611 : decode cX7_init 611 = .ok (.bipush 13, 2) := by decide +kernel
theorem dX7_init_613 : decode cX7_init 613 = .ok (.bipush 119, 2) := by decide +kernel
theorem dX7_init_615 : decode cX7_init 615 = .ok (.bipush 97, 2) := by decide +kernel
theorem dX7_init_617 : decode cX7_init 617 = .ok (.bipush 105, 2) := by decide +kernel
theorem dX7_init_619 : decode cX7_init 619 = .ok (.bipush 116, 2) := by decide +kernel
theorem dX7_init_621 : decode cX7_init 621 = .ok (.bipush 101, 2) := by decide +kernel
theorem dX7_init_623 : decode cX7_init 623 = .ok (.bipush 100, 2) := by decide +kernel
theorem dX7_init_625 : decode cX7_init 625 = .ok (.iconst 0, 1) := by decide +kernel
theorem dX7_init_626 : decode cX7_init 626 = .ok (.invokestatic 141, 3) := by decide +kernel
theorem dX7_init_629 : decode cX7_init 629 = .ok (.lastore, 1) := by decide +kernel
theorem dX7_init_630 : decode cX7_init 630 = .ok (.aload_n 0, 1) := by decide +kernel
theorem dX7_init_631 : decode cX7_init 631 = .ok (.getfield 34, 3) := by decide +kernel
theorem dX7_init_634 : decode cX7_init 634 = .ok (.bipush 14, 2) := by decide +kernel
theorem dX7_init_636 : decode cX7_init 636 = .ok (.bipush 116, 2) := by decide +kernel
theorem dX7_init_638 : decode cX7_init 638 = .ok (.bipush 101, 2) := by decide +kernel
theorem dX7_init_640 : decode cX7_init 640 = .ok (.bipush 109, 2) := by decide +kernel
theorem dX7_init_642 : decode cX7_init 642 = .ok (.bipush 112, 2) := by decide +kernel
theorem dX7_init_644 : decode cX7_init 644 = .ok (.bipush 101, 2) := by decide +kernel
theorem dX7_init_646 : decode cX7_init 646 = .ok (.bipush 114, 2) := by decide +kernel
theorem dX7_init_648 : decode cX7_init 648 = .ok (.iconst 0, 1) := by decide +kernel
theorem dX7_init_649 : decode cX7_init 649 = .ok (.invokestatic 141, 3) := by decide +kernel
theorem dX7_init_652 : decode cX7_init 652 = .ok (.lastore, 1) := by decide +kernel
theorem dX7_init_653 : decode cX7_init 653 = .ok (.aload_n 0, 1) := by decide +kernel
theorem dX7_init_654 : decode cX7_init 654 = .ok (.getfield 34, 3) := by decide +kernel
theorem dX7_init_657 : decode cX7_init 657 = .ok (.bipush 15, 2) := by decide +kernel
theorem dX7_init_659 : decode cX7_init 659 = .ok (.bipush 111, 2) := by decide +kernel
theorem dX7_init_661 : decode cX7_init 661 = .ok (.bipush 116, 2) := by decide +kernel
theorem dX7_init_663 : decode cX7_init 663 = .ok (.bipush 104, 2) := by decide +kernel
theorem dX7_init_665 : decode cX7_init 665 = .ok (.bipush 101, 2) := by decide +kernel
theorem dX7_init_667 : decode cX7_init 667 = .ok (.bipush 114, 2) := by decide +kernel
theorem dX7_init_669 : decode cX7_init 669 = .ok (.iconst 0, 1) := by decide +kernel
theorem dX7_init_670 : decode cX7_init 670 = .ok (.iconst 0, 1) := by decide +kernel
theorem dX7_init_671 : decode cX7_init 671 = .ok (.invokestatic 141, 3) := by decide +kernel
theorem dX7_init_674 : decode cX7_init 674 = .ok (.lastore, 1) := by decide +kernel
theorem dX7_init_675 : decode cX7_init 675 = .ok (.aload_n 0, 1) := by decide +kernel
theorem dX7_init_676 : decode cX7_init 676 = .ok (.getfield 34, 3) := by decide +kernel
theorem dX7_init_679 : decode cX7_init 679 = .ok (.bipush 16, 2) := by decide +kernel
theorem dX7_init_681 : decode cX7_init 681 = .ok (.bipush 119, 2) := by decide +kernel
theorem dX7_init_683 : decode cX7_init 683 = .ok (.bipush 104, 2) := by decide +kernel
theorem dX7_init_685 : decode cX7_init 685 = .ok (.bipush 105, 2) := by decide +kernel
theorem dX7_init_687 : decode cX7_init 687 = .ok (.bipush 99, 2) := by decide +kernel
theorem dX7_init_689 : decode cX7_init 689 = .ok (.bipush 104, 2) := by decide +kernel
theorem dX7_init_691 : decode cX7_init 691 = .ok (.iconst 0, 1) := by decide +kernel
theorem dX7_init_692 : decode cX7_init 692 = .ok (.iconst 0, 1) := by decide +kernel
theorem dX7_init_693 : decode cX7_init 693 = .ok (.invokestatic 141, 3) := by decide +kernel
theorem dX7_init_696 : decode cX7_init 696 = .ok (.lastore, 1) := by decide +kernel
theorem dX7_init_697 : decode cX7_init 697 = .ok (.aload_n 0, 1) := by decide +kernel
theorem dX7_init_698 : decode cX7_init 698 = .ok (.getfield 34, 3) := by decide +kernel
theorem dX7_init_701 : decode cX7_init 701 = .ok (.bipush 17, 2) := by decide +kernel
theorem dX7_init_703 : decode cX7_init 703 = .ok (.bipush 105, 2) := by decide +kernel
theorem dX7_init_705 : decode cX7_init 705 = .ok (.bipush 110, 2) := by decide +kernel
theorem dX7_init_707 : decode cX7_init 707 = .ok (.bipush 115, 2) := by decide +kernel
theorem dX7_init_709 : decode cX7_init 709 = .ok (.bipush 105, 2) := by decide +kernel
theorem dX7_init_711 : decode cX7_init 711 = .ok (.bipush 100, 2) := by decide +kernel
theorem dX7_init_713 : decode cX7_init 713 = .ok (.bipush 101, 2) := by decide +kernel
theorem dX7_init_715 : decode cX7_init 715 = .ok (.iconst 0, 1) := by decide +kernel
theorem dX7_init_716 : decode cX7_init 716 = .ok (.invokestatic 141, 3) := by decide +kernel
theorem dX7_init_719 : decode cX7_init 719 = .ok (.lastore, 1) := by decide +kernel
theorem dX7_init_720 : decode cX7_init 720 = .ok (.aload_n 0, 1) := by decide +kernel
theorem dX7_init_721 : decode cX7_init 721 = .ok (.getfield 34, 3) := by decide +kernel
theorem dX7_init_724 : decode cX7_init 724 = .ok (.bipush 18, 2) := by decide +kernel
theorem dX7_init_726 : decode cX7_init 726 = .ok (.bipush 111, 2) := by decide +kernel
theorem dX7_init_728 : decode cX7_init 728 = .ok (.bipush 117, 2) := by decide +kernel
theorem dX7_init_730 : decode cX7_init 730 = .ok (.bipush 116, 2) := by decide +kernel
theorem dX7_init_732 : decode cX7_init 732 = .ok (.bipush 115, 2) := by decide +kernel
theorem dX7_init_734 : decode cX7_init 734 = .ok (.bipush 105, 2) := by decide +kernel
theorem dX7_init_736 : decode cX7_init 736 = .ok (.bipush 100, 2) := by decide +kernel
theorem dX7_init_738 : decode cX7_init 738 = .ok (.bipush 101, 2) := by decide +kernel
theorem dX7_init_740 : decode cX7_init 740 = .ok (.invokestatic 141, 3) := by decide +kernel
theorem dX7_init_743 : decode cX7_init 743 = .ok (.lastore, 1) := by decide +kernel
theorem dX7_init_744 : decode cX7_init 744 = .ok (.aload_n 0, 1) := by decide +kernel
theorem dX7_init_745 : decode cX7_init 745 = .ok (.getfield 34, 3) := by decide +kernel
theorem dX7_init_748 : decode cX7_init 748 = .ok (.bipush 19, 2) := by decide +kernel
theorem dX7_init_750 : decode cX7_init 750 = .ok (.bipush 107, 2) := by decide +kernel
theorem dX7_init_752 : decode cX7_init 752 = .ok (.bipush 101, 2) := by decide +kernel
theorem dX7_init_754 : decode cX7_init 754 = .ok (.bipush 121, 2) := by decide +kernel
theorem dX7_init_756 : decode cX7_init 756 = .ok (.bipush 115, 2) := by decide +kernel
theorem dX7_init_758 : decode cX7_init 758 = .ok (.iconst 0, 1) := by decide +kernel
theorem dX7_init_759 : decode cX7_init 759 = .ok (.iconst 0, 1) := by decide +kernel
theorem dX7_init_760 : decode cX7_init 760 = .ok (.iconst 0, 1) := by decide +kernel
theorem dX7_init_761 : decode cX7_init 761 = .ok (.invokestatic 141, 3) := by decide +kernel
theorem dX7_init_764 : decode cX7_init 764 = .ok (.lastore, 1) := by decide +kernel
theorem dX7_init_765 : decode cX7_init 765 = .ok (.aload_n 0, 1) := by decide +kernel
theorem dX7_init_766 : decode cX7_init 766 = .ok (.invokevirtual 145, 3) := by decide +kernel
theorem dX7_init_769 : decode cX7_init 769 = .ok (.aload_n 0, 1) := by decide +kernel
theorem dX7_init_770 : decode cX7_init 770 = .ok (.invokevirtual 148, 3) := by decide +kernel
theorem dX7_init_773 : decode cX7_init 773 = .ok (.return_, 1) := by decide +kernel
theorem dX7_feed_0 : decode cX7_feed 0 = .ok (.aload_n 0, 1) := by decide +kernel
theorem dX7_feed_1 : decode cX7_feed 1 = .ok (.getfield 151, 3) := by decide +kernel
theorem dX7_feed_4 : decode cX7_feed 4 = .ok (.bipush 20, 2) := by decide +kernel
theorem dX7_feed_6 : decode cX7_feed 6 = .ok (.iadd, 1) := by decide +kernel
theorem dX7_feed_7 : decode cX7_feed 7 = .ok (.sipush 2000, 3) := by decide +kernel
theorem dX7_feed_10 : decode cX7_feed 10 = .ok (.if_icmp .le 5, 3) := by decide +kernel
theorem dX7_feed_13 : decode cX7_feed 13 = .ok (.iconst (-1), 1) := by decide +kernel
theorem dX7_feed_14 : decode cX7_feed 14 = .ok (.ireturn, 1) := by decide +kernel
theorem dX7_feed_15 : decode cX7_feed 15 = .ok (.aload_n 0, 1) := by decide +kernel
theorem dX7_feed_16 : decode cX7_feed 16 = .ok (.iload_n 1, 1) := by decide +kernel
theorem dX7_feed_17 : decode cX7_feed 17 = .ok (.invokevirtual 154, 3) := by decide +kernel
theorem dX7_feed_20 : decode cX7_feed 20 = .ok (.aload_n 0, 1) := by decide +kernel
theorem dX7_feed_21 : decode cX7_feed 21 = .ok (.iload_n 2, 1) := by decide +kernel
theorem dX7_feed_22 : decode cX7_feed 22 = .ok (.invokevirtual 154, 3) := by decide +kernel
theorem dX7_feed_25 : decode cX7_feed 25 = .ok (.aload_n 0, 1) := by decide +kernel
theorem dX7_feed_26 : decode cX7_feed 26 = .ok (.iload_n 3, 1) := by decide +kernel
theorem dX7_feed_27 : decode cX7_feed 27 = .ok (.invokevirtual 154, 3) := by decide +kernel
theorem dX7_feed_30 : decode cX7_feed 30 = .ok (.aload_n 0, 1) := by decide +kernel
theorem dX7_feed_31 : decode cX7_feed 31 = .ok (.iload 4, 2) := by decide +kernel
theorem dX7_feed_33 : decode cX7_feed 33 = .ok (.invokevirtual 154, 3) := by decide +kernel
theorem dX7_feed_36 : decode cX7_feed 36 = .ok (.aload_n 0, 1) := by decide +kernel
theorem dX7_feed_37 : decode cX7_feed 37 = .ok (.iload 5, 2) := by decide +kernel
theorem dX7_feed_39 : decode cX7_feed 39 = .ok (.invokevirtual 154, 3) := by decide +kernel
theorem dX7_feed_42 : decode cX7_feed 42 = .ok (.aload_n 0, 1) := by decide +kernel
theorem dX7_feed_43 : decode cX7_feed 43 = .ok (.getfield 151, 3) := by decide +kernel
theorem dX7_feed_46 : decode cX7_feed 46 = .ok (.ireturn, 1) := by decide +kernel
theorem dX7_put_0 : decode cX7_put 0 = .ok (.bipush 24, 2) := by decide +kernel
theorem dX7_put_2 : decode cX7_put 2 = .ok (.istore_n 2, 1) := by decide +kernel
theorem dX7_put_3 : decode cX7_put 3 = .ok (.iload_n 2, 1) := by decide +kernel
theorem dX7_put_4 : decode cX7_put 4 = .ok (.ifCond .lt 32, 3) := by decide +kernel
theorem dX7_put_7 : decode cX7_put 7 = .ok (.aload_n 0, 1) := by decide +kernel
theorem dX7_put_8 : decode cX7_put 8 = .ok (.getfield 13, 3) := by decide +kernel
theorem dX7_put_11 : decode cX7_put 11 = .ok (.aload_n 0, 1) := by decide +kernel
theorem dX7_put_12 : decode cX7_put 12 = .ok (.getfield 151, 3) := by decide +kernel
theorem dX7_put_15 : decode cX7_put 15 = .ok (.iload_n 1, 1) := by decide +kernel
theorem dX7_put_16 : decode cX7_put 16 = .ok (.iload_n 2, 1) := by decide +kernel
theorem dX7_put_17 : decode cX7_put 17 = .ok (.ishr, 1) := by decide +kernel
theorem dX7_put_18 : decode cX7_put 18 = .ok (.i2b, 1) := by decide +kernel
theorem dX7_put_19 : decode cX7_put 19 = .ok (.bastore, 1) := by decide +kernel
theorem dX7_put_20 : decode cX7_put 20 = .ok (.aload_n 0, 1) := by decide +kernel
theorem dX7_put_21 : decode cX7_put 21 = .ok (.dup, 1) := by decide +kernel
theorem dX7_put_22 : decode cX7_put 22 = .ok (.getfield 151, 3) := by decide +kernel
theorem dX7_put_25 : decode cX7_put 25 = .ok (.iconst 1, 1) := by decide +kernel
theorem dX7_put_26 : decode cX7_put 26 = .ok (.iadd, 1) := by decide +kernel
theorem dX7_put_27 : decode cX7_put 27 = .ok (.putfield 151, 3) := by decide +kernel
theorem dX7_put_30 : decode cX7_put 30 = .ok (.iinc 2 (-8), 3) := by decide +kernel
theorem dX7_put_33 : decode cX7_put 33 = .ok (.goto (-30), 3) := by decide +kernel
theorem dX7_put_36 : decode cX7_put 36 = .ok (.return_, 1) := by decide +kernel
theorem dX7_back_0 : decode cX7_back 0 = .ok (.iload_n 1, 1) := by decide +kernel
theorem dX7_back_1 : decode cX7_back 1 = .ok (.ifCond .lt 11, 3) := by decide +kernel
theorem dX7_back_4 : decode cX7_back 4 = .ok (.iload_n 1, 1) := by decide +kernel
theorem dX7_back_5 : decode cX7_back 5 = .ok (.aload_n 0, 1) := by decide +kernel
theorem dX7_back_6 : decode cX7_back 6 = .ok (.getfield 151, 3) := by decide +kernel
theorem dX7_back_9 : decode cX7_back 9 = .ok (.if_icmp .le 5, 3) := by decide +kernel
theorem dX7_back_12 : decode cX7_back 12 = .ok (.iconst (-1), 1) := by decide +kernel
theorem dX7_back_13 : decode cX7_back 13 = .ok (.ireturn, 1) := by decide +kernel
theorem dX7_back_14 : decode cX7_back 14 = .ok (.aload_n 0, 1) := by decide +kernel
theorem dX7_back_15 : decode cX7_back 15 = .ok (.dup, 1) := by decide +kernel
theorem dX7_back_16 : decode cX7_back 16 = .ok (.getfield 151, 3) := by decide +kernel
theorem dX7_back_19 : decode cX7_back 19 = .ok (.iload_n 1, 1) := by decide +kernel
theorem dX7_back_20 : decode cX7_back 20 = .ok (.isub, 1) := by decide +kernel
theorem dX7_back_21 : decode cX7_back 21 = .ok (.putfield 151, 3) := by decide +kernel
theorem dX7_back_24 : decode cX7_back 24 = .ok (.aload_n 0, 1) := by decide +kernel
theorem dX7_back_25 : decode cX7_back 25 = .ok (.getfield 151, 3) := by decide +kernel
theorem dX7_back_28 : decode cX7_back 28 = .ok (.ireturn, 1) := by decide +kernel
theorem dX7_byteAt_0 : decode cX7_byteAt 0 = .ok (.iload_n 1, 1) := by decide +kernel
theorem dX7_byteAt_1 : decode cX7_byteAt 1 = .ok (.aload_n 0, 1) := by decide +kernel
theorem dX7_byteAt_2 : decode cX7_byteAt 2 = .ok (.getfield 157, 3) := by decide +kernel
theorem dX7_byteAt_5 : decode cX7_byteAt 5 = .ok (.if_icmp .ge 16, 3) := by decide +kernel
theorem dX7_byteAt_8 : decode cX7_byteAt 8 = .ok (.aload_n 0, 1) := by decide +kernel
theorem dX7_byteAt_9 : decode cX7_byteAt 9 = .ok (.getfield 17, 3) := by decide +kernel
theorem dX7_byteAt_12 : decode cX7_byteAt 12 = .ok (.iload_n 1, 1) := by decide +kernel
theorem dX7_byteAt_13 : decode cX7_byteAt 13 = .ok (.baload, 1) := by decide +kernel
theorem dX7_byteAt_14 : decode cX7_byteAt 14 = .ok (.sipush 255, 3) := by decide +kernel
theorem dX7_byteAt_17 : decode cX7_byteAt 17 = .ok (.iand, 1) := by decide +kernel
theorem dX7_byteAt_18 : decode cX7_byteAt 18 = .ok (.goto 4, 3) := by decide +kernel
theorem dX7_byteAt_21 : decode cX7_byteAt 21 = .ok (.iconst 0, 1) := by decide +kernel
theorem dX7_byteAt_22 : decode cX7_byteAt 22 = .ok (.ireturn, 1) := by decide +kernel
theorem dX7_isDigit_0 : decode cX7_isDigit 0 = .ok (.iload_n 0, 1) := by decide +kernel
theorem dX7_isDigit_1 : decode cX7_isDigit 1 = .ok (.bipush 48, 2) := by decide +kernel
theorem dX7_isDigit_3 : decode cX7_isDigit 3 = .ok (.if_icmp .lt 13, 3) := by decide +kernel
theorem dX7_isDigit_6 : decode cX7_isDigit 6 = .ok (.iload_n 0, 1) := by decide +kernel
theorem dX7_isDigit_7 : decode cX7_isDigit 7 = .ok (.bipush 57, 2) := by decide +kernel
theorem dX7_isDigit_9 : decode cX7_isDigit 9 = .ok (.if_icmp .gt 7, 3) := by decide +kernel
theorem dX7_isDigit_12 : decode cX7_isDigit 12 = .ok (.iconst 1, 1) := by decide +kernel
theorem dX7_isDigit_13 : decode cX7_isDigit 13 = .ok (.goto 4, 3) := by decide +kernel
theorem dX7_isDigit_16 : decode cX7_isDigit 16 = .ok (.iconst 0, 1) := by decide +kernel
theorem dX7_isDigit_17 : decode cX7_isDigit 17 = .ok (.ireturn, 1) := by decide +kernel
theorem dX7_isLetter_0 : decode cX7_isLetter 0 = .ok (.iload_n 0, 1) := by decide +kernel
theorem dX7_isLetter_1 : decode cX7_isLetter 1 = .ok (.bipush 97, 2) := by decide +kernel
theorem dX7_isLetter_3 : decode cX7_isLetter 3 = .ok (.if_icmp .lt 13, 3) := by decide +kernel
theorem dX7_isLetter_6 : decode cX7_isLetter 6 = .ok (.iload_n 0, 1) := by decide +kernel
theorem dX7_isLetter_7 : decode cX7_isLetter 7 = .ok (.bipush 122, 2) := by decide +kernel
theorem dX7_isLetter_9 : decode cX7_isLetter 9 = .ok (.if_icmp .gt 7, 3) := by decide +kernel
theorem dX7_isLetter_12 : decode cX7_isLetter 12 = .ok (.iconst 1, 1) := by decide +kernel
theorem dX7_isLetter_13 : decode cX7_isLetter 13 = .ok (.goto 4, 3) := by decide +kernel
theorem dX7_isLetter_16 : decode cX7_isLetter 16 = .ok (.iconst 0, 1) := by decide +kernel
theorem dX7_isLetter_17 : decode cX7_isLetter 17 = .ok (.ireturn, 1) := by decide +kernel
theorem dX7_appends_0 : decode cX7_appends 0 = .ok (.iload_n 2, 1) := by decide +kernel
theorem dX7_appends_1 : decode cX7_appends 1 = .ok (.ifCond .ne 7, 3) := by decide +kernel
theorem dX7_appends_4 : decode cX7_appends 4 = .ok (.lload_n 0, 1) := by decide +kernel
theorem dX7_appends_5 : decode cX7_appends 5 = .ok (.goto 16, 3) := by decide +kernel
theorem dX7_appends_8 : decode cX7_appends 8 = .ok (.ldc2_w 160, 3) := by decide +kernel
theorem dX7_appends_11 : decode cX7_appends 11 = .ok (.lload_n 0, 1) := by decide +kernel
theorem dX7_appends_12 : decode cX7_appends 12 = .ok (.lmul, 1) := by decide +kernel
theorem dX7_appends_13 : decode cX7_appends 13 = .ok (.iload_n 2, 1) := by decide +kernel
theorem dX7_appends_14 : decode cX7_appends 14 = .ok (.bipush 97, 2) := by decide +kernel
theorem dX7_appends_16 : decode cX7_appends 16 = .ok (.isub, 1) := by decide +kernel
theorem dX7_appends_17 : decode cX7_appends 17 = .ok (.iconst 1, 1) := by decide +kernel
theorem dX7_appends_18 : decode cX7_appends 18 = .ok (.iadd, 1) := by decide +kernel
theorem dX7_appends_19 : decode cX7_appends 19 = .ok (.i2l, 1) := by decide +kernel
theorem dX7_appends_20 : decode cX7_appends 20 = .ok (.ladd, 1) := by decide +kernel
theorem dX7_appends_21 : decode cX7_appends 21 = .ok (.lreturn, 1) := by decide +kernel
theorem dX7_word_0 : decode cX7_word 0 = .ok (.lconst 0, 1) := by decide +kernel
theorem dX7_word_1 : decode cX7_word 1 = .ok (.iload_n 0, 1) := by decide +kernel
theorem dX7_word_2 : decode cX7_word 2 = .ok (.invokestatic 162, 3) := by decide +kernel
theorem dX7_word_5 : decode cX7_word 5 = .ok (.iload_n 1, 1) := by decide +kernel
theorem dX7_word_6 : decode cX7_word 6 = .ok (.invokestatic 162, 3) := by decide +kernel
theorem dX7_word_9 : decode cX7_word 9 = .ok (.iload_n 2, 1) := by decide +kernel
theorem dX7_word_10 : decode cX7_word 10 = .ok (.invokestatic 162, 3) := by decide +kernel
theorem dX7_word_13 : decode cX7_word 13 = .ok (.iload_n 3, 1) := by decide +kernel
theorem dX7_word_14 : decode cX7_word 14 = .ok (.invokestatic 162, 3) := by decide +kernel
theorem dX7_word_17 : decode cX7_word 17 = .ok (.iload 4, 2) := by decide +kernel
theorem dX7_word_19 : decode cX7_word 19 = .ok (.invokestatic 162, 3) := by decide +kernel
theorem dX7_word_22 : decode cX7_word 22 = .ok (.iload 5, 2) := by decide +kernel
theorem dX7_word_24 : decode cX7_word 24 = .ok (.invokestatic 162, 3) := by decide +kernel
theorem dX7_word_27 : decode cX7_word 27 = .ok (.iload 6, 2) := by decide +kernel
theorem dX7_word_29 : decode cX7_word 29 = .ok (.invokestatic 162, 3) := by decide +kernel
theorem dX7_word_32 : decode cX7_word 32 = .ok (.lreturn, 1) := by decide +kernel
theorem dX7_token_0 : decode cX7_token 0 = .ok (.aload_n 0, 1) := by decide +kernel
theorem dX7_token_1 : decode cX7_token 1 = .ok (.getfield 20, 3) := by decide +kernel
theorem dX7_token_4 : decode cX7_token 4 = .ok (.aload_n 0, 1) := by decide +kernel
theorem dX7_token_5 : decode cX7_token 5 = .ok (.getfield 166, 3) := by decide +kernel
theorem dX7_token_8 : decode cX7_token 8 = .ok (.iload_n 1, 1) := by decide +kernel
theorem dX7_token_9 : decode cX7_token 9 = .ok (.iastore, 1) := by decide +kernel
theorem dX7_token_10 : decode cX7_token 10 = .ok (.aload_n 0, 1) := by decide +kernel
theorem dX7_token_11 : decode cX7_token 11 = .ok (.getfield 24, 3) := by decide +kernel
theorem dX7_token_14 : decode cX7_token 14 = .ok (.aload_n 0, 1) := by decide +kernel
theorem dX7_token_15 : decode cX7_token 15 = .ok (.getfield 166, 3) := by decide +kernel
theorem dX7_token_18 : decode cX7_token 18 = .ok (.iload_n 2, 1) := by decide +kernel
theorem dX7_token_19 : decode cX7_token 19 = .ok (.iastore, 1) := by decide +kernel
theorem dX7_token_20 : decode cX7_token 20 = .ok (.aload_n 0, 1) := by decide +kernel
theorem dX7_token_21 : decode cX7_token 21 = .ok (.getfield 27, 3) := by decide +kernel
theorem dX7_token_24 : decode cX7_token 24 = .ok (.aload_n 0, 1) := by decide +kernel
theorem dX7_token_25 : decode cX7_token 25 = .ok (.getfield 166, 3) := by decide +kernel
theorem dX7_token_28 : decode cX7_token 28 = .ok (.iload_n 3, 1) := by decide +kernel
theorem dX7_token_29 : decode cX7_token 29 = .ok (.iastore, 1) := by decide +kernel
theorem dX7_token_30 : decode cX7_token 30 = .ok (.aload_n 0, 1) := by decide +kernel
theorem dX7_token_31 : decode cX7_token 31 = .ok (.getfield 30, 3) := by decide +kernel
theorem dX7_token_34 : decode cX7_token 34 = .ok (.aload_n 0, 1) := by decide +kernel
theorem dX7_token_35 : decode cX7_token 35 = .ok (.getfield 166, 3) := by decide +kernel
theorem dX7_token_38 : decode cX7_token 38 = .ok (.lload 4, 2) := by decide +kernel
theorem dX7_token_40 : decode cX7_token 40 = .ok (.lastore, 1) := by decide +kernel
theorem dX7_token_41 : decode cX7_token 41 = .ok (.aload_n 0, 1) := by decide +kernel
theorem dX7_token_42 : decode cX7_token 42 = .ok (.dup, 1) := by decide +kernel
theorem dX7_token_43 : decode cX7_token 43 = .ok (.getfield 166, 3) := by decide +kernel
theorem dX7_token_46 : decode cX7_token 46 = .ok (.iconst 1, 1) := by decide +kernel
theorem dX7_token_47 : decode cX7_token 47 = .ok (.iadd, 1) := by decide +kernel
theorem dX7_token_48 : decode cX7_token 48 = .ok (.putfield 166, 3) := by decide +kernel
theorem dX7_token_51 : decode cX7_token 51 = .ok (.return_, 1) := by decide +kernel
theorem dX7_cut_0 : decode cX7_cut 0 = .ok (.aload_n 0, 1) := by decide +kernel
theorem dX7_cut_1 : decode cX7_cut 1 = .ok (.iconst 0, 1) := by decide +kernel
theorem dX7_cut_2 : decode cX7_cut 2 = .ok (.putfield 166, 3) := by decide +kernel
theorem dX7_cut_5 : decode cX7_cut 5 = .ok (.iconst 0, 1) := by decide +kernel
theorem dX7_cut_6 : decode cX7_cut 6 = .ok (.istore_n 1, 1) := by decide +kernel
theorem dX7_cut_7 : decode cX7_cut 7 = .ok (.aload_n 0, 1) := by decide +kernel
theorem dX7_cut_8 : decode cX7_cut 8 = .ok (.getfield 166, 3) := by decide +kernel
theorem dX7_cut_11 : decode cX7_cut 11 = .ok (.sipush 400, 3) := by decide +kernel
theorem dX7_cut_14 : decode cX7_cut 14 = .ok (.if_icmp .gt 280, 3) := by decide +kernel
theorem dX7_cut_17 : decode cX7_cut 17 = .ok (.aload_n 0, 1) := by decide +kernel
theorem dX7_cut_18 : decode cX7_cut 18 = .ok (.iload_n 1, 1) := by decide +kernel
theorem dX7_cut_19 : decode cX7_cut 19 = .ok (.invokevirtual 169, 3) := by decide +kernel
theorem dX7_cut_22 : decode cX7_cut 22 = .ok (.istore_n 2, 1) := by decide +kernel
theorem dX7_cut_23 : decode cX7_cut 23 = .ok (.iload_n 1, 1) := by decide +kernel
theorem dX7_cut_24 : decode cX7_cut 24 = .ok (.aload_n 0, 1) := by decide +kernel
theorem dX7_cut_25 : decode cX7_cut 25 = .ok (.getfield 157, 3) := by decide +kernel
theorem dX7_cut_28 : decode cX7_cut 28 = .ok (.if_icmp .lt 15, 3) := by decide +kernel
theorem dX7_cut_31 : decode cX7_cut 31 = .ok (.aload_n 0, 1) := by decide +kernel
theorem dX7_cut_32 : decode cX7_cut 32 = .ok (.iconst 0, 1) := by decide +kernel
theorem dX7_cut_33 : decode cX7_cut 33 = .ok (.aload_n 0, 1) := by decide +kernel
theorem dX7_cut_34 : decode cX7_cut 34 = .ok (.getfield 157, 3) := by decide +kernel
theorem dX7_cut_37 : decode cX7_cut 37 = .ok (.iconst 0, 1) := by decide +kernel
theorem dX7_cut_38 : decode cX7_cut 38 = .ok (.lconst 0, 1) := by decide +kernel
theorem dX7_cut_39 : decode cX7_cut 39 = .ok (.invokevirtual 173, 3) := by decide +kernel
theorem dX7_cut_42 : decode cX7_cut 42 = .ok (.return_, 1) := by decide +kernel
theorem dX7_cut_43 : decode cX7_cut 43 = .ok (.iload_n 2, 1) := by decide +kernel
theorem dX7_cut_44 : decode cX7_cut 44 = .ok (.bipush 9, 2) := by decide +kernel
theorem dX7_cut_46 : decode cX7_cut 46 = .ok (.if_icmp .eq 21, 3) := by decide +kernel
theorem dX7_cut_49 : decode cX7_cut 49 = .ok (.iload_n 2, 1) := by decide +kernel
theorem dX7_cut_50 : decode cX7_cut 50 = .ok (.bipush 10, 2) := by decide +kernel
theorem dX7_cut_52 : decode cX7_cut 52 = .ok (.if_icmp .eq 15, 3) := by decide +kernel
theorem dX7_cut_55 : decode cX7_cut 55 = .ok (.iload_n 2, 1) := by decide +kernel
theorem dX7_cut_56 : decode cX7_cut 56 = .ok (.bipush 13, 2) := by decide +kernel
theorem dX7_cut_58 : decode cX7_cut 58 = .ok (.if_icmp .eq 9, 3) := by decide +kernel
theorem dX7_cut_61 : decode cX7_cut 61 = .ok (.iload_n 2, 1) := by decide +kernel
theorem dX7_cut_62 : decode cX7_cut 62 = .ok (.bipush 32, 2) := by decide +kernel
theorem dX7_cut_64 : decode cX7_cut 64 = .ok (.if_icmp .ne 9, 3) := by decide +kernel
theorem dX7_cut_67 : decode cX7_cut 67 = .ok (.iinc 1 1, 3) := by decide +kernel
theorem dX7_cut_70 : decode cX7_cut 70 = .ok (.goto 221, 3) := by decide +kernel
theorem dX7_cut_73 : decode cX7_cut 73 = .ok (.iload_n 2, 1) := by decide +kernel
theorem dX7_cut_74 : decode cX7_cut 74 = .ok (.invokestatic 177, 3) := by decide +kernel
theorem dX7_cut_77 : decode cX7_cut 77 = .ok (.ifCond .eq 119, 3) := by decide +kernel
theorem dX7_cut_80 : decode cX7_cut 80 = .ok (.iconst 0, 1) := by decide +kernel
theorem dX7_cut_81 : decode cX7_cut 81 = .ok (.istore_n 3, 1) := by decide +kernel
theorem dX7_cut_82 : decode cX7_cut 82 = .ok (.lconst 0, 1) := by decide +kernel
theorem dX7_cut_83 : decode cX7_cut 83 = .ok (.lstore 4, 2) := by decide +kernel
theorem dX7_cut_85 : decode cX7_cut 85 = .ok (.aload_n 0, 1) := by decide +kernel
theorem dX7_cut_86 : decode cX7_cut 86 = .ok (.iload_n 1, 1) := by decide +kernel
theorem dX7_cut_87 : decode cX7_cut 87 = .ok (.iload_n 3, 1) := by decide +kernel
theorem dX7_cut_88 : decode cX7_cut 88 = .ok (.iadd, 1) := by decide +kernel
theorem dX7_cut_89 : decode cX7_cut 89 = .ok (.invokevirtual 169, 3) := by decide +kernel
theorem dX7_cut_92 : decode cX7_cut 92 = .ok (.invokestatic 177, 3) := by decide +kernel
theorem dX7_cut_95 : decode cX7_cut 95 = .ok (.ifCond .eq 29, 3) := by decide +kernel
theorem dX7_cut_98 : decode cX7_cut 98 = .ok (.iload_n 3, 1) := by decide +kernel
theorem dX7_cut_99 : decode cX7_cut 99 = .ok (.bipush 8, 2) := by decide +kernel
theorem dX7_cut_101 : decode cX7_cut 101 = .ok (.if_icmp .ge 17, 3) := by decide +kernel
theorem dX7_cut_104 : decode cX7_cut 104 = .ok (.lload 4, 2) := by decide +kernel
theorem dX7_cut_106 : decode cX7_cut 106 = .ok (.aload_n 0, 1) := by decide +kernel
theorem dX7_cut_107 : decode cX7_cut 107 = .ok (.iload_n 1, 1) := by decide +kernel
theorem dX7_cut_108 : decode cX7_cut 108 = .ok (.iload_n 3, 1) := by decide +kernel
theorem dX7_cut_109 : decode cX7_cut 109 = .ok (.iadd, 1) := by decide +kernel
theorem dX7_cut_110 : decode cX7_cut 110 = .ok (.invokevirtual 169, 3) := by decide +kernel
theorem dX7_cut_113 : decode cX7_cut 113 = .ok (.invokestatic 162, 3) := by decide +kernel
theorem dX7_cut_116 : decode cX7_cut 116 = .ok (.lstore 4, 2) := by decide +kernel
theorem dX7_cut_118 : decode cX7_cut 118 = .ok (.iinc 3 1, 3) := by decide +kernel
theorem dX7_cut_121 : decode cX7_cut 121 = .ok (.goto (-36), 3) := by decide +kernel
theorem dX7_cut_124 : decode cX7_cut 124 = .ok (.iload_n 3, 1) := by decide +kernel
theorem dX7_cut_125 : decode cX7_cut 125 = .ok (.bipush 8, 2) := by decide +kernel
theorem dX7_cut_127 : decode cX7_cut 127 = .ok (.if_icmp .le 7, 3) := by decide +kernel
theorem dX7_cut_130 : decode cX7_cut 130 = .ok (.iconst 3, 1) := by decide +kernel
theorem dX7_cut_131 : decode cX7_cut 131 = .ok (.goto 4, 3) := by decide +kernel
theorem dX7_cut_134 : decode cX7_cut 134 = .ok (.iconst 1, 1) := by decide +kernel
theorem dX7_cut_135 : decode cX7_cut 135 = .ok (.istore 6, 2) := by decide +kernel
theorem dX7_cut_137 : decode cX7_cut 137 = .ok (.iload_n 3, 1) := by decide +kernel
theorem dX7_cut_138 : decode cX7_cut 138 = .ok (.bipush 8, 2) := by decide +kernel
theorem dX7_cut_140 : decode cX7_cut 140 = .ok (.if_icmp .gt 39, 3) := by decide +kernel
theorem dX7_cut_143 : decode cX7_cut 143 = .ok (.iconst 0, 1) := by decide +kernel
theorem dX7_cut_144 : decode cX7_cut 144 = .ok (.istore 7, 2) := by decide +kernel
theorem dX7_cut_146 : decode cX7_cut 146 = .ok (.iload 7, 2) := by decide +kernel
theorem dX7_cut_148 : decode cX7_cut 148 = .ok (.bipush 20, 2) := by decide +kernel
theorem dX7_cut_150 : decode cX7_cut 150 = .ok (.if_icmp .ge 29, 3) := by decide +kernel
theorem dX7_cut_153 : decode cX7_cut 153 = .ok (.aload_n 0, 1) := by decide +kernel
theorem dX7_cut_154 : decode cX7_cut 154 = .ok (.getfield 34, 3) := by decide +kernel
theorem dX7_cut_157 : decode cX7_cut 157 = .ok (.iload 7, 2) := by decide +kernel
theorem dX7_cut_159 : decode cX7_cut 159 = .ok (.laload, 1) := by decide +kernel
theorem dX7_cut_160 : decode cX7_cut 160 = .ok (.lload 4, 2) := by decide +kernel
theorem dX7_cut_162 : decode cX7_cut 162 = .ok (.lcmp, 1) := by decide +kernel
theorem dX7_cut_163 : decode cX7_cut 163 = .ok (.ifCond .ne 10, 3) := by decide +kernel
theorem dX7_cut_166 : decode cX7_cut 166 = .ok (.bipush 20, 2) := by decide +kernel
theorem dX7_cut_168 : decode cX7_cut 168 = .ok (.iload 7, 2) := by decide +kernel
theorem dX7_cut_170 : decode cX7_cut 170 = .ok (.iadd, 1) := by decide +kernel
theorem dX7_cut_171 : decode cX7_cut 171 = .ok (.istore 6, 2) := by decide +kernel
theorem dX7_cut_173 : decode cX7_cut 173 = .ok (.iinc 7 1, 3) := by decide +kernel
theorem dX7_cut_176 : decode cX7_cut 176 = .ok (.goto (-30), 3) := by decide +kernel
theorem dX7_cut_179 : decode cX7_cut 179 = .ok (.aload_n 0, 1) := by decide +kernel
theorem dX7_cut_180 : decode cX7_cut 180 = .ok (.iload 6, 2) := by decide +kernel
theorem dX7_cut_182 : decode cX7_cut 182 = .ok (.iload_n 1, 1) := by decide +kernel
theorem dX7_cut_183 : decode cX7_cut 183 = .ok (.iconst 0, 1) := by decide +kernel
theorem dX7_cut_184 : decode cX7_cut 184 = .ok (.lload 4, 2) := by decide +kernel
theorem dX7_cut_186 : decode cX7_cut 186 = .ok (.invokevirtual 173, 3) := by decide +kernel
theorem dX7_cut_189 : decode cX7_cut 189 = .ok (.iload_n 1, 1) := by decide +kernel
theorem dX7_cut_190 : decode cX7_cut 190 = .ok (.iload_n 3, 1) := by decide +kernel
theorem dX7_cut_191 : decode cX7_cut 191 = .ok (.iadd, 1) := by decide +kernel
theorem dX7_cut_192 : decode cX7_cut 192 = .ok (.istore_n 1, 1) := by decide +kernel
theorem dX7_cut_193 : decode cX7_cut 193 = .ok (.goto 98, 3) := by decide +kernel
theorem dX7_cut_196 : decode cX7_cut 196 = .ok (.iload_n 2, 1) := by decide +kernel
theorem dX7_cut_197 : decode cX7_cut 197 = .ok (.invokestatic 181, 3) := by decide +kernel
theorem dX7_cut_200 : decode cX7_cut 200 = .ok (.ifCond .eq 75, 3) := by decide +kernel
theorem dX7_cut_203 : decode cX7_cut 203 = .ok (.iconst 0, 1) := by decide +kernel
