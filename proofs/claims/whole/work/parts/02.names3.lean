theorem dX4_isShow_1 : decode cX4_isShow 1 = .ok (.i2l, 1) := by decide +kernel
theorem dX4_isShow_2 : decode cX4_isShow 2 = .ok (.lconst 0, 1) := by decide +kernel
theorem dX4_isShow_3 : decode cX4_isShow 3 = .ok (.aload_n 0, 1) := by decide +kernel
theorem dX4_isShow_4 : decode cX4_isShow 4 = .ok (.getfield 7, 3) := by decide +kernel
theorem dX4_isShow_7 : decode cX4_isShow 7 = .ok (.bipush 67, 2) := by decide +kernel
theorem dX4_isShow_9 : decode cX4_isShow 9 = .ok (.iaload, 1) := by decide +kernel
theorem dX4_isShow_10 : decode cX4_isShow 10 = .ok (.iconst 1, 1) := by decide +kernel
theorem dX4_isShow_11 : decode cX4_isShow 11 = .ok (.isub, 1) := by decide +kernel
theorem dX4_isShow_12 : decode cX4_isShow 12 = .ok (.i2l, 1) := by decide +kernel
theorem dX4_isShow_13 : decode cX4_isShow 13 = .ok (.invokestatic 62, 3) := by decide +kernel
theorem dX4_isShow_16 : decode cX4_isShow 16 = .ok (.ireturn, 1) := by decide +kernel
theorem dX4_isStart_0 : decode cX4_isStart 0 = .ok (.iload_n 0, 1) := by decide +kernel
theorem dX4_isStart_1 : decode cX4_isStart 1 = .ok (.i2l, 1) := by decide +kernel
theorem dX4_isStart_2 : decode cX4_isStart 2 = .ok (.lconst 0, 1) := by decide +kernel
theorem dX4_isStart_3 : decode cX4_isStart 3 = .ok (.ldc2_w 66, 3) := by decide +kernel
theorem dX4_isStart_6 : decode cX4_isStart 6 = .ok (.invokestatic 62, 3) := by decide +kernel
theorem dX4_isStart_9 : decode cX4_isStart 9 = .ok (.ireturn, 1) := by decide +kernel
theorem dX4_addReel_0 : decode cX4_addReel 0 = .ok (.iload_n 1, 1) := by decide +kernel
theorem dX4_addReel_1 : decode cX4_addReel 1 = .ok (.invokestatic 68, 3) := by decide +kernel
theorem dX4_addReel_4 : decode cX4_addReel 4 = .ok (.ifCond .eq 27, 3) := by decide +kernel
theorem dX4_addReel_7 : decode cX4_addReel 7 = .ok (.iload_n 2, 1) := by decide +kernel
theorem dX4_addReel_8 : decode cX4_addReel 8 = .ok (.i2l, 1) := by decide +kernel
theorem dX4_addReel_9 : decode cX4_addReel 9 = .ok (.lconst 1, 1) := by decide +kernel
theorem dX4_addReel_10 : decode cX4_addReel 10 = .ok (.ldc2_w 72, 3) := by decide +kernel
theorem dX4_addReel_13 : decode cX4_addReel 13 = .ok (.invokestatic 62, 3) := by decide +kernel
theorem dX4_addReel_16 : decode cX4_addReel 16 = .ok (.ifCond .eq 15, 3) := by decide +kernel
theorem dX4_addReel_19 : decode cX4_addReel 19 = .ok (.iload_n 3, 1) := by decide +kernel
theorem dX4_addReel_20 : decode cX4_addReel 20 = .ok (.i2l, 1) := by decide +kernel
theorem dX4_addReel_21 : decode cX4_addReel 21 = .ok (.lconst 0, 1) := by decide +kernel
theorem dX4_addReel_22 : decode cX4_addReel 22 = .ok (.ldc2_w 74, 3) := by decide +kernel
theorem dX4_addReel_25 : decode cX4_addReel 25 = .ok (.invokestatic 62, 3) := by decide +kernel
theorem dX4_addReel_28 : decode cX4_addReel 28 = .ok (.ifCond .ne 5, 3) := by decide +kernel
theorem dX4_addReel_31 : decode cX4_addReel 31 = .ok (.iconst (-1), 1) := by decide +kernel
theorem dX4_addReel_32 : decode cX4_addReel 32 = .ok (.ireturn, 1) := by decide +kernel
theorem dX4_addReel_33 : decode cX4_addReel 33 = .ok (.aload_n 0, 1) := by decide +kernel
theorem dX4_addReel_34 : decode cX4_addReel 34 = .ok (.getfield 7, 3) := by decide +kernel
theorem dX4_addReel_37 : decode cX4_addReel 37 = .ok (.iconst 0, 1) := by decide +kernel
theorem dX4_addReel_38 : decode cX4_addReel 38 = .ok (.iload_n 1, 1) := by decide +kernel
theorem dX4_addReel_39 : decode cX4_addReel 39 = .ok (.iadd, 1) := by decide +kernel
theorem dX4_addReel_40 : decode cX4_addReel 40 = .ok (.iaload, 1) := by decide +kernel
theorem dX4_addReel_41 : decode cX4_addReel 41 = .ok (.bipush 6, 2) := by decide +kernel
theorem dX4_addReel_43 : decode cX4_addReel 43 = .ok (.if_icmp .ne 6, 3) := by decide +kernel
theorem dX4_addReel_46 : decode cX4_addReel 46 = .ok (.bipush (-3), 2) := by decide +kernel
theorem dX4_addReel_48 : decode cX4_addReel 48 = .ok (.ireturn, 1) := by decide +kernel
theorem dX4_addReel_49 : decode cX4_addReel 49 = .ok (.aload_n 0, 1) := by decide +kernel
theorem dX4_addReel_50 : decode cX4_addReel 50 = .ok (.invokevirtual 76, 3) := by decide +kernel
theorem dX4_addReel_53 : decode cX4_addReel 53 = .ok (.bipush 6, 2) := by decide +kernel
theorem dX4_addReel_55 : decode cX4_addReel 55 = .ok (.iload_n 1, 1) := by decide +kernel
theorem dX4_addReel_56 : decode cX4_addReel 56 = .ok (.imul, 1) := by decide +kernel
theorem dX4_addReel_57 : decode cX4_addReel 57 = .ok (.aload_n 0, 1) := by decide +kernel
theorem dX4_addReel_58 : decode cX4_addReel 58 = .ok (.getfield 7, 3) := by decide +kernel
theorem dX4_addReel_61 : decode cX4_addReel 61 = .ok (.iconst 0, 1) := by decide +kernel
theorem dX4_addReel_62 : decode cX4_addReel 62 = .ok (.iload_n 1, 1) := by decide +kernel
theorem dX4_addReel_63 : decode cX4_addReel 63 = .ok (.iadd, 1) := by decide +kernel
theorem dX4_addReel_64 : decode cX4_addReel 64 = .ok (.iaload, 1) := by decide +kernel
theorem dX4_addReel_65 : decode cX4_addReel 65 = .ok (.iadd, 1) := by decide +kernel
theorem dX4_addReel_66 : decode cX4_addReel 66 = .ok (.istore 4, 2) := by decide +kernel
theorem dX4_addReel_68 : decode cX4_addReel 68 = .ok (.aload_n 0, 1) := by decide +kernel
theorem dX4_addReel_69 : decode cX4_addReel 69 = .ok (.getfield 7, 3) := by decide +kernel
theorem dX4_addReel_72 : decode cX4_addReel 72 = .ok (.iconst 4, 1) := by decide +kernel
theorem dX4_addReel_73 : decode cX4_addReel 73 = .ok (.iload 4, 2) := by decide +kernel
theorem dX4_addReel_75 : decode cX4_addReel 75 = .ok (.iadd, 1) := by decide +kernel
theorem dX4_addReel_76 : decode cX4_addReel 76 = .ok (.iload_n 2, 1) := by decide +kernel
theorem dX4_addReel_77 : decode cX4_addReel 77 = .ok (.iastore, 1) := by decide +kernel
theorem dX4_addReel_78 : decode cX4_addReel 78 = .ok (.aload_n 0, 1) := by decide +kernel
theorem dX4_addReel_79 : decode cX4_addReel 79 = .ok (.getfield 7, 3) := by decide +kernel
theorem dX4_addReel_82 : decode cX4_addReel 82 = .ok (.bipush 28, 2) := by decide +kernel
theorem dX4_addReel_84 : decode cX4_addReel 84 = .ok (.iload 4, 2) := by decide +kernel
theorem dX4_addReel_86 : decode cX4_addReel 86 = .ok (.iadd, 1) := by decide +kernel
theorem dX4_addReel_87 : decode cX4_addReel 87 = .ok (.iload_n 3, 1) := by decide +kernel
theorem dX4_addReel_88 : decode cX4_addReel 88 = .ok (.iastore, 1) := by decide +kernel
theorem dX4_addReel_89 : decode cX4_addReel 89 = .ok (.aload_n 0, 1) := by decide +kernel
theorem dX4_addReel_90 : decode cX4_addReel 90 = .ok (.getfield 7, 3) := by decide +kernel
theorem dX4_addReel_93 : decode cX4_addReel 93 = .ok (.iconst 0, 1) := by decide +kernel
theorem dX4_addReel_94 : decode cX4_addReel 94 = .ok (.iload_n 1, 1) := by decide +kernel
theorem dX4_addReel_95 : decode cX4_addReel 95 = .ok (.iadd, 1) := by decide +kernel
theorem dX4_addReel_96 : decode cX4_addReel 96 = .ok (.dup2, 1) := by decide +kernel
theorem dX4_addReel_97 : decode cX4_addReel 97 = .ok (.iaload, 1) := by decide +kernel
theorem dX4_addReel_98 : decode cX4_addReel 98 = .ok (.iconst 1, 1) := by decide +kernel
theorem dX4_addReel_99 : decode cX4_addReel 99 = .ok (.iadd, 1) := by decide +kernel
theorem dX4_addReel_100 : decode cX4_addReel 100 = .ok (.iastore, 1) := by decide +kernel
theorem dX4_addReel_101 : decode cX4_addReel 101 = .ok (.aload_n 0, 1) := by decide +kernel
theorem dX4_addReel_102 : decode cX4_addReel 102 = .ok (.getfield 7, 3) := by decide +kernel
theorem dX4_addReel_105 : decode cX4_addReel 105 = .ok (.iconst 0, 1) := by decide +kernel
theorem dX4_addReel_106 : decode cX4_addReel 106 = .ok (.iload_n 1, 1) := by decide +kernel
theorem dX4_addReel_107 : decode cX4_addReel 107 = .ok (.iadd, 1) := by decide +kernel
theorem dX4_addReel_108 : decode cX4_addReel 108 = .ok (.iaload, 1) := by decide +kernel
theorem dX4_addReel_109 : decode cX4_addReel 109 = .ok (.ireturn, 1) := by decide +kernel
theorem dX4_removeReels_0 : decode cX4_removeReels 0 = .ok (.iload_n 1, 1) := by decide +kernel
theorem dX4_removeReels_1 : decode cX4_removeReels 1 = .ok (.invokestatic 68, 3) := by decide +kernel
theorem dX4_removeReels_4 : decode cX4_removeReels 4 = .ok (.ifCond .ne 5, 3) := by decide +kernel
theorem dX4_removeReels_7 : decode cX4_removeReels 7 = .ok (.iconst (-1), 1) := by decide +kernel
theorem dX4_removeReels_8 : decode cX4_removeReels 8 = .ok (.ireturn, 1) := by decide +kernel
theorem dX4_removeReels_9 : decode cX4_removeReels 9 = .ok (.iconst 0, 1) := by decide +kernel
theorem dX4_removeReels_10 : decode cX4_removeReels 10 = .ok (.istore_n 2, 1) := by decide +kernel
theorem dX4_removeReels_11 : decode cX4_removeReels 11 = .ok (.iload_n 2, 1) := by decide +kernel
theorem dX4_removeReels_12 : decode cX4_removeReels 12 = .ok (.aload_n 0, 1) := by decide +kernel
theorem dX4_removeReels_13 : decode cX4_removeReels 13 = .ok (.getfield 7, 3) := by decide +kernel
theorem dX4_removeReels_16 : decode cX4_removeReels 16 = .ok (.bipush 67, 2) := by decide +kernel
theorem dX4_removeReels_18 : decode cX4_removeReels 18 = .ok (.iaload, 1) := by decide +kernel
theorem dX4_removeReels_19 : decode cX4_removeReels 19 = .ok (.if_icmp .ge 25, 3) := by decide +kernel
theorem dX4_removeReels_22 : decode cX4_removeReels 22 = .ok (.aload_n 0, 1) := by decide +kernel
theorem dX4_removeReels_23 : decode cX4_removeReels 23 = .ok (.getfield 7, 3) := by decide +kernel
theorem dX4_removeReels_26 : decode cX4_removeReels 26 = .ok (.bipush 74, 2) := by decide +kernel
theorem dX4_removeReels_28 : decode cX4_removeReels 28 = .ok (.iload_n 2, 1) := by decide +kernel
theorem dX4_removeReels_29 : decode cX4_removeReels 29 = .ok (.iadd, 1) := by decide +kernel
theorem dX4_removeReels_30 : decode cX4_removeReels 30 = .ok (.iaload, 1) := by decide +kernel
theorem dX4_removeReels_31 : decode cX4_removeReels 31 = .ok (.iload_n 1, 1) := by decide +kernel
theorem dX4_removeReels_32 : decode cX4_removeReels 32 = .ok (.if_icmp .ne 6, 3) := by decide +kernel
theorem dX4_removeReels_35 : decode cX4_removeReels 35 = .ok (.bipush (-2), 2) := by decide +kernel
theorem dX4_removeReels_37 : decode cX4_removeReels 37 = .ok (.ireturn, 1) := by decide +kernel
theorem dX4_removeReels_38 : decode cX4_removeReels 38 = .ok (.iinc 2 1, 3) := by decide +kernel
theorem dX4_removeReels_41 : decode cX4_removeReels 41 = .ok (.goto (-30), 3) := by decide +kernel
theorem dX4_removeReels_44 : decode cX4_removeReels 44 = .ok (.aload_n 0, 1) := by decide +kernel
theorem dX4_removeReels_45 : decode cX4_removeReels 45 = .ok (.invokevirtual 76, 3) := by decide +kernel
theorem dX4_removeReels_48 : decode cX4_removeReels 48 = .ok (.aload_n 0, 1) := by decide +kernel
theorem dX4_removeReels_49 : decode cX4_removeReels 49 = .ok (.getfield 7, 3) := by decide +kernel
theorem dX4_removeReels_52 : decode cX4_removeReels 52 = .ok (.iconst 0, 1) := by decide +kernel
theorem dX4_removeReels_53 : decode cX4_removeReels 53 = .ok (.iload_n 1, 1) := by decide +kernel
theorem dX4_removeReels_54 : decode cX4_removeReels 54 = .ok (.iadd, 1) := by decide +kernel
theorem dX4_removeReels_55 : decode cX4_removeReels 55 = .ok (.iaload, 1) := by decide +kernel
theorem dX4_removeReels_56 : decode cX4_removeReels 56 = .ok (.istore_n 2, 1) := by decide +kernel
theorem dX4_removeReels_57 : decode cX4_removeReels 57 = .ok (.aload_n 0, 1) := by decide +kernel
theorem dX4_removeReels_58 : decode cX4_removeReels 58 = .ok (.getfield 7, 3) := by decide +kernel
theorem dX4_removeReels_61 : decode cX4_removeReels 61 = .ok (.iconst 0, 1) := by decide +kernel
theorem dX4_removeReels_62 : decode cX4_removeReels 62 = .ok (.iload_n 1, 1) := by decide +kernel
theorem dX4_removeReels_63 : decode cX4_removeReels 63 = .ok (.iadd, 1) := by decide +kernel
theorem dX4_removeReels_64 : decode cX4_removeReels 64 = .ok (.iconst 0, 1) := by decide +kernel
theorem dX4_removeReels_65 : decode cX4_removeReels 65 = .ok (.iastore, 1) := by decide +kernel
theorem dX4_removeReels_66 : decode cX4_removeReels 66 = .ok (.iload_n 2, 1) := by decide +kernel
theorem dX4_removeReels_67 : decode cX4_removeReels 67 = .ok (.ireturn, 1) := by decide +kernel
theorem dX4_setHome_0 : decode cX4_setHome 0 = .ok (.iload_n 1, 1) := by decide +kernel
theorem dX4_setHome_1 : decode cX4_setHome 1 = .ok (.invokestatic 68, 3) := by decide +kernel
theorem dX4_setHome_4 : decode cX4_setHome 4 = .ok (.ifCond .eq 10, 3) := by decide +kernel
theorem dX4_setHome_7 : decode cX4_setHome 7 = .ok (.iload_n 2, 1) := by decide +kernel
theorem dX4_setHome_8 : decode cX4_setHome 8 = .ok (.invokestatic 79, 3) := by decide +kernel
theorem dX4_setHome_11 : decode cX4_setHome 11 = .ok (.ifCond .ne 5, 3) := by decide +kernel
theorem dX4_setHome_14 : decode cX4_setHome 14 = .ok (.iconst (-1), 1) := by decide +kernel
theorem dX4_setHome_15 : decode cX4_setHome 15 = .ok (.ireturn, 1) := by decide +kernel
theorem dX4_setHome_16 : decode cX4_setHome 16 = .ok (.aload_n 0, 1) := by decide +kernel
theorem dX4_setHome_17 : decode cX4_setHome 17 = .ok (.invokevirtual 76, 3) := by decide +kernel
theorem dX4_setHome_20 : decode cX4_setHome 20 = .ok (.aload_n 0, 1) := by decide +kernel
theorem dX4_setHome_21 : decode cX4_setHome 21 = .ok (.getfield 7, 3) := by decide +kernel
theorem dX4_setHome_24 : decode cX4_setHome 24 = .ok (.bipush 52, 2) := by decide +kernel
theorem dX4_setHome_26 : decode cX4_setHome 26 = .ok (.iload_n 1, 1) := by decide +kernel
theorem dX4_setHome_27 : decode cX4_setHome 27 = .ok (.iadd, 1) := by decide +kernel
theorem dX4_setHome_28 : decode cX4_setHome 28 = .ok (.iaload, 1) := by decide +kernel
theorem dX4_setHome_29 : decode cX4_setHome 29 = .ok (.istore_n 3, 1) := by decide +kernel
theorem dX4_setHome_30 : decode cX4_setHome 30 = .ok (.aload_n 0, 1) := by decide +kernel
theorem dX4_setHome_31 : decode cX4_setHome 31 = .ok (.getfield 7, 3) := by decide +kernel
theorem dX4_setHome_34 : decode cX4_setHome 34 = .ok (.bipush 52, 2) := by decide +kernel
theorem dX4_setHome_36 : decode cX4_setHome 36 = .ok (.iload_n 1, 1) := by decide +kernel
theorem dX4_setHome_37 : decode cX4_setHome 37 = .ok (.iadd, 1) := by decide +kernel
theorem dX4_setHome_38 : decode cX4_setHome 38 = .ok (.iload_n 2, 1) := by decide +kernel
theorem dX4_setHome_39 : decode cX4_setHome 39 = .ok (.iastore, 1) := by decide +kernel
theorem dX4_setHome_40 : decode cX4_setHome 40 = .ok (.iload_n 3, 1) := by decide +kernel
theorem dX4_setHome_41 : decode cX4_setHome 41 = .ok (.ireturn, 1) := by decide +kernel
theorem dX4_filmLength_0 : decode cX4_filmLength 0 = .ok (.iload_n 1, 1) := by decide +kernel
theorem dX4_filmLength_1 : decode cX4_filmLength 1 = .ok (.invokestatic 68, 3) := by decide +kernel
theorem dX4_filmLength_4 : decode cX4_filmLength 4 = .ok (.ifCond .ne 5, 3) := by decide +kernel
theorem dX4_filmLength_7 : decode cX4_filmLength 7 = .ok (.iconst (-1), 1) := by decide +kernel
theorem dX4_filmLength_8 : decode cX4_filmLength 8 = .ok (.ireturn, 1) := by decide +kernel
theorem dX4_filmLength_9 : decode cX4_filmLength 9 = .ok (.iconst 0, 1) := by decide +kernel
theorem dX4_filmLength_10 : decode cX4_filmLength 10 = .ok (.istore_n 2, 1) := by decide +kernel
theorem dX4_filmLength_11 : decode cX4_filmLength 11 = .ok (.iconst 0, 1) := by decide +kernel
theorem dX4_filmLength_12 : decode cX4_filmLength 12 = .ok (.istore_n 3, 1) := by decide +kernel
theorem dX4_filmLength_13 : decode cX4_filmLength 13 = .ok (.iload_n 3, 1) := by decide +kernel
theorem dX4_filmLength_14 : decode cX4_filmLength 14 = .ok (.aload_n 0, 1) := by decide +kernel
theorem dX4_filmLength_15 : decode cX4_filmLength 15 = .ok (.getfield 7, 3) := by decide +kernel
theorem dX4_filmLength_18 : decode cX4_filmLength 18 = .ok (.iconst 0, 1) := by decide +kernel
theorem dX4_filmLength_19 : decode cX4_filmLength 19 = .ok (.iload_n 1, 1) := by decide +kernel
theorem dX4_filmLength_20 : decode cX4_filmLength 20 = .ok (.iadd, 1) := by decide +kernel
theorem dX4_filmLength_21 : decode cX4_filmLength 21 = .ok (.iaload, 1) := by decide +kernel
theorem dX4_filmLength_22 : decode cX4_filmLength 22 = .ok (.if_icmp .ge 25, 3) := by decide +kernel
theorem dX4_filmLength_25 : decode cX4_filmLength 25 = .ok (.iload_n 2, 1) := by decide +kernel
theorem dX4_filmLength_26 : decode cX4_filmLength 26 = .ok (.aload_n 0, 1) := by decide +kernel
theorem dX4_filmLength_27 : decode cX4_filmLength 27 = .ok (.getfield 7, 3) := by decide +kernel
theorem dX4_filmLength_30 : decode cX4_filmLength 30 = .ok (.iconst 4, 1) := by decide +kernel
theorem dX4_filmLength_31 : decode cX4_filmLength 31 = .ok (.bipush 6, 2) := by decide +kernel
theorem dX4_filmLength_33 : decode cX4_filmLength 33 = .ok (.iload_n 1, 1) := by decide +kernel
theorem dX4_filmLength_34 : decode cX4_filmLength 34 = .ok (.imul, 1) := by decide +kernel
theorem dX4_filmLength_35 : decode cX4_filmLength 35 = .ok (.iadd, 1) := by decide +kernel
theorem dX4_filmLength_36 : decode cX4_filmLength 36 = .ok (.iload_n 3, 1) := by decide +kernel
theorem dX4_filmLength_37 : decode cX4_filmLength 37 = .ok (.iadd, 1) := by decide +kernel
theorem dX4_filmLength_38 : decode cX4_filmLength 38 = .ok (.iaload, 1) := by decide +kernel
theorem dX4_filmLength_39 : decode cX4_filmLength 39 = .ok (.iadd, 1) := by decide +kernel
theorem dX4_filmLength_40 : decode cX4_filmLength 40 = .ok (.istore_n 2, 1) := by decide +kernel
theorem dX4_filmLength_41 : decode cX4_filmLength 41 = .ok (.iinc 3 1, 3) := by decide +kernel
theorem dX4_filmLength_44 : decode cX4_filmLength 44 = .ok (.goto (-31), 3) := by decide +kernel
theorem dX4_filmLength_47 : decode cX4_filmLength 47 = .ok (.iload_n 2, 1) := by decide +kernel
theorem dX4_filmLength_48 : decode cX4_filmLength 48 = .ok (.ireturn, 1) := by decide +kernel
theorem dX4_addMachine_0 : decode cX4_addMachine 0 = .ok (.iload_n 1, 1) := by decide +kernel
theorem dX4_addMachine_1 : decode cX4_addMachine 1 = .ok (.invokestatic 79, 3) := by decide +kernel
theorem dX4_addMachine_4 : decode cX4_addMachine 4 = .ok (.ifCond .ne 5, 3) := by decide +kernel
theorem dX4_addMachine_7 : decode cX4_addMachine 7 = .ok (.iconst (-1), 1) := by decide +kernel
theorem dX4_addMachine_8 : decode cX4_addMachine 8 = .ok (.ireturn, 1) := by decide +kernel
theorem dX4_addMachine_9 : decode cX4_addMachine 9 = .ok (.aload_n 0, 1) := by decide +kernel
theorem dX4_addMachine_10 : decode cX4_addMachine 10 = .ok (.getfield 7, 3) := by decide +kernel
theorem dX4_addMachine_13 : decode cX4_addMachine 13 = .ok (.bipush 56, 2) := by decide +kernel
theorem dX4_addMachine_15 : decode cX4_addMachine 15 = .ok (.iaload, 1) := by decide +kernel
theorem dX4_addMachine_16 : decode cX4_addMachine 16 = .ok (.iconst 5, 1) := by decide +kernel
theorem dX4_addMachine_17 : decode cX4_addMachine 17 = .ok (.if_icmp .ne 6, 3) := by decide +kernel
theorem dX4_addMachine_20 : decode cX4_addMachine 20 = .ok (.bipush (-3), 2) := by decide +kernel
theorem dX4_addMachine_22 : decode cX4_addMachine 22 = .ok (.ireturn, 1) := by decide +kernel
theorem dX4_addMachine_23 : decode cX4_addMachine 23 = .ok (.aload_n 0, 1) := by decide +kernel
theorem dX4_addMachine_24 : decode cX4_addMachine 24 = .ok (.invokevirtual 76, 3) := by decide +kernel
theorem dX4_addMachine_27 : decode cX4_addMachine 27 = .ok (.aload_n 0, 1) := by decide +kernel
theorem dX4_addMachine_28 : decode cX4_addMachine 28 = .ok (.getfield 7, 3) := by decide +kernel
theorem dX4_addMachine_31 : decode cX4_addMachine 31 = .ok (.bipush 57, 2) := by decide +kernel
theorem dX4_addMachine_33 : decode cX4_addMachine 33 = .ok (.aload_n 0, 1) := by decide +kernel
theorem dX4_addMachine_34 : decode cX4_addMachine 34 = .ok (.getfield 7, 3) := by decide +kernel
theorem dX4_addMachine_37 : decode cX4_addMachine 37 = .ok (.bipush 56, 2) := by decide +kernel
theorem dX4_addMachine_39 : decode cX4_addMachine 39 = .ok (.iaload, 1) := by decide +kernel
theorem dX4_addMachine_40 : decode cX4_addMachine 40 = .ok (.iadd, 1) := by decide +kernel
theorem dX4_addMachine_41 : decode cX4_addMachine 41 = .ok (.iload_n 1, 1) := by decide +kernel
theorem dX4_addMachine_42 : decode cX4_addMachine 42 = .ok (.iastore, 1) := by decide +kernel
theorem dX4_addMachine_43 : decode cX4_addMachine 43 = .ok (.aload_n 0, 1) := by decide +kernel
theorem dX4_addMachine_44 : decode cX4_addMachine 44 = .ok (.getfield 7, 3) := by decide +kernel
theorem dX4_addMachine_47 : decode cX4_addMachine 47 = .ok (.bipush 56, 2) := by decide +kernel
theorem dX4_addMachine_49 : decode cX4_addMachine 49 = .ok (.dup2, 1) := by decide +kernel
theorem dX4_addMachine_50 : decode cX4_addMachine 50 = .ok (.iaload, 1) := by decide +kernel
theorem dX4_addMachine_51 : decode cX4_addMachine 51 = .ok (.iconst 1, 1) := by decide +kernel
theorem dX4_addMachine_52 : decode cX4_addMachine 52 = .ok (.iadd, 1) := by decide +kernel
theorem dX4_addMachine_53 : decode cX4_addMachine 53 = .ok (.iastore, 1) := by decide +kernel
theorem dX4_addMachine_54 : decode cX4_addMachine 54 = .ok (.aload_n 0, 1) := by decide +kernel
theorem dX4_addMachine_55 : decode cX4_addMachine 55 = .ok (.getfield 7, 3) := by decide +kernel
theorem dX4_addMachine_58 : decode cX4_addMachine 58 = .ok (.bipush 56, 2) := by decide +kernel
theorem dX4_addMachine_60 : decode cX4_addMachine 60 = .ok (.iaload, 1) := by decide +kernel
theorem dX4_addMachine_61 : decode cX4_addMachine 61 = .ok (.iconst 1, 1) := by decide +kernel
theorem dX4_addMachine_62 : decode cX4_addMachine 62 = .ok (.isub, 1) := by decide +kernel
theorem dX4_addMachine_63 : decode cX4_addMachine 63 = .ok (.ireturn, 1) := by decide +kernel
theorem dX4_removeMachine_0 : decode cX4_removeMachine 0 = .ok (.aload_n 0, 1) := by decide +kernel
theorem dX4_removeMachine_1 : decode cX4_removeMachine 1 = .ok (.iload_n 1, 1) := by decide +kernel
theorem dX4_removeMachine_2 : decode cX4_removeMachine 2 = .ok (.invokevirtual 82, 3) := by decide +kernel
theorem dX4_removeMachine_5 : decode cX4_removeMachine 5 = .ok (.ifCond .ne 5, 3) := by decide +kernel
theorem dX4_removeMachine_8 : decode cX4_removeMachine 8 = .ok (.iconst (-1), 1) := by decide +kernel
theorem dX4_removeMachine_9 : decode cX4_removeMachine 9 = .ok (.ireturn, 1) := by decide +kernel
theorem dX4_removeMachine_10 : decode cX4_removeMachine 10 = .ok (.aload_n 0, 1) := by decide +kernel
theorem dX4_removeMachine_11 : decode cX4_removeMachine 11 = .ok (.invokevirtual 76, 3) := by decide +kernel
theorem dX4_removeMachine_14 : decode cX4_removeMachine 14 = .ok (.aload_n 0, 1) := by decide +kernel
theorem dX4_removeMachine_15 : decode cX4_removeMachine 15 = .ok (.getfield 7, 3) := by decide +kernel
theorem dX4_removeMachine_18 : decode cX4_removeMachine 18 = .ok (.bipush 56, 2) := by decide +kernel
theorem dX4_removeMachine_20 : decode cX4_removeMachine 20 = .ok (.dup2, 1) := by decide +kernel
theorem dX4_removeMachine_21 : decode cX4_removeMachine 21 = .ok (.iaload, 1) := by decide +kernel
theorem dX4_removeMachine_22 : decode cX4_removeMachine 22 = .ok (.iconst 1, 1) := by decide +kernel
theorem dX4_removeMachine_23 : decode cX4_removeMachine 23 = .ok (.isub, 1) := by decide +kernel
theorem dX4_removeMachine_24 : decode cX4_removeMachine 24 = .ok (.iastore, 1) := by decide +kernel
theorem dX4_removeMachine_25 : decode cX4_removeMachine 25 = .ok (.iload_n 1, 1) := by decide +kernel
theorem dX4_removeMachine_26 : decode cX4_removeMachine 26 = .ok (.istore_n 2, 1) := by decide +kernel
theorem dX4_removeMachine_27 : decode cX4_removeMachine 27 = .ok (.iload_n 2, 1) := by decide +kernel
theorem dX4_removeMachine_28 : decode cX4_removeMachine 28 = .ok (.aload_n 0, 1) := by decide +kernel
theorem dX4_removeMachine_29 : decode cX4_removeMachine 29 = .ok (.getfield 7, 3) := by decide +kernel
theorem dX4_removeMachine_32 : decode cX4_removeMachine 32 = .ok (.bipush 56, 2) := by decide +kernel
theorem dX4_removeMachine_34 : decode cX4_removeMachine 34 = .ok (.iaload, 1) := by decide +kernel
theorem dX4_removeMachine_35 : decode cX4_removeMachine 35 = .ok (.if_icmp .ge 29, 3) := by decide +kernel
theorem dX4_removeMachine_38 : decode cX4_removeMachine 38 = .ok (.aload_n 0, 1) := by decide +kernel
theorem dX4_removeMachine_39 : decode cX4_removeMachine 39 = .ok (.getfield 7, 3) := by decide +kernel
theorem dX4_removeMachine_42 : decode cX4_removeMachine 42 = .ok (.bipush 57, 2) := by decide +kernel
theorem dX4_removeMachine_44 : decode cX4_removeMachine 44 = .ok (.iload_n 2, 1) := by decide +kernel
theorem dX4_removeMachine_45 : decode cX4_removeMachine 45 = .ok (.iadd, 1) := by decide +kernel
theorem dX4_removeMachine_46 : decode cX4_removeMachine 46 = .ok (.aload_n 0, 1) := by decide +kernel
theorem dX4_removeMachine_47 : decode cX4_removeMachine 47 = .ok (.getfield 7, 3) := by decide +kernel
theorem dX4_removeMachine_50 : decode cX4_removeMachine 50 = .ok (.bipush 57, 2) := by decide +kernel
theorem dX4_removeMachine_52 : decode cX4_removeMachine 52 = .ok (.iload_n 2, 1) := by decide +kernel
theorem dX4_removeMachine_53 : decode cX4_removeMachine 53 = .ok (.iadd, 1) := by decide +kernel
theorem dX4_removeMachine_54 : decode cX4_removeMachine 54 = .ok (.iconst 1, 1) := by decide +kernel
theorem dX4_removeMachine_55 : decode cX4_removeMachine 55 = .ok (.iadd, 1) := by decide +kernel
theorem dX4_removeMachine_56 : decode cX4_removeMachine 56 = .ok (.iaload, 1) := by decide +kernel
theorem dX4_removeMachine_57 : decode cX4_removeMachine 57 = .ok (.iastore, 1) := by decide +kernel
theorem dX4_removeMachine_58 : decode cX4_removeMachine 58 = .ok (.iinc 2 1, 3) := by decide +kernel
theorem dX4_removeMachine_61 : decode cX4_removeMachine 61 = .ok (.goto (-34), 3) := by decide +kernel
theorem dX4_removeMachine_64 : decode cX4_removeMachine 64 = .ok (.aload_n 0, 1) := by decide +kernel
theorem dX4_removeMachine_65 : decode cX4_removeMachine 65 = .ok (.getfield 7, 3) := by decide +kernel
theorem dX4_removeMachine_68 : decode cX4_removeMachine 68 = .ok (.bipush 56, 2) := by decide +kernel
theorem dX4_removeMachine_70 : decode cX4_removeMachine 70 = .ok (.iaload, 1) := by decide +kernel
theorem dX4_removeMachine_71 : decode cX4_removeMachine 71 = .ok (.ireturn, 1) := by decide +kernel
theorem dX4_houseOf_0 : decode cX4_houseOf 0 = .ok (.aload_n 0, 1) := by decide +kernel
theorem dX4_houseOf_1 : decode cX4_houseOf 1 = .ok (.iload_n 1, 1) := by decide +kernel
theorem dX4_houseOf_2 : decode cX4_houseOf 2 = .ok (.invokevirtual 82, 3) := by decide +kernel
theorem dX4_houseOf_5 : decode cX4_houseOf 5 = .ok (.ifCond .eq 15, 3) := by decide +kernel
theorem dX4_houseOf_8 : decode cX4_houseOf 8 = .ok (.aload_n 0, 1) := by decide +kernel
theorem dX4_houseOf_9 : decode cX4_houseOf 9 = .ok (.getfield 7, 3) := by decide +kernel
theorem dX4_houseOf_12 : decode cX4_houseOf 12 = .ok (.bipush 57, 2) := by decide +kernel
theorem dX4_houseOf_14 : decode cX4_houseOf 14 = .ok (.iload_n 1, 1) := by decide +kernel
theorem dX4_houseOf_15 : decode cX4_houseOf 15 = .ok (.iadd, 1) := by decide +kernel
theorem dX4_houseOf_16 : decode cX4_houseOf 16 = .ok (.iaload, 1) := by decide +kernel
theorem dX4_houseOf_17 : decode cX4_houseOf 17 = .ok (.goto 4, 3) := by decide +kernel
theorem dX4_houseOf_20 : decode cX4_houseOf 20 = .ok (.iconst (-1), 1) := by decide +kernel
theorem dX4_houseOf_21 : decode cX4_houseOf 21 = .ok (.ireturn, 1) := by decide +kernel
theorem dX4_setCarriers_0 : decode cX4_setCarriers 0 = .ok (.iload_n 1, 1) := by decide +kernel
theorem dX4_setCarriers_1 : decode cX4_setCarriers 1 = .ok (.i2l, 1) := by decide +kernel
theorem dX4_setCarriers_2 : decode cX4_setCarriers 2 = .ok (.lconst 1, 1) := by decide +kernel
theorem dX4_setCarriers_3 : decode cX4_setCarriers 3 = .ok (.ldc2_w 60, 3) := by decide +kernel
theorem dX4_setCarriers_6 : decode cX4_setCarriers 6 = .ok (.invokestatic 62, 3) := by decide +kernel
theorem dX4_setCarriers_9 : decode cX4_setCarriers 9 = .ok (.ifCond .ne 5, 3) := by decide +kernel
theorem dX4_setCarriers_12 : decode cX4_setCarriers 12 = .ok (.iconst (-1), 1) := by decide +kernel
theorem dX4_setCarriers_13 : decode cX4_setCarriers 13 = .ok (.ireturn, 1) := by decide +kernel
theorem dX4_setCarriers_14 : decode cX4_setCarriers 14 = .ok (.aload_n 0, 1) := by decide +kernel
theorem dX4_setCarriers_15 : decode cX4_setCarriers 15 = .ok (.invokevirtual 76, 3) := by decide +kernel
theorem dX4_setCarriers_18 : decode cX4_setCarriers 18 = .ok (.aload_n 0, 1) := by decide +kernel
theorem dX4_setCarriers_19 : decode cX4_setCarriers 19 = .ok (.getfield 7, 3) := by decide +kernel
theorem dX4_setCarriers_22 : decode cX4_setCarriers 22 = .ok (.bipush 62, 2) := by decide +kernel
theorem dX4_setCarriers_24 : decode cX4_setCarriers 24 = .ok (.iaload, 1) := by decide +kernel
theorem dX4_setCarriers_25 : decode cX4_setCarriers 25 = .ok (.istore_n 2, 1) := by decide +kernel
theorem dX4_setCarriers_26 : decode cX4_setCarriers 26 = .ok (.aload_n 0, 1) := by decide +kernel
theorem dX4_setCarriers_27 : decode cX4_setCarriers 27 = .ok (.getfield 7, 3) := by decide +kernel
theorem dX4_setCarriers_30 : decode cX4_setCarriers 30 = .ok (.bipush 62, 2) := by decide +kernel
theorem dX4_setCarriers_32 : decode cX4_setCarriers 32 = .ok (.iload_n 1, 1) := by decide +kernel
theorem dX4_setCarriers_33 : decode cX4_setCarriers 33 = .ok (.iastore, 1) := by decide +kernel
theorem dX4_setCarriers_34 : decode cX4_setCarriers 34 = .ok (.iload_n 2, 1) := by decide +kernel
theorem dX4_setCarriers_35 : decode cX4_setCarriers 35 = .ok (.ireturn, 1) := by decide +kernel
theorem dX4_setDuration_0 : decode cX4_setDuration 0 = .ok (.iload_n 1, 1) := by decide +kernel
theorem dX4_setDuration_1 : decode cX4_setDuration 1 = .ok (.i2l, 1) := by decide +kernel
theorem dX4_setDuration_2 : decode cX4_setDuration 2 = .ok (.lconst 0, 1) := by decide +kernel
theorem dX4_setDuration_3 : decode cX4_setDuration 3 = .ok (.ldc2_w 60, 3) := by decide +kernel
theorem dX4_setDuration_6 : decode cX4_setDuration 6 = .ok (.invokestatic 62, 3) := by decide +kernel
theorem dX4_setDuration_9 : decode cX4_setDuration 9 = .ok (.ifCond .eq 46, 3) := by decide +kernel
theorem dX4_setDuration_12 : decode cX4_setDuration 12 = .ok (.iload_n 2, 1) := by decide +kernel
theorem dX4_setDuration_13 : decode cX4_setDuration 13 = .ok (.i2l, 1) := by decide +kernel
theorem dX4_setDuration_14 : decode cX4_setDuration 14 = .ok (.iload_n 1, 1) := by decide +kernel
theorem dX4_setDuration_15 : decode cX4_setDuration 15 = .ok (.iconst 3, 1) := by decide +kernel
theorem dX4_setDuration_16 : decode cX4_setDuration 16 = .ok (.if_icmp .ne 7, 3) := by decide +kernel
theorem dX4_setDuration_19 : decode cX4_setDuration 19 = .ok (.lconst 1, 1) := by decide +kernel
theorem dX4_setDuration_20 : decode cX4_setDuration 20 = .ok (.goto 4, 3) := by decide +kernel
theorem dX4_setDuration_23 : decode cX4_setDuration 23 = .ok (.lconst 0, 1) := by decide +kernel
theorem dX4_setDuration_24 : decode cX4_setDuration 24 = .ok (.iload_n 1, 1) := by decide +kernel
theorem dX4_setDuration_25 : decode cX4_setDuration 25 = .ok (.iconst 2, 1) := by decide +kernel
theorem dX4_setDuration_26 : decode cX4_setDuration 26 = .ok (.if_icmp .ge 9, 3) := by decide +kernel
theorem dX4_setDuration_29 : decode cX4_setDuration 29 = .ok (.ldc2_w 85, 3) := by decide +kernel
theorem dX4_setDuration_32 : decode cX4_setDuration 32 = .ok (.goto 17, 3) := by decide +kernel
theorem dX4_setDuration_35 : decode cX4_setDuration 35 = .ok (.iload_n 1, 1) := by decide +kernel
theorem dX4_setDuration_36 : decode cX4_setDuration 36 = .ok (.iconst 2, 1) := by decide +kernel
theorem dX4_setDuration_37 : decode cX4_setDuration 37 = .ok (.if_icmp .ne 9, 3) := by decide +kernel
theorem dX4_setDuration_40 : decode cX4_setDuration 40 = .ok (.ldc2_w 87, 3) := by decide +kernel
theorem dX4_setDuration_43 : decode cX4_setDuration 43 = .ok (.goto 6, 3) := by decide +kernel
theorem dX4_setDuration_46 : decode cX4_setDuration 46 = .ok (.ldc2_w 72, 3) := by decide +kernel
theorem dX4_setDuration_49 : decode cX4_setDuration 49 = .ok (.invokestatic 62, 3) := by decide +kernel
theorem dX4_setDuration_52 : decode cX4_setDuration 52 = .ok (.ifCond .ne 5, 3) := by decide +kernel
theorem dX4_setDuration_55 : decode cX4_setDuration 55 = .ok (.iconst (-1), 1) := by decide +kernel
theorem dX4_setDuration_56 : decode cX4_setDuration 56 = .ok (.ireturn, 1) := by decide +kernel
theorem dX4_setDuration_57 : decode cX4_setDuration 57 = .ok (.aload_n 0, 1) := by decide +kernel
theorem dX4_setDuration_58 : decode cX4_setDuration 58 = .ok (.invokevirtual 76, 3) := by decide +kernel
theorem dX4_setDuration_61 : decode cX4_setDuration 61 = .ok (.aload_n 0, 1) := by decide +kernel
theorem dX4_setDuration_62 : decode cX4_setDuration 62 = .ok (.getfield 7, 3) := by decide +kernel
theorem dX4_setDuration_65 : decode cX4_setDuration 65 = .ok (.bipush 63, 2) := by decide +kernel
theorem dX4_setDuration_67 : decode cX4_setDuration 67 = .ok (.iload_n 1, 1) := by decide +kernel
theorem dX4_setDuration_68 : decode cX4_setDuration 68 = .ok (.iadd, 1) := by decide +kernel
theorem dX4_setDuration_69 : decode cX4_setDuration 69 = .ok (.iaload, 1) := by decide +kernel
theorem dX4_setDuration_70 : decode cX4_setDuration 70 = .ok (.istore_n 3, 1) := by decide +kernel
theorem dX4_setDuration_71 : decode cX4_setDuration 71 = .ok (.aload_n 0, 1) := by decide +kernel
theorem dX4_setDuration_72 : decode cX4_setDuration 72 = .ok (.getfield 7, 3) := by decide +kernel
theorem dX4_setDuration_75 : decode cX4_setDuration 75 = .ok (.bipush 63, 2) := by decide +kernel
theorem dX4_setDuration_77 : decode cX4_setDuration 77 = .ok (.iload_n 1, 1) := by decide +kernel
theorem dX4_setDuration_78 : decode cX4_setDuration 78 = .ok (.iadd, 1) := by decide +kernel
theorem dX4_setDuration_79 : decode cX4_setDuration 79 = .ok (.iload_n 2, 1) := by decide +kernel
theorem dX4_setDuration_80 : decode cX4_setDuration 80 = .ok (.iastore, 1) := by decide +kernel
theorem dX4_setDuration_81 : decode cX4_setDuration 81 = .ok (.iload_n 3, 1) := by decide +kernel
theorem dX4_setDuration_82 : decode cX4_setDuration 82 = .ok (.ireturn, 1) := by decide +kernel
theorem dX4_addShow_0 : decode cX4_addShow 0 = .ok (.iload_n 1, 1) := by decide +kernel
theorem dX4_addShow_1 : decode cX4_addShow 1 = .ok (.invokestatic 79, 3) := by decide +kernel
theorem dX4_addShow_4 : decode cX4_addShow 4 = .ok (.ifCond .eq 17, 3) := by decide +kernel
theorem dX4_addShow_7 : decode cX4_addShow 7 = .ok (.iload_n 2, 1) := by decide +kernel
theorem dX4_addShow_8 : decode cX4_addShow 8 = .ok (.invokestatic 68, 3) := by decide +kernel
theorem dX4_addShow_11 : decode cX4_addShow 11 = .ok (.ifCond .eq 10, 3) := by decide +kernel
theorem dX4_addShow_14 : decode cX4_addShow 14 = .ok (.iload_n 3, 1) := by decide +kernel
theorem dX4_addShow_15 : decode cX4_addShow 15 = .ok (.invokestatic 89, 3) := by decide +kernel
theorem dX4_addShow_18 : decode cX4_addShow 18 = .ok (.ifCond .ne 5, 3) := by decide +kernel
theorem dX4_addShow_21 : decode cX4_addShow 21 = .ok (.iconst (-1), 1) := by decide +kernel
theorem dX4_addShow_22 : decode cX4_addShow 22 = .ok (.ireturn, 1) := by decide +kernel
theorem dX4_addShow_23 : decode cX4_addShow 23 = .ok (.aload_n 0, 1) := by decide +kernel
theorem dX4_addShow_24 : decode cX4_addShow 24 = .ok (.getfield 7, 3) := by decide +kernel
theorem dX4_addShow_27 : decode cX4_addShow 27 = .ok (.iconst 0, 1) := by decide +kernel
theorem dX4_addShow_28 : decode cX4_addShow 28 = .ok (.iload_n 2, 1) := by decide +kernel
theorem dX4_addShow_29 : decode cX4_addShow 29 = .ok (.iadd, 1) := by decide +kernel
theorem dX4_addShow_30 : decode cX4_addShow 30 = .ok (.iaload, 1) := by decide +kernel
theorem dX4_addShow_31 : decode cX4_addShow 31 = .ok (.ifCond .ne 6, 3) := by decide +kernel
theorem dX4_addShow_34 : decode cX4_addShow 34 = .ok (.bipush (-2), 2) := by decide +kernel
theorem dX4_addShow_36 : decode cX4_addShow 36 = .ok (.ireturn, 1) := by decide +kernel
theorem dX4_addShow_37 : decode cX4_addShow 37 = .ok (.aload_n 0, 1) := by decide +kernel
theorem dX4_addShow_38 : decode cX4_addShow 38 = .ok (.getfield 7, 3) := by decide +kernel
theorem dX4_addShow_41 : decode cX4_addShow 41 = .ok (.bipush 67, 2) := by decide +kernel
theorem dX4_addShow_43 : decode cX4_addShow 43 = .ok (.iaload, 1) := by decide +kernel
theorem dX4_addShow_44 : decode cX4_addShow 44 = .ok (.bipush 6, 2) := by decide +kernel
theorem dX4_addShow_46 : decode cX4_addShow 46 = .ok (.if_icmp .ne 6, 3) := by decide +kernel
theorem dX4_addShow_49 : decode cX4_addShow 49 = .ok (.bipush (-3), 2) := by decide +kernel
theorem dX4_addShow_51 : decode cX4_addShow 51 = .ok (.ireturn, 1) := by decide +kernel
theorem dX4_addShow_52 : decode cX4_addShow 52 = .ok (.aload_n 0, 1) := by decide +kernel
theorem dX4_addShow_53 : decode cX4_addShow 53 = .ok (.invokevirtual 76, 3) := by decide +kernel
theorem dX4_addShow_56 : decode cX4_addShow 56 = .ok (.aload_n 0, 1) := by decide +kernel
theorem dX4_addShow_57 : decode cX4_addShow 57 = .ok (.getfield 7, 3) := by decide +kernel
theorem dX4_addShow_60 : decode cX4_addShow 60 = .ok (.bipush 67, 2) := by decide +kernel
theorem dX4_addShow_62 : decode cX4_addShow 62 = .ok (.iaload, 1) := by decide +kernel
theorem dX4_addShow_63 : decode cX4_addShow 63 = .ok (.istore 4, 2) := by decide +kernel
theorem dX4_addShow_65 : decode cX4_addShow 65 = .ok (.aload_n 0, 1) := by decide +kernel
theorem dX4_addShow_66 : decode cX4_addShow 66 = .ok (.getfield 7, 3) := by decide +kernel
theorem dX4_addShow_69 : decode cX4_addShow 69 = .ok (.bipush 68, 2) := by decide +kernel
theorem dX4_addShow_71 : decode cX4_addShow 71 = .ok (.iload 4, 2) := by decide +kernel
theorem dX4_addShow_73 : decode cX4_addShow 73 = .ok (.iadd, 1) := by decide +kernel
theorem dX4_addShow_74 : decode cX4_addShow 74 = .ok (.iload_n 1, 1) := by decide +kernel
theorem dX4_addShow_75 : decode cX4_addShow 75 = .ok (.iastore, 1) := by decide +kernel
theorem dX4_addShow_76 : decode cX4_addShow 76 = .ok (.aload_n 0, 1) := by decide +kernel
theorem dX4_addShow_77 : decode cX4_addShow 77 = .ok (.getfield 7, 3) := by decide +kernel
theorem dX4_addShow_80 : decode cX4_addShow 80 = .ok (.bipush 74, 2) := by decide +kernel
theorem dX4_addShow_82 : decode cX4_addShow 82 = .ok (.iload 4, 2) := by decide +kernel
theorem dX4_addShow_84 : decode cX4_addShow 84 = .ok (.iadd, 1) := by decide +kernel
theorem dX4_addShow_85 : decode cX4_addShow 85 = .ok (.iload_n 2, 1) := by decide +kernel
theorem dX4_addShow_86 : decode cX4_addShow 86 = .ok (.iastore, 1) := by decide +kernel
theorem dX4_addShow_87 : decode cX4_addShow 87 = .ok (.aload_n 0, 1) := by decide +kernel
theorem dX4_addShow_88 : decode cX4_addShow 88 = .ok (.getfield 7, 3) := by decide +kernel
theorem dX4_addShow_91 : decode cX4_addShow 91 = .ok (.bipush 80, 2) := by decide +kernel
theorem dX4_addShow_93 : decode cX4_addShow 93 = .ok (.iload 4, 2) := by decide +kernel
theorem dX4_addShow_95 : decode cX4_addShow 95 = .ok (.iadd, 1) := by decide +kernel
theorem dX4_addShow_96 : decode cX4_addShow 96 = .ok (.iload_n 3, 1) := by decide +kernel
theorem dX4_addShow_97 : decode cX4_addShow 97 = .ok (.iastore, 1) := by decide +kernel
theorem dX4_addShow_98 : decode cX4_addShow 98 = .ok (.aload_n 0, 1) := by decide +kernel
theorem dX4_addShow_99 : decode cX4_addShow 99 = .ok (.getfield 7, 3) := by decide +kernel
theorem dX4_addShow_102 : decode cX4_addShow 102 = .ok (.bipush 67, 2) := by decide +kernel
theorem dX4_addShow_104 : decode cX4_addShow 104 = .ok (.dup2, 1) := by decide +kernel
theorem dX4_addShow_105 : decode cX4_addShow 105 = .ok (.iaload, 1) := by decide +kernel
theorem dX4_addShow_106 : decode cX4_addShow 106 = .ok (.iconst 1, 1) := by decide +kernel
theorem dX4_addShow_107 : decode cX4_addShow 107 = .ok (.iadd, 1) := by decide +kernel
theorem dX4_addShow_108 : decode cX4_addShow 108 = .ok (.iastore, 1) := by decide +kernel
theorem dX4_addShow_109 : decode cX4_addShow 109 = .ok (.iload 4, 2) := by decide +kernel
theorem dX4_addShow_111 : decode cX4_addShow 111 = .ok (.ireturn, 1) := by decide +kernel
theorem dX4_goes_0 : decode cX4_goes 0 = .ok (.aload_n 0, 1) := by decide +kernel
theorem dX4_goes_1 : decode cX4_goes 1 = .ok (.getfield 7, 3) := by decide +kernel
theorem dX4_goes_4 : decode cX4_goes 4 = .ok (.bipush 67, 2) := by decide +kernel
theorem dX4_goes_6 : decode cX4_goes 6 = .ok (.dup2, 1) := by decide +kernel
theorem dX4_goes_7 : decode cX4_goes 7 = .ok (.iaload, 1) := by decide +kernel
theorem dX4_goes_8 : decode cX4_goes 8 = .ok (.iconst 1, 1) := by decide +kernel
theorem dX4_goes_9 : decode cX4_goes 9 = .ok (.isub, 1) := by decide +kernel
theorem dX4_goes_10 : decode cX4_goes 10 = .ok (.iastore, 1) := by decide +kernel
theorem dX4_goes_11 : decode cX4_goes 11 = .ok (.iload_n 1, 1) := by decide +kernel
theorem dX4_goes_12 : decode cX4_goes 12 = .ok (.istore_n 2, 1) := by decide +kernel
theorem dX4_goes_13 : decode cX4_goes 13 = .ok (.iload_n 2, 1) := by decide +kernel
theorem dX4_goes_14 : decode cX4_goes 14 = .ok (.aload_n 0, 1) := by decide +kernel
theorem dX4_goes_15 : decode cX4_goes 15 = .ok (.getfield 7, 3) := by decide +kernel
theorem dX4_goes_18 : decode cX4_goes 18 = .ok (.bipush 67, 2) := by decide +kernel
theorem dX4_goes_20 : decode cX4_goes 20 = .ok (.iaload, 1) := by decide +kernel
theorem dX4_goes_21 : decode cX4_goes 21 = .ok (.if_icmp .ge 69, 3) := by decide +kernel
theorem dX4_goes_24 : decode cX4_goes 24 = .ok (.aload_n 0, 1) := by decide +kernel
theorem dX4_goes_25 : decode cX4_goes 25 = .ok (.getfield 7, 3) := by decide +kernel
theorem dX4_goes_28 : decode cX4_goes 28 = .ok (.bipush 68, 2) := by decide +kernel
theorem dX4_goes_30 : decode cX4_goes 30 = .ok (.iload_n 2, 1) := by decide +kernel
theorem dX4_goes_31 : decode cX4_goes 31 = .ok (.iadd, 1) := by decide +kernel
theorem dX4_goes_32 : decode cX4_goes 32 = .ok (.aload_n 0, 1) := by decide +kernel
theorem dX4_goes_33 : decode cX4_goes 33 = .ok (.getfield 7, 3) := by decide +kernel
theorem dX4_goes_36 : decode cX4_goes 36 = .ok (.bipush 68, 2) := by decide +kernel
theorem dX4_goes_38 : decode cX4_goes 38 = .ok (.iload_n 2, 1) := by decide +kernel
theorem dX4_goes_39 : decode cX4_goes 39 = .ok (.iadd, 1) := by decide +kernel
theorem dX4_goes_40 : decode cX4_goes 40 = .ok (.iconst 1, 1) := by decide +kernel
theorem dX4_goes_41 : decode cX4_goes 41 = .ok (.iadd, 1) := by decide +kernel
theorem dX4_goes_42 : decode cX4_goes 42 = .ok (.iaload, 1) := by decide +kernel
theorem dX4_goes_43 : decode cX4_goes 43 = .ok (.iastore, 1) := by decide +kernel
theorem dX4_goes_44 : decode cX4_goes 44 = .ok (.aload_n 0, 1) := by decide +kernel
theorem dX4_goes_45 : decode cX4_goes 45 = .ok (.getfield 7, 3) := by decide +kernel
theorem dX4_goes_48 : decode cX4_goes 48 = .ok (.bipush 74, 2) := by decide +kernel
theorem dX4_goes_50 : decode cX4_goes 50 = .ok (.iload_n 2, 1) := by decide +kernel
theorem dX4_goes_51 : decode cX4_goes 51 = .ok (.iadd, 1) := by decide +kernel
theorem dX4_goes_52 : decode cX4_goes 52 = .ok (.aload_n 0, 1) := by decide +kernel
theorem dX4_goes_53 : decode cX4_goes 53 = .ok (.getfield 7, 3) := by decide +kernel
theorem dX4_goes_56 : decode cX4_goes 56 = .ok (.bipush 74, 2) := by decide +kernel
theorem dX4_goes_58 : decode cX4_goes 58 = .ok (.iload_n 2, 1) := by decide +kernel
theorem dX4_goes_59 : decode cX4_goes 59 = .ok (.iadd, 1) := by decide +kernel
theorem dX4_goes_60 : decode cX4_goes 60 = .ok (.iconst 1, 1) := by decide +kernel
theorem dX4_goes_61 : decode cX4_goes 61 = .ok (.iadd, 1) := by decide +kernel
theorem dX4_goes_62 : decode cX4_goes 62 = .ok (.iaload, 1) := by decide +kernel
theorem dX4_goes_63 : decode cX4_goes 63 = .ok (.iastore, 1) := by decide +kernel
theorem dX4_goes_64 : decode cX4_goes 64 = .ok (.aload_n 0, 1) := by decide +kernel
theorem dX4_goes_65 : decode cX4_goes 65 = .ok (.getfield 7, 3) := by decide +kernel
theorem dX4_goes_68 : decode cX4_goes 68 = .ok (.bipush 80, 2) := by decide +kernel
theorem dX4_goes_70 : decode cX4_goes 70 = .ok (.iload_n 2, 1) := by decide +kernel
theorem dX4_goes_71 : decode cX4_goes 71 = .ok (.iadd, 1) := by decide +kernel
theorem dX4_goes_72 : decode cX4_goes 72 = .ok (.aload_n 0, 1) := by decide +kernel
theorem dX4_goes_73 : decode cX4_goes 73 = .ok (.getfield 7, 3) := by decide +kernel
theorem dX4_goes_76 : decode cX4_goes 76 = .ok (.bipush 80, 2) := by decide +kernel
theorem dX4_goes_78 : decode cX4_goes 78 = .ok (.iload_n 2, 1) := by decide +kernel
theorem dX4_goes_79 : decode cX4_goes 79 = .ok (.iadd, 1) := by decide +kernel
theorem dX4_goes_80 : decode cX4_goes 80 = .ok (.iconst 1, 1) := by decide +kernel
theorem dX4_goes_81 : decode cX4_goes 81 = .ok (.iadd, 1) := by decide +kernel
theorem dX4_goes_82 : decode cX4_goes 82 = .ok (.iaload, 1) := by decide +kernel
theorem dX4_goes_83 : decode cX4_goes 83 = .ok (.iastore, 1) := by decide +kernel
theorem dX4_goes_84 : decode cX4_goes 84 = .ok (.iinc 2 1, 3) := by decide +kernel
theorem dX4_goes_87 : decode cX4_goes 87 = .ok (.goto (-74), 3) := by decide +kernel
theorem dX4_goes_90 : decode cX4_goes 90 = .ok (.iconst 0, 1) := by decide +kernel
theorem dX4_goes_91 : decode cX4_goes 91 = .ok (.istore_n 2, 1) := by decide +kernel
theorem dX4_goes_92 : decode cX4_goes 92 = .ok (.iconst 0, 1) := by decide +kernel
theorem dX4_goes_93 : decode cX4_goes 93 = .ok (.istore_n 3, 1) := by decide +kernel
theorem dX4_goes_94 : decode cX4_goes 94 = .ok (.iload_n 3, 1) := by decide +kernel
theorem dX4_goes_95 : decode cX4_goes 95 = .ok (.aload_n 0, 1) := by decide +kernel
theorem dX4_goes_96 : decode cX4_goes 96 = .ok (.getfield 7, 3) := by decide +kernel
theorem dX4_goes_99 : decode cX4_goes 99 = .ok (.bipush 86, 2) := by decide +kernel
theorem dX4_goes_101 : decode cX4_goes 101 = .ok (.iaload, 1) := by decide +kernel
theorem dX4_goes_102 : decode cX4_goes 102 = .ok (.if_icmp .ge 89, 3) := by decide +kernel
theorem dX4_goes_105 : decode cX4_goes 105 = .ok (.aload_n 0, 1) := by decide +kernel
theorem dX4_goes_106 : decode cX4_goes 106 = .ok (.getfield 7, 3) := by decide +kernel
theorem dX4_goes_109 : decode cX4_goes 109 = .ok (.bipush 87, 2) := by decide +kernel
theorem dX4_goes_111 : decode cX4_goes 111 = .ok (.iload_n 3, 1) := by decide +kernel
theorem dX4_goes_112 : decode cX4_goes 112 = .ok (.iadd, 1) := by decide +kernel
theorem dX4_goes_113 : decode cX4_goes 113 = .ok (.iaload, 1) := by decide +kernel
theorem dX4_goes_114 : decode cX4_goes 114 = .ok (.istore 4, 2) := by decide +kernel
theorem dX4_goes_116 : decode cX4_goes 116 = .ok (.iload 4, 2) := by decide +kernel
theorem dX4_goes_118 : decode cX4_goes 118 = .ok (.iload_n 1, 1) := by decide +kernel
theorem dX4_goes_119 : decode cX4_goes 119 = .ok (.if_icmp .eq 66, 3) := by decide +kernel
theorem dX4_goes_122 : decode cX4_goes 122 = .ok (.aload_n 0, 1) := by decide +kernel
theorem dX4_goes_123 : decode cX4_goes 123 = .ok (.getfield 7, 3) := by decide +kernel
theorem dX4_goes_126 : decode cX4_goes 126 = .ok (.bipush 87, 2) := by decide +kernel
theorem dX4_goes_128 : decode cX4_goes 128 = .ok (.iload_n 2, 1) := by decide +kernel
theorem dX4_goes_129 : decode cX4_goes 129 = .ok (.iadd, 1) := by decide +kernel
theorem dX4_goes_130 : decode cX4_goes 130 = .ok (.iload 4, 2) := by decide +kernel
theorem dX4_goes_132 : decode cX4_goes 132 = .ok (.iload_n 1, 1) := by decide +kernel
theorem dX4_goes_133 : decode cX4_goes 133 = .ok (.if_icmp .le 10, 3) := by decide +kernel
theorem dX4_goes_136 : decode cX4_goes 136 = .ok (.iload 4, 2) := by decide +kernel
theorem dX4_goes_138 : decode cX4_goes 138 = .ok (.iconst 1, 1) := by decide +kernel
theorem dX4_goes_139 : decode cX4_goes 139 = .ok (.isub, 1) := by decide +kernel
theorem dX4_goes_140 : decode cX4_goes 140 = .ok (.goto 5, 3) := by decide +kernel
theorem dX4_goes_143 : decode cX4_goes 143 = .ok (.iload 4, 2) := by decide +kernel
theorem dX4_goes_145 : decode cX4_goes 145 = .ok (.iastore, 1) := by decide +kernel
theorem dX4_goes_146 : decode cX4_goes 146 = .ok (.aload_n 0, 1) := by decide +kernel
theorem dX4_goes_147 : decode cX4_goes 147 = .ok (.getfield 7, 3) := by decide +kernel
theorem dX4_goes_150 : decode cX4_goes 150 = .ok (.bipush 95, 2) := by decide +kernel
theorem dX4_goes_152 : decode cX4_goes 152 = .ok (.iload_n 2, 1) := by decide +kernel
theorem dX4_goes_153 : decode cX4_goes 153 = .ok (.iadd, 1) := by decide +kernel
theorem dX4_goes_154 : decode cX4_goes 154 = .ok (.aload_n 0, 1) := by decide +kernel
theorem dX4_goes_155 : decode cX4_goes 155 = .ok (.getfield 7, 3) := by decide +kernel
theorem dX4_goes_158 : decode cX4_goes 158 = .ok (.bipush 95, 2) := by decide +kernel
theorem dX4_goes_160 : decode cX4_goes 160 = .ok (.iload_n 3, 1) := by decide +kernel
theorem dX4_goes_161 : decode cX4_goes 161 = .ok (.iadd, 1) := by decide +kernel
theorem dX4_goes_162 : decode cX4_goes 162 = .ok (.iaload, 1) := by decide +kernel
theorem dX4_goes_163 : decode cX4_goes 163 = .ok (.iastore, 1) := by decide +kernel
theorem dX4_goes_164 : decode cX4_goes 164 = .ok (.aload_n 0, 1) := by decide +kernel
theorem dX4_goes_165 : decode cX4_goes 165 = .ok (.getfield 7, 3) := by decide +kernel
theorem dX4_goes_168 : decode cX4_goes 168 = .ok (.bipush 103, 2) := by decide +kernel
theorem dX4_goes_170 : decode cX4_goes 170 = .ok (.iload_n 2, 1) := by decide +kernel
theorem dX4_goes_171 : decode cX4_goes 171 = .ok (.iadd, 1) := by decide +kernel
theorem dX4_goes_172 : decode cX4_goes 172 = .ok (.aload_n 0, 1) := by decide +kernel
theorem dX4_goes_173 : decode cX4_goes 173 = .ok (.getfield 7, 3) := by decide +kernel
theorem dX4_goes_176 : decode cX4_goes 176 = .ok (.bipush 103, 2) := by decide +kernel
theorem dX4_goes_178 : decode cX4_goes 178 = .ok (.iload_n 3, 1) := by decide +kernel
theorem dX4_goes_179 : decode cX4_goes 179 = .ok (.iadd, 1) := by decide +kernel
theorem dX4_goes_180 : decode cX4_goes 180 = .ok (.iaload, 1) := by decide +kernel
theorem dX4_goes_181 : decode cX4_goes 181 = .ok (.iastore, 1) := by decide +kernel
theorem dX4_goes_182 : decode cX4_goes 182 = .ok (.iinc 2 1, 3) := by decide +kernel
theorem dX4_goes_185 : decode cX4_goes 185 = .ok (.iinc 3 1, 3) := by decide +kernel
theorem dX4_goes_188 : decode cX4_goes 188 = .ok (.goto (-94), 3) := by decide +kernel
theorem dX4_goes_191 : decode cX4_goes 191 = .ok (.aload_n 0, 1) := by decide +kernel
theorem dX4_goes_192 : decode cX4_goes 192 = .ok (.getfield 7, 3) := by decide +kernel
theorem dX4_goes_195 : decode cX4_goes 195 = .ok (.bipush 86, 2) := by decide +kernel
theorem dX4_goes_197 : decode cX4_goes 197 = .ok (.iload_n 2, 1) := by decide +kernel
theorem dX4_goes_198 : decode cX4_goes 198 = .ok (.iastore, 1) := by decide +kernel
theorem dX4_goes_199 : decode cX4_goes 199 = .ok (.return_, 1) := by decide +kernel
theorem dX4_removeShow_0 : decode cX4_removeShow 0 = .ok (.aload_n 0, 1) := by decide +kernel
theorem dX4_removeShow_1 : decode cX4_removeShow 1 = .ok (.iload_n 1, 1) := by decide +kernel
theorem dX4_removeShow_2 : decode cX4_removeShow 2 = .ok (.invokevirtual 92, 3) := by decide +kernel
theorem dX4_removeShow_5 : decode cX4_removeShow 5 = .ok (.ifCond .ne 5, 3) := by decide +kernel
theorem dX4_removeShow_8 : decode cX4_removeShow 8 = .ok (.iconst (-1), 1) := by decide +kernel
theorem dX4_removeShow_9 : decode cX4_removeShow 9 = .ok (.ireturn, 1) := by decide +kernel
theorem dX4_removeShow_10 : decode cX4_removeShow 10 = .ok (.aload_n 0, 1) := by decide +kernel
theorem dX4_removeShow_11 : decode cX4_removeShow 11 = .ok (.invokevirtual 76, 3) := by decide +kernel
theorem dX4_removeShow_14 : decode cX4_removeShow 14 = .ok (.aload_n 0, 1) := by decide +kernel
theorem dX4_removeShow_15 : decode cX4_removeShow 15 = .ok (.iload_n 1, 1) := by decide +kernel
theorem dX4_removeShow_16 : decode cX4_removeShow 16 = .ok (.invokevirtual 95, 3) := by decide +kernel
theorem dX4_removeShow_19 : decode cX4_removeShow 19 = .ok (.aload_n 0, 1) := by decide +kernel
theorem dX4_removeShow_20 : decode cX4_removeShow 20 = .ok (.getfield 7, 3) := by decide +kernel
theorem dX4_removeShow_23 : decode cX4_removeShow 23 = .ok (.bipush 67, 2) := by decide +kernel
theorem dX4_removeShow_25 : decode cX4_removeShow 25 = .ok (.iaload, 1) := by decide +kernel
theorem dX4_removeShow_26 : decode cX4_removeShow 26 = .ok (.ireturn, 1) := by decide +kernel
theorem dX4_moveShow_0 : decode cX4_moveShow 0 = .ok (.aload_n 0, 1) := by decide +kernel
theorem dX4_moveShow_1 : decode cX4_moveShow 1 = .ok (.iload_n 1, 1) := by decide +kernel
theorem dX4_moveShow_2 : decode cX4_moveShow 2 = .ok (.invokevirtual 92, 3) := by decide +kernel
theorem dX4_moveShow_5 : decode cX4_moveShow 5 = .ok (.ifCond .eq 10, 3) := by decide +kernel
theorem dX4_moveShow_8 : decode cX4_moveShow 8 = .ok (.iload_n 2, 1) := by decide +kernel
theorem dX4_moveShow_9 : decode cX4_moveShow 9 = .ok (.invokestatic 89, 3) := by decide +kernel
theorem dX4_moveShow_12 : decode cX4_moveShow 12 = .ok (.ifCond .ne 5, 3) := by decide +kernel
theorem dX4_moveShow_15 : decode cX4_moveShow 15 = .ok (.iconst (-1), 1) := by decide +kernel
theorem dX4_moveShow_16 : decode cX4_moveShow 16 = .ok (.ireturn, 1) := by decide +kernel
theorem dX4_moveShow_17 : decode cX4_moveShow 17 = .ok (.aload_n 0, 1) := by decide +kernel
theorem dX4_moveShow_18 : decode cX4_moveShow 18 = .ok (.invokevirtual 76, 3) := by decide +kernel
theorem dX4_moveShow_21 : decode cX4_moveShow 21 = .ok (.aload_n 0, 1) := by decide +kernel
theorem dX4_moveShow_22 : decode cX4_moveShow 22 = .ok (.getfield 7, 3) := by decide +kernel
theorem dX4_moveShow_25 : decode cX4_moveShow 25 = .ok (.bipush 80, 2) := by decide +kernel
theorem dX4_moveShow_27 : decode cX4_moveShow 27 = .ok (.iload_n 1, 1) := by decide +kernel
theorem dX4_moveShow_28 : decode cX4_moveShow 28 = .ok (.iadd, 1) := by decide +kernel
theorem dX4_moveShow_29 : decode cX4_moveShow 29 = .ok (.iaload, 1) := by decide +kernel
theorem dX4_moveShow_30 : decode cX4_moveShow 30 = .ok (.istore_n 3, 1) := by decide +kernel
theorem dX4_moveShow_31 : decode cX4_moveShow 31 = .ok (.aload_n 0, 1) := by decide +kernel
theorem dX4_moveShow_32 : decode cX4_moveShow 32 = .ok (.getfield 7, 3) := by decide +kernel
theorem dX4_moveShow_35 : decode cX4_moveShow 35 = .ok (.bipush 80, 2) := by decide +kernel
theorem dX4_moveShow_37 : decode cX4_moveShow 37 = .ok (.iload_n 1, 1) := by decide +kernel
theorem dX4_moveShow_38 : decode cX4_moveShow 38 = .ok (.iadd, 1) := by decide +kernel
theorem dX4_moveShow_39 : decode cX4_moveShow 39 = .ok (.iload_n 2, 1) := by decide +kernel
theorem dX4_moveShow_40 : decode cX4_moveShow 40 = .ok (.iastore, 1) := by decide +kernel
theorem dX4_moveShow_41 : decode cX4_moveShow 41 = .ok (.iload_n 3, 1) := by decide +kernel
theorem dX4_moveShow_42 : decode cX4_moveShow 42 = .ok (.ireturn, 1) := by decide +kernel
theorem dX4_isReel_0 : decode cX4_isReel 0 = .ok (.aload_n 0, 1) := by decide +kernel
theorem dX4_isReel_1 : decode cX4_isReel 1 = .ok (.iload_n 1, 1) := by decide +kernel
theorem dX4_isReel_2 : decode cX4_isReel 2 = .ok (.invokevirtual 92, 3) := by decide +kernel
theorem dX4_isReel_5 : decode cX4_isReel 5 = .ok (.ifCond .eq 35, 3) := by decide +kernel
theorem dX4_isReel_8 : decode cX4_isReel 8 = .ok (.iload_n 2, 1) := by decide +kernel
theorem dX4_isReel_9 : decode cX4_isReel 9 = .ok (.i2l, 1) := by decide +kernel
theorem dX4_isReel_10 : decode cX4_isReel 10 = .ok (.lconst 0, 1) := by decide +kernel
theorem dX4_isReel_11 : decode cX4_isReel 11 = .ok (.aload_n 0, 1) := by decide +kernel
theorem dX4_isReel_12 : decode cX4_isReel 12 = .ok (.getfield 7, 3) := by decide +kernel
theorem dX4_isReel_15 : decode cX4_isReel 15 = .ok (.iconst 0, 1) := by decide +kernel
theorem dX4_isReel_16 : decode cX4_isReel 16 = .ok (.aload_n 0, 1) := by decide +kernel
theorem dX4_isReel_17 : decode cX4_isReel 17 = .ok (.getfield 7, 3) := by decide +kernel
theorem dX4_isReel_20 : decode cX4_isReel 20 = .ok (.bipush 74, 2) := by decide +kernel
theorem dX4_isReel_22 : decode cX4_isReel 22 = .ok (.iload_n 1, 1) := by decide +kernel
theorem dX4_isReel_23 : decode cX4_isReel 23 = .ok (.iadd, 1) := by decide +kernel
theorem dX4_isReel_24 : decode cX4_isReel 24 = .ok (.iaload, 1) := by decide +kernel
theorem dX4_isReel_25 : decode cX4_isReel 25 = .ok (.iadd, 1) := by decide +kernel
theorem dX4_isReel_26 : decode cX4_isReel 26 = .ok (.iaload, 1) := by decide +kernel
theorem dX4_isReel_27 : decode cX4_isReel 27 = .ok (.iconst 1, 1) := by decide +kernel
theorem dX4_isReel_28 : decode cX4_isReel 28 = .ok (.isub, 1) := by decide +kernel
theorem dX4_isReel_29 : decode cX4_isReel 29 = .ok (.i2l, 1) := by decide +kernel
theorem dX4_isReel_30 : decode cX4_isReel 30 = .ok (.invokestatic 62, 3) := by decide +kernel
theorem dX4_isReel_33 : decode cX4_isReel 33 = .ok (.ifCond .eq 7, 3) := by decide +kernel
theorem dX4_isReel_36 : decode cX4_isReel 36 = .ok (.iconst 1, 1) := by decide +kernel
theorem dX4_isReel_37 : decode cX4_isReel 37 = .ok (.goto 4, 3) := by decide +kernel
theorem dX4_isReel_40 : decode cX4_isReel 40 = .ok (.iconst 0, 1) := by decide +kernel
theorem dX4_isReel_41 : decode cX4_isReel 41 = .ok (.ireturn, 1) := by decide +kernel
theorem dX4_addBreak_0 : decode cX4_addBreak 0 = .ok (.aload_n 0, 1) := by decide +kernel
theorem dX4_addBreak_1 : decode cX4_addBreak 1 = .ok (.iload_n 1, 1) := by decide +kernel
theorem dX4_addBreak_2 : decode cX4_addBreak 2 = .ok (.iload_n 2, 1) := by decide +kernel
theorem dX4_addBreak_3 : decode cX4_addBreak 3 = .ok (.invokevirtual 99, 3) := by decide +kernel
theorem dX4_addBreak_6 : decode cX4_addBreak 6 = .ok (.ifCond .eq 15, 3) := by decide +kernel
theorem dX4_addBreak_9 : decode cX4_addBreak 9 = .ok (.iload_n 3, 1) := by decide +kernel
theorem dX4_addBreak_10 : decode cX4_addBreak 10 = .ok (.i2l, 1) := by decide +kernel
theorem dX4_addBreak_11 : decode cX4_addBreak 11 = .ok (.lconst 1, 1) := by decide +kernel
theorem dX4_addBreak_12 : decode cX4_addBreak 12 = .ok (.ldc2_w 103, 3) := by decide +kernel
theorem dX4_addBreak_15 : decode cX4_addBreak 15 = .ok (.invokestatic 62, 3) := by decide +kernel
theorem dX4_addBreak_18 : decode cX4_addBreak 18 = .ok (.ifCond .ne 5, 3) := by decide +kernel
theorem dX4_addBreak_21 : decode cX4_addBreak 21 = .ok (.iconst (-1), 1) := by decide +kernel
theorem dX4_addBreak_22 : decode cX4_addBreak 22 = .ok (.ireturn, 1) := by decide +kernel
theorem dX4_addBreak_23 : decode cX4_addBreak 23 = .ok (.aload_n 0, 1) := by decide +kernel
theorem dX4_addBreak_24 : decode cX4_addBreak 24 = .ok (.getfield 7, 3) := by decide +kernel
theorem dX4_addBreak_27 : decode cX4_addBreak 27 = .ok (.bipush 86, 2) := by decide +kernel
theorem dX4_addBreak_29 : decode cX4_addBreak 29 = .ok (.iaload, 1) := by decide +kernel
theorem dX4_addBreak_30 : decode cX4_addBreak 30 = .ok (.bipush 8, 2) := by decide +kernel
theorem dX4_addBreak_32 : decode cX4_addBreak 32 = .ok (.if_icmp .ne 6, 3) := by decide +kernel
theorem dX4_addBreak_35 : decode cX4_addBreak 35 = .ok (.bipush (-3), 2) := by decide +kernel
theorem dX4_addBreak_37 : decode cX4_addBreak 37 = .ok (.ireturn, 1) := by decide +kernel
theorem dX4_addBreak_38 : decode cX4_addBreak 38 = .ok (.aload_n 0, 1) := by decide +kernel
theorem dX4_addBreak_39 : decode cX4_addBreak 39 = .ok (.invokevirtual 76, 3) := by decide +kernel
theorem dX4_addBreak_42 : decode cX4_addBreak 42 = .ok (.aload_n 0, 1) := by decide +kernel
theorem dX4_addBreak_43 : decode cX4_addBreak 43 = .ok (.getfield 7, 3) := by decide +kernel
theorem dX4_addBreak_46 : decode cX4_addBreak 46 = .ok (.bipush 87, 2) := by decide +kernel
theorem dX4_addBreak_48 : decode cX4_addBreak 48 = .ok (.aload_n 0, 1) := by decide +kernel
theorem dX4_addBreak_49 : decode cX4_addBreak 49 = .ok (.getfield 7, 3) := by decide +kernel
theorem dX4_addBreak_52 : decode cX4_addBreak 52 = .ok (.bipush 86, 2) := by decide +kernel
theorem dX4_addBreak_54 : decode cX4_addBreak 54 = .ok (.iaload, 1) := by decide +kernel
theorem dX4_addBreak_55 : decode cX4_addBreak 55 = .ok (.iadd, 1) := by decide +kernel
theorem dX4_addBreak_56 : decode cX4_addBreak 56 = .ok (.iload_n 1, 1) := by decide +kernel
theorem dX4_addBreak_57 : decode cX4_addBreak 57 = .ok (.iastore, 1) := by decide +kernel
theorem dX4_addBreak_58 : decode cX4_addBreak 58 = .ok (.aload_n 0, 1) := by decide +kernel
theorem dX4_addBreak_59 : decode cX4_addBreak 59 = .ok (.getfield 7, 3) := by decide +kernel
theorem dX4_addBreak_62 : decode cX4_addBreak 62 = .ok (.bipush 95, 2) := by decide +kernel
theorem dX4_addBreak_64 : decode cX4_addBreak 64 = .ok (.aload_n 0, 1) := by decide +kernel
theorem dX4_addBreak_65 : decode cX4_addBreak 65 = .ok (.getfield 7, 3) := by decide +kernel
theorem dX4_addBreak_68 : decode cX4_addBreak 68 = .ok (.bipush 86, 2) := by decide +kernel
theorem dX4_addBreak_70 : decode cX4_addBreak 70 = .ok (.iaload, 1) := by decide +kernel
theorem dX4_addBreak_71 : decode cX4_addBreak 71 = .ok (.iadd, 1) := by decide +kernel
theorem dX4_addBreak_72 : decode cX4_addBreak 72 = .ok (.iload_n 2, 1) := by decide +kernel
theorem dX4_addBreak_73 : decode cX4_addBreak 73 = .ok (.iastore, 1) := by decide +kernel
theorem dX4_addBreak_74 : decode cX4_addBreak 74 = .ok (.aload_n 0, 1) := by decide +kernel
theorem dX4_addBreak_75 : decode cX4_addBreak 75 = .ok (.getfield 7, 3) := by decide +kernel
theorem dX4_addBreak_78 : decode cX4_addBreak 78 = .ok (.bipush 103, 2) := by decide +kernel
theorem dX4_addBreak_80 : decode cX4_addBreak 80 = .ok (.aload_n 0, 1) := by decide +kernel
theorem dX4_addBreak_81 : decode cX4_addBreak 81 = .ok (.getfield 7, 3) := by decide +kernel
theorem dX4_addBreak_84 : decode cX4_addBreak 84 = .ok (.bipush 86, 2) := by decide +kernel
theorem dX4_addBreak_86 : decode cX4_addBreak 86 = .ok (.iaload, 1) := by decide +kernel
theorem dX4_addBreak_87 : decode cX4_addBreak 87 = .ok (.iadd, 1) := by decide +kernel
theorem dX4_addBreak_88 : decode cX4_addBreak 88 = .ok (.iload_n 3, 1) := by decide +kernel
theorem dX4_addBreak_89 : decode cX4_addBreak 89 = .ok (.iastore, 1) := by decide +kernel
theorem dX4_addBreak_90 : decode cX4_addBreak 90 = .ok (.aload_n 0, 1) := by decide +kernel
theorem dX4_addBreak_91 : decode cX4_addBreak 91 = .ok (.getfield 7, 3) := by decide +kernel
theorem dX4_addBreak_94 : decode cX4_addBreak 94 = .ok (.bipush 86, 2) := by decide +kernel
theorem dX4_addBreak_96 : decode cX4_addBreak 96 = .ok (.dup2, 1) := by decide +kernel
theorem dX4_addBreak_97 : decode cX4_addBreak 97 = .ok (.iaload, 1) := by decide +kernel
theorem dX4_addBreak_98 : decode cX4_addBreak 98 = .ok (.iconst 1, 1) := by decide +kernel
theorem dX4_addBreak_99 : decode cX4_addBreak 99 = .ok (.iadd, 1) := by decide +kernel
theorem dX4_addBreak_100 : decode cX4_addBreak 100 = .ok (.iastore, 1) := by decide +kernel
theorem dX4_addBreak_101 : decode cX4_addBreak 101 = .ok (.aload_n 0, 1) := by decide +kernel
theorem dX4_addBreak_102 : decode cX4_addBreak 102 = .ok (.getfield 7, 3) := by decide +kernel
theorem dX4_addBreak_105 : decode cX4_addBreak 105 = .ok (.bipush 86, 2) := by decide +kernel
theorem dX4_addBreak_107 : decode cX4_addBreak 107 = .ok (.iaload, 1) := by decide +kernel
theorem dX4_addBreak_108 : decode cX4_addBreak 108 = .ok (.ireturn, 1) := by decide +kernel
theorem dX4_clearBreaks_0 : decode cX4_clearBreaks 0 = .ok (.aload_n 0, 1) := by decide +kernel
theorem dX4_clearBreaks_1 : decode cX4_clearBreaks 1 = .ok (.invokevirtual 76, 3) := by decide +kernel
theorem dX4_clearBreaks_4 : decode cX4_clearBreaks 4 = .ok (.aload_n 0, 1) := by decide +kernel
theorem dX4_clearBreaks_5 : decode cX4_clearBreaks 5 = .ok (.getfield 7, 3) := by decide +kernel
theorem dX4_clearBreaks_8 : decode cX4_clearBreaks 8 = .ok (.bipush 86, 2) := by decide +kernel
theorem dX4_clearBreaks_10 : decode cX4_clearBreaks 10 = .ok (.iaload, 1) := by decide +kernel
theorem dX4_clearBreaks_11 : decode cX4_clearBreaks 11 = .ok (.istore_n 1, 1) := by decide +kernel
theorem dX4_clearBreaks_12 : decode cX4_clearBreaks 12 = .ok (.aload_n 0, 1) := by decide +kernel
theorem dX4_clearBreaks_13 : decode cX4_clearBreaks 13 = .ok (.getfield 7, 3) := by decide +kernel
theorem dX4_clearBreaks_16 : decode cX4_clearBreaks 16 = .ok (.bipush 86, 2) := by decide +kernel
theorem dX4_clearBreaks_18 : decode cX4_clearBreaks 18 = .ok (.iconst 0, 1) := by decide +kernel
theorem dX4_clearBreaks_19 : decode cX4_clearBreaks 19 = .ok (.iastore, 1) := by decide +kernel
theorem dX4_clearBreaks_20 : decode cX4_clearBreaks 20 = .ok (.iload_n 1, 1) := by decide +kernel
theorem dX4_clearBreaks_21 : decode cX4_clearBreaks 21 = .ok (.ireturn, 1) := by decide +kernel
theorem dX4_arrives_0 : decode cX4_arrives 0 = .ok (.aload_n 0, 1) := by decide +kernel
theorem dX4_arrives_1 : decode cX4_arrives 1 = .ok (.getfield 16, 3) := by decide +kernel
theorem dX4_arrives_4 : decode cX4_arrives 4 = .ok (.iload_n 1, 1) := by decide +kernel
theorem dX4_arrives_5 : decode cX4_arrives 5 = .ok (.iaload, 1) := by decide +kernel
theorem dX4_arrives_6 : decode cX4_arrives 6 = .ok (.iload_n 2, 1) := by decide +kernel
theorem dX4_arrives_7 : decode cX4_arrives 7 = .ok (.if_icmp .ne 10, 3) := by decide +kernel
theorem dX4_arrives_10 : decode cX4_arrives 10 = .ok (.aload_n 0, 1) := by decide +kernel
theorem dX4_arrives_11 : decode cX4_arrives 11 = .ok (.getfield 19, 3) := by decide +kernel
theorem dX4_arrives_14 : decode cX4_arrives 14 = .ok (.iload_n 1, 1) := by decide +kernel
theorem dX4_arrives_15 : decode cX4_arrives 15 = .ok (.iaload, 1) := by decide +kernel
theorem dX4_arrives_16 : decode cX4_arrives 16 = .ok (.ireturn, 1) := by decide +kernel
theorem dX4_arrives_17 : decode cX4_arrives 17 = .ok (.iconst 0, 1) := by decide +kernel
theorem dX4_arrives_18 : decode cX4_arrives 18 = .ok (.istore_n 3, 1) := by decide +kernel
theorem dX4_arrives_19 : decode cX4_arrives 19 = .ok (.iconst 1, 1) := by decide +kernel
theorem dX4_arrives_20 : decode cX4_arrives 20 = .ok (.istore 4, 2) := by decide +kernel
theorem dX4_arrives_22 : decode cX4_arrives 22 = .ok (.iload 4, 2) := by decide +kernel
theorem dX4_arrives_24 : decode cX4_arrives 24 = .ok (.aload_n 0, 1) := by decide +kernel
theorem dX4_arrives_25 : decode cX4_arrives 25 = .ok (.getfield 7, 3) := by decide +kernel
theorem dX4_arrives_28 : decode cX4_arrives 28 = .ok (.bipush 62, 2) := by decide +kernel
theorem dX4_arrives_30 : decode cX4_arrives 30 = .ok (.iaload, 1) := by decide +kernel
theorem dX4_arrives_31 : decode cX4_arrives 31 = .ok (.if_icmp .ge 89, 3) := by decide +kernel
theorem dX4_arrives_34 : decode cX4_arrives 34 = .ok (.aload_n 0, 1) := by decide +kernel
theorem dX4_arrives_35 : decode cX4_arrives 35 = .ok (.getfield 22, 3) := by decide +kernel
theorem dX4_arrives_38 : decode cX4_arrives 38 = .ok (.iload 4, 2) := by decide +kernel
theorem dX4_arrives_40 : decode cX4_arrives 40 = .ok (.iaload, 1) := by decide +kernel
theorem dX4_arrives_41 : decode cX4_arrives 41 = .ok (.aload_n 0, 1) := by decide +kernel
theorem dX4_arrives_42 : decode cX4_arrives 42 = .ok (.getfield 19, 3) := by decide +kernel
theorem dX4_arrives_45 : decode cX4_arrives 45 = .ok (.iload_n 1, 1) := by decide +kernel
theorem dX4_arrives_46 : decode cX4_arrives 46 = .ok (.iaload, 1) := by decide +kernel
theorem dX4_arrives_47 : decode cX4_arrives 47 = .ok (.if_icmp .le 13, 3) := by decide +kernel
theorem dX4_arrives_50 : decode cX4_arrives 50 = .ok (.aload_n 0, 1) := by decide +kernel
theorem dX4_arrives_51 : decode cX4_arrives 51 = .ok (.getfield 22, 3) := by decide +kernel
theorem dX4_arrives_54 : decode cX4_arrives 54 = .ok (.iload 4, 2) := by decide +kernel
theorem dX4_arrives_56 : decode cX4_arrives 56 = .ok (.iaload, 1) := by decide +kernel
theorem dX4_arrives_57 : decode cX4_arrives 57 = .ok (.goto 9, 3) := by decide +kernel
theorem dX4_arrives_60 : decode cX4_arrives 60 = .ok (.aload_n 0, 1) := by decide +kernel
theorem dX4_arrives_61 : decode cX4_arrives 61 = .ok (.getfield 19, 3) := by decide +kernel
theorem dX4_arrives_64 : decode cX4_arrives 64 = .ok (.iload_n 1, 1) := by decide +kernel
theorem dX4_arrives_65 : decode cX4_arrives 65 = .ok (.iaload, 1) := by decide +kernel
theorem dX4_arrives_66 : decode cX4_arrives 66 = .ok (.istore 5, 2) := by decide +kernel
theorem dX4_arrives_68 : decode cX4_arrives 68 = .ok (.aload_n 0, 1) := by decide +kernel
theorem dX4_arrives_69 : decode cX4_arrives 69 = .ok (.getfield 22, 3) := by decide +kernel
theorem dX4_arrives_72 : decode cX4_arrives 72 = .ok (.iload_n 3, 1) := by decide +kernel
theorem dX4_arrives_73 : decode cX4_arrives 73 = .ok (.iaload, 1) := by decide +kernel
theorem dX4_arrives_74 : decode cX4_arrives 74 = .ok (.aload_n 0, 1) := by decide +kernel
theorem dX4_arrives_75 : decode cX4_arrives 75 = .ok (.getfield 19, 3) := by decide +kernel
theorem dX4_arrives_78 : decode cX4_arrives 78 = .ok (.iload_n 1, 1) := by decide +kernel
theorem dX4_arrives_79 : decode cX4_arrives 79 = .ok (.iaload, 1) := by decide +kernel
theorem dX4_arrives_80 : decode cX4_arrives 80 = .ok (.if_icmp .le 12, 3) := by decide +kernel
theorem dX4_arrives_83 : decode cX4_arrives 83 = .ok (.aload_n 0, 1) := by decide +kernel
theorem dX4_arrives_84 : decode cX4_arrives 84 = .ok (.getfield 22, 3) := by decide +kernel
theorem dX4_arrives_87 : decode cX4_arrives 87 = .ok (.iload_n 3, 1) := by decide +kernel
theorem dX4_arrives_88 : decode cX4_arrives 88 = .ok (.iaload, 1) := by decide +kernel
theorem dX4_arrives_89 : decode cX4_arrives 89 = .ok (.goto 9, 3) := by decide +kernel
theorem dX4_arrives_92 : decode cX4_arrives 92 = .ok (.aload_n 0, 1) := by decide +kernel
theorem dX4_arrives_93 : decode cX4_arrives 93 = .ok (.getfield 19, 3) := by decide +kernel
theorem dX4_arrives_96 : decode cX4_arrives 96 = .ok (.iload_n 1, 1) := by decide +kernel
theorem dX4_arrives_97 : decode cX4_arrives 97 = .ok (.iaload, 1) := by decide +kernel
theorem dX4_arrives_98 : decode cX4_arrives 98 = .ok (.istore 6, 2) := by decide +kernel
theorem dX4_arrives_100 : decode cX4_arrives 100 = .ok (.iload 5, 2) := by decide +kernel
theorem dX4_arrives_102 : decode cX4_arrives 102 = .ok (.iload 6, 2) := by decide +kernel
theorem dX4_arrives_104 : decode cX4_arrives 104 = .ok (.if_icmp .ge 8, 3) := by decide +kernel
theorem dX4_arrives_107 : decode cX4_arrives 107 = .ok (.iload 4, 2) := by decide +kernel
theorem dX4_arrives_109 : decode cX4_arrives 109 = .ok (.goto 4, 3) := by decide +kernel
theorem dX4_arrives_112 : decode cX4_arrives 112 = .ok (.iload_n 3, 1) := by decide +kernel
theorem dX4_arrives_113 : decode cX4_arrives 113 = .ok (.istore_n 3, 1) := by decide +kernel
theorem dX4_arrives_114 : decode cX4_arrives 114 = .ok (.iinc 4 1, 3) := by decide +kernel
theorem dX4_arrives_117 : decode cX4_arrives 117 = .ok (.goto (-95), 3) := by decide +kernel
theorem dX4_arrives_120 : decode cX4_arrives 120 = .ok (.aload_n 0, 1) := by decide +kernel
theorem dX4_arrives_121 : decode cX4_arrives 121 = .ok (.getfield 22, 3) := by decide +kernel
theorem dX4_arrives_124 : decode cX4_arrives 124 = .ok (.iload_n 3, 1) := by decide +kernel
theorem dX4_arrives_125 : decode cX4_arrives 125 = .ok (.iaload, 1) := by decide +kernel
theorem dX4_arrives_126 : decode cX4_arrives 126 = .ok (.aload_n 0, 1) := by decide +kernel
theorem dX4_arrives_127 : decode cX4_arrives 127 = .ok (.getfield 19, 3) := by decide +kernel
theorem dX4_arrives_130 : decode cX4_arrives 130 = .ok (.iload_n 1, 1) := by decide +kernel
theorem dX4_arrives_131 : decode cX4_arrives 131 = .ok (.iaload, 1) := by decide +kernel
theorem dX4_arrives_132 : decode cX4_arrives 132 = .ok (.if_icmp .le 12, 3) := by decide +kernel
theorem dX4_arrives_135 : decode cX4_arrives 135 = .ok (.aload_n 0, 1) := by decide +kernel
theorem dX4_arrives_136 : decode cX4_arrives 136 = .ok (.getfield 22, 3) := by decide +kernel
theorem dX4_arrives_139 : decode cX4_arrives 139 = .ok (.iload_n 3, 1) := by decide +kernel
theorem dX4_arrives_140 : decode cX4_arrives 140 = .ok (.iaload, 1) := by decide +kernel
theorem dX4_arrives_141 : decode cX4_arrives 141 = .ok (.goto 9, 3) := by decide +kernel
theorem dX4_arrives_144 : decode cX4_arrives 144 = .ok (.aload_n 0, 1) := by decide +kernel
theorem dX4_arrives_145 : decode cX4_arrives 145 = .ok (.getfield 19, 3) := by decide +kernel
theorem dX4_arrives_148 : decode cX4_arrives 148 = .ok (.iload_n 1, 1) := by decide +kernel
theorem dX4_arrives_149 : decode cX4_arrives 149 = .ok (.iaload, 1) := by decide +kernel
theorem dX4_arrives_150 : decode cX4_arrives 150 = .ok (.aload_n 0, 1) := by decide +kernel
theorem dX4_arrives_151 : decode cX4_arrives 151 = .ok (.getfield 7, 3) := by decide +kernel
theorem dX4_arrives_154 : decode cX4_arrives 154 = .ok (.bipush 66, 2) := by decide +kernel
theorem dX4_arrives_156 : decode cX4_arrives 156 = .ok (.iaload, 1) := by decide +kernel
theorem dX4_arrives_157 : decode cX4_arrives 157 = .ok (.iadd, 1) := by decide +kernel
theorem dX4_arrives_158 : decode cX4_arrives 158 = .ok (.istore 4, 2) := by decide +kernel
theorem dX4_arrives_160 : decode cX4_arrives 160 = .ok (.aload_n 0, 1) := by decide +kernel
theorem dX4_arrives_161 : decode cX4_arrives 161 = .ok (.getfield 22, 3) := by decide +kernel
theorem dX4_arrives_164 : decode cX4_arrives 164 = .ok (.iload_n 3, 1) := by decide +kernel
theorem dX4_arrives_165 : decode cX4_arrives 165 = .ok (.iload 4, 2) := by decide +kernel
theorem dX4_arrives_167 : decode cX4_arrives 167 = .ok (.aload_n 0, 1) := by decide +kernel
theorem dX4_arrives_168 : decode cX4_arrives 168 = .ok (.getfield 7, 3) := by decide +kernel
theorem dX4_arrives_171 : decode cX4_arrives 171 = .ok (.bipush 66, 2) := by decide +kernel
theorem dX4_arrives_173 : decode cX4_arrives 173 = .ok (.iaload, 1) := by decide +kernel
theorem dX4_arrives_174 : decode cX4_arrives 174 = .ok (.iadd, 1) := by decide +kernel
theorem dX4_arrives_175 : decode cX4_arrives 175 = .ok (.iastore, 1) := by decide +kernel
theorem dX4_arrives_176 : decode cX4_arrives 176 = .ok (.aload_n 0, 1) := by decide +kernel
theorem dX4_arrives_177 : decode cX4_arrives 177 = .ok (.getfield 16, 3) := by decide +kernel
theorem dX4_arrives_180 : decode cX4_arrives 180 = .ok (.iload_n 1, 1) := by decide +kernel
theorem dX4_arrives_181 : decode cX4_arrives 181 = .ok (.iload_n 2, 1) := by decide +kernel
theorem dX4_arrives_182 : decode cX4_arrives 182 = .ok (.iastore, 1) := by decide +kernel
theorem dX4_arrives_183 : decode cX4_arrives 183 = .ok (.aload_n 0, 1) := by decide +kernel
theorem dX4_arrives_184 : decode cX4_arrives 184 = .ok (.dup, 1) := by decide +kernel
theorem dX4_arrives_185 : decode cX4_arrives 185 = .ok (.getfield 105, 3) := by decide +kernel
theorem dX4_arrives_188 : decode cX4_arrives 188 = .ok (.iconst 1, 1) := by decide +kernel
theorem dX4_arrives_189 : decode cX4_arrives 189 = .ok (.iadd, 1) := by decide +kernel
theorem dX4_arrives_190 : decode cX4_arrives 190 = .ok (.putfield 105, 3) := by decide +kernel
theorem dX4_arrives_193 : decode cX4_arrives 193 = .ok (.iload 4, 2) := by decide +kernel
theorem dX4_arrives_195 : decode cX4_arrives 195 = .ok (.ireturn, 1) := by decide +kernel
theorem dX4_hasPlate_0 : decode cX4_hasPlate 0 = .ok (.aload_n 0, 1) := by decide +kernel
theorem dX4_hasPlate_1 : decode cX4_hasPlate 1 = .ok (.getfield 28, 3) := by decide +kernel
theorem dX4_hasPlate_4 : decode cX4_hasPlate 4 = .ok (.iload_n 1, 1) := by decide +kernel
theorem dX4_hasPlate_5 : decode cX4_hasPlate 5 = .ok (.iaload, 1) := by decide +kernel
theorem dX4_hasPlate_6 : decode cX4_hasPlate 6 = .ok (.ifCond .lt 17, 3) := by decide +kernel
theorem dX4_hasPlate_9 : decode cX4_hasPlate 9 = .ok (.aload_n 0, 1) := by decide +kernel
theorem dX4_hasPlate_10 : decode cX4_hasPlate 10 = .ok (.getfield 28, 3) := by decide +kernel
theorem dX4_hasPlate_13 : decode cX4_hasPlate 13 = .ok (.iload_n 1, 1) := by decide +kernel
theorem dX4_hasPlate_14 : decode cX4_hasPlate 14 = .ok (.iaload, 1) := by decide +kernel
theorem dX4_hasPlate_15 : decode cX4_hasPlate 15 = .ok (.iload_n 2, 1) := by decide +kernel
theorem dX4_hasPlate_16 : decode cX4_hasPlate 16 = .ok (.if_icmp .eq 7, 3) := by decide +kernel
theorem dX4_hasPlate_19 : decode cX4_hasPlate 19 = .ok (.iconst 1, 1) := by decide +kernel
theorem dX4_hasPlate_20 : decode cX4_hasPlate 20 = .ok (.goto 4, 3) := by decide +kernel
theorem dX4_hasPlate_23 : decode cX4_hasPlate 23 = .ok (.iconst 0, 1) := by decide +kernel
theorem dX4_hasPlate_24 : decode cX4_hasPlate 24 = .ok (.ireturn, 1) := by decide +kernel
theorem dX4_startBy_0 : decode cX4_startBy 0 = .ok (.aload_n 0, 1) := by decide +kernel
theorem dX4_startBy_1 : decode cX4_startBy 1 = .ok (.getfield 25, 3) := by decide +kernel
theorem dX4_startBy_4 : decode cX4_startBy 4 = .ok (.iload_n 1, 1) := by decide +kernel
theorem dX4_startBy_5 : decode cX4_startBy 5 = .ok (.iaload, 1) := by decide +kernel
theorem dX4_startBy_6 : decode cX4_startBy 6 = .ok (.aload_n 0, 1) := by decide +kernel
theorem dX4_startBy_7 : decode cX4_startBy 7 = .ok (.iload_n 1, 1) := by decide +kernel
theorem dX4_startBy_8 : decode cX4_startBy 8 = .ok (.iload 4, 2) := by decide +kernel
theorem dX4_startBy_10 : decode cX4_startBy 10 = .ok (.invokevirtual 108, 3) := by decide +kernel
theorem dX4_startBy_13 : decode cX4_startBy 13 = .ok (.ifCond .eq 13, 3) := by decide +kernel
theorem dX4_startBy_16 : decode cX4_startBy 16 = .ok (.aload_n 0, 1) := by decide +kernel
theorem dX4_startBy_17 : decode cX4_startBy 17 = .ok (.getfield 7, 3) := by decide +kernel
theorem dX4_startBy_20 : decode cX4_startBy 20 = .ok (.bipush 64, 2) := by decide +kernel
theorem dX4_startBy_22 : decode cX4_startBy 22 = .ok (.iaload, 1) := by decide +kernel
theorem dX4_startBy_23 : decode cX4_startBy 23 = .ok (.goto 4, 3) := by decide +kernel
theorem dX4_startBy_26 : decode cX4_startBy 26 = .ok (.iconst 0, 1) := by decide +kernel
theorem dX4_startBy_27 : decode cX4_startBy 27 = .ok (.iadd, 1) := by decide +kernel
theorem dX4_startBy_28 : decode cX4_startBy 28 = .ok (.istore 5, 2) := by decide +kernel
theorem dX4_startBy_30 : decode cX4_startBy 30 = .ok (.iload_n 3, 1) := by decide +kernel
theorem dX4_startBy_31 : decode cX4_startBy 31 = .ok (.iload 5, 2) := by decide +kernel
theorem dX4_startBy_33 : decode cX4_startBy 33 = .ok (.if_icmp .le 7, 3) := by decide +kernel
theorem dX4_startBy_36 : decode cX4_startBy 36 = .ok (.iload_n 3, 1) := by decide +kernel
theorem dX4_startBy_37 : decode cX4_startBy 37 = .ok (.goto 5, 3) := by decide +kernel
theorem dX4_startBy_40 : decode cX4_startBy 40 = .ok (.iload 5, 2) := by decide +kernel
theorem dX4_startBy_42 : decode cX4_startBy 42 = .ok (.aload_n 0, 1) := by decide +kernel
theorem dX4_startBy_43 : decode cX4_startBy 43 = .ok (.getfield 7, 3) := by decide +kernel
theorem dX4_startBy_46 : decode cX4_startBy 46 = .ok (.bipush 63, 2) := by decide +kernel
theorem dX4_startBy_48 : decode cX4_startBy 48 = .ok (.iaload, 1) := by decide +kernel
theorem dX4_startBy_49 : decode cX4_startBy 49 = .ok (.iadd, 1) := by decide +kernel
theorem dX4_startBy_50 : decode cX4_startBy 50 = .ok (.istore 5, 2) := by decide +kernel
theorem dX4_startBy_52 : decode cX4_startBy 52 = .ok (.iload_n 2, 1) := by decide +kernel
theorem dX4_startBy_53 : decode cX4_startBy 53 = .ok (.iload 5, 2) := by decide +kernel
theorem dX4_startBy_55 : decode cX4_startBy 55 = .ok (.if_icmp .le 7, 3) := by decide +kernel
theorem dX4_startBy_58 : decode cX4_startBy 58 = .ok (.iload_n 2, 1) := by decide +kernel
theorem dX4_startBy_59 : decode cX4_startBy 59 = .ok (.goto 5, 3) := by decide +kernel
theorem dX4_startBy_62 : decode cX4_startBy 62 = .ok (.iload 5, 2) := by decide +kernel
theorem dX4_startBy_64 : decode cX4_startBy 64 = .ok (.ireturn, 1) := by decide +kernel
theorem dX4_repairs_0 : decode cX4_repairs 0 = .ok (.iconst 0, 1) := by decide +kernel
theorem dX4_repairs_1 : decode cX4_repairs 1 = .ok (.istore_n 3, 1) := by decide +kernel
theorem dX4_repairs_2 : decode cX4_repairs 2 = .ok (.iconst 0, 1) := by decide +kernel
theorem dX4_repairs_3 : decode cX4_repairs 3 = .ok (.istore 4, 2) := by decide +kernel
theorem dX4_repairs_5 : decode cX4_repairs 5 = .ok (.iload 4, 2) := by decide +kernel
theorem dX4_repairs_7 : decode cX4_repairs 7 = .ok (.aload_n 0, 1) := by decide +kernel
theorem dX4_repairs_8 : decode cX4_repairs 8 = .ok (.getfield 7, 3) := by decide +kernel
theorem dX4_repairs_11 : decode cX4_repairs 11 = .ok (.bipush 86, 2) := by decide +kernel
theorem dX4_repairs_13 : decode cX4_repairs 13 = .ok (.iaload, 1) := by decide +kernel
theorem dX4_repairs_14 : decode cX4_repairs 14 = .ok (.if_icmp .ge 54, 3) := by decide +kernel
theorem dX4_repairs_17 : decode cX4_repairs 17 = .ok (.iload_n 3, 1) := by decide +kernel
theorem dX4_repairs_18 : decode cX4_repairs 18 = .ok (.aload_n 0, 1) := by decide +kernel
theorem dX4_repairs_19 : decode cX4_repairs 19 = .ok (.getfield 7, 3) := by decide +kernel
theorem dX4_repairs_22 : decode cX4_repairs 22 = .ok (.bipush 87, 2) := by decide +kernel
theorem dX4_repairs_24 : decode cX4_repairs 24 = .ok (.iload 4, 2) := by decide +kernel
theorem dX4_repairs_26 : decode cX4_repairs 26 = .ok (.iadd, 1) := by decide +kernel
theorem dX4_repairs_27 : decode cX4_repairs 27 = .ok (.iaload, 1) := by decide +kernel
theorem dX4_repairs_28 : decode cX4_repairs 28 = .ok (.iload_n 1, 1) := by decide +kernel
theorem dX4_repairs_29 : decode cX4_repairs 29 = .ok (.if_icmp .ne 30, 3) := by decide +kernel
theorem dX4_repairs_32 : decode cX4_repairs 32 = .ok (.aload_n 0, 1) := by decide +kernel
theorem dX4_repairs_33 : decode cX4_repairs 33 = .ok (.getfield 7, 3) := by decide +kernel
theorem dX4_repairs_36 : decode cX4_repairs 36 = .ok (.bipush 95, 2) := by decide +kernel
theorem dX4_repairs_38 : decode cX4_repairs 38 = .ok (.iload 4, 2) := by decide +kernel
theorem dX4_repairs_40 : decode cX4_repairs 40 = .ok (.iadd, 1) := by decide +kernel
theorem dX4_repairs_41 : decode cX4_repairs 41 = .ok (.iaload, 1) := by decide +kernel
theorem dX4_repairs_42 : decode cX4_repairs 42 = .ok (.iload_n 2, 1) := by decide +kernel
theorem dX4_repairs_43 : decode cX4_repairs 43 = .ok (.if_icmp .ne 16, 3) := by decide +kernel
theorem dX4_repairs_46 : decode cX4_repairs 46 = .ok (.aload_n 0, 1) := by decide +kernel
theorem dX4_repairs_47 : decode cX4_repairs 47 = .ok (.getfield 7, 3) := by decide +kernel
theorem dX4_repairs_50 : decode cX4_repairs 50 = .ok (.bipush 103, 2) := by decide +kernel
theorem dX4_repairs_52 : decode cX4_repairs 52 = .ok (.iload 4, 2) := by decide +kernel
theorem dX4_repairs_54 : decode cX4_repairs 54 = .ok (.iadd, 1) := by decide +kernel
theorem dX4_repairs_55 : decode cX4_repairs 55 = .ok (.iaload, 1) := by decide +kernel
theorem dX4_repairs_56 : decode cX4_repairs 56 = .ok (.goto 4, 3) := by decide +kernel
theorem dX4_repairs_59 : decode cX4_repairs 59 = .ok (.iconst 0, 1) := by decide +kernel
theorem dX4_repairs_60 : decode cX4_repairs 60 = .ok (.iadd, 1) := by decide +kernel
theorem dX4_repairs_61 : decode cX4_repairs 61 = .ok (.istore_n 3, 1) := by decide +kernel
theorem dX4_repairs_62 : decode cX4_repairs 62 = .ok (.iinc 4 1, 3) := by decide +kernel
theorem dX4_repairs_65 : decode cX4_repairs 65 = .ok (.goto (-60), 3) := by decide +kernel
theorem dX4_repairs_68 : decode cX4_repairs 68 = .ok (.iload_n 3, 1) := by decide +kernel
theorem dX4_repairs_69 : decode cX4_repairs 69 = .ok (.ireturn, 1) := by decide +kernel
theorem dX4_runs_0 : decode cX4_runs 0 = .ok (.aload_n 0, 1) := by decide +kernel
theorem dX4_runs_1 : decode cX4_runs 1 = .ok (.getfield 7, 3) := by decide +kernel
theorem dX4_runs_4 : decode cX4_runs 4 = .ok (.bipush 68, 2) := by decide +kernel
theorem dX4_runs_6 : decode cX4_runs 6 = .ok (.iload_n 1, 1) := by decide +kernel
theorem dX4_runs_7 : decode cX4_runs 7 = .ok (.iadd, 1) := by decide +kernel
theorem dX4_runs_8 : decode cX4_runs 8 = .ok (.iaload, 1) := by decide +kernel
theorem dX4_runs_9 : decode cX4_runs 9 = .ok (.istore 4, 2) := by decide +kernel
theorem dX4_runs_11 : decode cX4_runs 11 = .ok (.bipush 6, 2) := by decide +kernel
theorem dX4_runs_13 : decode cX4_runs 13 = .ok (.aload_n 0, 1) := by decide +kernel
theorem dX4_runs_14 : decode cX4_runs 14 = .ok (.getfield 7, 3) := by decide +kernel
theorem dX4_runs_17 : decode cX4_runs 17 = .ok (.bipush 74, 2) := by decide +kernel
theorem dX4_runs_19 : decode cX4_runs 19 = .ok (.iload_n 1, 1) := by decide +kernel
theorem dX4_runs_20 : decode cX4_runs 20 = .ok (.iadd, 1) := by decide +kernel
theorem dX4_runs_21 : decode cX4_runs 21 = .ok (.iaload, 1) := by decide +kernel
theorem dX4_runs_22 : decode cX4_runs 22 = .ok (.imul, 1) := by decide +kernel
theorem dX4_runs_23 : decode cX4_runs 23 = .ok (.iload_n 2, 1) := by decide +kernel
theorem dX4_runs_24 : decode cX4_runs 24 = .ok (.iadd, 1) := by decide +kernel
theorem dX4_runs_25 : decode cX4_runs 25 = .ok (.istore 5, 2) := by decide +kernel
theorem dX4_runs_27 : decode cX4_runs 27 = .ok (.aload_n 0, 1) := by decide +kernel
theorem dX4_runs_28 : decode cX4_runs 28 = .ok (.getfield 7, 3) := by decide +kernel
theorem dX4_runs_31 : decode cX4_runs 31 = .ok (.bipush 28, 2) := by decide +kernel
theorem dX4_runs_33 : decode cX4_runs 33 = .ok (.iload 5, 2) := by decide +kernel
theorem dX4_runs_35 : decode cX4_runs 35 = .ok (.iadd, 1) := by decide +kernel
theorem dX4_runs_36 : decode cX4_runs 36 = .ok (.iaload, 1) := by decide +kernel
theorem dX4_runs_37 : decode cX4_runs 37 = .ok (.istore 6, 2) := by decide +kernel
theorem dX4_runs_39 : decode cX4_runs 39 = .ok (.aload_n 0, 1) := by decide +kernel
theorem dX4_runs_40 : decode cX4_runs 40 = .ok (.iload 5, 2) := by decide +kernel
theorem dX4_runs_42 : decode cX4_runs 42 = .ok (.iload 4, 2) := by decide +kernel
theorem dX4_runs_44 : decode cX4_runs 44 = .ok (.invokevirtual 111, 3) := by decide +kernel
theorem dX4_runs_47 : decode cX4_runs 47 = .ok (.istore 7, 2) := by decide +kernel
theorem dX4_runs_49 : decode cX4_runs 49 = .ok (.bipush (-4), 2) := by decide +kernel
theorem dX4_runs_51 : decode cX4_runs 51 = .ok (.istore 8, 2) := by decide +kernel
theorem dX4_runs_53 : decode cX4_runs 53 = .ok (.iconst 0, 1) := by decide +kernel
theorem dX4_runs_54 : decode cX4_runs 54 = .ok (.istore 9, 2) := by decide +kernel
theorem dX4_runs_56 : decode cX4_runs 56 = .ok (.iload 9, 2) := by decide +kernel
theorem dX4_runs_58 : decode cX4_runs 58 = .ok (.aload_n 0, 1) := by decide +kernel
theorem dX4_runs_59 : decode cX4_runs 59 = .ok (.getfield 7, 3) := by decide +kernel
theorem dX4_runs_62 : decode cX4_runs 62 = .ok (.bipush 56, 2) := by decide +kernel
theorem dX4_runs_64 : decode cX4_runs 64 = .ok (.iaload, 1) := by decide +kernel
theorem dX4_runs_65 : decode cX4_runs 65 = .ok (.if_icmp .ge 75, 3) := by decide +kernel
theorem dX4_runs_68 : decode cX4_runs 68 = .ok (.aload_n 0, 1) := by decide +kernel
theorem dX4_runs_69 : decode cX4_runs 69 = .ok (.getfield 7, 3) := by decide +kernel
theorem dX4_runs_72 : decode cX4_runs 72 = .ok (.bipush 57, 2) := by decide +kernel
theorem dX4_runs_74 : decode cX4_runs 74 = .ok (.iload 9, 2) := by decide +kernel
theorem dX4_runs_76 : decode cX4_runs 76 = .ok (.iadd, 1) := by decide +kernel
theorem dX4_runs_77 : decode cX4_runs 77 = .ok (.iaload, 1) := by decide +kernel
theorem dX4_runs_78 : decode cX4_runs 78 = .ok (.iload 4, 2) := by decide +kernel
theorem dX4_runs_80 : decode cX4_runs 80 = .ok (.if_icmp .ne 7, 3) := by decide +kernel
theorem dX4_runs_83 : decode cX4_runs 83 = .ok (.iconst 1, 1) := by decide +kernel
theorem dX4_runs_84 : decode cX4_runs 84 = .ok (.goto 4, 3) := by decide +kernel
theorem dX4_runs_87 : decode cX4_runs 87 = .ok (.iconst 0, 1) := by decide +kernel
theorem dX4_runs_88 : decode cX4_runs 88 = .ok (.istore 10, 2) := by decide +kernel
theorem dX4_runs_90 : decode cX4_runs 90 = .ok (.iload 10, 2) := by decide +kernel
theorem dX4_runs_92 : decode cX4_runs 92 = .ok (.ifCond .eq 38, 3) := by decide +kernel
theorem dX4_runs_95 : decode cX4_runs 95 = .ok (.iload 8, 2) := by decide +kernel
theorem dX4_runs_97 : decode cX4_runs 97 = .ok (.ifCond .lt 28, 3) := by decide +kernel
theorem dX4_runs_100 : decode cX4_runs 100 = .ok (.aload_n 0, 1) := by decide +kernel
theorem dX4_runs_101 : decode cX4_runs 101 = .ok (.iload 9, 2) := by decide +kernel
theorem dX4_runs_103 : decode cX4_runs 103 = .ok (.iload_n 3, 1) := by decide +kernel
theorem dX4_runs_104 : decode cX4_runs 104 = .ok (.iload 7, 2) := by decide +kernel
theorem dX4_runs_106 : decode cX4_runs 106 = .ok (.iload 6, 2) := by decide +kernel
theorem dX4_runs_108 : decode cX4_runs 108 = .ok (.invokevirtual 115, 3) := by decide +kernel
theorem dX4_runs_111 : decode cX4_runs 111 = .ok (.aload_n 0, 1) := by decide +kernel
theorem dX4_runs_112 : decode cX4_runs 112 = .ok (.iload 8, 2) := by decide +kernel
theorem dX4_runs_114 : decode cX4_runs 114 = .ok (.iload_n 3, 1) := by decide +kernel
theorem dX4_runs_115 : decode cX4_runs 115 = .ok (.iload 7, 2) := by decide +kernel
theorem dX4_runs_117 : decode cX4_runs 117 = .ok (.iload 6, 2) := by decide +kernel
theorem dX4_runs_119 : decode cX4_runs 119 = .ok (.invokevirtual 115, 3) := by decide +kernel
theorem dX4_runs_122 : decode cX4_runs 122 = .ok (.if_icmp .ge 8, 3) := by decide +kernel
theorem dX4_runs_125 : decode cX4_runs 125 = .ok (.iload 9, 2) := by decide +kernel
theorem dX4_runs_127 : decode cX4_runs 127 = .ok (.goto 5, 3) := by decide +kernel
theorem dX4_runs_130 : decode cX4_runs 130 = .ok (.iload 8, 2) := by decide +kernel
theorem dX4_runs_132 : decode cX4_runs 132 = .ok (.istore 8, 2) := by decide +kernel
theorem dX4_runs_134 : decode cX4_runs 134 = .ok (.iinc 9 1, 3) := by decide +kernel
theorem dX4_runs_137 : decode cX4_runs 137 = .ok (.goto (-81), 3) := by decide +kernel
theorem dX4_runs_140 : decode cX4_runs 140 = .ok (.aload_n 0, 1) := by decide +kernel
theorem dX4_runs_141 : decode cX4_runs 141 = .ok (.iload 8, 2) := by decide +kernel
theorem dX4_runs_143 : decode cX4_runs 143 = .ok (.iload_n 3, 1) := by decide +kernel
theorem dX4_runs_144 : decode cX4_runs 144 = .ok (.iload 7, 2) := by decide +kernel
theorem dX4_runs_146 : decode cX4_runs 146 = .ok (.iload 6, 2) := by decide +kernel
theorem dX4_runs_148 : decode cX4_runs 148 = .ok (.invokevirtual 115, 3) := by decide +kernel
theorem dX4_runs_151 : decode cX4_runs 151 = .ok (.istore 9, 2) := by decide +kernel
theorem dX4_runs_153 : decode cX4_runs 153 = .ok (.iload 9, 2) := by decide +kernel
theorem dX4_runs_155 : decode cX4_runs 155 = .ok (.aload_n 0, 1) := by decide +kernel
theorem dX4_runs_156 : decode cX4_runs 156 = .ok (.getfield 7, 3) := by decide +kernel
theorem dX4_runs_159 : decode cX4_runs 159 = .ok (.iconst 4, 1) := by decide +kernel
theorem dX4_runs_160 : decode cX4_runs 160 = .ok (.iload 5, 2) := by decide +kernel
theorem dX4_runs_162 : decode cX4_runs 162 = .ok (.iadd, 1) := by decide +kernel
theorem dX4_runs_163 : decode cX4_runs 163 = .ok (.iaload, 1) := by decide +kernel
theorem dX4_runs_164 : decode cX4_runs 164 = .ok (.iadd, 1) := by decide +kernel
theorem dX4_runs_165 : decode cX4_runs 165 = .ok (.aload_n 0, 1) := by decide +kernel
theorem dX4_runs_166 : decode cX4_runs 166 = .ok (.iload_n 1, 1) := by decide +kernel
theorem dX4_runs_167 : decode cX4_runs 167 = .ok (.iload_n 2, 1) := by decide +kernel
theorem dX4_runs_168 : decode cX4_runs 168 = .ok (.invokevirtual 119, 3) := by decide +kernel
theorem dX4_runs_171 : decode cX4_runs 171 = .ok (.iadd, 1) := by decide +kernel
theorem dX4_runs_172 : decode cX4_runs 172 = .ok (.istore 10, 2) := by decide +kernel
theorem dX4_runs_174 : decode cX4_runs 174 = .ok (.aload_n 0, 1) := by decide +kernel
theorem dX4_runs_175 : decode cX4_runs 175 = .ok (.dup, 1) := by decide +kernel
theorem dX4_runs_176 : decode cX4_runs 176 = .ok (.getfield 122, 3) := by decide +kernel
theorem dX4_runs_179 : decode cX4_runs 179 = .ok (.aload_n 0, 1) := by decide +kernel
theorem dX4_runs_180 : decode cX4_runs 180 = .ok (.iload 8, 2) := by decide +kernel
theorem dX4_runs_182 : decode cX4_runs 182 = .ok (.iload 6, 2) := by decide +kernel
theorem dX4_runs_184 : decode cX4_runs 184 = .ok (.invokevirtual 108, 3) := by decide +kernel
theorem dX4_runs_187 : decode cX4_runs 187 = .ok (.ifCond .eq 7, 3) := by decide +kernel
theorem dX4_runs_190 : decode cX4_runs 190 = .ok (.iconst 1, 1) := by decide +kernel
theorem dX4_runs_191 : decode cX4_runs 191 = .ok (.goto 4, 3) := by decide +kernel
theorem dX4_runs_194 : decode cX4_runs 194 = .ok (.iconst 0, 1) := by decide +kernel
theorem dX4_runs_195 : decode cX4_runs 195 = .ok (.iadd, 1) := by decide +kernel
theorem dX4_runs_196 : decode cX4_runs 196 = .ok (.putfield 122, 3) := by decide +kernel
theorem dX4_runs_199 : decode cX4_runs 199 = .ok (.aload_n 0, 1) := by decide +kernel
theorem dX4_runs_200 : decode cX4_runs 200 = .ok (.getfield 28, 3) := by decide +kernel
theorem dX4_runs_203 : decode cX4_runs 203 = .ok (.iload 8, 2) := by decide +kernel
theorem dX4_runs_205 : decode cX4_runs 205 = .ok (.iload 6, 2) := by decide +kernel
theorem dX4_runs_207 : decode cX4_runs 207 = .ok (.iastore, 1) := by decide +kernel
theorem dX4_runs_208 : decode cX4_runs 208 = .ok (.aload_n 0, 1) := by decide +kernel
theorem dX4_runs_209 : decode cX4_runs 209 = .ok (.getfield 25, 3) := by decide +kernel
theorem dX4_runs_212 : decode cX4_runs 212 = .ok (.iload 8, 2) := by decide +kernel
theorem dX4_runs_214 : decode cX4_runs 214 = .ok (.iload 10, 2) := by decide +kernel
theorem dX4_runs_216 : decode cX4_runs 216 = .ok (.iastore, 1) := by decide +kernel
theorem dX4_runs_217 : decode cX4_runs 217 = .ok (.aload_n 0, 1) := by decide +kernel
theorem dX4_runs_218 : decode cX4_runs 218 = .ok (.getfield 31, 3) := by decide +kernel
theorem dX4_runs_221 : decode cX4_runs 221 = .ok (.iload 8, 2) := by decide +kernel
theorem dX4_runs_223 : decode cX4_runs 223 = .ok (.dup2, 1) := by decide +kernel
theorem dX4_runs_224 : decode cX4_runs 224 = .ok (.iaload, 1) := by decide +kernel
theorem dX4_runs_225 : decode cX4_runs 225 = .ok (.iload 10, 2) := by decide +kernel
theorem dX4_runs_227 : decode cX4_runs 227 = .ok (.iload 9, 2) := by decide +kernel
theorem dX4_runs_229 : decode cX4_runs 229 = .ok (.isub, 1) := by decide +kernel
theorem dX4_runs_230 : decode cX4_runs 230 = .ok (.iadd, 1) := by decide +kernel
theorem dX4_runs_231 : decode cX4_runs 231 = .ok (.iastore, 1) := by decide +kernel
theorem dX4_runs_232 : decode cX4_runs 232 = .ok (.aload_n 0, 1) := by decide +kernel
theorem dX4_runs_233 : decode cX4_runs 233 = .ok (.getfield 19, 3) := by decide +kernel
theorem dX4_runs_236 : decode cX4_runs 236 = .ok (.iload 5, 2) := by decide +kernel
theorem dX4_runs_238 : decode cX4_runs 238 = .ok (.iload 10, 2) := by decide +kernel
theorem dX4_runs_240 : decode cX4_runs 240 = .ok (.aload_n 0, 1) := by decide +kernel
theorem dX4_runs_241 : decode cX4_runs 241 = .ok (.getfield 7, 3) := by decide +kernel
theorem dX4_runs_244 : decode cX4_runs 244 = .ok (.bipush 65, 2) := by decide +kernel
theorem dX4_runs_246 : decode cX4_runs 246 = .ok (.iaload, 1) := by decide +kernel
theorem dX4_runs_247 : decode cX4_runs 247 = .ok (.iadd, 1) := by decide +kernel
theorem dX4_runs_248 : decode cX4_runs 248 = .ok (.iastore, 1) := by decide +kernel
theorem dX4_runs_249 : decode cX4_runs 249 = .ok (.aload_n 0, 1) := by decide +kernel
theorem dX4_runs_250 : decode cX4_runs 250 = .ok (.getfield 34, 3) := by decide +kernel
theorem dX4_runs_253 : decode cX4_runs 253 = .ok (.bipush 6, 2) := by decide +kernel
theorem dX4_runs_255 : decode cX4_runs 255 = .ok (.iload_n 1, 1) := by decide +kernel
theorem dX4_runs_256 : decode cX4_runs 256 = .ok (.imul, 1) := by decide +kernel
theorem dX4_runs_257 : decode cX4_runs 257 = .ok (.iload_n 2, 1) := by decide +kernel
theorem dX4_runs_258 : decode cX4_runs 258 = .ok (.iadd, 1) := by decide +kernel
theorem dX4_runs_259 : decode cX4_runs 259 = .ok (.iload 9, 2) := by decide +kernel
theorem dX4_runs_261 : decode cX4_runs 261 = .ok (.iastore, 1) := by decide +kernel
theorem dX4_runs_262 : decode cX4_runs 262 = .ok (.aload_n 0, 1) := by decide +kernel
theorem dX4_runs_263 : decode cX4_runs 263 = .ok (.getfield 37, 3) := by decide +kernel
theorem dX4_runs_266 : decode cX4_runs 266 = .ok (.bipush 6, 2) := by decide +kernel
theorem dX4_runs_268 : decode cX4_runs 268 = .ok (.iload_n 1, 1) := by decide +kernel
theorem dX4_runs_269 : decode cX4_runs 269 = .ok (.imul, 1) := by decide +kernel
theorem dX4_runs_270 : decode cX4_runs 270 = .ok (.iload_n 2, 1) := by decide +kernel
theorem dX4_runs_271 : decode cX4_runs 271 = .ok (.iadd, 1) := by decide +kernel
theorem dX4_runs_272 : decode cX4_runs 272 = .ok (.iload 8, 2) := by decide +kernel
theorem dX4_runs_274 : decode cX4_runs 274 = .ok (.iastore, 1) := by decide +kernel
theorem dX4_runs_275 : decode cX4_runs 275 = .ok (.iload 10, 2) := by decide +kernel
theorem dX4_runs_277 : decode cX4_runs 277 = .ok (.ireturn, 1) := by decide +kernel
theorem dX4_plansShow_0 : decode cX4_plansShow 0 = .ok (.aload_n 0, 1) := by decide +kernel
theorem dX4_plansShow_1 : decode cX4_plansShow 1 = .ok (.getfield 40, 3) := by decide +kernel
theorem dX4_plansShow_4 : decode cX4_plansShow 4 = .ok (.iload_n 1, 1) := by decide +kernel
theorem dX4_plansShow_5 : decode cX4_plansShow 5 = .ok (.iconst 0, 1) := by decide +kernel
theorem dX4_plansShow_6 : decode cX4_plansShow 6 = .ok (.bastore, 1) := by decide +kernel
theorem dX4_plansShow_7 : decode cX4_plansShow 7 = .ok (.iconst 0, 1) := by decide +kernel
theorem dX4_plansShow_8 : decode cX4_plansShow 8 = .ok (.istore_n 2, 1) := by decide +kernel
theorem dX4_plansShow_9 : decode cX4_plansShow 9 = .ok (.iload_n 2, 1) := by decide +kernel
theorem dX4_plansShow_10 : decode cX4_plansShow 10 = .ok (.aload_n 0, 1) := by decide +kernel
theorem dX4_plansShow_11 : decode cX4_plansShow 11 = .ok (.getfield 7, 3) := by decide +kernel
theorem dX4_plansShow_14 : decode cX4_plansShow 14 = .ok (.bipush 56, 2) := by decide +kernel
theorem dX4_plansShow_16 : decode cX4_plansShow 16 = .ok (.iaload, 1) := by decide +kernel
theorem dX4_plansShow_17 : decode cX4_plansShow 17 = .ok (.if_icmp .ge 50, 3) := by decide +kernel
theorem dX4_plansShow_20 : decode cX4_plansShow 20 = .ok (.aload_n 0, 1) := by decide +kernel
theorem dX4_plansShow_21 : decode cX4_plansShow 21 = .ok (.getfield 40, 3) := by decide +kernel
theorem dX4_plansShow_24 : decode cX4_plansShow 24 = .ok (.iload_n 1, 1) := by decide +kernel
theorem dX4_plansShow_25 : decode cX4_plansShow 25 = .ok (.aload_n 0, 1) := by decide +kernel
theorem dX4_plansShow_26 : decode cX4_plansShow 26 = .ok (.getfield 40, 3) := by decide +kernel
theorem dX4_plansShow_29 : decode cX4_plansShow 29 = .ok (.iload_n 1, 1) := by decide +kernel
theorem dX4_plansShow_30 : decode cX4_plansShow 30 = .ok (.baload, 1) := by decide +kernel
theorem dX4_plansShow_31 : decode cX4_plansShow 31 = .ok (.ifCond .ne 24, 3) := by decide +kernel
theorem dX4_plansShow_34 : decode cX4_plansShow 34 = .ok (.aload_n 0, 1) := by decide +kernel
theorem dX4_plansShow_35 : decode cX4_plansShow 35 = .ok (.getfield 7, 3) := by decide +kernel
theorem dX4_plansShow_38 : decode cX4_plansShow 38 = .ok (.bipush 57, 2) := by decide +kernel
theorem dX4_plansShow_40 : decode cX4_plansShow 40 = .ok (.iload_n 2, 1) := by decide +kernel
theorem dX4_plansShow_41 : decode cX4_plansShow 41 = .ok (.iadd, 1) := by decide +kernel
theorem dX4_plansShow_42 : decode cX4_plansShow 42 = .ok (.iaload, 1) := by decide +kernel
theorem dX4_plansShow_43 : decode cX4_plansShow 43 = .ok (.aload_n 0, 1) := by decide +kernel
theorem dX4_plansShow_44 : decode cX4_plansShow 44 = .ok (.getfield 7, 3) := by decide +kernel
theorem dX4_plansShow_47 : decode cX4_plansShow 47 = .ok (.bipush 68, 2) := by decide +kernel
theorem dX4_plansShow_49 : decode cX4_plansShow 49 = .ok (.iload_n 1, 1) := by decide +kernel
theorem dX4_plansShow_50 : decode cX4_plansShow 50 = .ok (.iadd, 1) := by decide +kernel
theorem dX4_plansShow_51 : decode cX4_plansShow 51 = .ok (.iaload, 1) := by decide +kernel
theorem dX4_plansShow_52 : decode cX4_plansShow 52 = .ok (.if_icmp .ne 7, 3) := by decide +kernel
theorem dX4_plansShow_55 : decode cX4_plansShow 55 = .ok (.iconst 1, 1) := by decide +kernel
theorem dX4_plansShow_56 : decode cX4_plansShow 56 = .ok (.goto 4, 3) := by decide +kernel
theorem dX4_plansShow_59 : decode cX4_plansShow 59 = .ok (.iconst 0, 1) := by decide +kernel
theorem dX4_plansShow_60 : decode cX4_plansShow 60 = .ok (.bastore, 1) := by decide +kernel
theorem dX4_plansShow_61 : decode cX4_plansShow 61 = .ok (.iinc 2 1, 3) := by decide +kernel
theorem dX4_plansShow_64 : decode cX4_plansShow 64 = .ok (.goto (-55), 3) := by decide +kernel
theorem dX4_plansShow_67 : decode cX4_plansShow 67 = .ok (.aload_n 0, 1) := by decide +kernel
theorem dX4_plansShow_68 : decode cX4_plansShow 68 = .ok (.getfield 47, 3) := by decide +kernel
theorem dX4_plansShow_71 : decode cX4_plansShow 71 = .ok (.iload_n 1, 1) := by decide +kernel
theorem dX4_plansShow_72 : decode cX4_plansShow 72 = .ok (.iconst 0, 1) := by decide +kernel
theorem dX4_plansShow_73 : decode cX4_plansShow 73 = .ok (.iastore, 1) := by decide +kernel
theorem dX4_plansShow_74 : decode cX4_plansShow 74 = .ok (.aload_n 0, 1) := by decide +kernel
theorem dX4_plansShow_75 : decode cX4_plansShow 75 = .ok (.getfield 50, 3) := by decide +kernel
theorem dX4_plansShow_78 : decode cX4_plansShow 78 = .ok (.iload_n 1, 1) := by decide +kernel
theorem dX4_plansShow_79 : decode cX4_plansShow 79 = .ok (.iconst 0, 1) := by decide +kernel
theorem dX4_plansShow_80 : decode cX4_plansShow 80 = .ok (.iastore, 1) := by decide +kernel
theorem dX4_plansShow_81 : decode cX4_plansShow 81 = .ok (.aload_n 0, 1) := by decide +kernel
theorem dX4_plansShow_82 : decode cX4_plansShow 82 = .ok (.getfield 40, 3) := by decide +kernel
theorem dX4_plansShow_85 : decode cX4_plansShow 85 = .ok (.iload_n 1, 1) := by decide +kernel
theorem dX4_plansShow_86 : decode cX4_plansShow 86 = .ok (.baload, 1) := by decide +kernel
theorem dX4_plansShow_87 : decode cX4_plansShow 87 = .ok (.ifCond .ne 4, 3) := by decide +kernel
theorem dX4_plansShow_90 : decode cX4_plansShow 90 = .ok (.return_, 1) := by decide +kernel
theorem dX4_plansShow_91 : decode cX4_plansShow 91 = .ok (.aload_n 0, 1) := by decide +kernel
theorem dX4_plansShow_92 : decode cX4_plansShow 92 = .ok (.getfield 7, 3) := by decide +kernel
theorem dX4_plansShow_95 : decode cX4_plansShow 95 = .ok (.bipush 80, 2) := by decide +kernel
theorem dX4_plansShow_97 : decode cX4_plansShow 97 = .ok (.iload_n 1, 1) := by decide +kernel
theorem dX4_plansShow_98 : decode cX4_plansShow 98 = .ok (.iadd, 1) := by decide +kernel
theorem dX4_plansShow_99 : decode cX4_plansShow 99 = .ok (.iaload, 1) := by decide +kernel
theorem dX4_plansShow_100 : decode cX4_plansShow 100 = .ok (.istore_n 2, 1) := by decide +kernel
theorem dX4_plansShow_101 : decode cX4_plansShow 101 = .ok (.iconst 0, 1) := by decide +kernel
theorem dX4_plansShow_102 : decode cX4_plansShow 102 = .ok (.istore_n 3, 1) := by decide +kernel
