theorem dX2_soonestCarrier_22 : decode cX2_soonestCarrier 22 = .ok (.invokestatic 142, 3) := by decide +kernel
theorem dX2_soonestCarrier_25 : decode cX2_soonestCarrier 25 = .ok (.aload_n 0, 1) := by decide +kernel
theorem dX2_soonestCarrier_26 : decode cX2_soonestCarrier 26 = .ok (.getfield 53, 3) := by decide +kernel
theorem dX2_soonestCarrier_29 : decode cX2_soonestCarrier 29 = .ok (.iload_n 3, 1) := by decide +kernel
theorem dX2_soonestCarrier_30 : decode cX2_soonestCarrier 30 = .ok (.iaload, 1) := by decide +kernel
theorem dX2_soonestCarrier_31 : decode cX2_soonestCarrier 31 = .ok (.iload_n 2, 1) := by decide +kernel
theorem dX2_soonestCarrier_32 : decode cX2_soonestCarrier 32 = .ok (.invokestatic 142, 3) := by decide +kernel
theorem dX2_soonestCarrier_35 : decode cX2_soonestCarrier 35 = .ok (.if_icmp .ge 6, 3) := by decide +kernel
theorem dX2_soonestCarrier_38 : decode cX2_soonestCarrier 38 = .ok (.iload 4, 2) := by decide +kernel
theorem dX2_soonestCarrier_40 : decode cX2_soonestCarrier 40 = .ok (.istore_n 3, 1) := by decide +kernel
theorem dX2_soonestCarrier_41 : decode cX2_soonestCarrier 41 = .ok (.iinc 4 1, 3) := by decide +kernel
theorem dX2_soonestCarrier_44 : decode cX2_soonestCarrier 44 = .ok (.goto (-39), 3) := by decide +kernel
theorem dX2_soonestCarrier_47 : decode cX2_soonestCarrier 47 = .ok (.iload_n 3, 1) := by decide +kernel
theorem dX2_soonestCarrier_48 : decode cX2_soonestCarrier 48 = .ok (.ireturn, 1) := by decide +kernel
theorem dX2_soonestMachine_0 : decode cX2_soonestMachine 0 = .ok (.aload_n 1, 1) := by decide +kernel
theorem dX2_soonestMachine_1 : decode cX2_soonestMachine 1 = .ok (.getfield 150, 3) := by decide +kernel
theorem dX2_soonestMachine_4 : decode cX2_soonestMachine 4 = .ok (.iload 5, 2) := by decide +kernel
theorem dX2_soonestMachine_6 : decode cX2_soonestMachine 6 = .ok (.iaload, 1) := by decide +kernel
theorem dX2_soonestMachine_7 : decode cX2_soonestMachine 7 = .ok (.istore 6, 2) := by decide +kernel
theorem dX2_soonestMachine_9 : decode cX2_soonestMachine 9 = .ok (.iload 5, 2) := by decide +kernel
theorem dX2_soonestMachine_11 : decode cX2_soonestMachine 11 = .ok (.istore 7, 2) := by decide +kernel
theorem dX2_soonestMachine_13 : decode cX2_soonestMachine 13 = .ok (.aload_n 0, 1) := by decide +kernel
theorem dX2_soonestMachine_14 : decode cX2_soonestMachine 14 = .ok (.aload_n 1, 1) := by decide +kernel
theorem dX2_soonestMachine_15 : decode cX2_soonestMachine 15 = .ok (.iload 7, 2) := by decide +kernel
theorem dX2_soonestMachine_17 : decode cX2_soonestMachine 17 = .ok (.iload_n 2, 1) := by decide +kernel
theorem dX2_soonestMachine_18 : decode cX2_soonestMachine 18 = .ok (.iload_n 3, 1) := by decide +kernel
theorem dX2_soonestMachine_19 : decode cX2_soonestMachine 19 = .ok (.iload 4, 2) := by decide +kernel
theorem dX2_soonestMachine_21 : decode cX2_soonestMachine 21 = .ok (.invokevirtual 122, 3) := by decide +kernel
theorem dX2_soonestMachine_24 : decode cX2_soonestMachine 24 = .ok (.istore 8, 2) := by decide +kernel
theorem dX2_soonestMachine_26 : decode cX2_soonestMachine 26 = .ok (.iload 5, 2) := by decide +kernel
theorem dX2_soonestMachine_28 : decode cX2_soonestMachine 28 = .ok (.iconst 1, 1) := by decide +kernel
theorem dX2_soonestMachine_29 : decode cX2_soonestMachine 29 = .ok (.iadd, 1) := by decide +kernel
theorem dX2_soonestMachine_30 : decode cX2_soonestMachine 30 = .ok (.istore 9, 2) := by decide +kernel
theorem dX2_soonestMachine_32 : decode cX2_soonestMachine 32 = .ok (.iload 9, 2) := by decide +kernel
theorem dX2_soonestMachine_34 : decode cX2_soonestMachine 34 = .ok (.aload_n 1, 1) := by decide +kernel
theorem dX2_soonestMachine_35 : decode cX2_soonestMachine 35 = .ok (.getfield 153, 3) := by decide +kernel
theorem dX2_soonestMachine_38 : decode cX2_soonestMachine 38 = .ok (.if_icmp .ge 49, 3) := by decide +kernel
theorem dX2_soonestMachine_41 : decode cX2_soonestMachine 41 = .ok (.aload_n 1, 1) := by decide +kernel
theorem dX2_soonestMachine_42 : decode cX2_soonestMachine 42 = .ok (.getfield 150, 3) := by decide +kernel
theorem dX2_soonestMachine_45 : decode cX2_soonestMachine 45 = .ok (.iload 9, 2) := by decide +kernel
theorem dX2_soonestMachine_47 : decode cX2_soonestMachine 47 = .ok (.iaload, 1) := by decide +kernel
theorem dX2_soonestMachine_48 : decode cX2_soonestMachine 48 = .ok (.iload 6, 2) := by decide +kernel
theorem dX2_soonestMachine_50 : decode cX2_soonestMachine 50 = .ok (.if_icmp .ne 31, 3) := by decide +kernel
theorem dX2_soonestMachine_53 : decode cX2_soonestMachine 53 = .ok (.aload_n 0, 1) := by decide +kernel
theorem dX2_soonestMachine_54 : decode cX2_soonestMachine 54 = .ok (.aload_n 1, 1) := by decide +kernel
theorem dX2_soonestMachine_55 : decode cX2_soonestMachine 55 = .ok (.iload 9, 2) := by decide +kernel
theorem dX2_soonestMachine_57 : decode cX2_soonestMachine 57 = .ok (.iload_n 2, 1) := by decide +kernel
theorem dX2_soonestMachine_58 : decode cX2_soonestMachine 58 = .ok (.iload_n 3, 1) := by decide +kernel
theorem dX2_soonestMachine_59 : decode cX2_soonestMachine 59 = .ok (.iload 4, 2) := by decide +kernel
theorem dX2_soonestMachine_61 : decode cX2_soonestMachine 61 = .ok (.invokevirtual 122, 3) := by decide +kernel
theorem dX2_soonestMachine_64 : decode cX2_soonestMachine 64 = .ok (.istore 10, 2) := by decide +kernel
theorem dX2_soonestMachine_66 : decode cX2_soonestMachine 66 = .ok (.iload 10, 2) := by decide +kernel
theorem dX2_soonestMachine_68 : decode cX2_soonestMachine 68 = .ok (.iload 8, 2) := by decide +kernel
theorem dX2_soonestMachine_70 : decode cX2_soonestMachine 70 = .ok (.if_icmp .ge 11, 3) := by decide +kernel
theorem dX2_soonestMachine_73 : decode cX2_soonestMachine 73 = .ok (.iload 9, 2) := by decide +kernel
theorem dX2_soonestMachine_75 : decode cX2_soonestMachine 75 = .ok (.istore 7, 2) := by decide +kernel
theorem dX2_soonestMachine_77 : decode cX2_soonestMachine 77 = .ok (.iload 10, 2) := by decide +kernel
theorem dX2_soonestMachine_79 : decode cX2_soonestMachine 79 = .ok (.istore 8, 2) := by decide +kernel
theorem dX2_soonestMachine_81 : decode cX2_soonestMachine 81 = .ok (.iinc 9 1, 3) := by decide +kernel
theorem dX2_soonestMachine_84 : decode cX2_soonestMachine 84 = .ok (.goto (-52), 3) := by decide +kernel
theorem dX2_soonestMachine_87 : decode cX2_soonestMachine 87 = .ok (.iload 7, 2) := by decide +kernel
theorem dX2_soonestMachine_89 : decode cX2_soonestMachine 89 = .ok (.ireturn, 1) := by decide +kernel
theorem dX2_startOn_0 : decode cX2_startOn 0 = .ok (.aload_n 0, 1) := by decide +kernel
theorem dX2_startOn_1 : decode cX2_startOn 1 = .ok (.getfield 56, 3) := by decide +kernel
theorem dX2_startOn_4 : decode cX2_startOn 4 = .ok (.iload_n 2, 1) := by decide +kernel
theorem dX2_startOn_5 : decode cX2_startOn 5 = .ok (.iaload, 1) := by decide +kernel
theorem dX2_startOn_6 : decode cX2_startOn 6 = .ok (.istore 6, 2) := by decide +kernel
theorem dX2_startOn_8 : decode cX2_startOn 8 = .ok (.aload_n 0, 1) := by decide +kernel
theorem dX2_startOn_9 : decode cX2_startOn 9 = .ok (.iload_n 2, 1) := by decide +kernel
theorem dX2_startOn_10 : decode cX2_startOn 10 = .ok (.iload_n 3, 1) := by decide +kernel
theorem dX2_startOn_11 : decode cX2_startOn 11 = .ok (.invokevirtual 131, 3) := by decide +kernel
theorem dX2_startOn_14 : decode cX2_startOn 14 = .ok (.ifCond .eq 14, 3) := by decide +kernel
theorem dX2_startOn_17 : decode cX2_startOn 17 = .ok (.iload 6, 2) := by decide +kernel
theorem dX2_startOn_19 : decode cX2_startOn 19 = .ok (.aload_n 1, 1) := by decide +kernel
theorem dX2_startOn_20 : decode cX2_startOn 20 = .ok (.getfield 135, 3) := by decide +kernel
theorem dX2_startOn_23 : decode cX2_startOn 23 = .ok (.iconst 1, 1) := by decide +kernel
theorem dX2_startOn_24 : decode cX2_startOn 24 = .ok (.iaload, 1) := by decide +kernel
theorem dX2_startOn_25 : decode cX2_startOn 25 = .ok (.iadd, 1) := by decide +kernel
theorem dX2_startOn_26 : decode cX2_startOn 26 = .ok (.istore 6, 2) := by decide +kernel
theorem dX2_startOn_28 : decode cX2_startOn 28 = .ok (.iload 5, 2) := by decide +kernel
theorem dX2_startOn_30 : decode cX2_startOn 30 = .ok (.iload 4, 2) := by decide +kernel
theorem dX2_startOn_32 : decode cX2_startOn 32 = .ok (.iload 6, 2) := by decide +kernel
theorem dX2_startOn_34 : decode cX2_startOn 34 = .ok (.invokestatic 142, 3) := by decide +kernel
theorem dX2_startOn_37 : decode cX2_startOn 37 = .ok (.aload_n 1, 1) := by decide +kernel
theorem dX2_startOn_38 : decode cX2_startOn 38 = .ok (.getfield 135, 3) := by decide +kernel
theorem dX2_startOn_41 : decode cX2_startOn 41 = .ok (.iconst 0, 1) := by decide +kernel
theorem dX2_startOn_42 : decode cX2_startOn 42 = .ok (.iaload, 1) := by decide +kernel
theorem dX2_startOn_43 : decode cX2_startOn 43 = .ok (.iadd, 1) := by decide +kernel
theorem dX2_startOn_44 : decode cX2_startOn 44 = .ok (.invokestatic 142, 3) := by decide +kernel
theorem dX2_startOn_47 : decode cX2_startOn 47 = .ok (.ireturn, 1) := by decide +kernel
theorem dX2_needsPlate_0 : decode cX2_needsPlate 0 = .ok (.aload_n 0, 1) := by decide +kernel
theorem dX2_needsPlate_1 : decode cX2_needsPlate 1 = .ok (.getfield 59, 3) := by decide +kernel
theorem dX2_needsPlate_4 : decode cX2_needsPlate 4 = .ok (.iload_n 1, 1) := by decide +kernel
theorem dX2_needsPlate_5 : decode cX2_needsPlate 5 = .ok (.iaload, 1) := by decide +kernel
theorem dX2_needsPlate_6 : decode cX2_needsPlate 6 = .ok (.iconst (-1), 1) := by decide +kernel
theorem dX2_needsPlate_7 : decode cX2_needsPlate 7 = .ok (.if_icmp .eq 17, 3) := by decide +kernel
theorem dX2_needsPlate_10 : decode cX2_needsPlate 10 = .ok (.aload_n 0, 1) := by decide +kernel
theorem dX2_needsPlate_11 : decode cX2_needsPlate 11 = .ok (.getfield 59, 3) := by decide +kernel
theorem dX2_needsPlate_14 : decode cX2_needsPlate 14 = .ok (.iload_n 1, 1) := by decide +kernel
theorem dX2_needsPlate_15 : decode cX2_needsPlate 15 = .ok (.iaload, 1) := by decide +kernel
theorem dX2_needsPlate_16 : decode cX2_needsPlate 16 = .ok (.iload_n 2, 1) := by decide +kernel
theorem dX2_needsPlate_17 : decode cX2_needsPlate 17 = .ok (.if_icmp .eq 7, 3) := by decide +kernel
theorem dX2_needsPlate_20 : decode cX2_needsPlate 20 = .ok (.iconst 1, 1) := by decide +kernel
theorem dX2_needsPlate_21 : decode cX2_needsPlate 21 = .ok (.goto 4, 3) := by decide +kernel
theorem dX2_needsPlate_24 : decode cX2_needsPlate 24 = .ok (.iconst 0, 1) := by decide +kernel
theorem dX2_needsPlate_25 : decode cX2_needsPlate 25 = .ok (.ireturn, 1) := by decide +kernel
theorem dX3_init_0 : decode cX3_init 0 = .ok (.aload_n 0, 1) := by decide +kernel
theorem dX3_init_1 : decode cX3_init 1 = .ok (.invokespecial 1, 3) := by decide +kernel
theorem dX3_init_4 : decode cX3_init 4 = .ok (.aload_n 0, 1) := by decide +kernel
theorem dX3_init_5 : decode cX3_init 5 = .ok (.new 7, 3) := by decide +kernel
theorem dX3_init_8 : decode cX3_init 8 = .ok (.dup, 1) := by decide +kernel
theorem dX3_init_9 : decode cX3_init 9 = .ok (.invokespecial 9, 3) := by decide +kernel
theorem dX3_init_12 : decode cX3_init 12 = .ok (.putfield 10, 3) := by decide +kernel
theorem dX3_init_15 : decode cX3_init 15 = .ok (.aload_n 0, 1) := by decide +kernel
theorem dX3_init_16 : decode cX3_init 16 = .ok (.new 7, 3) := by decide +kernel
theorem dX3_init_19 : decode cX3_init 19 = .ok (.dup, 1) := by decide +kernel
theorem dX3_init_20 : decode cX3_init 20 = .ok (.invokespecial 9, 3) := by decide +kernel
theorem dX3_init_23 : decode cX3_init 23 = .ok (.putfield 16, 3) := by decide +kernel
theorem dX3_init_26 : decode cX3_init 26 = .ok (.aload_n 0, 1) := by decide +kernel
theorem dX3_init_27 : decode cX3_init 27 = .ok (.new 19, 3) := by decide +kernel
theorem dX3_init_30 : decode cX3_init 30 = .ok (.dup, 1) := by decide +kernel
theorem dX3_init_31 : decode cX3_init 31 = .ok (.invokespecial 21, 3) := by decide +kernel
theorem dX3_init_34 : decode cX3_init 34 = .ok (.putfield 22, 3) := by decide +kernel
theorem dX3_init_37 : decode cX3_init 37 = .ok (.aload_n 0, 1) := by decide +kernel
theorem dX3_init_38 : decode cX3_init 38 = .ok (.new 26, 3) := by decide +kernel
theorem dX3_init_41 : decode cX3_init 41 = .ok (.dup, 1) := by decide +kernel
theorem dX3_init_42 : decode cX3_init 42 = .ok (.invokespecial 28, 3) := by decide +kernel
theorem dX3_init_45 : decode cX3_init 45 = .ok (.putfield 29, 3) := by decide +kernel
theorem dX3_init_48 : decode cX3_init 48 = .ok (.return_, 1) := by decide +kernel
theorem dX3_addReel_0 : decode cX3_addReel 0 = .ok (.iload_n 1, 1) := by decide +kernel
theorem dX3_addReel_1 : decode cX3_addReel 1 = .ok (.iconst 0, 1) := by decide +kernel
theorem dX3_addReel_2 : decode cX3_addReel 2 = .ok (.iconst 3, 1) := by decide +kernel
theorem dX3_addReel_3 : decode cX3_addReel 3 = .ok (.invokestatic 33, 3) := by decide +kernel
theorem dX3_addReel_6 : decode cX3_addReel 6 = .ok (.ifCond .eq 22, 3) := by decide +kernel
theorem dX3_addReel_9 : decode cX3_addReel 9 = .ok (.iload_n 2, 1) := by decide +kernel
theorem dX3_addReel_10 : decode cX3_addReel 10 = .ok (.iconst 1, 1) := by decide +kernel
theorem dX3_addReel_11 : decode cX3_addReel 11 = .ok (.bipush 30, 2) := by decide +kernel
theorem dX3_addReel_13 : decode cX3_addReel 13 = .ok (.invokestatic 33, 3) := by decide +kernel
theorem dX3_addReel_16 : decode cX3_addReel 16 = .ok (.ifCond .eq 12, 3) := by decide +kernel
theorem dX3_addReel_19 : decode cX3_addReel 19 = .ok (.iload_n 3, 1) := by decide +kernel
theorem dX3_addReel_20 : decode cX3_addReel 20 = .ok (.iconst 0, 1) := by decide +kernel
theorem dX3_addReel_21 : decode cX3_addReel 21 = .ok (.iconst 2, 1) := by decide +kernel
theorem dX3_addReel_22 : decode cX3_addReel 22 = .ok (.invokestatic 33, 3) := by decide +kernel
theorem dX3_addReel_25 : decode cX3_addReel 25 = .ok (.ifCond .ne 5, 3) := by decide +kernel
theorem dX3_addReel_28 : decode cX3_addReel 28 = .ok (.iconst (-1), 1) := by decide +kernel
theorem dX3_addReel_29 : decode cX3_addReel 29 = .ok (.ireturn, 1) := by decide +kernel
theorem dX3_addReel_30 : decode cX3_addReel 30 = .ok (.aload_n 0, 1) := by decide +kernel
theorem dX3_addReel_31 : decode cX3_addReel 31 = .ok (.getfield 10, 3) := by decide +kernel
theorem dX3_addReel_34 : decode cX3_addReel 34 = .ok (.getfield 37, 3) := by decide +kernel
theorem dX3_addReel_37 : decode cX3_addReel 37 = .ok (.iload_n 1, 1) := by decide +kernel
theorem dX3_addReel_38 : decode cX3_addReel 38 = .ok (.iaload, 1) := by decide +kernel
theorem dX3_addReel_39 : decode cX3_addReel 39 = .ok (.bipush 6, 2) := by decide +kernel
theorem dX3_addReel_41 : decode cX3_addReel 41 = .ok (.if_icmp .lt 6, 3) := by decide +kernel
theorem dX3_addReel_44 : decode cX3_addReel 44 = .ok (.bipush (-3), 2) := by decide +kernel
theorem dX3_addReel_46 : decode cX3_addReel 46 = .ok (.ireturn, 1) := by decide +kernel
theorem dX3_addReel_47 : decode cX3_addReel 47 = .ok (.aload_n 0, 1) := by decide +kernel
theorem dX3_addReel_48 : decode cX3_addReel 48 = .ok (.getfield 22, 3) := by decide +kernel
theorem dX3_addReel_51 : decode cX3_addReel 51 = .ok (.aload_n 0, 1) := by decide +kernel
theorem dX3_addReel_52 : decode cX3_addReel 52 = .ok (.getfield 10, 3) := by decide +kernel
theorem dX3_addReel_55 : decode cX3_addReel 55 = .ok (.invokevirtual 41, 3) := by decide +kernel
theorem dX3_addReel_58 : decode cX3_addReel 58 = .ok (.aload_n 0, 1) := by decide +kernel
theorem dX3_addReel_59 : decode cX3_addReel 59 = .ok (.getfield 10, 3) := by decide +kernel
theorem dX3_addReel_62 : decode cX3_addReel 62 = .ok (.iload_n 1, 1) := by decide +kernel
theorem dX3_addReel_63 : decode cX3_addReel 63 = .ok (.iload_n 2, 1) := by decide +kernel
theorem dX3_addReel_64 : decode cX3_addReel 64 = .ok (.iload_n 3, 1) := by decide +kernel
theorem dX3_addReel_65 : decode cX3_addReel 65 = .ok (.invokevirtual 45, 3) := by decide +kernel
theorem dX3_addReel_68 : decode cX3_addReel 68 = .ok (.aload_n 0, 1) := by decide +kernel
theorem dX3_addReel_69 : decode cX3_addReel 69 = .ok (.getfield 10, 3) := by decide +kernel
theorem dX3_addReel_72 : decode cX3_addReel 72 = .ok (.getfield 37, 3) := by decide +kernel
theorem dX3_addReel_75 : decode cX3_addReel 75 = .ok (.iload_n 1, 1) := by decide +kernel
theorem dX3_addReel_76 : decode cX3_addReel 76 = .ok (.iaload, 1) := by decide +kernel
theorem dX3_addReel_77 : decode cX3_addReel 77 = .ok (.ireturn, 1) := by decide +kernel
theorem dX3_removeReels_0 : decode cX3_removeReels 0 = .ok (.iload_n 1, 1) := by decide +kernel
theorem dX3_removeReels_1 : decode cX3_removeReels 1 = .ok (.iconst 0, 1) := by decide +kernel
theorem dX3_removeReels_2 : decode cX3_removeReels 2 = .ok (.iconst 3, 1) := by decide +kernel
theorem dX3_removeReels_3 : decode cX3_removeReels 3 = .ok (.invokestatic 33, 3) := by decide +kernel
theorem dX3_removeReels_6 : decode cX3_removeReels 6 = .ok (.ifCond .ne 5, 3) := by decide +kernel
theorem dX3_removeReels_9 : decode cX3_removeReels 9 = .ok (.iconst (-1), 1) := by decide +kernel
theorem dX3_removeReels_10 : decode cX3_removeReels 10 = .ok (.ireturn, 1) := by decide +kernel
theorem dX3_removeReels_11 : decode cX3_removeReels 11 = .ok (.aload_n 0, 1) := by decide +kernel
theorem dX3_removeReels_12 : decode cX3_removeReels 12 = .ok (.getfield 10, 3) := by decide +kernel
theorem dX3_removeReels_15 : decode cX3_removeReels 15 = .ok (.iload_n 1, 1) := by decide +kernel
theorem dX3_removeReels_16 : decode cX3_removeReels 16 = .ok (.invokevirtual 49, 3) := by decide +kernel
theorem dX3_removeReels_19 : decode cX3_removeReels 19 = .ok (.ifCond .eq 6, 3) := by decide +kernel
theorem dX3_removeReels_22 : decode cX3_removeReels 22 = .ok (.bipush (-2), 2) := by decide +kernel
theorem dX3_removeReels_24 : decode cX3_removeReels 24 = .ok (.ireturn, 1) := by decide +kernel
theorem dX3_removeReels_25 : decode cX3_removeReels 25 = .ok (.aload_n 0, 1) := by decide +kernel
theorem dX3_removeReels_26 : decode cX3_removeReels 26 = .ok (.getfield 22, 3) := by decide +kernel
theorem dX3_removeReels_29 : decode cX3_removeReels 29 = .ok (.aload_n 0, 1) := by decide +kernel
theorem dX3_removeReels_30 : decode cX3_removeReels 30 = .ok (.getfield 10, 3) := by decide +kernel
theorem dX3_removeReels_33 : decode cX3_removeReels 33 = .ok (.invokevirtual 41, 3) := by decide +kernel
theorem dX3_removeReels_36 : decode cX3_removeReels 36 = .ok (.aload_n 0, 1) := by decide +kernel
theorem dX3_removeReels_37 : decode cX3_removeReels 37 = .ok (.getfield 10, 3) := by decide +kernel
theorem dX3_removeReels_40 : decode cX3_removeReels 40 = .ok (.getfield 37, 3) := by decide +kernel
theorem dX3_removeReels_43 : decode cX3_removeReels 43 = .ok (.iload_n 1, 1) := by decide +kernel
theorem dX3_removeReels_44 : decode cX3_removeReels 44 = .ok (.iaload, 1) := by decide +kernel
theorem dX3_removeReels_45 : decode cX3_removeReels 45 = .ok (.istore_n 2, 1) := by decide +kernel
theorem dX3_removeReels_46 : decode cX3_removeReels 46 = .ok (.aload_n 0, 1) := by decide +kernel
theorem dX3_removeReels_47 : decode cX3_removeReels 47 = .ok (.getfield 10, 3) := by decide +kernel
theorem dX3_removeReels_50 : decode cX3_removeReels 50 = .ok (.getfield 37, 3) := by decide +kernel
theorem dX3_removeReels_53 : decode cX3_removeReels 53 = .ok (.iload_n 1, 1) := by decide +kernel
theorem dX3_removeReels_54 : decode cX3_removeReels 54 = .ok (.iconst 0, 1) := by decide +kernel
theorem dX3_removeReels_55 : decode cX3_removeReels 55 = .ok (.iastore, 1) := by decide +kernel
theorem dX3_removeReels_56 : decode cX3_removeReels 56 = .ok (.iload_n 2, 1) := by decide +kernel
theorem dX3_removeReels_57 : decode cX3_removeReels 57 = .ok (.ireturn, 1) := by decide +kernel
theorem dX3_setHome_0 : decode cX3_setHome 0 = .ok (.iload_n 1, 1) := by decide +kernel
theorem dX3_setHome_1 : decode cX3_setHome 1 = .ok (.iconst 0, 1) := by decide +kernel
theorem dX3_setHome_2 : decode cX3_setHome 2 = .ok (.iconst 3, 1) := by decide +kernel
theorem dX3_setHome_3 : decode cX3_setHome 3 = .ok (.invokestatic 33, 3) := by decide +kernel
theorem dX3_setHome_6 : decode cX3_setHome 6 = .ok (.ifCond .eq 12, 3) := by decide +kernel
theorem dX3_setHome_9 : decode cX3_setHome 9 = .ok (.iload_n 2, 1) := by decide +kernel
theorem dX3_setHome_10 : decode cX3_setHome 10 = .ok (.iconst 0, 1) := by decide +kernel
theorem dX3_setHome_11 : decode cX3_setHome 11 = .ok (.iconst 1, 1) := by decide +kernel
theorem dX3_setHome_12 : decode cX3_setHome 12 = .ok (.invokestatic 33, 3) := by decide +kernel
theorem dX3_setHome_15 : decode cX3_setHome 15 = .ok (.ifCond .ne 5, 3) := by decide +kernel
theorem dX3_setHome_18 : decode cX3_setHome 18 = .ok (.iconst (-1), 1) := by decide +kernel
theorem dX3_setHome_19 : decode cX3_setHome 19 = .ok (.ireturn, 1) := by decide +kernel
theorem dX3_setHome_20 : decode cX3_setHome 20 = .ok (.aload_n 0, 1) := by decide +kernel
theorem dX3_setHome_21 : decode cX3_setHome 21 = .ok (.getfield 22, 3) := by decide +kernel
theorem dX3_setHome_24 : decode cX3_setHome 24 = .ok (.aload_n 0, 1) := by decide +kernel
theorem dX3_setHome_25 : decode cX3_setHome 25 = .ok (.getfield 10, 3) := by decide +kernel
theorem dX3_setHome_28 : decode cX3_setHome 28 = .ok (.invokevirtual 41, 3) := by decide +kernel
theorem dX3_setHome_31 : decode cX3_setHome 31 = .ok (.aload_n 0, 1) := by decide +kernel
theorem dX3_setHome_32 : decode cX3_setHome 32 = .ok (.getfield 10, 3) := by decide +kernel
theorem dX3_setHome_35 : decode cX3_setHome 35 = .ok (.getfield 53, 3) := by decide +kernel
theorem dX3_setHome_38 : decode cX3_setHome 38 = .ok (.iload_n 1, 1) := by decide +kernel
theorem dX3_setHome_39 : decode cX3_setHome 39 = .ok (.iaload, 1) := by decide +kernel
theorem dX3_setHome_40 : decode cX3_setHome 40 = .ok (.istore_n 3, 1) := by decide +kernel
theorem dX3_setHome_41 : decode cX3_setHome 41 = .ok (.aload_n 0, 1) := by decide +kernel
theorem dX3_setHome_42 : decode cX3_setHome 42 = .ok (.getfield 10, 3) := by decide +kernel
theorem dX3_setHome_45 : decode cX3_setHome 45 = .ok (.getfield 53, 3) := by decide +kernel
theorem dX3_setHome_48 : decode cX3_setHome 48 = .ok (.iload_n 1, 1) := by decide +kernel
theorem dX3_setHome_49 : decode cX3_setHome 49 = .ok (.iload_n 2, 1) := by decide +kernel
theorem dX3_setHome_50 : decode cX3_setHome 50 = .ok (.iastore, 1) := by decide +kernel
theorem dX3_setHome_51 : decode cX3_setHome 51 = .ok (.iload_n 3, 1) := by decide +kernel
theorem dX3_setHome_52 : decode cX3_setHome 52 = .ok (.ireturn, 1) := by decide +kernel
theorem dX3_filmLength_0 : decode cX3_filmLength 0 = .ok (.iload_n 1, 1) := by decide +kernel
theorem dX3_filmLength_1 : decode cX3_filmLength 1 = .ok (.iconst 0, 1) := by decide +kernel
theorem dX3_filmLength_2 : decode cX3_filmLength 2 = .ok (.iconst 3, 1) := by decide +kernel
theorem dX3_filmLength_3 : decode cX3_filmLength 3 = .ok (.invokestatic 33, 3) := by decide +kernel
theorem dX3_filmLength_6 : decode cX3_filmLength 6 = .ok (.ifCond .ne 5, 3) := by decide +kernel
theorem dX3_filmLength_9 : decode cX3_filmLength 9 = .ok (.iconst (-1), 1) := by decide +kernel
theorem dX3_filmLength_10 : decode cX3_filmLength 10 = .ok (.ireturn, 1) := by decide +kernel
theorem dX3_filmLength_11 : decode cX3_filmLength 11 = .ok (.aload_n 0, 1) := by decide +kernel
theorem dX3_filmLength_12 : decode cX3_filmLength 12 = .ok (.getfield 10, 3) := by decide +kernel
theorem dX3_filmLength_15 : decode cX3_filmLength 15 = .ok (.iload_n 1, 1) := by decide +kernel
theorem dX3_filmLength_16 : decode cX3_filmLength 16 = .ok (.invokevirtual 56, 3) := by decide +kernel
theorem dX3_filmLength_19 : decode cX3_filmLength 19 = .ok (.ireturn, 1) := by decide +kernel
theorem dX3_addMachine_0 : decode cX3_addMachine 0 = .ok (.iload_n 1, 1) := by decide +kernel
theorem dX3_addMachine_1 : decode cX3_addMachine 1 = .ok (.iconst 0, 1) := by decide +kernel
theorem dX3_addMachine_2 : decode cX3_addMachine 2 = .ok (.iconst 1, 1) := by decide +kernel
theorem dX3_addMachine_3 : decode cX3_addMachine 3 = .ok (.invokestatic 33, 3) := by decide +kernel
theorem dX3_addMachine_6 : decode cX3_addMachine 6 = .ok (.ifCond .ne 5, 3) := by decide +kernel
theorem dX3_addMachine_9 : decode cX3_addMachine 9 = .ok (.iconst (-1), 1) := by decide +kernel
theorem dX3_addMachine_10 : decode cX3_addMachine 10 = .ok (.ireturn, 1) := by decide +kernel
theorem dX3_addMachine_11 : decode cX3_addMachine 11 = .ok (.aload_n 0, 1) := by decide +kernel
theorem dX3_addMachine_12 : decode cX3_addMachine 12 = .ok (.getfield 10, 3) := by decide +kernel
theorem dX3_addMachine_15 : decode cX3_addMachine 15 = .ok (.getfield 60, 3) := by decide +kernel
theorem dX3_addMachine_18 : decode cX3_addMachine 18 = .ok (.iconst 5, 1) := by decide +kernel
theorem dX3_addMachine_19 : decode cX3_addMachine 19 = .ok (.if_icmp .lt 6, 3) := by decide +kernel
theorem dX3_addMachine_22 : decode cX3_addMachine 22 = .ok (.bipush (-3), 2) := by decide +kernel
theorem dX3_addMachine_24 : decode cX3_addMachine 24 = .ok (.ireturn, 1) := by decide +kernel
theorem dX3_addMachine_25 : decode cX3_addMachine 25 = .ok (.aload_n 0, 1) := by decide +kernel
theorem dX3_addMachine_26 : decode cX3_addMachine 26 = .ok (.getfield 22, 3) := by decide +kernel
theorem dX3_addMachine_29 : decode cX3_addMachine 29 = .ok (.aload_n 0, 1) := by decide +kernel
theorem dX3_addMachine_30 : decode cX3_addMachine 30 = .ok (.getfield 10, 3) := by decide +kernel
theorem dX3_addMachine_33 : decode cX3_addMachine 33 = .ok (.invokevirtual 41, 3) := by decide +kernel
theorem dX3_addMachine_36 : decode cX3_addMachine 36 = .ok (.aload_n 0, 1) := by decide +kernel
theorem dX3_addMachine_37 : decode cX3_addMachine 37 = .ok (.getfield 10, 3) := by decide +kernel
theorem dX3_addMachine_40 : decode cX3_addMachine 40 = .ok (.iload_n 1, 1) := by decide +kernel
theorem dX3_addMachine_41 : decode cX3_addMachine 41 = .ok (.invokevirtual 64, 3) := by decide +kernel
theorem dX3_addMachine_44 : decode cX3_addMachine 44 = .ok (.aload_n 0, 1) := by decide +kernel
theorem dX3_addMachine_45 : decode cX3_addMachine 45 = .ok (.getfield 10, 3) := by decide +kernel
theorem dX3_addMachine_48 : decode cX3_addMachine 48 = .ok (.getfield 60, 3) := by decide +kernel
theorem dX3_addMachine_51 : decode cX3_addMachine 51 = .ok (.iconst 1, 1) := by decide +kernel
theorem dX3_addMachine_52 : decode cX3_addMachine 52 = .ok (.isub, 1) := by decide +kernel
theorem dX3_addMachine_53 : decode cX3_addMachine 53 = .ok (.ireturn, 1) := by decide +kernel
theorem dX3_removeMachine_0 : decode cX3_removeMachine 0 = .ok (.aload_n 0, 1) := by decide +kernel
theorem dX3_removeMachine_1 : decode cX3_removeMachine 1 = .ok (.iload_n 1, 1) := by decide +kernel
theorem dX3_removeMachine_2 : decode cX3_removeMachine 2 = .ok (.invokevirtual 68, 3) := by decide +kernel
theorem dX3_removeMachine_5 : decode cX3_removeMachine 5 = .ok (.ifCond .ne 5, 3) := by decide +kernel
theorem dX3_removeMachine_8 : decode cX3_removeMachine 8 = .ok (.iconst (-1), 1) := by decide +kernel
theorem dX3_removeMachine_9 : decode cX3_removeMachine 9 = .ok (.ireturn, 1) := by decide +kernel
theorem dX3_removeMachine_10 : decode cX3_removeMachine 10 = .ok (.aload_n 0, 1) := by decide +kernel
theorem dX3_removeMachine_11 : decode cX3_removeMachine 11 = .ok (.getfield 22, 3) := by decide +kernel
theorem dX3_removeMachine_14 : decode cX3_removeMachine 14 = .ok (.aload_n 0, 1) := by decide +kernel
theorem dX3_removeMachine_15 : decode cX3_removeMachine 15 = .ok (.getfield 10, 3) := by decide +kernel
theorem dX3_removeMachine_18 : decode cX3_removeMachine 18 = .ok (.invokevirtual 41, 3) := by decide +kernel
theorem dX3_removeMachine_21 : decode cX3_removeMachine 21 = .ok (.aload_n 0, 1) := by decide +kernel
theorem dX3_removeMachine_22 : decode cX3_removeMachine 22 = .ok (.getfield 10, 3) := by decide +kernel
theorem dX3_removeMachine_25 : decode cX3_removeMachine 25 = .ok (.iload_n 1, 1) := by decide +kernel
theorem dX3_removeMachine_26 : decode cX3_removeMachine 26 = .ok (.invokevirtual 71, 3) := by decide +kernel
theorem dX3_removeMachine_29 : decode cX3_removeMachine 29 = .ok (.aload_n 0, 1) := by decide +kernel
theorem dX3_removeMachine_30 : decode cX3_removeMachine 30 = .ok (.getfield 10, 3) := by decide +kernel
theorem dX3_removeMachine_33 : decode cX3_removeMachine 33 = .ok (.getfield 60, 3) := by decide +kernel
theorem dX3_removeMachine_36 : decode cX3_removeMachine 36 = .ok (.ireturn, 1) := by decide +kernel
theorem dX3_houseOf_0 : decode cX3_houseOf 0 = .ok (.aload_n 0, 1) := by decide +kernel
theorem dX3_houseOf_1 : decode cX3_houseOf 1 = .ok (.iload_n 1, 1) := by decide +kernel
theorem dX3_houseOf_2 : decode cX3_houseOf 2 = .ok (.invokevirtual 68, 3) := by decide +kernel
theorem dX3_houseOf_5 : decode cX3_houseOf 5 = .ok (.ifCond .ne 5, 3) := by decide +kernel
theorem dX3_houseOf_8 : decode cX3_houseOf 8 = .ok (.iconst (-1), 1) := by decide +kernel
theorem dX3_houseOf_9 : decode cX3_houseOf 9 = .ok (.ireturn, 1) := by decide +kernel
theorem dX3_houseOf_10 : decode cX3_houseOf 10 = .ok (.aload_n 0, 1) := by decide +kernel
theorem dX3_houseOf_11 : decode cX3_houseOf 11 = .ok (.getfield 10, 3) := by decide +kernel
theorem dX3_houseOf_14 : decode cX3_houseOf 14 = .ok (.getfield 74, 3) := by decide +kernel
theorem dX3_houseOf_17 : decode cX3_houseOf 17 = .ok (.iload_n 1, 1) := by decide +kernel
theorem dX3_houseOf_18 : decode cX3_houseOf 18 = .ok (.iaload, 1) := by decide +kernel
theorem dX3_houseOf_19 : decode cX3_houseOf 19 = .ok (.ireturn, 1) := by decide +kernel
theorem dX3_setCarriers_0 : decode cX3_setCarriers 0 = .ok (.iload_n 1, 1) := by decide +kernel
theorem dX3_setCarriers_1 : decode cX3_setCarriers 1 = .ok (.iconst 1, 1) := by decide +kernel
theorem dX3_setCarriers_2 : decode cX3_setCarriers 2 = .ok (.iconst 3, 1) := by decide +kernel
theorem dX3_setCarriers_3 : decode cX3_setCarriers 3 = .ok (.invokestatic 33, 3) := by decide +kernel
theorem dX3_setCarriers_6 : decode cX3_setCarriers 6 = .ok (.ifCond .ne 5, 3) := by decide +kernel
theorem dX3_setCarriers_9 : decode cX3_setCarriers 9 = .ok (.iconst (-1), 1) := by decide +kernel
theorem dX3_setCarriers_10 : decode cX3_setCarriers 10 = .ok (.ireturn, 1) := by decide +kernel
theorem dX3_setCarriers_11 : decode cX3_setCarriers 11 = .ok (.aload_n 0, 1) := by decide +kernel
theorem dX3_setCarriers_12 : decode cX3_setCarriers 12 = .ok (.getfield 22, 3) := by decide +kernel
theorem dX3_setCarriers_15 : decode cX3_setCarriers 15 = .ok (.aload_n 0, 1) := by decide +kernel
theorem dX3_setCarriers_16 : decode cX3_setCarriers 16 = .ok (.getfield 10, 3) := by decide +kernel
theorem dX3_setCarriers_19 : decode cX3_setCarriers 19 = .ok (.invokevirtual 41, 3) := by decide +kernel
theorem dX3_setCarriers_22 : decode cX3_setCarriers 22 = .ok (.aload_n 0, 1) := by decide +kernel
theorem dX3_setCarriers_23 : decode cX3_setCarriers 23 = .ok (.getfield 10, 3) := by decide +kernel
theorem dX3_setCarriers_26 : decode cX3_setCarriers 26 = .ok (.getfield 77, 3) := by decide +kernel
theorem dX3_setCarriers_29 : decode cX3_setCarriers 29 = .ok (.istore_n 2, 1) := by decide +kernel
theorem dX3_setCarriers_30 : decode cX3_setCarriers 30 = .ok (.aload_n 0, 1) := by decide +kernel
theorem dX3_setCarriers_31 : decode cX3_setCarriers 31 = .ok (.getfield 10, 3) := by decide +kernel
theorem dX3_setCarriers_34 : decode cX3_setCarriers 34 = .ok (.iload_n 1, 1) := by decide +kernel
theorem dX3_setCarriers_35 : decode cX3_setCarriers 35 = .ok (.putfield 77, 3) := by decide +kernel
theorem dX3_setCarriers_38 : decode cX3_setCarriers 38 = .ok (.iload_n 2, 1) := by decide +kernel
theorem dX3_setCarriers_39 : decode cX3_setCarriers 39 = .ok (.ireturn, 1) := by decide +kernel
theorem dX3_setDuration_0 : decode cX3_setDuration 0 = .ok (.iload_n 1, 1) := by decide +kernel
theorem dX3_setDuration_1 : decode cX3_setDuration 1 = .ok (.iconst 0, 1) := by decide +kernel
theorem dX3_setDuration_2 : decode cX3_setDuration 2 = .ok (.iconst 3, 1) := by decide +kernel
theorem dX3_setDuration_3 : decode cX3_setDuration 3 = .ok (.invokestatic 33, 3) := by decide +kernel
theorem dX3_setDuration_6 : decode cX3_setDuration 6 = .ok (.ifCond .ne 5, 3) := by decide +kernel
theorem dX3_setDuration_9 : decode cX3_setDuration 9 = .ok (.iconst (-1), 1) := by decide +kernel
theorem dX3_setDuration_10 : decode cX3_setDuration 10 = .ok (.ireturn, 1) := by decide +kernel
theorem dX3_setDuration_11 : decode cX3_setDuration 11 = .ok (.iload_n 2, 1) := by decide +kernel
theorem dX3_setDuration_12 : decode cX3_setDuration 12 = .ok (.getstatic 80, 3) := by decide +kernel
theorem dX3_setDuration_15 : decode cX3_setDuration 15 = .ok (.iload_n 1, 1) := by decide +kernel
theorem dX3_setDuration_16 : decode cX3_setDuration 16 = .ok (.iaload, 1) := by decide +kernel
theorem dX3_setDuration_17 : decode cX3_setDuration 17 = .ok (.getstatic 83, 3) := by decide +kernel
theorem dX3_setDuration_20 : decode cX3_setDuration 20 = .ok (.iload_n 1, 1) := by decide +kernel
theorem dX3_setDuration_21 : decode cX3_setDuration 21 = .ok (.iaload, 1) := by decide +kernel
theorem dX3_setDuration_22 : decode cX3_setDuration 22 = .ok (.invokestatic 33, 3) := by decide +kernel
theorem dX3_setDuration_25 : decode cX3_setDuration 25 = .ok (.ifCond .ne 5, 3) := by decide +kernel
theorem dX3_setDuration_28 : decode cX3_setDuration 28 = .ok (.iconst (-1), 1) := by decide +kernel
theorem dX3_setDuration_29 : decode cX3_setDuration 29 = .ok (.ireturn, 1) := by decide +kernel
theorem dX3_setDuration_30 : decode cX3_setDuration 30 = .ok (.aload_n 0, 1) := by decide +kernel
theorem dX3_setDuration_31 : decode cX3_setDuration 31 = .ok (.getfield 22, 3) := by decide +kernel
theorem dX3_setDuration_34 : decode cX3_setDuration 34 = .ok (.aload_n 0, 1) := by decide +kernel
theorem dX3_setDuration_35 : decode cX3_setDuration 35 = .ok (.getfield 10, 3) := by decide +kernel
theorem dX3_setDuration_38 : decode cX3_setDuration 38 = .ok (.invokevirtual 41, 3) := by decide +kernel
theorem dX3_setDuration_41 : decode cX3_setDuration 41 = .ok (.aload_n 0, 1) := by decide +kernel
theorem dX3_setDuration_42 : decode cX3_setDuration 42 = .ok (.getfield 10, 3) := by decide +kernel
theorem dX3_setDuration_45 : decode cX3_setDuration 45 = .ok (.getfield 86, 3) := by decide +kernel
theorem dX3_setDuration_48 : decode cX3_setDuration 48 = .ok (.iload_n 1, 1) := by decide +kernel
theorem dX3_setDuration_49 : decode cX3_setDuration 49 = .ok (.iaload, 1) := by decide +kernel
theorem dX3_setDuration_50 : decode cX3_setDuration 50 = .ok (.istore_n 3, 1) := by decide +kernel
theorem dX3_setDuration_51 : decode cX3_setDuration 51 = .ok (.aload_n 0, 1) := by decide +kernel
theorem dX3_setDuration_52 : decode cX3_setDuration 52 = .ok (.getfield 10, 3) := by decide +kernel
theorem dX3_setDuration_55 : decode cX3_setDuration 55 = .ok (.getfield 86, 3) := by decide +kernel
theorem dX3_setDuration_58 : decode cX3_setDuration 58 = .ok (.iload_n 1, 1) := by decide +kernel
theorem dX3_setDuration_59 : decode cX3_setDuration 59 = .ok (.iload_n 2, 1) := by decide +kernel
theorem dX3_setDuration_60 : decode cX3_setDuration 60 = .ok (.iastore, 1) := by decide +kernel
theorem dX3_setDuration_61 : decode cX3_setDuration 61 = .ok (.iload_n 3, 1) := by decide +kernel
theorem dX3_setDuration_62 : decode cX3_setDuration 62 = .ok (.ireturn, 1) := by decide +kernel
theorem dX3_addShow_0 : decode cX3_addShow 0 = .ok (.iload_n 1, 1) := by decide +kernel
theorem dX3_addShow_1 : decode cX3_addShow 1 = .ok (.iconst 0, 1) := by decide +kernel
theorem dX3_addShow_2 : decode cX3_addShow 2 = .ok (.iconst 1, 1) := by decide +kernel
theorem dX3_addShow_3 : decode cX3_addShow 3 = .ok (.invokestatic 33, 3) := by decide +kernel
theorem dX3_addShow_6 : decode cX3_addShow 6 = .ok (.ifCond .eq 23, 3) := by decide +kernel
theorem dX3_addShow_9 : decode cX3_addShow 9 = .ok (.iload_n 2, 1) := by decide +kernel
theorem dX3_addShow_10 : decode cX3_addShow 10 = .ok (.iconst 0, 1) := by decide +kernel
theorem dX3_addShow_11 : decode cX3_addShow 11 = .ok (.iconst 3, 1) := by decide +kernel
theorem dX3_addShow_12 : decode cX3_addShow 12 = .ok (.invokestatic 33, 3) := by decide +kernel
theorem dX3_addShow_15 : decode cX3_addShow 15 = .ok (.ifCond .eq 14, 3) := by decide +kernel
theorem dX3_addShow_18 : decode cX3_addShow 18 = .ok (.iload_n 3, 1) := by decide +kernel
theorem dX3_addShow_19 : decode cX3_addShow 19 = .ok (.iconst 0, 1) := by decide +kernel
theorem dX3_addShow_20 : decode cX3_addShow 20 = .ok (.sipush 1439, 3) := by decide +kernel
theorem dX3_addShow_23 : decode cX3_addShow 23 = .ok (.invokestatic 33, 3) := by decide +kernel
theorem dX3_addShow_26 : decode cX3_addShow 26 = .ok (.ifCond .ne 5, 3) := by decide +kernel
theorem dX3_addShow_29 : decode cX3_addShow 29 = .ok (.iconst (-1), 1) := by decide +kernel
theorem dX3_addShow_30 : decode cX3_addShow 30 = .ok (.ireturn, 1) := by decide +kernel
theorem dX3_addShow_31 : decode cX3_addShow 31 = .ok (.aload_n 0, 1) := by decide +kernel
theorem dX3_addShow_32 : decode cX3_addShow 32 = .ok (.getfield 10, 3) := by decide +kernel
theorem dX3_addShow_35 : decode cX3_addShow 35 = .ok (.getfield 37, 3) := by decide +kernel
theorem dX3_addShow_38 : decode cX3_addShow 38 = .ok (.iload_n 2, 1) := by decide +kernel
theorem dX3_addShow_39 : decode cX3_addShow 39 = .ok (.iaload, 1) := by decide +kernel
theorem dX3_addShow_40 : decode cX3_addShow 40 = .ok (.ifCond .ne 6, 3) := by decide +kernel
theorem dX3_addShow_43 : decode cX3_addShow 43 = .ok (.bipush (-2), 2) := by decide +kernel
theorem dX3_addShow_45 : decode cX3_addShow 45 = .ok (.ireturn, 1) := by decide +kernel
theorem dX3_addShow_46 : decode cX3_addShow 46 = .ok (.aload_n 0, 1) := by decide +kernel
theorem dX3_addShow_47 : decode cX3_addShow 47 = .ok (.getfield 10, 3) := by decide +kernel
theorem dX3_addShow_50 : decode cX3_addShow 50 = .ok (.getfield 89, 3) := by decide +kernel
theorem dX3_addShow_53 : decode cX3_addShow 53 = .ok (.bipush 6, 2) := by decide +kernel
theorem dX3_addShow_55 : decode cX3_addShow 55 = .ok (.if_icmp .lt 6, 3) := by decide +kernel
theorem dX3_addShow_58 : decode cX3_addShow 58 = .ok (.bipush (-3), 2) := by decide +kernel
theorem dX3_addShow_60 : decode cX3_addShow 60 = .ok (.ireturn, 1) := by decide +kernel
theorem dX3_addShow_61 : decode cX3_addShow 61 = .ok (.aload_n 0, 1) := by decide +kernel
theorem dX3_addShow_62 : decode cX3_addShow 62 = .ok (.getfield 22, 3) := by decide +kernel
theorem dX3_addShow_65 : decode cX3_addShow 65 = .ok (.aload_n 0, 1) := by decide +kernel
theorem dX3_addShow_66 : decode cX3_addShow 66 = .ok (.getfield 10, 3) := by decide +kernel
theorem dX3_addShow_69 : decode cX3_addShow 69 = .ok (.invokevirtual 41, 3) := by decide +kernel
theorem dX3_addShow_72 : decode cX3_addShow 72 = .ok (.aload_n 0, 1) := by decide +kernel
theorem dX3_addShow_73 : decode cX3_addShow 73 = .ok (.getfield 10, 3) := by decide +kernel
theorem dX3_addShow_76 : decode cX3_addShow 76 = .ok (.iload_n 1, 1) := by decide +kernel
theorem dX3_addShow_77 : decode cX3_addShow 77 = .ok (.iload_n 2, 1) := by decide +kernel
theorem dX3_addShow_78 : decode cX3_addShow 78 = .ok (.iload_n 3, 1) := by decide +kernel
theorem dX3_addShow_79 : decode cX3_addShow 79 = .ok (.invokevirtual 92, 3) := by decide +kernel
theorem dX3_addShow_82 : decode cX3_addShow 82 = .ok (.aload_n 0, 1) := by decide +kernel
theorem dX3_addShow_83 : decode cX3_addShow 83 = .ok (.getfield 10, 3) := by decide +kernel
theorem dX3_addShow_86 : decode cX3_addShow 86 = .ok (.getfield 89, 3) := by decide +kernel
theorem dX3_addShow_89 : decode cX3_addShow 89 = .ok (.iconst 1, 1) := by decide +kernel
theorem dX3_addShow_90 : decode cX3_addShow 90 = .ok (.isub, 1) := by decide +kernel
theorem dX3_addShow_91 : decode cX3_addShow 91 = .ok (.ireturn, 1) := by decide +kernel
theorem dX3_removeShow_0 : decode cX3_removeShow 0 = .ok (.aload_n 0, 1) := by decide +kernel
theorem dX3_removeShow_1 : decode cX3_removeShow 1 = .ok (.iload_n 1, 1) := by decide +kernel
theorem dX3_removeShow_2 : decode cX3_removeShow 2 = .ok (.invokevirtual 95, 3) := by decide +kernel
theorem dX3_removeShow_5 : decode cX3_removeShow 5 = .ok (.ifCond .ne 5, 3) := by decide +kernel
theorem dX3_removeShow_8 : decode cX3_removeShow 8 = .ok (.iconst (-1), 1) := by decide +kernel
theorem dX3_removeShow_9 : decode cX3_removeShow 9 = .ok (.ireturn, 1) := by decide +kernel
theorem dX3_removeShow_10 : decode cX3_removeShow 10 = .ok (.aload_n 0, 1) := by decide +kernel
theorem dX3_removeShow_11 : decode cX3_removeShow 11 = .ok (.getfield 22, 3) := by decide +kernel
theorem dX3_removeShow_14 : decode cX3_removeShow 14 = .ok (.aload_n 0, 1) := by decide +kernel
theorem dX3_removeShow_15 : decode cX3_removeShow 15 = .ok (.getfield 10, 3) := by decide +kernel
theorem dX3_removeShow_18 : decode cX3_removeShow 18 = .ok (.invokevirtual 41, 3) := by decide +kernel
theorem dX3_removeShow_21 : decode cX3_removeShow 21 = .ok (.aload_n 0, 1) := by decide +kernel
theorem dX3_removeShow_22 : decode cX3_removeShow 22 = .ok (.getfield 10, 3) := by decide +kernel
theorem dX3_removeShow_25 : decode cX3_removeShow 25 = .ok (.iload_n 1, 1) := by decide +kernel
theorem dX3_removeShow_26 : decode cX3_removeShow 26 = .ok (.invokevirtual 98, 3) := by decide +kernel
theorem dX3_removeShow_29 : decode cX3_removeShow 29 = .ok (.aload_n 0, 1) := by decide +kernel
theorem dX3_removeShow_30 : decode cX3_removeShow 30 = .ok (.getfield 10, 3) := by decide +kernel
theorem dX3_removeShow_33 : decode cX3_removeShow 33 = .ok (.getfield 89, 3) := by decide +kernel
theorem dX3_removeShow_36 : decode cX3_removeShow 36 = .ok (.ireturn, 1) := by decide +kernel
theorem dX3_moveShow_0 : decode cX3_moveShow 0 = .ok (.aload_n 0, 1) := by decide +kernel
theorem dX3_moveShow_1 : decode cX3_moveShow 1 = .ok (.iload_n 1, 1) := by decide +kernel
theorem dX3_moveShow_2 : decode cX3_moveShow 2 = .ok (.invokevirtual 95, 3) := by decide +kernel
theorem dX3_moveShow_5 : decode cX3_moveShow 5 = .ok (.ifCond .eq 14, 3) := by decide +kernel
theorem dX3_moveShow_8 : decode cX3_moveShow 8 = .ok (.iload_n 2, 1) := by decide +kernel
theorem dX3_moveShow_9 : decode cX3_moveShow 9 = .ok (.iconst 0, 1) := by decide +kernel
theorem dX3_moveShow_10 : decode cX3_moveShow 10 = .ok (.sipush 1439, 3) := by decide +kernel
theorem dX3_moveShow_13 : decode cX3_moveShow 13 = .ok (.invokestatic 33, 3) := by decide +kernel
theorem dX3_moveShow_16 : decode cX3_moveShow 16 = .ok (.ifCond .ne 5, 3) := by decide +kernel
theorem dX3_moveShow_19 : decode cX3_moveShow 19 = .ok (.iconst (-1), 1) := by decide +kernel
theorem dX3_moveShow_20 : decode cX3_moveShow 20 = .ok (.ireturn, 1) := by decide +kernel
theorem dX3_moveShow_21 : decode cX3_moveShow 21 = .ok (.aload_n 0, 1) := by decide +kernel
theorem dX3_moveShow_22 : decode cX3_moveShow 22 = .ok (.getfield 22, 3) := by decide +kernel
theorem dX3_moveShow_25 : decode cX3_moveShow 25 = .ok (.aload_n 0, 1) := by decide +kernel
theorem dX3_moveShow_26 : decode cX3_moveShow 26 = .ok (.getfield 10, 3) := by decide +kernel
theorem dX3_moveShow_29 : decode cX3_moveShow 29 = .ok (.invokevirtual 41, 3) := by decide +kernel
theorem dX3_moveShow_32 : decode cX3_moveShow 32 = .ok (.aload_n 0, 1) := by decide +kernel
theorem dX3_moveShow_33 : decode cX3_moveShow 33 = .ok (.getfield 10, 3) := by decide +kernel
theorem dX3_moveShow_36 : decode cX3_moveShow 36 = .ok (.getfield 101, 3) := by decide +kernel
theorem dX3_moveShow_39 : decode cX3_moveShow 39 = .ok (.iload_n 1, 1) := by decide +kernel
theorem dX3_moveShow_40 : decode cX3_moveShow 40 = .ok (.iaload, 1) := by decide +kernel
theorem dX3_moveShow_41 : decode cX3_moveShow 41 = .ok (.istore_n 3, 1) := by decide +kernel
theorem dX3_moveShow_42 : decode cX3_moveShow 42 = .ok (.aload_n 0, 1) := by decide +kernel
theorem dX3_moveShow_43 : decode cX3_moveShow 43 = .ok (.getfield 10, 3) := by decide +kernel
theorem dX3_moveShow_46 : decode cX3_moveShow 46 = .ok (.getfield 101, 3) := by decide +kernel
theorem dX3_moveShow_49 : decode cX3_moveShow 49 = .ok (.iload_n 1, 1) := by decide +kernel
theorem dX3_moveShow_50 : decode cX3_moveShow 50 = .ok (.iload_n 2, 1) := by decide +kernel
theorem dX3_moveShow_51 : decode cX3_moveShow 51 = .ok (.iastore, 1) := by decide +kernel
theorem dX3_moveShow_52 : decode cX3_moveShow 52 = .ok (.iload_n 3, 1) := by decide +kernel
theorem dX3_moveShow_53 : decode cX3_moveShow 53 = .ok (.ireturn, 1) := by decide +kernel
theorem dX3_addBreak_0 : decode cX3_addBreak 0 = .ok (.aload_n 0, 1) := by decide +kernel
theorem dX3_addBreak_1 : decode cX3_addBreak 1 = .ok (.iload_n 1, 1) := by decide +kernel
theorem dX3_addBreak_2 : decode cX3_addBreak 2 = .ok (.iload_n 2, 1) := by decide +kernel
theorem dX3_addBreak_3 : decode cX3_addBreak 3 = .ok (.invokevirtual 104, 3) := by decide +kernel
theorem dX3_addBreak_6 : decode cX3_addBreak 6 = .ok (.ifCond .eq 13, 3) := by decide +kernel
theorem dX3_addBreak_9 : decode cX3_addBreak 9 = .ok (.iload_n 3, 1) := by decide +kernel
theorem dX3_addBreak_10 : decode cX3_addBreak 10 = .ok (.iconst 1, 1) := by decide +kernel
theorem dX3_addBreak_11 : decode cX3_addBreak 11 = .ok (.bipush 60, 2) := by decide +kernel
theorem dX3_addBreak_13 : decode cX3_addBreak 13 = .ok (.invokestatic 33, 3) := by decide +kernel
theorem dX3_addBreak_16 : decode cX3_addBreak 16 = .ok (.ifCond .ne 5, 3) := by decide +kernel
theorem dX3_addBreak_19 : decode cX3_addBreak 19 = .ok (.iconst (-1), 1) := by decide +kernel
theorem dX3_addBreak_20 : decode cX3_addBreak 20 = .ok (.ireturn, 1) := by decide +kernel
theorem dX3_addBreak_21 : decode cX3_addBreak 21 = .ok (.aload_n 0, 1) := by decide +kernel
theorem dX3_addBreak_22 : decode cX3_addBreak 22 = .ok (.getfield 10, 3) := by decide +kernel
theorem dX3_addBreak_25 : decode cX3_addBreak 25 = .ok (.getfield 108, 3) := by decide +kernel
theorem dX3_addBreak_28 : decode cX3_addBreak 28 = .ok (.bipush 8, 2) := by decide +kernel
theorem dX3_addBreak_30 : decode cX3_addBreak 30 = .ok (.if_icmp .lt 6, 3) := by decide +kernel
theorem dX3_addBreak_33 : decode cX3_addBreak 33 = .ok (.bipush (-3), 2) := by decide +kernel
theorem dX3_addBreak_35 : decode cX3_addBreak 35 = .ok (.ireturn, 1) := by decide +kernel
theorem dX3_addBreak_36 : decode cX3_addBreak 36 = .ok (.aload_n 0, 1) := by decide +kernel
theorem dX3_addBreak_37 : decode cX3_addBreak 37 = .ok (.getfield 22, 3) := by decide +kernel
theorem dX3_addBreak_40 : decode cX3_addBreak 40 = .ok (.aload_n 0, 1) := by decide +kernel
theorem dX3_addBreak_41 : decode cX3_addBreak 41 = .ok (.getfield 10, 3) := by decide +kernel
theorem dX3_addBreak_44 : decode cX3_addBreak 44 = .ok (.invokevirtual 41, 3) := by decide +kernel
theorem dX3_addBreak_47 : decode cX3_addBreak 47 = .ok (.aload_n 0, 1) := by decide +kernel
theorem dX3_addBreak_48 : decode cX3_addBreak 48 = .ok (.getfield 10, 3) := by decide +kernel
theorem dX3_addBreak_51 : decode cX3_addBreak 51 = .ok (.iload_n 1, 1) := by decide +kernel
theorem dX3_addBreak_52 : decode cX3_addBreak 52 = .ok (.iload_n 2, 1) := by decide +kernel
theorem dX3_addBreak_53 : decode cX3_addBreak 53 = .ok (.iload_n 3, 1) := by decide +kernel
theorem dX3_addBreak_54 : decode cX3_addBreak 54 = .ok (.invokevirtual 111, 3) := by decide +kernel
theorem dX3_addBreak_57 : decode cX3_addBreak 57 = .ok (.aload_n 0, 1) := by decide +kernel
theorem dX3_addBreak_58 : decode cX3_addBreak 58 = .ok (.getfield 10, 3) := by decide +kernel
theorem dX3_addBreak_61 : decode cX3_addBreak 61 = .ok (.getfield 108, 3) := by decide +kernel
theorem dX3_addBreak_64 : decode cX3_addBreak 64 = .ok (.ireturn, 1) := by decide +kernel
theorem dX3_clearBreaks_0 : decode cX3_clearBreaks 0 = .ok (.aload_n 0, 1) := by decide +kernel
theorem dX3_clearBreaks_1 : decode cX3_clearBreaks 1 = .ok (.getfield 22, 3) := by decide +kernel
theorem dX3_clearBreaks_4 : decode cX3_clearBreaks 4 = .ok (.aload_n 0, 1) := by decide +kernel
theorem dX3_clearBreaks_5 : decode cX3_clearBreaks 5 = .ok (.getfield 10, 3) := by decide +kernel
theorem dX3_clearBreaks_8 : decode cX3_clearBreaks 8 = .ok (.invokevirtual 41, 3) := by decide +kernel
theorem dX3_clearBreaks_11 : decode cX3_clearBreaks 11 = .ok (.aload_n 0, 1) := by decide +kernel
theorem dX3_clearBreaks_12 : decode cX3_clearBreaks 12 = .ok (.getfield 10, 3) := by decide +kernel
theorem dX3_clearBreaks_15 : decode cX3_clearBreaks 15 = .ok (.getfield 108, 3) := by decide +kernel
theorem dX3_clearBreaks_18 : decode cX3_clearBreaks 18 = .ok (.istore_n 1, 1) := by decide +kernel
theorem dX3_clearBreaks_19 : decode cX3_clearBreaks 19 = .ok (.aload_n 0, 1) := by decide +kernel
theorem dX3_clearBreaks_20 : decode cX3_clearBreaks 20 = .ok (.getfield 10, 3) := by decide +kernel
theorem dX3_clearBreaks_23 : decode cX3_clearBreaks 23 = .ok (.iconst 0, 1) := by decide +kernel
theorem dX3_clearBreaks_24 : decode cX3_clearBreaks 24 = .ok (.putfield 108, 3) := by decide +kernel
theorem dX3_clearBreaks_27 : decode cX3_clearBreaks 27 = .ok (.iload_n 1, 1) := by decide +kernel
theorem dX3_clearBreaks_28 : decode cX3_clearBreaks 28 = .ok (.ireturn, 1) := by decide +kernel
theorem dX3_startOf_0 : decode cX3_startOf 0 = .ok (.aload_n 0, 1) := by decide +kernel
theorem dX3_startOf_1 : decode cX3_startOf 1 = .ok (.iload_n 1, 1) := by decide +kernel
theorem dX3_startOf_2 : decode cX3_startOf 2 = .ok (.iload_n 2, 1) := by decide +kernel
theorem dX3_startOf_3 : decode cX3_startOf 3 = .ok (.invokevirtual 104, 3) := by decide +kernel
theorem dX3_startOf_6 : decode cX3_startOf 6 = .ok (.ifCond .ne 5, 3) := by decide +kernel
theorem dX3_startOf_9 : decode cX3_startOf 9 = .ok (.iconst (-1), 1) := by decide +kernel
theorem dX3_startOf_10 : decode cX3_startOf 10 = .ok (.ireturn, 1) := by decide +kernel
theorem dX3_startOf_11 : decode cX3_startOf 11 = .ok (.aload_n 0, 1) := by decide +kernel
theorem dX3_startOf_12 : decode cX3_startOf 12 = .ok (.getfield 29, 3) := by decide +kernel
theorem dX3_startOf_15 : decode cX3_startOf 15 = .ok (.aload_n 0, 1) := by decide +kernel
theorem dX3_startOf_16 : decode cX3_startOf 16 = .ok (.getfield 10, 3) := by decide +kernel
theorem dX3_startOf_19 : decode cX3_startOf 19 = .ok (.invokevirtual 114, 3) := by decide +kernel
theorem dX3_startOf_22 : decode cX3_startOf 22 = .ok (.aload_n 0, 1) := by decide +kernel
theorem dX3_startOf_23 : decode cX3_startOf 23 = .ok (.getfield 29, 3) := by decide +kernel
theorem dX3_startOf_26 : decode cX3_startOf 26 = .ok (.getfield 117, 3) := by decide +kernel
theorem dX3_startOf_29 : decode cX3_startOf 29 = .ok (.iload_n 1, 1) := by decide +kernel
theorem dX3_startOf_30 : decode cX3_startOf 30 = .ok (.baload, 1) := by decide +kernel
theorem dX3_startOf_31 : decode cX3_startOf 31 = .ok (.ifCond .eq 19, 3) := by decide +kernel
theorem dX3_startOf_34 : decode cX3_startOf 34 = .ok (.aload_n 0, 1) := by decide +kernel
theorem dX3_startOf_35 : decode cX3_startOf 35 = .ok (.getfield 29, 3) := by decide +kernel
theorem dX3_startOf_38 : decode cX3_startOf 38 = .ok (.getfield 121, 3) := by decide +kernel
theorem dX3_startOf_41 : decode cX3_startOf 41 = .ok (.iload_n 1, 1) := by decide +kernel
theorem dX3_startOf_42 : decode cX3_startOf 42 = .ok (.iload_n 2, 1) := by decide +kernel
theorem dX3_startOf_43 : decode cX3_startOf 43 = .ok (.invokestatic 124, 3) := by decide +kernel
theorem dX3_startOf_46 : decode cX3_startOf 46 = .ok (.iaload, 1) := by decide +kernel
theorem dX3_startOf_47 : decode cX3_startOf 47 = .ok (.goto 5, 3) := by decide +kernel
theorem dX3_startOf_50 : decode cX3_startOf 50 = .ok (.bipush (-4), 2) := by decide +kernel
theorem dX3_startOf_52 : decode cX3_startOf 52 = .ok (.ireturn, 1) := by decide +kernel
theorem dX3_machineOf_0 : decode cX3_machineOf 0 = .ok (.aload_n 0, 1) := by decide +kernel
theorem dX3_machineOf_1 : decode cX3_machineOf 1 = .ok (.iload_n 1, 1) := by decide +kernel
theorem dX3_machineOf_2 : decode cX3_machineOf 2 = .ok (.iload_n 2, 1) := by decide +kernel
theorem dX3_machineOf_3 : decode cX3_machineOf 3 = .ok (.invokevirtual 104, 3) := by decide +kernel
theorem dX3_machineOf_6 : decode cX3_machineOf 6 = .ok (.ifCond .ne 5, 3) := by decide +kernel
theorem dX3_machineOf_9 : decode cX3_machineOf 9 = .ok (.iconst (-1), 1) := by decide +kernel
theorem dX3_machineOf_10 : decode cX3_machineOf 10 = .ok (.ireturn, 1) := by decide +kernel
theorem dX3_machineOf_11 : decode cX3_machineOf 11 = .ok (.aload_n 0, 1) := by decide +kernel
theorem dX3_machineOf_12 : decode cX3_machineOf 12 = .ok (.getfield 29, 3) := by decide +kernel
theorem dX3_machineOf_15 : decode cX3_machineOf 15 = .ok (.aload_n 0, 1) := by decide +kernel
theorem dX3_machineOf_16 : decode cX3_machineOf 16 = .ok (.getfield 10, 3) := by decide +kernel
theorem dX3_machineOf_19 : decode cX3_machineOf 19 = .ok (.invokevirtual 114, 3) := by decide +kernel
theorem dX3_machineOf_22 : decode cX3_machineOf 22 = .ok (.aload_n 0, 1) := by decide +kernel
theorem dX3_machineOf_23 : decode cX3_machineOf 23 = .ok (.getfield 29, 3) := by decide +kernel
theorem dX3_machineOf_26 : decode cX3_machineOf 26 = .ok (.getfield 117, 3) := by decide +kernel
theorem dX3_machineOf_29 : decode cX3_machineOf 29 = .ok (.iload_n 1, 1) := by decide +kernel
theorem dX3_machineOf_30 : decode cX3_machineOf 30 = .ok (.baload, 1) := by decide +kernel
theorem dX3_machineOf_31 : decode cX3_machineOf 31 = .ok (.ifCond .eq 19, 3) := by decide +kernel
theorem dX3_machineOf_34 : decode cX3_machineOf 34 = .ok (.aload_n 0, 1) := by decide +kernel
theorem dX3_machineOf_35 : decode cX3_machineOf 35 = .ok (.getfield 29, 3) := by decide +kernel
theorem dX3_machineOf_38 : decode cX3_machineOf 38 = .ok (.getfield 128, 3) := by decide +kernel
theorem dX3_machineOf_41 : decode cX3_machineOf 41 = .ok (.iload_n 1, 1) := by decide +kernel
theorem dX3_machineOf_42 : decode cX3_machineOf 42 = .ok (.iload_n 2, 1) := by decide +kernel
theorem dX3_machineOf_43 : decode cX3_machineOf 43 = .ok (.invokestatic 124, 3) := by decide +kernel
theorem dX3_machineOf_46 : decode cX3_machineOf 46 = .ok (.iaload, 1) := by decide +kernel
theorem dX3_machineOf_47 : decode cX3_machineOf 47 = .ok (.goto 5, 3) := by decide +kernel
theorem dX3_machineOf_50 : decode cX3_machineOf 50 = .ok (.bipush (-4), 2) := by decide +kernel
theorem dX3_machineOf_52 : decode cX3_machineOf 52 = .ok (.ireturn, 1) := by decide +kernel
theorem dX3_endOf_0 : decode cX3_endOf 0 = .ok (.aload_n 0, 1) := by decide +kernel
theorem dX3_endOf_1 : decode cX3_endOf 1 = .ok (.iload_n 1, 1) := by decide +kernel
theorem dX3_endOf_2 : decode cX3_endOf 2 = .ok (.invokevirtual 95, 3) := by decide +kernel
theorem dX3_endOf_5 : decode cX3_endOf 5 = .ok (.ifCond .ne 5, 3) := by decide +kernel
theorem dX3_endOf_8 : decode cX3_endOf 8 = .ok (.iconst (-1), 1) := by decide +kernel
theorem dX3_endOf_9 : decode cX3_endOf 9 = .ok (.ireturn, 1) := by decide +kernel
theorem dX3_endOf_10 : decode cX3_endOf 10 = .ok (.aload_n 0, 1) := by decide +kernel
theorem dX3_endOf_11 : decode cX3_endOf 11 = .ok (.getfield 29, 3) := by decide +kernel
theorem dX3_endOf_14 : decode cX3_endOf 14 = .ok (.aload_n 0, 1) := by decide +kernel
theorem dX3_endOf_15 : decode cX3_endOf 15 = .ok (.getfield 10, 3) := by decide +kernel
theorem dX3_endOf_18 : decode cX3_endOf 18 = .ok (.invokevirtual 114, 3) := by decide +kernel
theorem dX3_endOf_21 : decode cX3_endOf 21 = .ok (.aload_n 0, 1) := by decide +kernel
theorem dX3_endOf_22 : decode cX3_endOf 22 = .ok (.getfield 29, 3) := by decide +kernel
theorem dX3_endOf_25 : decode cX3_endOf 25 = .ok (.getfield 117, 3) := by decide +kernel
theorem dX3_endOf_28 : decode cX3_endOf 28 = .ok (.iload_n 1, 1) := by decide +kernel
theorem dX3_endOf_29 : decode cX3_endOf 29 = .ok (.baload, 1) := by decide +kernel
theorem dX3_endOf_30 : decode cX3_endOf 30 = .ok (.ifCond .eq 15, 3) := by decide +kernel
theorem dX3_endOf_33 : decode cX3_endOf 33 = .ok (.aload_n 0, 1) := by decide +kernel
theorem dX3_endOf_34 : decode cX3_endOf 34 = .ok (.getfield 29, 3) := by decide +kernel
theorem dX3_endOf_37 : decode cX3_endOf 37 = .ok (.getfield 131, 3) := by decide +kernel
theorem dX3_endOf_40 : decode cX3_endOf 40 = .ok (.iload_n 1, 1) := by decide +kernel
theorem dX3_endOf_41 : decode cX3_endOf 41 = .ok (.iaload, 1) := by decide +kernel
theorem dX3_endOf_42 : decode cX3_endOf 42 = .ok (.goto 5, 3) := by decide +kernel
theorem dX3_endOf_45 : decode cX3_endOf 45 = .ok (.bipush (-4), 2) := by decide +kernel
theorem dX3_endOf_47 : decode cX3_endOf 47 = .ok (.ireturn, 1) := by decide +kernel
theorem dX3_delayOf_0 : decode cX3_delayOf 0 = .ok (.aload_n 0, 1) := by decide +kernel
theorem dX3_delayOf_1 : decode cX3_delayOf 1 = .ok (.iload_n 1, 1) := by decide +kernel
theorem dX3_delayOf_2 : decode cX3_delayOf 2 = .ok (.invokevirtual 95, 3) := by decide +kernel
theorem dX3_delayOf_5 : decode cX3_delayOf 5 = .ok (.ifCond .ne 5, 3) := by decide +kernel
theorem dX3_delayOf_8 : decode cX3_delayOf 8 = .ok (.iconst (-1), 1) := by decide +kernel
theorem dX3_delayOf_9 : decode cX3_delayOf 9 = .ok (.ireturn, 1) := by decide +kernel
theorem dX3_delayOf_10 : decode cX3_delayOf 10 = .ok (.aload_n 0, 1) := by decide +kernel
theorem dX3_delayOf_11 : decode cX3_delayOf 11 = .ok (.getfield 29, 3) := by decide +kernel
theorem dX3_delayOf_14 : decode cX3_delayOf 14 = .ok (.aload_n 0, 1) := by decide +kernel
theorem dX3_delayOf_15 : decode cX3_delayOf 15 = .ok (.getfield 10, 3) := by decide +kernel
theorem dX3_delayOf_18 : decode cX3_delayOf 18 = .ok (.invokevirtual 114, 3) := by decide +kernel
theorem dX3_delayOf_21 : decode cX3_delayOf 21 = .ok (.aload_n 0, 1) := by decide +kernel
theorem dX3_delayOf_22 : decode cX3_delayOf 22 = .ok (.getfield 29, 3) := by decide +kernel
theorem dX3_delayOf_25 : decode cX3_delayOf 25 = .ok (.getfield 134, 3) := by decide +kernel
theorem dX3_delayOf_28 : decode cX3_delayOf 28 = .ok (.iload_n 1, 1) := by decide +kernel
theorem dX3_delayOf_29 : decode cX3_delayOf 29 = .ok (.iaload, 1) := by decide +kernel
theorem dX3_delayOf_30 : decode cX3_delayOf 30 = .ok (.ireturn, 1) := by decide +kernel
theorem dX3_gapOf_0 : decode cX3_gapOf 0 = .ok (.aload_n 0, 1) := by decide +kernel
theorem dX3_gapOf_1 : decode cX3_gapOf 1 = .ok (.iload_n 1, 1) := by decide +kernel
theorem dX3_gapOf_2 : decode cX3_gapOf 2 = .ok (.invokevirtual 95, 3) := by decide +kernel
theorem dX3_gapOf_5 : decode cX3_gapOf 5 = .ok (.ifCond .ne 5, 3) := by decide +kernel
theorem dX3_gapOf_8 : decode cX3_gapOf 8 = .ok (.iconst (-1), 1) := by decide +kernel
theorem dX3_gapOf_9 : decode cX3_gapOf 9 = .ok (.ireturn, 1) := by decide +kernel
theorem dX3_gapOf_10 : decode cX3_gapOf 10 = .ok (.aload_n 0, 1) := by decide +kernel
theorem dX3_gapOf_11 : decode cX3_gapOf 11 = .ok (.getfield 29, 3) := by decide +kernel
theorem dX3_gapOf_14 : decode cX3_gapOf 14 = .ok (.aload_n 0, 1) := by decide +kernel
theorem dX3_gapOf_15 : decode cX3_gapOf 15 = .ok (.getfield 10, 3) := by decide +kernel
theorem dX3_gapOf_18 : decode cX3_gapOf 18 = .ok (.invokevirtual 114, 3) := by decide +kernel
theorem dX3_gapOf_21 : decode cX3_gapOf 21 = .ok (.aload_n 0, 1) := by decide +kernel
theorem dX3_gapOf_22 : decode cX3_gapOf 22 = .ok (.getfield 29, 3) := by decide +kernel
theorem dX3_gapOf_25 : decode cX3_gapOf 25 = .ok (.getfield 137, 3) := by decide +kernel
theorem dX3_gapOf_28 : decode cX3_gapOf 28 = .ok (.iload_n 1, 1) := by decide +kernel
theorem dX3_gapOf_29 : decode cX3_gapOf 29 = .ok (.iaload, 1) := by decide +kernel
theorem dX3_gapOf_30 : decode cX3_gapOf 30 = .ok (.ireturn, 1) := by decide +kernel
theorem dX3_loss_0 : decode cX3_loss 0 = .ok (.aload_n 0, 1) := by decide +kernel
theorem dX3_loss_1 : decode cX3_loss 1 = .ok (.getfield 29, 3) := by decide +kernel
theorem dX3_loss_4 : decode cX3_loss 4 = .ok (.aload_n 0, 1) := by decide +kernel
theorem dX3_loss_5 : decode cX3_loss 5 = .ok (.getfield 10, 3) := by decide +kernel
theorem dX3_loss_8 : decode cX3_loss 8 = .ok (.invokevirtual 140, 3) := by decide +kernel
theorem dX3_loss_11 : decode cX3_loss 11 = .ok (.ireturn, 1) := by decide +kernel
theorem dX3_carriedReels_0 : decode cX3_carriedReels 0 = .ok (.aload_n 0, 1) := by decide +kernel
theorem dX3_carriedReels_1 : decode cX3_carriedReels 1 = .ok (.getfield 29, 3) := by decide +kernel
theorem dX3_carriedReels_4 : decode cX3_carriedReels 4 = .ok (.aload_n 0, 1) := by decide +kernel
theorem dX3_carriedReels_5 : decode cX3_carriedReels 5 = .ok (.getfield 10, 3) := by decide +kernel
theorem dX3_carriedReels_8 : decode cX3_carriedReels 8 = .ok (.invokevirtual 114, 3) := by decide +kernel
theorem dX3_carriedReels_11 : decode cX3_carriedReels 11 = .ok (.aload_n 0, 1) := by decide +kernel
theorem dX3_carriedReels_12 : decode cX3_carriedReels 12 = .ok (.getfield 29, 3) := by decide +kernel
theorem dX3_carriedReels_15 : decode cX3_carriedReels 15 = .ok (.getfield 144, 3) := by decide +kernel
theorem dX3_carriedReels_18 : decode cX3_carriedReels 18 = .ok (.ireturn, 1) := by decide +kernel
theorem dX3_plateChanges_0 : decode cX3_plateChanges 0 = .ok (.aload_n 0, 1) := by decide +kernel
theorem dX3_plateChanges_1 : decode cX3_plateChanges 1 = .ok (.getfield 29, 3) := by decide +kernel
theorem dX3_plateChanges_4 : decode cX3_plateChanges 4 = .ok (.aload_n 0, 1) := by decide +kernel
theorem dX3_plateChanges_5 : decode cX3_plateChanges 5 = .ok (.getfield 10, 3) := by decide +kernel
theorem dX3_plateChanges_8 : decode cX3_plateChanges 8 = .ok (.invokevirtual 114, 3) := by decide +kernel
theorem dX3_plateChanges_11 : decode cX3_plateChanges 11 = .ok (.aload_n 0, 1) := by decide +kernel
theorem dX3_plateChanges_12 : decode cX3_plateChanges 12 = .ok (.getfield 29, 3) := by decide +kernel
theorem dX3_plateChanges_15 : decode cX3_plateChanges 15 = .ok (.getfield 147, 3) := by decide +kernel
theorem dX3_plateChanges_18 : decode cX3_plateChanges 18 = .ok (.ireturn, 1) := by decide +kernel
theorem dX3_machineTime_0 : decode cX3_machineTime 0 = .ok (.aload_n 0, 1) := by decide +kernel
theorem dX3_machineTime_1 : decode cX3_machineTime 1 = .ok (.iload_n 1, 1) := by decide +kernel
theorem dX3_machineTime_2 : decode cX3_machineTime 2 = .ok (.invokevirtual 68, 3) := by decide +kernel
theorem dX3_machineTime_5 : decode cX3_machineTime 5 = .ok (.ifCond .ne 5, 3) := by decide +kernel
theorem dX3_machineTime_8 : decode cX3_machineTime 8 = .ok (.iconst (-1), 1) := by decide +kernel
theorem dX3_machineTime_9 : decode cX3_machineTime 9 = .ok (.ireturn, 1) := by decide +kernel
theorem dX3_machineTime_10 : decode cX3_machineTime 10 = .ok (.aload_n 0, 1) := by decide +kernel
theorem dX3_machineTime_11 : decode cX3_machineTime 11 = .ok (.getfield 29, 3) := by decide +kernel
theorem dX3_machineTime_14 : decode cX3_machineTime 14 = .ok (.aload_n 0, 1) := by decide +kernel
theorem dX3_machineTime_15 : decode cX3_machineTime 15 = .ok (.getfield 10, 3) := by decide +kernel
theorem dX3_machineTime_18 : decode cX3_machineTime 18 = .ok (.invokevirtual 114, 3) := by decide +kernel
theorem dX3_machineTime_21 : decode cX3_machineTime 21 = .ok (.aload_n 0, 1) := by decide +kernel
theorem dX3_machineTime_22 : decode cX3_machineTime 22 = .ok (.getfield 29, 3) := by decide +kernel
theorem dX3_machineTime_25 : decode cX3_machineTime 25 = .ok (.getfield 150, 3) := by decide +kernel
theorem dX3_machineTime_28 : decode cX3_machineTime 28 = .ok (.iload_n 1, 1) := by decide +kernel
theorem dX3_machineTime_29 : decode cX3_machineTime 29 = .ok (.iaload, 1) := by decide +kernel
theorem dX3_machineTime_30 : decode cX3_machineTime 30 = .ok (.ireturn, 1) := by decide +kernel
theorem dX3_leastShift_0 : decode cX3_leastShift 0 = .ok (.aload_n 0, 1) := by decide +kernel
theorem dX3_leastShift_1 : decode cX3_leastShift 1 = .ok (.iload_n 1, 1) := by decide +kernel
theorem dX3_leastShift_2 : decode cX3_leastShift 2 = .ok (.invokevirtual 95, 3) := by decide +kernel
theorem dX3_leastShift_5 : decode cX3_leastShift 5 = .ok (.ifCond .ne 5, 3) := by decide +kernel
theorem dX3_leastShift_8 : decode cX3_leastShift 8 = .ok (.iconst (-1), 1) := by decide +kernel
theorem dX3_leastShift_9 : decode cX3_leastShift 9 = .ok (.ireturn, 1) := by decide +kernel
theorem dX3_leastShift_10 : decode cX3_leastShift 10 = .ok (.aload_n 0, 1) := by decide +kernel
theorem dX3_leastShift_11 : decode cX3_leastShift 11 = .ok (.getfield 16, 3) := by decide +kernel
theorem dX3_leastShift_14 : decode cX3_leastShift 14 = .ok (.aload_n 0, 1) := by decide +kernel
theorem dX3_leastShift_15 : decode cX3_leastShift 15 = .ok (.getfield 10, 3) := by decide +kernel
theorem dX3_leastShift_18 : decode cX3_leastShift 18 = .ok (.invokevirtual 153, 3) := by decide +kernel
theorem dX3_leastShift_21 : decode cX3_leastShift 21 = .ok (.sipush 180, 3) := by decide +kernel
theorem dX3_leastShift_24 : decode cX3_leastShift 24 = .ok (.sipush 1439, 3) := by decide +kernel
theorem dX3_leastShift_27 : decode cX3_leastShift 27 = .ok (.aload_n 0, 1) := by decide +kernel
theorem dX3_leastShift_28 : decode cX3_leastShift 28 = .ok (.getfield 10, 3) := by decide +kernel
theorem dX3_leastShift_31 : decode cX3_leastShift 31 = .ok (.getfield 101, 3) := by decide +kernel
theorem dX3_leastShift_34 : decode cX3_leastShift 34 = .ok (.iload_n 1, 1) := by decide +kernel
theorem dX3_leastShift_35 : decode cX3_leastShift 35 = .ok (.iaload, 1) := by decide +kernel
theorem dX3_leastShift_36 : decode cX3_leastShift 36 = .ok (.isub, 1) := by decide +kernel
theorem dX3_leastShift_37 : decode cX3_leastShift 37 = .ok (.invokestatic 156, 3) := by decide +kernel
theorem dX3_leastShift_40 : decode cX3_leastShift 40 = .ok (.istore_n 2, 1) := by decide +kernel
theorem dX3_leastShift_41 : decode cX3_leastShift 41 = .ok (.iconst 0, 1) := by decide +kernel
theorem dX3_leastShift_42 : decode cX3_leastShift 42 = .ok (.istore_n 3, 1) := by decide +kernel
theorem dX3_leastShift_43 : decode cX3_leastShift 43 = .ok (.iload_n 3, 1) := by decide +kernel
theorem dX3_leastShift_44 : decode cX3_leastShift 44 = .ok (.iload_n 2, 1) := by decide +kernel
theorem dX3_leastShift_45 : decode cX3_leastShift 45 = .ok (.if_icmp .gt 45, 3) := by decide +kernel
theorem dX3_leastShift_48 : decode cX3_leastShift 48 = .ok (.aload_n 0, 1) := by decide +kernel
theorem dX3_leastShift_49 : decode cX3_leastShift 49 = .ok (.getfield 16, 3) := by decide +kernel
theorem dX3_leastShift_52 : decode cX3_leastShift 52 = .ok (.getfield 101, 3) := by decide +kernel
theorem dX3_leastShift_55 : decode cX3_leastShift 55 = .ok (.iload_n 1, 1) := by decide +kernel
theorem dX3_leastShift_56 : decode cX3_leastShift 56 = .ok (.aload_n 0, 1) := by decide +kernel
theorem dX3_leastShift_57 : decode cX3_leastShift 57 = .ok (.getfield 10, 3) := by decide +kernel
theorem dX3_leastShift_60 : decode cX3_leastShift 60 = .ok (.getfield 101, 3) := by decide +kernel
theorem dX3_leastShift_63 : decode cX3_leastShift 63 = .ok (.iload_n 1, 1) := by decide +kernel
theorem dX3_leastShift_64 : decode cX3_leastShift 64 = .ok (.iaload, 1) := by decide +kernel
theorem dX3_leastShift_65 : decode cX3_leastShift 65 = .ok (.iload_n 3, 1) := by decide +kernel
theorem dX3_leastShift_66 : decode cX3_leastShift 66 = .ok (.iadd, 1) := by decide +kernel
theorem dX3_leastShift_67 : decode cX3_leastShift 67 = .ok (.iastore, 1) := by decide +kernel
theorem dX3_leastShift_68 : decode cX3_leastShift 68 = .ok (.aload_n 0, 1) := by decide +kernel
theorem dX3_leastShift_69 : decode cX3_leastShift 69 = .ok (.getfield 29, 3) := by decide +kernel
theorem dX3_leastShift_72 : decode cX3_leastShift 72 = .ok (.aload_n 0, 1) := by decide +kernel
theorem dX3_leastShift_73 : decode cX3_leastShift 73 = .ok (.getfield 16, 3) := by decide +kernel
theorem dX3_leastShift_76 : decode cX3_leastShift 76 = .ok (.invokevirtual 161, 3) := by decide +kernel
theorem dX3_leastShift_79 : decode cX3_leastShift 79 = .ok (.ifCond .eq 5, 3) := by decide +kernel
theorem dX3_leastShift_82 : decode cX3_leastShift 82 = .ok (.iload_n 3, 1) := by decide +kernel
theorem dX3_leastShift_83 : decode cX3_leastShift 83 = .ok (.ireturn, 1) := by decide +kernel
theorem dX3_leastShift_84 : decode cX3_leastShift 84 = .ok (.iinc 3 1, 3) := by decide +kernel
theorem dX3_leastShift_87 : decode cX3_leastShift 87 = .ok (.goto (-44), 3) := by decide +kernel
theorem dX3_leastShift_90 : decode cX3_leastShift 90 = .ok (.bipush (-4), 2) := by decide +kernel
theorem dX3_leastShift_92 : decode cX3_leastShift 92 = .ok (.ireturn, 1) := by decide +kernel
theorem dX3_removalGain_0 : decode cX3_removalGain 0 = .ok (.aload_n 0, 1) := by decide +kernel
theorem dX3_removalGain_1 : decode cX3_removalGain 1 = .ok (.iload_n 1, 1) := by decide +kernel
theorem dX3_removalGain_2 : decode cX3_removalGain 2 = .ok (.invokevirtual 95, 3) := by decide +kernel
theorem dX3_removalGain_5 : decode cX3_removalGain 5 = .ok (.ifCond .ne 6, 3) := by decide +kernel
theorem dX3_removalGain_8 : decode cX3_removalGain 8 = .ok (.ldc 165, 2) := by decide +kernel
theorem dX3_removalGain_10 : decode cX3_removalGain 10 = .ok (.ireturn, 1) := by decide +kernel
theorem dX3_removalGain_11 : decode cX3_removalGain 11 = .ok (.aload_n 0, 1) := by decide +kernel
theorem dX3_removalGain_12 : decode cX3_removalGain 12 = .ok (.getfield 16, 3) := by decide +kernel
theorem dX3_removalGain_15 : decode cX3_removalGain 15 = .ok (.aload_n 0, 1) := by decide +kernel
theorem dX3_removalGain_16 : decode cX3_removalGain 16 = .ok (.getfield 10, 3) := by decide +kernel
theorem dX3_removalGain_19 : decode cX3_removalGain 19 = .ok (.invokevirtual 153, 3) := by decide +kernel
theorem dX3_removalGain_22 : decode cX3_removalGain 22 = .ok (.aload_n 0, 1) := by decide +kernel
theorem dX3_removalGain_23 : decode cX3_removalGain 23 = .ok (.getfield 16, 3) := by decide +kernel
theorem dX3_removalGain_26 : decode cX3_removalGain 26 = .ok (.iload_n 1, 1) := by decide +kernel
theorem dX3_removalGain_27 : decode cX3_removalGain 27 = .ok (.invokevirtual 98, 3) := by decide +kernel
theorem dX3_removalGain_30 : decode cX3_removalGain 30 = .ok (.aload_n 0, 1) := by decide +kernel
theorem dX3_removalGain_31 : decode cX3_removalGain 31 = .ok (.getfield 29, 3) := by decide +kernel
theorem dX3_removalGain_34 : decode cX3_removalGain 34 = .ok (.aload_n 0, 1) := by decide +kernel
theorem dX3_removalGain_35 : decode cX3_removalGain 35 = .ok (.getfield 10, 3) := by decide +kernel
theorem dX3_removalGain_38 : decode cX3_removalGain 38 = .ok (.invokevirtual 140, 3) := by decide +kernel
theorem dX3_removalGain_41 : decode cX3_removalGain 41 = .ok (.aload_n 0, 1) := by decide +kernel
theorem dX3_removalGain_42 : decode cX3_removalGain 42 = .ok (.getfield 29, 3) := by decide +kernel
theorem dX3_removalGain_45 : decode cX3_removalGain 45 = .ok (.aload_n 0, 1) := by decide +kernel
theorem dX3_removalGain_46 : decode cX3_removalGain 46 = .ok (.getfield 16, 3) := by decide +kernel
theorem dX3_removalGain_49 : decode cX3_removalGain 49 = .ok (.invokevirtual 140, 3) := by decide +kernel
theorem dX3_removalGain_52 : decode cX3_removalGain 52 = .ok (.isub, 1) := by decide +kernel
theorem dX3_removalGain_53 : decode cX3_removalGain 53 = .ok (.ireturn, 1) := by decide +kernel
theorem dX3_bestHomes_0 : decode cX3_bestHomes 0 = .ok (.aload_n 0, 1) := by decide +kernel
theorem dX3_bestHomes_1 : decode cX3_bestHomes 1 = .ok (.getfield 16, 3) := by decide +kernel
theorem dX3_bestHomes_4 : decode cX3_bestHomes 4 = .ok (.aload_n 0, 1) := by decide +kernel
theorem dX3_bestHomes_5 : decode cX3_bestHomes 5 = .ok (.getfield 10, 3) := by decide +kernel
theorem dX3_bestHomes_8 : decode cX3_bestHomes 8 = .ok (.invokevirtual 153, 3) := by decide +kernel
theorem dX3_bestHomes_11 : decode cX3_bestHomes 11 = .ok (.aload_n 0, 1) := by decide +kernel
theorem dX3_bestHomes_12 : decode cX3_bestHomes 12 = .ok (.getfield 16, 3) := by decide +kernel
theorem dX3_bestHomes_15 : decode cX3_bestHomes 15 = .ok (.iconst 0, 1) := by decide +kernel
theorem dX3_bestHomes_16 : decode cX3_bestHomes 16 = .ok (.invokevirtual 166, 3) := by decide +kernel
theorem dX3_bestHomes_19 : decode cX3_bestHomes 19 = .ok (.iconst 0, 1) := by decide +kernel
theorem dX3_bestHomes_20 : decode cX3_bestHomes 20 = .ok (.istore_n 1, 1) := by decide +kernel
theorem dX3_bestHomes_21 : decode cX3_bestHomes 21 = .ok (.aload_n 0, 1) := by decide +kernel
theorem dX3_bestHomes_22 : decode cX3_bestHomes 22 = .ok (.getfield 29, 3) := by decide +kernel
theorem dX3_bestHomes_25 : decode cX3_bestHomes 25 = .ok (.aload_n 0, 1) := by decide +kernel
theorem dX3_bestHomes_26 : decode cX3_bestHomes 26 = .ok (.getfield 16, 3) := by decide +kernel
theorem dX3_bestHomes_29 : decode cX3_bestHomes 29 = .ok (.invokevirtual 140, 3) := by decide +kernel
theorem dX3_bestHomes_32 : decode cX3_bestHomes 32 = .ok (.istore_n 2, 1) := by decide +kernel
theorem dX3_bestHomes_33 : decode cX3_bestHomes 33 = .ok (.iconst 1, 1) := by decide +kernel
theorem dX3_bestHomes_34 : decode cX3_bestHomes 34 = .ok (.istore_n 3, 1) := by decide +kernel
theorem dX3_bestHomes_35 : decode cX3_bestHomes 35 = .ok (.iload_n 3, 1) := by decide +kernel
theorem dX3_bestHomes_36 : decode cX3_bestHomes 36 = .ok (.bipush 16, 2) := by decide +kernel
theorem dX3_bestHomes_38 : decode cX3_bestHomes 38 = .ok (.if_icmp .ge 41, 3) := by decide +kernel
theorem dX3_bestHomes_41 : decode cX3_bestHomes 41 = .ok (.aload_n 0, 1) := by decide +kernel
theorem dX3_bestHomes_42 : decode cX3_bestHomes 42 = .ok (.getfield 16, 3) := by decide +kernel
theorem dX3_bestHomes_45 : decode cX3_bestHomes 45 = .ok (.iload_n 3, 1) := by decide +kernel
theorem dX3_bestHomes_46 : decode cX3_bestHomes 46 = .ok (.invokevirtual 166, 3) := by decide +kernel
theorem dX3_bestHomes_49 : decode cX3_bestHomes 49 = .ok (.aload_n 0, 1) := by decide +kernel
theorem dX3_bestHomes_50 : decode cX3_bestHomes 50 = .ok (.getfield 29, 3) := by decide +kernel
theorem dX3_bestHomes_53 : decode cX3_bestHomes 53 = .ok (.aload_n 0, 1) := by decide +kernel
theorem dX3_bestHomes_54 : decode cX3_bestHomes 54 = .ok (.getfield 16, 3) := by decide +kernel
theorem dX3_bestHomes_57 : decode cX3_bestHomes 57 = .ok (.invokevirtual 140, 3) := by decide +kernel
theorem dX3_bestHomes_60 : decode cX3_bestHomes 60 = .ok (.istore 4, 2) := by decide +kernel
theorem dX3_bestHomes_62 : decode cX3_bestHomes 62 = .ok (.iload 4, 2) := by decide +kernel
theorem dX3_bestHomes_64 : decode cX3_bestHomes 64 = .ok (.iload_n 2, 1) := by decide +kernel
theorem dX3_bestHomes_65 : decode cX3_bestHomes 65 = .ok (.if_icmp .ge 8, 3) := by decide +kernel
theorem dX3_bestHomes_68 : decode cX3_bestHomes 68 = .ok (.iload_n 3, 1) := by decide +kernel
theorem dX3_bestHomes_69 : decode cX3_bestHomes 69 = .ok (.istore_n 1, 1) := by decide +kernel
theorem dX3_bestHomes_70 : decode cX3_bestHomes 70 = .ok (.iload 4, 2) := by decide +kernel
theorem dX3_bestHomes_72 : decode cX3_bestHomes 72 = .ok (.istore_n 2, 1) := by decide +kernel
theorem dX3_bestHomes_73 : decode cX3_bestHomes 73 = .ok (.iinc 3 1, 3) := by decide +kernel
theorem dX3_bestHomes_76 : decode cX3_bestHomes 76 = .ok (.goto (-41), 3) := by decide +kernel
theorem dX3_bestHomes_79 : decode cX3_bestHomes 79 = .ok (.iload_n 1, 1) := by decide +kernel
theorem dX3_bestHomes_80 : decode cX3_bestHomes 80 = .ok (.ireturn, 1) := by decide +kernel
theorem dX3_missingMachines_0 : decode cX3_missingMachines 0 = .ok (.iload_n 1, 1) := by decide +kernel
theorem dX3_missingMachines_1 : decode cX3_missingMachines 1 = .ok (.iconst 0, 1) := by decide +kernel
theorem dX3_missingMachines_2 : decode cX3_missingMachines 2 = .ok (.iconst 1, 1) := by decide +kernel
theorem dX3_missingMachines_3 : decode cX3_missingMachines 3 = .ok (.invokestatic 33, 3) := by decide +kernel
theorem dX3_missingMachines_6 : decode cX3_missingMachines 6 = .ok (.ifCond .ne 5, 3) := by decide +kernel
theorem dX3_missingMachines_9 : decode cX3_missingMachines 9 = .ok (.iconst (-1), 1) := by decide +kernel
theorem dX3_missingMachines_10 : decode cX3_missingMachines 10 = .ok (.ireturn, 1) := by decide +kernel
theorem dX3_missingMachines_11 : decode cX3_missingMachines 11 = .ok (.aload_n 0, 1) := by decide +kernel
theorem dX3_missingMachines_12 : decode cX3_missingMachines 12 = .ok (.getfield 16, 3) := by decide +kernel
theorem dX3_missingMachines_15 : decode cX3_missingMachines 15 = .ok (.aload_n 0, 1) := by decide +kernel
theorem dX3_missingMachines_16 : decode cX3_missingMachines 16 = .ok (.getfield 10, 3) := by decide +kernel
theorem dX3_missingMachines_19 : decode cX3_missingMachines 19 = .ok (.invokevirtual 153, 3) := by decide +kernel
theorem dX3_missingMachines_22 : decode cX3_missingMachines 22 = .ok (.aload_n 0, 1) := by decide +kernel
theorem dX3_missingMachines_23 : decode cX3_missingMachines 23 = .ok (.getfield 29, 3) := by decide +kernel
theorem dX3_missingMachines_26 : decode cX3_missingMachines 26 = .ok (.aload_n 0, 1) := by decide +kernel
theorem dX3_missingMachines_27 : decode cX3_missingMachines 27 = .ok (.getfield 16, 3) := by decide +kernel
theorem dX3_missingMachines_30 : decode cX3_missingMachines 30 = .ok (.invokevirtual 161, 3) := by decide +kernel
theorem dX3_missingMachines_33 : decode cX3_missingMachines 33 = .ok (.ifCond .eq 5, 3) := by decide +kernel
theorem dX3_missingMachines_36 : decode cX3_missingMachines 36 = .ok (.iconst 0, 1) := by decide +kernel
theorem dX3_missingMachines_37 : decode cX3_missingMachines 37 = .ok (.ireturn, 1) := by decide +kernel
theorem dX3_missingMachines_38 : decode cX3_missingMachines 38 = .ok (.iconst 5, 1) := by decide +kernel
theorem dX3_missingMachines_39 : decode cX3_missingMachines 39 = .ok (.aload_n 0, 1) := by decide +kernel
theorem dX3_missingMachines_40 : decode cX3_missingMachines 40 = .ok (.getfield 10, 3) := by decide +kernel
theorem dX3_missingMachines_43 : decode cX3_missingMachines 43 = .ok (.getfield 60, 3) := by decide +kernel
theorem dX3_missingMachines_46 : decode cX3_missingMachines 46 = .ok (.isub, 1) := by decide +kernel
theorem dX3_missingMachines_47 : decode cX3_missingMachines 47 = .ok (.istore_n 2, 1) := by decide +kernel
theorem dX3_missingMachines_48 : decode cX3_missingMachines 48 = .ok (.iconst 1, 1) := by decide +kernel
theorem dX3_missingMachines_49 : decode cX3_missingMachines 49 = .ok (.istore_n 3, 1) := by decide +kernel
theorem dX3_missingMachines_50 : decode cX3_missingMachines 50 = .ok (.iload_n 3, 1) := by decide +kernel
theorem dX3_missingMachines_51 : decode cX3_missingMachines 51 = .ok (.iload_n 2, 1) := by decide +kernel
theorem dX3_missingMachines_52 : decode cX3_missingMachines 52 = .ok (.if_icmp .gt 33, 3) := by decide +kernel
theorem dX3_missingMachines_55 : decode cX3_missingMachines 55 = .ok (.aload_n 0, 1) := by decide +kernel
theorem dX3_missingMachines_56 : decode cX3_missingMachines 56 = .ok (.getfield 16, 3) := by decide +kernel
theorem dX3_missingMachines_59 : decode cX3_missingMachines 59 = .ok (.iload_n 1, 1) := by decide +kernel
theorem dX3_missingMachines_60 : decode cX3_missingMachines 60 = .ok (.invokevirtual 64, 3) := by decide +kernel
theorem dX3_missingMachines_63 : decode cX3_missingMachines 63 = .ok (.aload_n 0, 1) := by decide +kernel
theorem dX3_missingMachines_64 : decode cX3_missingMachines 64 = .ok (.getfield 29, 3) := by decide +kernel
theorem dX3_missingMachines_67 : decode cX3_missingMachines 67 = .ok (.aload_n 0, 1) := by decide +kernel
theorem dX3_missingMachines_68 : decode cX3_missingMachines 68 = .ok (.getfield 16, 3) := by decide +kernel
theorem dX3_missingMachines_71 : decode cX3_missingMachines 71 = .ok (.invokevirtual 161, 3) := by decide +kernel
theorem dX3_missingMachines_74 : decode cX3_missingMachines 74 = .ok (.ifCond .eq 5, 3) := by decide +kernel
theorem dX3_missingMachines_77 : decode cX3_missingMachines 77 = .ok (.iload_n 3, 1) := by decide +kernel
theorem dX3_missingMachines_78 : decode cX3_missingMachines 78 = .ok (.ireturn, 1) := by decide +kernel
theorem dX3_missingMachines_79 : decode cX3_missingMachines 79 = .ok (.iinc 3 1, 3) := by decide +kernel
theorem dX3_missingMachines_82 : decode cX3_missingMachines 82 = .ok (.goto (-32), 3) := by decide +kernel
theorem dX3_missingMachines_85 : decode cX3_missingMachines 85 = .ok (.bipush (-4), 2) := by decide +kernel
theorem dX3_missingMachines_87 : decode cX3_missingMachines 87 = .ok (.ireturn, 1) := by decide +kernel
theorem dX3_undo_0 : decode cX3_undo 0 = .ok (.aload_n 0, 1) := by decide +kernel
theorem dX3_undo_1 : decode cX3_undo 1 = .ok (.getfield 22, 3) := by decide +kernel
theorem dX3_undo_4 : decode cX3_undo 4 = .ok (.getfield 169, 3) := by decide +kernel
theorem dX3_undo_7 : decode cX3_undo 7 = .ok (.ifCond .ne 6, 3) := by decide +kernel
theorem dX3_undo_10 : decode cX3_undo 10 = .ok (.bipush (-2), 2) := by decide +kernel
theorem dX3_undo_12 : decode cX3_undo 12 = .ok (.ireturn, 1) := by decide +kernel
theorem dX3_undo_13 : decode cX3_undo 13 = .ok (.aload_n 0, 1) := by decide +kernel
theorem dX3_undo_14 : decode cX3_undo 14 = .ok (.getfield 22, 3) := by decide +kernel
theorem dX3_undo_17 : decode cX3_undo 17 = .ok (.aload_n 0, 1) := by decide +kernel
theorem dX3_undo_18 : decode cX3_undo 18 = .ok (.getfield 10, 3) := by decide +kernel
theorem dX3_undo_21 : decode cX3_undo 21 = .ok (.invokevirtual 172, 3) := by decide +kernel
theorem dX3_undo_24 : decode cX3_undo 24 = .ok (.aload_n 0, 1) := by decide +kernel
theorem dX3_undo_25 : decode cX3_undo 25 = .ok (.getfield 22, 3) := by decide +kernel
theorem dX3_undo_28 : decode cX3_undo 28 = .ok (.getfield 169, 3) := by decide +kernel
theorem dX3_undo_31 : decode cX3_undo 31 = .ok (.ireturn, 1) := by decide +kernel
theorem dX3_isIn_0 : decode cX3_isIn 0 = .ok (.iload_n 1, 1) := by decide +kernel
theorem dX3_isIn_1 : decode cX3_isIn 1 = .ok (.iload_n 0, 1) := by decide +kernel
theorem dX3_isIn_2 : decode cX3_isIn 2 = .ok (.if_icmp .gt 12, 3) := by decide +kernel
theorem dX3_isIn_5 : decode cX3_isIn 5 = .ok (.iload_n 0, 1) := by decide +kernel
theorem dX3_isIn_6 : decode cX3_isIn 6 = .ok (.iload_n 2, 1) := by decide +kernel
theorem dX3_isIn_7 : decode cX3_isIn 7 = .ok (.if_icmp .gt 7, 3) := by decide +kernel
theorem dX3_isIn_10 : decode cX3_isIn 10 = .ok (.iconst 1, 1) := by decide +kernel
theorem dX3_isIn_11 : decode cX3_isIn 11 = .ok (.goto 4, 3) := by decide +kernel
theorem dX3_isIn_14 : decode cX3_isIn 14 = .ok (.iconst 0, 1) := by decide +kernel
theorem dX3_isIn_15 : decode cX3_isIn 15 = .ok (.ireturn, 1) := by decide +kernel
theorem dX3_isMachine_0 : decode cX3_isMachine 0 = .ok (.iload_n 1, 1) := by decide +kernel
theorem dX3_isMachine_1 : decode cX3_isMachine 1 = .ok (.iconst 0, 1) := by decide +kernel
theorem dX3_isMachine_2 : decode cX3_isMachine 2 = .ok (.aload_n 0, 1) := by decide +kernel
theorem dX3_isMachine_3 : decode cX3_isMachine 3 = .ok (.getfield 10, 3) := by decide +kernel
theorem dX3_isMachine_6 : decode cX3_isMachine 6 = .ok (.getfield 60, 3) := by decide +kernel
theorem dX3_isMachine_9 : decode cX3_isMachine 9 = .ok (.iconst 1, 1) := by decide +kernel
theorem dX3_isMachine_10 : decode cX3_isMachine 10 = .ok (.isub, 1) := by decide +kernel
theorem dX3_isMachine_11 : decode cX3_isMachine 11 = .ok (.invokestatic 33, 3) := by decide +kernel
theorem dX3_isMachine_14 : decode cX3_isMachine 14 = .ok (.ireturn, 1) := by decide +kernel
theorem dX3_isShow_0 : decode cX3_isShow 0 = .ok (.iload_n 1, 1) := by decide +kernel
theorem dX3_isShow_1 : decode cX3_isShow 1 = .ok (.iconst 0, 1) := by decide +kernel
theorem dX3_isShow_2 : decode cX3_isShow 2 = .ok (.aload_n 0, 1) := by decide +kernel
theorem dX3_isShow_3 : decode cX3_isShow 3 = .ok (.getfield 10, 3) := by decide +kernel
theorem dX3_isShow_6 : decode cX3_isShow 6 = .ok (.getfield 89, 3) := by decide +kernel
theorem dX3_isShow_9 : decode cX3_isShow 9 = .ok (.iconst 1, 1) := by decide +kernel
theorem dX3_isShow_10 : decode cX3_isShow 10 = .ok (.isub, 1) := by decide +kernel
theorem dX3_isShow_11 : decode cX3_isShow 11 = .ok (.invokestatic 33, 3) := by decide +kernel
theorem dX3_isShow_14 : decode cX3_isShow 14 = .ok (.ireturn, 1) := by decide +kernel
theorem dX3_isReelOfShow_0 : decode cX3_isReelOfShow 0 = .ok (.aload_n 0, 1) := by decide +kernel
theorem dX3_isReelOfShow_1 : decode cX3_isReelOfShow 1 = .ok (.iload_n 1, 1) := by decide +kernel
theorem dX3_isReelOfShow_2 : decode cX3_isReelOfShow 2 = .ok (.invokevirtual 95, 3) := by decide +kernel
theorem dX3_isReelOfShow_5 : decode cX3_isReelOfShow 5 = .ok (.ifCond .eq 34, 3) := by decide +kernel
theorem dX3_isReelOfShow_8 : decode cX3_isReelOfShow 8 = .ok (.iload_n 2, 1) := by decide +kernel
theorem dX3_isReelOfShow_9 : decode cX3_isReelOfShow 9 = .ok (.iconst 0, 1) := by decide +kernel
theorem dX3_isReelOfShow_10 : decode cX3_isReelOfShow 10 = .ok (.aload_n 0, 1) := by decide +kernel
theorem dX3_isReelOfShow_11 : decode cX3_isReelOfShow 11 = .ok (.getfield 10, 3) := by decide +kernel
theorem dX3_isReelOfShow_14 : decode cX3_isReelOfShow 14 = .ok (.getfield 37, 3) := by decide +kernel
theorem dX3_isReelOfShow_17 : decode cX3_isReelOfShow 17 = .ok (.aload_n 0, 1) := by decide +kernel
theorem dX3_isReelOfShow_18 : decode cX3_isReelOfShow 18 = .ok (.getfield 10, 3) := by decide +kernel
theorem dX3_isReelOfShow_21 : decode cX3_isReelOfShow 21 = .ok (.getfield 175, 3) := by decide +kernel
theorem dX3_isReelOfShow_24 : decode cX3_isReelOfShow 24 = .ok (.iload_n 1, 1) := by decide +kernel
theorem dX3_isReelOfShow_25 : decode cX3_isReelOfShow 25 = .ok (.iaload, 1) := by decide +kernel
theorem dX3_isReelOfShow_26 : decode cX3_isReelOfShow 26 = .ok (.iaload, 1) := by decide +kernel
theorem dX3_isReelOfShow_27 : decode cX3_isReelOfShow 27 = .ok (.iconst 1, 1) := by decide +kernel
theorem dX3_isReelOfShow_28 : decode cX3_isReelOfShow 28 = .ok (.isub, 1) := by decide +kernel
theorem dX3_isReelOfShow_29 : decode cX3_isReelOfShow 29 = .ok (.invokestatic 33, 3) := by decide +kernel
theorem dX3_isReelOfShow_32 : decode cX3_isReelOfShow 32 = .ok (.ifCond .eq 7, 3) := by decide +kernel
theorem dX3_isReelOfShow_35 : decode cX3_isReelOfShow 35 = .ok (.iconst 1, 1) := by decide +kernel
theorem dX3_isReelOfShow_36 : decode cX3_isReelOfShow 36 = .ok (.goto 4, 3) := by decide +kernel
theorem dX3_isReelOfShow_39 : decode cX3_isReelOfShow 39 = .ok (.iconst 0, 1) := by decide +kernel
theorem dX3_isReelOfShow_40 : decode cX3_isReelOfShow 40 = .ok (.ireturn, 1) := by decide +kernel
theorem dX3_reelPlace_0 : decode cX3_reelPlace 0 = .ok (.iload_n 0, 1) := by decide +kernel
theorem dX3_reelPlace_1 : decode cX3_reelPlace 1 = .ok (.bipush 6, 2) := by decide +kernel
theorem dX3_reelPlace_3 : decode cX3_reelPlace 3 = .ok (.imul, 1) := by decide +kernel
theorem dX3_reelPlace_4 : decode cX3_reelPlace 4 = .ok (.iload_n 1, 1) := by decide +kernel
theorem dX3_reelPlace_5 : decode cX3_reelPlace 5 = .ok (.iadd, 1) := by decide +kernel
theorem dX3_reelPlace_6 : decode cX3_reelPlace 6 = .ok (.ireturn, 1) := by decide +kernel
theorem dX4_init_0 : decode cX4_init 0 = .ok (.aload_n 0, 1) := by decide +kernel
theorem dX4_init_1 : decode cX4_init 1 = .ok (.invokespecial 1, 3) := by decide +kernel
theorem dX4_init_4 : decode cX4_init 4 = .ok (.aload_n 0, 1) := by decide +kernel
theorem dX4_init_5 : decode cX4_init 5 = .ok (.bipush 111, 2) := by decide +kernel
theorem dX4_init_7 : decode cX4_init 7 = .ok (.newarray .int, 2) := by decide +kernel
theorem dX4_init_9 : decode cX4_init 9 = .ok (.putfield 7, 3) := by decide +kernel
theorem dX4_init_12 : decode cX4_init 12 = .ok (.aload_n 0, 1) := by decide +kernel
theorem dX4_init_13 : decode cX4_init 13 = .ok (.sipush 555, 3) := by decide +kernel
theorem dX4_init_16 : decode cX4_init 16 = .ok (.newarray .int, 2) := by decide +kernel
theorem dX4_init_18 : decode cX4_init 18 = .ok (.putfield 13, 3) := by decide +kernel
theorem dX4_init_21 : decode cX4_init 21 = .ok (.aload_n 0, 1) := by decide +kernel
theorem dX4_init_22 : decode cX4_init 22 = .ok (.bipush 24, 2) := by decide +kernel
theorem dX4_init_24 : decode cX4_init 24 = .ok (.newarray .int, 2) := by decide +kernel
theorem dX4_init_26 : decode cX4_init 26 = .ok (.putfield 16, 3) := by decide +kernel
theorem dX4_init_29 : decode cX4_init 29 = .ok (.aload_n 0, 1) := by decide +kernel
theorem dX4_init_30 : decode cX4_init 30 = .ok (.bipush 24, 2) := by decide +kernel
theorem dX4_init_32 : decode cX4_init 32 = .ok (.newarray .int, 2) := by decide +kernel
theorem dX4_init_34 : decode cX4_init 34 = .ok (.putfield 19, 3) := by decide +kernel
theorem dX4_init_37 : decode cX4_init 37 = .ok (.aload_n 0, 1) := by decide +kernel
theorem dX4_init_38 : decode cX4_init 38 = .ok (.iconst 3, 1) := by decide +kernel
theorem dX4_init_39 : decode cX4_init 39 = .ok (.newarray .int, 2) := by decide +kernel
theorem dX4_init_41 : decode cX4_init 41 = .ok (.putfield 22, 3) := by decide +kernel
theorem dX4_init_44 : decode cX4_init 44 = .ok (.aload_n 0, 1) := by decide +kernel
theorem dX4_init_45 : decode cX4_init 45 = .ok (.iconst 5, 1) := by decide +kernel
theorem dX4_init_46 : decode cX4_init 46 = .ok (.newarray .int, 2) := by decide +kernel
theorem dX4_init_48 : decode cX4_init 48 = .ok (.putfield 25, 3) := by decide +kernel
theorem dX4_init_51 : decode cX4_init 51 = .ok (.aload_n 0, 1) := by decide +kernel
theorem dX4_init_52 : decode cX4_init 52 = .ok (.iconst 5, 1) := by decide +kernel
theorem dX4_init_53 : decode cX4_init 53 = .ok (.newarray .int, 2) := by decide +kernel
theorem dX4_init_55 : decode cX4_init 55 = .ok (.putfield 28, 3) := by decide +kernel
theorem dX4_init_58 : decode cX4_init 58 = .ok (.aload_n 0, 1) := by decide +kernel
theorem dX4_init_59 : decode cX4_init 59 = .ok (.iconst 5, 1) := by decide +kernel
theorem dX4_init_60 : decode cX4_init 60 = .ok (.newarray .int, 2) := by decide +kernel
theorem dX4_init_62 : decode cX4_init 62 = .ok (.putfield 31, 3) := by decide +kernel
theorem dX4_init_65 : decode cX4_init 65 = .ok (.aload_n 0, 1) := by decide +kernel
theorem dX4_init_66 : decode cX4_init 66 = .ok (.bipush 36, 2) := by decide +kernel
theorem dX4_init_68 : decode cX4_init 68 = .ok (.newarray .int, 2) := by decide +kernel
theorem dX4_init_70 : decode cX4_init 70 = .ok (.putfield 34, 3) := by decide +kernel
theorem dX4_init_73 : decode cX4_init 73 = .ok (.aload_n 0, 1) := by decide +kernel
theorem dX4_init_74 : decode cX4_init 74 = .ok (.bipush 36, 2) := by decide +kernel
theorem dX4_init_76 : decode cX4_init 76 = .ok (.newarray .int, 2) := by decide +kernel
theorem dX4_init_78 : decode cX4_init 78 = .ok (.putfield 37, 3) := by decide +kernel
theorem dX4_init_81 : decode cX4_init 81 = .ok (.aload_n 0, 1) := by decide +kernel
theorem dX4_init_82 : decode cX4_init 82 = .ok (.bipush 6, 2) := by decide +kernel
theorem dX4_init_84 : decode cX4_init 84 = .ok (.newarray .boolean, 2) := by decide +kernel
theorem dX4_init_86 : decode cX4_init 86 = .ok (.putfield 40, 3) := by decide +kernel
theorem dX4_init_89 : decode cX4_init 89 = .ok (.aload_n 0, 1) := by decide +kernel
theorem dX4_init_90 : decode cX4_init 90 = .ok (.bipush 6, 2) := by decide +kernel
theorem dX4_init_92 : decode cX4_init 92 = .ok (.newarray .int, 2) := by decide +kernel
theorem dX4_init_94 : decode cX4_init 94 = .ok (.putfield 44, 3) := by decide +kernel
theorem dX4_init_97 : decode cX4_init 97 = .ok (.aload_n 0, 1) := by decide +kernel
theorem dX4_init_98 : decode cX4_init 98 = .ok (.bipush 6, 2) := by decide +kernel
theorem dX4_init_100 : decode cX4_init 100 = .ok (.newarray .int, 2) := by decide +kernel
theorem dX4_init_102 : decode cX4_init 102 = .ok (.putfield 47, 3) := by decide +kernel
theorem dX4_init_105 : decode cX4_init 105 = .ok (.aload_n 0, 1) := by decide +kernel
theorem dX4_init_106 : decode cX4_init 106 = .ok (.bipush 6, 2) := by decide +kernel
theorem dX4_init_108 : decode cX4_init 108 = .ok (.newarray .int, 2) := by decide +kernel
theorem dX4_init_110 : decode cX4_init 110 = .ok (.putfield 50, 3) := by decide +kernel
theorem dX4_init_113 : decode cX4_init 113 = .ok (.aload_n 0, 1) := by decide +kernel
theorem dX4_init_114 : decode cX4_init 114 = .ok (.bipush 111, 2) := by decide +kernel
theorem dX4_init_116 : decode cX4_init 116 = .ok (.newarray .int, 2) := by decide +kernel
theorem dX4_init_118 : decode cX4_init 118 = .ok (.putfield 53, 3) := by decide +kernel
theorem dX4_init_121 : decode cX4_init 121 = .ok (.aload_n 0, 1) := by decide +kernel
theorem dX4_init_122 : decode cX4_init 122 = .ok (.getfield 7, 3) := by decide +kernel
theorem dX4_init_125 : decode cX4_init 125 = .ok (.bipush 56, 2) := by decide +kernel
theorem dX4_init_127 : decode cX4_init 127 = .ok (.iconst 3, 1) := by decide +kernel
theorem dX4_init_128 : decode cX4_init 128 = .ok (.iastore, 1) := by decide +kernel
theorem dX4_init_129 : decode cX4_init 129 = .ok (.aload_n 0, 1) := by decide +kernel
theorem dX4_init_130 : decode cX4_init 130 = .ok (.getfield 7, 3) := by decide +kernel
theorem dX4_init_133 : decode cX4_init 133 = .ok (.bipush 59, 2) := by decide +kernel
theorem dX4_init_135 : decode cX4_init 135 = .ok (.iconst 1, 1) := by decide +kernel
theorem dX4_init_136 : decode cX4_init 136 = .ok (.iastore, 1) := by decide +kernel
theorem dX4_init_137 : decode cX4_init 137 = .ok (.aload_n 0, 1) := by decide +kernel
theorem dX4_init_138 : decode cX4_init 138 = .ok (.getfield 7, 3) := by decide +kernel
theorem dX4_init_141 : decode cX4_init 141 = .ok (.bipush 62, 2) := by decide +kernel
theorem dX4_init_143 : decode cX4_init 143 = .ok (.iconst 1, 1) := by decide +kernel
theorem dX4_init_144 : decode cX4_init 144 = .ok (.iastore, 1) := by decide +kernel
theorem dX4_init_145 : decode cX4_init 145 = .ok (.aload_n 0, 1) := by decide +kernel
theorem dX4_init_146 : decode cX4_init 146 = .ok (.getfield 7, 3) := by decide +kernel
theorem dX4_init_149 : decode cX4_init 149 = .ok (.bipush 63, 2) := by decide +kernel
theorem dX4_init_151 : decode cX4_init 151 = .ok (.iconst 3, 1) := by decide +kernel
theorem dX4_init_152 : decode cX4_init 152 = .ok (.iastore, 1) := by decide +kernel
theorem dX4_init_153 : decode cX4_init 153 = .ok (.aload_n 0, 1) := by decide +kernel
theorem dX4_init_154 : decode cX4_init 154 = .ok (.getfield 7, 3) := by decide +kernel
theorem dX4_init_157 : decode cX4_init 157 = .ok (.bipush 64, 2) := by decide +kernel
theorem dX4_init_159 : decode cX4_init 159 = .ok (.iconst 2, 1) := by decide +kernel
theorem dX4_init_160 : decode cX4_init 160 = .ok (.iastore, 1) := by decide +kernel
theorem dX4_init_161 : decode cX4_init 161 = .ok (.aload_n 0, 1) := by decide +kernel
theorem dX4_init_162 : decode cX4_init 162 = .ok (.getfield 7, 3) := by decide +kernel
theorem dX4_init_165 : decode cX4_init 165 = .ok (.bipush 65, 2) := by decide +kernel
theorem dX4_init_167 : decode cX4_init 167 = .ok (.iconst 4, 1) := by decide +kernel
theorem dX4_init_168 : decode cX4_init 168 = .ok (.iastore, 1) := by decide +kernel
theorem dX4_init_169 : decode cX4_init 169 = .ok (.aload_n 0, 1) := by decide +kernel
theorem dX4_init_170 : decode cX4_init 170 = .ok (.getfield 7, 3) := by decide +kernel
theorem dX4_init_173 : decode cX4_init 173 = .ok (.bipush 66, 2) := by decide +kernel
theorem dX4_init_175 : decode cX4_init 175 = .ok (.bipush 10, 2) := by decide +kernel
theorem dX4_init_177 : decode cX4_init 177 = .ok (.iastore, 1) := by decide +kernel
theorem dX4_init_178 : decode cX4_init 178 = .ok (.return_, 1) := by decide +kernel
theorem dX4_in_0 : decode cX4_in 0 = .ok (.lload_n 0, 1) := by decide +kernel
theorem dX4_in_1 : decode cX4_in 1 = .ok (.lload_n 2, 1) := by decide +kernel
theorem dX4_in_2 : decode cX4_in 2 = .ok (.lcmp, 1) := by decide +kernel
theorem dX4_in_3 : decode cX4_in 3 = .ok (.ifCond .lt 14, 3) := by decide +kernel
theorem dX4_in_6 : decode cX4_in 6 = .ok (.lload_n 0, 1) := by decide +kernel
theorem dX4_in_7 : decode cX4_in 7 = .ok (.lload 4, 2) := by decide +kernel
theorem dX4_in_9 : decode cX4_in 9 = .ok (.lcmp, 1) := by decide +kernel
theorem dX4_in_10 : decode cX4_in 10 = .ok (.ifCond .gt 7, 3) := by decide +kernel
theorem dX4_in_13 : decode cX4_in 13 = .ok (.iconst 1, 1) := by decide +kernel
theorem dX4_in_14 : decode cX4_in 14 = .ok (.goto 4, 3) := by decide +kernel
theorem dX4_in_17 : decode cX4_in 17 = .ok (.iconst 0, 1) := by decide +kernel
theorem dX4_in_18 : decode cX4_in 18 = .ok (.ireturn, 1) := by decide +kernel
theorem dX4_keeps_0 : decode cX4_keeps 0 = .ok (.aload_n 0, 1) := by decide +kernel
theorem dX4_keeps_1 : decode cX4_keeps 1 = .ok (.getfield 56, 3) := by decide +kernel
theorem dX4_keeps_4 : decode cX4_keeps 4 = .ok (.iconst 5, 1) := by decide +kernel
theorem dX4_keeps_5 : decode cX4_keeps 5 = .ok (.if_icmp .ne 43, 3) := by decide +kernel
theorem dX4_keeps_8 : decode cX4_keeps 8 = .ok (.iconst 0, 1) := by decide +kernel
theorem dX4_keeps_9 : decode cX4_keeps 9 = .ok (.istore_n 1, 1) := by decide +kernel
theorem dX4_keeps_10 : decode cX4_keeps 10 = .ok (.iload_n 1, 1) := by decide +kernel
theorem dX4_keeps_11 : decode cX4_keeps 11 = .ok (.sipush 444, 3) := by decide +kernel
theorem dX4_keeps_14 : decode cX4_keeps 14 = .ok (.if_icmp .ge 24, 3) := by decide +kernel
theorem dX4_keeps_17 : decode cX4_keeps 17 = .ok (.aload_n 0, 1) := by decide +kernel
theorem dX4_keeps_18 : decode cX4_keeps 18 = .ok (.getfield 13, 3) := by decide +kernel
theorem dX4_keeps_21 : decode cX4_keeps 21 = .ok (.iload_n 1, 1) := by decide +kernel
theorem dX4_keeps_22 : decode cX4_keeps 22 = .ok (.aload_n 0, 1) := by decide +kernel
theorem dX4_keeps_23 : decode cX4_keeps 23 = .ok (.getfield 13, 3) := by decide +kernel
theorem dX4_keeps_26 : decode cX4_keeps 26 = .ok (.bipush 111, 2) := by decide +kernel
theorem dX4_keeps_28 : decode cX4_keeps 28 = .ok (.iload_n 1, 1) := by decide +kernel
theorem dX4_keeps_29 : decode cX4_keeps 29 = .ok (.iadd, 1) := by decide +kernel
theorem dX4_keeps_30 : decode cX4_keeps 30 = .ok (.iaload, 1) := by decide +kernel
theorem dX4_keeps_31 : decode cX4_keeps 31 = .ok (.iastore, 1) := by decide +kernel
theorem dX4_keeps_32 : decode cX4_keeps 32 = .ok (.iinc 1 1, 3) := by decide +kernel
theorem dX4_keeps_35 : decode cX4_keeps 35 = .ok (.goto (-25), 3) := by decide +kernel
theorem dX4_keeps_38 : decode cX4_keeps 38 = .ok (.aload_n 0, 1) := by decide +kernel
theorem dX4_keeps_39 : decode cX4_keeps 39 = .ok (.dup, 1) := by decide +kernel
theorem dX4_keeps_40 : decode cX4_keeps 40 = .ok (.getfield 56, 3) := by decide +kernel
theorem dX4_keeps_43 : decode cX4_keeps 43 = .ok (.iconst 1, 1) := by decide +kernel
theorem dX4_keeps_44 : decode cX4_keeps 44 = .ok (.isub, 1) := by decide +kernel
theorem dX4_keeps_45 : decode cX4_keeps 45 = .ok (.putfield 56, 3) := by decide +kernel
theorem dX4_keeps_48 : decode cX4_keeps 48 = .ok (.iconst 0, 1) := by decide +kernel
theorem dX4_keeps_49 : decode cX4_keeps 49 = .ok (.istore_n 1, 1) := by decide +kernel
theorem dX4_keeps_50 : decode cX4_keeps 50 = .ok (.iload_n 1, 1) := by decide +kernel
theorem dX4_keeps_51 : decode cX4_keeps 51 = .ok (.bipush 111, 2) := by decide +kernel
theorem dX4_keeps_53 : decode cX4_keeps 53 = .ok (.if_icmp .ge 29, 3) := by decide +kernel
theorem dX4_keeps_56 : decode cX4_keeps 56 = .ok (.aload_n 0, 1) := by decide +kernel
theorem dX4_keeps_57 : decode cX4_keeps 57 = .ok (.getfield 13, 3) := by decide +kernel
theorem dX4_keeps_60 : decode cX4_keeps 60 = .ok (.bipush 111, 2) := by decide +kernel
theorem dX4_keeps_62 : decode cX4_keeps 62 = .ok (.aload_n 0, 1) := by decide +kernel
theorem dX4_keeps_63 : decode cX4_keeps 63 = .ok (.getfield 56, 3) := by decide +kernel
theorem dX4_keeps_66 : decode cX4_keeps 66 = .ok (.imul, 1) := by decide +kernel
theorem dX4_keeps_67 : decode cX4_keeps 67 = .ok (.iload_n 1, 1) := by decide +kernel
theorem dX4_keeps_68 : decode cX4_keeps 68 = .ok (.iadd, 1) := by decide +kernel
theorem dX4_keeps_69 : decode cX4_keeps 69 = .ok (.aload_n 0, 1) := by decide +kernel
theorem dX4_keeps_70 : decode cX4_keeps 70 = .ok (.getfield 7, 3) := by decide +kernel
theorem dX4_keeps_73 : decode cX4_keeps 73 = .ok (.iload_n 1, 1) := by decide +kernel
theorem dX4_keeps_74 : decode cX4_keeps 74 = .ok (.iaload, 1) := by decide +kernel
theorem dX4_keeps_75 : decode cX4_keeps 75 = .ok (.iastore, 1) := by decide +kernel
theorem dX4_keeps_76 : decode cX4_keeps 76 = .ok (.iinc 1 1, 3) := by decide +kernel
theorem dX4_keeps_79 : decode cX4_keeps 79 = .ok (.goto (-29), 3) := by decide +kernel
theorem dX4_keeps_82 : decode cX4_keeps 82 = .ok (.aload_n 0, 1) := by decide +kernel
theorem dX4_keeps_83 : decode cX4_keeps 83 = .ok (.dup, 1) := by decide +kernel
theorem dX4_keeps_84 : decode cX4_keeps 84 = .ok (.getfield 56, 3) := by decide +kernel
theorem dX4_keeps_87 : decode cX4_keeps 87 = .ok (.iconst 1, 1) := by decide +kernel
theorem dX4_keeps_88 : decode cX4_keeps 88 = .ok (.iadd, 1) := by decide +kernel
theorem dX4_keeps_89 : decode cX4_keeps 89 = .ok (.putfield 56, 3) := by decide +kernel
theorem dX4_keeps_92 : decode cX4_keeps 92 = .ok (.return_, 1) := by decide +kernel
theorem dX4_undo_0 : decode cX4_undo 0 = .ok (.aload_n 0, 1) := by decide +kernel
theorem dX4_undo_1 : decode cX4_undo 1 = .ok (.getfield 56, 3) := by decide +kernel
theorem dX4_undo_4 : decode cX4_undo 4 = .ok (.ifCond .ne 6, 3) := by decide +kernel
theorem dX4_undo_7 : decode cX4_undo 7 = .ok (.bipush (-2), 2) := by decide +kernel
theorem dX4_undo_9 : decode cX4_undo 9 = .ok (.ireturn, 1) := by decide +kernel
theorem dX4_undo_10 : decode cX4_undo 10 = .ok (.aload_n 0, 1) := by decide +kernel
theorem dX4_undo_11 : decode cX4_undo 11 = .ok (.dup, 1) := by decide +kernel
theorem dX4_undo_12 : decode cX4_undo 12 = .ok (.getfield 56, 3) := by decide +kernel
theorem dX4_undo_15 : decode cX4_undo 15 = .ok (.iconst 1, 1) := by decide +kernel
theorem dX4_undo_16 : decode cX4_undo 16 = .ok (.isub, 1) := by decide +kernel
theorem dX4_undo_17 : decode cX4_undo 17 = .ok (.putfield 56, 3) := by decide +kernel
theorem dX4_undo_20 : decode cX4_undo 20 = .ok (.iconst 0, 1) := by decide +kernel
theorem dX4_undo_21 : decode cX4_undo 21 = .ok (.istore_n 1, 1) := by decide +kernel
theorem dX4_undo_22 : decode cX4_undo 22 = .ok (.iload_n 1, 1) := by decide +kernel
theorem dX4_undo_23 : decode cX4_undo 23 = .ok (.bipush 111, 2) := by decide +kernel
theorem dX4_undo_25 : decode cX4_undo 25 = .ok (.if_icmp .ge 29, 3) := by decide +kernel
theorem dX4_undo_28 : decode cX4_undo 28 = .ok (.aload_n 0, 1) := by decide +kernel
theorem dX4_undo_29 : decode cX4_undo 29 = .ok (.getfield 7, 3) := by decide +kernel
theorem dX4_undo_32 : decode cX4_undo 32 = .ok (.iload_n 1, 1) := by decide +kernel
theorem dX4_undo_33 : decode cX4_undo 33 = .ok (.aload_n 0, 1) := by decide +kernel
theorem dX4_undo_34 : decode cX4_undo 34 = .ok (.getfield 13, 3) := by decide +kernel
theorem dX4_undo_37 : decode cX4_undo 37 = .ok (.bipush 111, 2) := by decide +kernel
theorem dX4_undo_39 : decode cX4_undo 39 = .ok (.aload_n 0, 1) := by decide +kernel
theorem dX4_undo_40 : decode cX4_undo 40 = .ok (.getfield 56, 3) := by decide +kernel
theorem dX4_undo_43 : decode cX4_undo 43 = .ok (.imul, 1) := by decide +kernel
theorem dX4_undo_44 : decode cX4_undo 44 = .ok (.iload_n 1, 1) := by decide +kernel
theorem dX4_undo_45 : decode cX4_undo 45 = .ok (.iadd, 1) := by decide +kernel
theorem dX4_undo_46 : decode cX4_undo 46 = .ok (.iaload, 1) := by decide +kernel
theorem dX4_undo_47 : decode cX4_undo 47 = .ok (.iastore, 1) := by decide +kernel
theorem dX4_undo_48 : decode cX4_undo 48 = .ok (.iinc 1 1, 3) := by decide +kernel
theorem dX4_undo_51 : decode cX4_undo 51 = .ok (.goto (-29), 3) := by decide +kernel
theorem dX4_undo_54 : decode cX4_undo 54 = .ok (.aload_n 0, 1) := by decide +kernel
theorem dX4_undo_55 : decode cX4_undo 55 = .ok (.getfield 56, 3) := by decide +kernel
theorem dX4_undo_58 : decode cX4_undo 58 = .ok (.ireturn, 1) := by decide +kernel
theorem dX4_isFilm_0 : decode cX4_isFilm 0 = .ok (.iload_n 0, 1) := by decide +kernel
theorem dX4_isFilm_1 : decode cX4_isFilm 1 = .ok (.i2l, 1) := by decide +kernel
theorem dX4_isFilm_2 : decode cX4_isFilm 2 = .ok (.lconst 0, 1) := by decide +kernel
theorem dX4_isFilm_3 : decode cX4_isFilm 3 = .ok (.ldc2_w 60, 3) := by decide +kernel
theorem dX4_isFilm_6 : decode cX4_isFilm 6 = .ok (.invokestatic 62, 3) := by decide +kernel
theorem dX4_isFilm_9 : decode cX4_isFilm 9 = .ok (.ireturn, 1) := by decide +kernel
theorem dX4_isHouse_0 : decode cX4_isHouse 0 = .ok (.iload_n 0, 1) := by decide +kernel
theorem dX4_isHouse_1 : decode cX4_isHouse 1 = .ok (.i2l, 1) := by decide +kernel
theorem dX4_isHouse_2 : decode cX4_isHouse 2 = .ok (.lconst 0, 1) := by decide +kernel
theorem dX4_isHouse_3 : decode cX4_isHouse 3 = .ok (.lconst 1, 1) := by decide +kernel
theorem dX4_isHouse_4 : decode cX4_isHouse 4 = .ok (.invokestatic 62, 3) := by decide +kernel
theorem dX4_isHouse_7 : decode cX4_isHouse 7 = .ok (.ireturn, 1) := by decide +kernel
theorem dX4_isMachine_0 : decode cX4_isMachine 0 = .ok (.iload_n 1, 1) := by decide +kernel
theorem dX4_isMachine_1 : decode cX4_isMachine 1 = .ok (.i2l, 1) := by decide +kernel
theorem dX4_isMachine_2 : decode cX4_isMachine 2 = .ok (.lconst 0, 1) := by decide +kernel
theorem dX4_isMachine_3 : decode cX4_isMachine 3 = .ok (.aload_n 0, 1) := by decide +kernel
theorem dX4_isMachine_4 : decode cX4_isMachine 4 = .ok (.getfield 7, 3) := by decide +kernel
theorem dX4_isMachine_7 : decode cX4_isMachine 7 = .ok (.bipush 56, 2) := by decide +kernel
theorem dX4_isMachine_9 : decode cX4_isMachine 9 = .ok (.iaload, 1) := by decide +kernel
theorem dX4_isMachine_10 : decode cX4_isMachine 10 = .ok (.iconst 1, 1) := by decide +kernel
theorem dX4_isMachine_11 : decode cX4_isMachine 11 = .ok (.isub, 1) := by decide +kernel
theorem dX4_isMachine_12 : decode cX4_isMachine 12 = .ok (.i2l, 1) := by decide +kernel
theorem dX4_isMachine_13 : decode cX4_isMachine 13 = .ok (.invokestatic 62, 3) := by decide +kernel
theorem dX4_isMachine_16 : decode cX4_isMachine 16 = .ok (.ireturn, 1) := by decide +kernel
theorem dX4_isShow_0 : decode cX4_isShow 0 = .ok (.iload_n 1, 1) := by decide +kernel
