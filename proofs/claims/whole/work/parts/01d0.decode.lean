theorem dX0_init_0 : decode cX0_init 0 = .ok (.aload_n 0, 1) := by decide +kernel
theorem dX0_init_1 : decode cX0_init 1 = .ok (.invokespecial 3, 3) := by decide +kernel
theorem dX0_init_4 : decode cX0_init 4 = .ok (.aload_n 0, 1) := by decide +kernel
theorem dX0_init_5 : decode cX0_init 5 = .ok (.sipush 2401, 3) := by decide +kernel
theorem dX0_init_8 : decode cX0_init 8 = .ok (.newarray .int, 2) := by decide +kernel
theorem dX0_init_10 : decode cX0_init 10 = .ok (.putfield 9, 3) := by decide +kernel
theorem dX0_init_13 : decode cX0_init 13 = .ok (.aload_n 0, 1) := by decide +kernel
theorem dX0_init_14 : decode cX0_init 14 = .ok (.sipush 2401, 3) := by decide +kernel
theorem dX0_init_17 : decode cX0_init 17 = .ok (.newarray .int, 2) := by decide +kernel
theorem dX0_init_19 : decode cX0_init 19 = .ok (.putfield 15, 3) := by decide +kernel
theorem dX0_init_22 : decode cX0_init 22 = .ok (.aload_n 0, 1) := by decide +kernel
theorem dX0_init_23 : decode cX0_init 23 = .ok (.sipush 2401, 3) := by decide +kernel
theorem dX0_init_26 : decode cX0_init 26 = .ok (.newarray .int, 2) := by decide +kernel
theorem dX0_init_28 : decode cX0_init 28 = .ok (.putfield 18, 3) := by decide +kernel
theorem dX0_init_31 : decode cX0_init 31 = .ok (.aload_n 0, 1) := by decide +kernel
theorem dX0_init_32 : decode cX0_init 32 = .ok (.iconst 5, 1) := by decide +kernel
theorem dX0_init_33 : decode cX0_init 33 = .ok (.putfield 21, 3) := by decide +kernel
theorem dX0_init_36 : decode cX0_init 36 = .ok (.aload_n 0, 1) := by decide +kernel
theorem dX0_init_37 : decode cX0_init 37 = .ok (.aload_n 1, 1) := by decide +kernel
theorem dX0_init_38 : decode cX0_init 38 = .ok (.putfield 25, 3) := by decide +kernel
theorem dX0_init_41 : decode cX0_init 41 = .ok (.aload_n 0, 1) := by decide +kernel
theorem dX0_init_42 : decode cX0_init 42 = .ok (.aload_n 2, 1) := by decide +kernel
theorem dX0_init_43 : decode cX0_init 43 = .ok (.putfield 29, 3) := by decide +kernel
theorem dX0_init_46 : decode cX0_init 46 = .ok (.aload_n 0, 1) := by decide +kernel
theorem dX0_init_47 : decode cX0_init 47 = .ok (.getfield 9, 3) := by decide +kernel
theorem dX0_init_50 : decode cX0_init 50 = .ok (.bipush (-9), 2) := by decide +kernel
theorem dX0_init_52 : decode cX0_init 52 = .ok (.invokestatic 33, 3) := by decide +kernel
theorem dX0_init_55 : decode cX0_init 55 = .ok (.return_, 1) := by decide +kernel
theorem dX0_toldCount_0 : decode cX0_toldCount 0 = .ok (.iconst 0, 1) := by decide +kernel
theorem dX0_toldCount_1 : decode cX0_toldCount 1 = .ok (.istore_n 1, 1) := by decide +kernel
theorem dX0_toldCount_2 : decode cX0_toldCount 2 = .ok (.iconst 0, 1) := by decide +kernel
theorem dX0_toldCount_3 : decode cX0_toldCount 3 = .ok (.istore_n 2, 1) := by decide +kernel
theorem dX0_toldCount_4 : decode cX0_toldCount 4 = .ok (.iload_n 2, 1) := by decide +kernel
theorem dX0_toldCount_5 : decode cX0_toldCount 5 = .ok (.sipush 2401, 3) := by decide +kernel
theorem dX0_toldCount_8 : decode cX0_toldCount 8 = .ok (.if_icmp .ge 28, 3) := by decide +kernel
theorem dX0_toldCount_11 : decode cX0_toldCount 11 = .ok (.iload_n 1, 1) := by decide +kernel
theorem dX0_toldCount_12 : decode cX0_toldCount 12 = .ok (.aload_n 0, 1) := by decide +kernel
theorem dX0_toldCount_13 : decode cX0_toldCount 13 = .ok (.getfield 9, 3) := by decide +kernel
theorem dX0_toldCount_16 : decode cX0_toldCount 16 = .ok (.iload_n 2, 1) := by decide +kernel
theorem dX0_toldCount_17 : decode cX0_toldCount 17 = .ok (.iaload, 1) := by decide +kernel
theorem dX0_toldCount_18 : decode cX0_toldCount 18 = .ok (.bipush (-9), 2) := by decide +kernel
theorem dX0_toldCount_20 : decode cX0_toldCount 20 = .ok (.if_icmp .eq 7, 3) := by decide +kernel
theorem dX0_toldCount_23 : decode cX0_toldCount 23 = .ok (.iconst 1, 1) := by decide +kernel
theorem dX0_toldCount_24 : decode cX0_toldCount 24 = .ok (.goto 4, 3) := by decide +kernel
theorem dX0_toldCount_27 : decode cX0_toldCount 27 = .ok (.iconst 0, 1) := by decide +kernel
theorem dX0_toldCount_28 : decode cX0_toldCount 28 = .ok (.iadd, 1) := by decide +kernel
theorem dX0_toldCount_29 : decode cX0_toldCount 29 = .ok (.istore_n 1, 1) := by decide +kernel
theorem dX0_toldCount_30 : decode cX0_toldCount 30 = .ok (.iinc 2 1, 3) := by decide +kernel
theorem dX0_toldCount_33 : decode cX0_toldCount 33 = .ok (.goto (-29), 3) := by decide +kernel
theorem dX0_toldCount_36 : decode cX0_toldCount 36 = .ok (.iload_n 1, 1) := by decide +kernel
theorem dX0_toldCount_37 : decode cX0_toldCount 37 = .ok (.ireturn, 1) := by decide +kernel
theorem dX0_farOf_0 : decode cX0_farOf 0 = .ok (.iconst 0, 1) := by decide +kernel
theorem dX0_farOf_1 : decode cX0_farOf 1 = .ok (.istore_n 2, 1) := by decide +kernel
theorem dX0_farOf_2 : decode cX0_farOf 2 = .ok (.iconst 0, 1) := by decide +kernel
theorem dX0_farOf_3 : decode cX0_farOf 3 = .ok (.istore_n 3, 1) := by decide +kernel
theorem dX0_farOf_4 : decode cX0_farOf 4 = .ok (.iconst 0, 1) := by decide +kernel
theorem dX0_farOf_5 : decode cX0_farOf 5 = .ok (.istore 4, 2) := by decide +kernel
theorem dX0_farOf_7 : decode cX0_farOf 7 = .ok (.iload 4, 2) := by decide +kernel
theorem dX0_farOf_9 : decode cX0_farOf 9 = .ok (.sipush 2401, 3) := by decide +kernel
theorem dX0_farOf_12 : decode cX0_farOf 12 = .ok (.if_icmp .ge 48, 3) := by decide +kernel
theorem dX0_farOf_15 : decode cX0_farOf 15 = .ok (.aload_n 0, 1) := by decide +kernel
theorem dX0_farOf_16 : decode cX0_farOf 16 = .ok (.getfield 9, 3) := by decide +kernel
theorem dX0_farOf_19 : decode cX0_farOf 19 = .ok (.iload 4, 2) := by decide +kernel
theorem dX0_farOf_21 : decode cX0_farOf 21 = .ok (.iaload, 1) := by decide +kernel
theorem dX0_farOf_22 : decode cX0_farOf 22 = .ok (.bipush (-9), 2) := by decide +kernel
theorem dX0_farOf_24 : decode cX0_farOf 24 = .ok (.if_icmp .eq 30, 3) := by decide +kernel
theorem dX0_farOf_27 : decode cX0_farOf 27 = .ok (.aload_n 0, 1) := by decide +kernel
theorem dX0_farOf_28 : decode cX0_farOf 28 = .ok (.getfield 25, 3) := by decide +kernel
theorem dX0_farOf_31 : decode cX0_farOf 31 = .ok (.getfield 39, 3) := by decide +kernel
theorem dX0_farOf_34 : decode cX0_farOf 34 = .ok (.iload 4, 2) := by decide +kernel
theorem dX0_farOf_36 : decode cX0_farOf 36 = .ok (.iaload, 1) := by decide +kernel
theorem dX0_farOf_37 : decode cX0_farOf 37 = .ok (.iload_n 1, 1) := by decide +kernel
theorem dX0_farOf_38 : decode cX0_farOf 38 = .ok (.if_icmp .ne 16, 3) := by decide +kernel
theorem dX0_farOf_41 : decode cX0_farOf 41 = .ok (.iload_n 2, 1) := by decide +kernel
theorem dX0_farOf_42 : decode cX0_farOf 42 = .ok (.aload_n 0, 1) := by decide +kernel
theorem dX0_farOf_43 : decode cX0_farOf 43 = .ok (.getfield 9, 3) := by decide +kernel
theorem dX0_farOf_46 : decode cX0_farOf 46 = .ok (.iload 4, 2) := by decide +kernel
theorem dX0_farOf_48 : decode cX0_farOf 48 = .ok (.iaload, 1) := by decide +kernel
theorem dX0_farOf_49 : decode cX0_farOf 49 = .ok (.iadd, 1) := by decide +kernel
theorem dX0_farOf_50 : decode cX0_farOf 50 = .ok (.istore_n 2, 1) := by decide +kernel
theorem dX0_farOf_51 : decode cX0_farOf 51 = .ok (.iinc 3 1, 3) := by decide +kernel
theorem dX0_farOf_54 : decode cX0_farOf 54 = .ok (.iinc 4 1, 3) := by decide +kernel
theorem dX0_farOf_57 : decode cX0_farOf 57 = .ok (.goto (-50), 3) := by decide +kernel
theorem dX0_farOf_60 : decode cX0_farOf 60 = .ok (.iload_n 3, 1) := by decide +kernel
theorem dX0_farOf_61 : decode cX0_farOf 61 = .ok (.ifCond .ne 8, 3) := by decide +kernel
theorem dX0_farOf_64 : decode cX0_farOf 64 = .ok (.bipush (-9), 2) := by decide +kernel
theorem dX0_farOf_66 : decode cX0_farOf 66 = .ok (.goto 6, 3) := by decide +kernel
theorem dX0_farOf_69 : decode cX0_farOf 69 = .ok (.iload_n 2, 1) := by decide +kernel
theorem dX0_farOf_70 : decode cX0_farOf 70 = .ok (.iload_n 3, 1) := by decide +kernel
theorem dX0_farOf_71 : decode cX0_farOf 71 = .ok (.idiv, 1) := by decide +kernel
theorem dX0_farOf_72 : decode cX0_farOf 72 = .ok (.ireturn, 1) := by decide +kernel
theorem dX0_contradictions_0 : decode cX0_contradictions 0 = .ok (.aload_n 0, 1) := by decide +kernel
theorem dX0_contradictions_1 : decode cX0_contradictions 1 = .ok (.getfield 29, 3) := by decide +kernel
theorem dX0_contradictions_4 : decode cX0_contradictions 4 = .ok (.invokevirtual 44, 3) := by decide +kernel
theorem dX0_contradictions_7 : decode cX0_contradictions 7 = .ok (.iconst 0, 1) := by decide +kernel
theorem dX0_contradictions_8 : decode cX0_contradictions 8 = .ok (.istore_n 1, 1) := by decide +kernel
theorem dX0_contradictions_9 : decode cX0_contradictions 9 = .ok (.iload_n 1, 1) := by decide +kernel
theorem dX0_contradictions_10 : decode cX0_contradictions 10 = .ok (.sipush 2401, 3) := by decide +kernel
theorem dX0_contradictions_13 : decode cX0_contradictions 13 = .ok (.if_icmp .ge 39, 3) := by decide +kernel
theorem dX0_contradictions_16 : decode cX0_contradictions 16 = .ok (.aload_n 0, 1) := by decide +kernel
theorem dX0_contradictions_17 : decode cX0_contradictions 17 = .ok (.getfield 9, 3) := by decide +kernel
theorem dX0_contradictions_20 : decode cX0_contradictions 20 = .ok (.iload_n 1, 1) := by decide +kernel
theorem dX0_contradictions_21 : decode cX0_contradictions 21 = .ok (.iaload, 1) := by decide +kernel
theorem dX0_contradictions_22 : decode cX0_contradictions 22 = .ok (.bipush (-9), 2) := by decide +kernel
theorem dX0_contradictions_24 : decode cX0_contradictions 24 = .ok (.if_icmp .eq 22, 3) := by decide +kernel
theorem dX0_contradictions_27 : decode cX0_contradictions 27 = .ok (.aload_n 0, 1) := by decide +kernel
theorem dX0_contradictions_28 : decode cX0_contradictions 28 = .ok (.aload_n 0, 1) := by decide +kernel
theorem dX0_contradictions_29 : decode cX0_contradictions 29 = .ok (.getfield 9, 3) := by decide +kernel
theorem dX0_contradictions_32 : decode cX0_contradictions 32 = .ok (.iload_n 1, 1) := by decide +kernel
theorem dX0_contradictions_33 : decode cX0_contradictions 33 = .ok (.iaload, 1) := by decide +kernel
theorem dX0_contradictions_34 : decode cX0_contradictions 34 = .ok (.aload_n 0, 1) := by decide +kernel
theorem dX0_contradictions_35 : decode cX0_contradictions 35 = .ok (.getfield 25, 3) := by decide +kernel
theorem dX0_contradictions_38 : decode cX0_contradictions 38 = .ok (.getfield 39, 3) := by decide +kernel
theorem dX0_contradictions_41 : decode cX0_contradictions 41 = .ok (.iload_n 1, 1) := by decide +kernel
theorem dX0_contradictions_42 : decode cX0_contradictions 42 = .ok (.iaload, 1) := by decide +kernel
theorem dX0_contradictions_43 : decode cX0_contradictions 43 = .ok (.invokevirtual 49, 3) := by decide +kernel
theorem dX0_contradictions_46 : decode cX0_contradictions 46 = .ok (.iinc 1 1, 3) := by decide +kernel
theorem dX0_contradictions_49 : decode cX0_contradictions 49 = .ok (.goto (-40), 3) := by decide +kernel
theorem dX0_contradictions_52 : decode cX0_contradictions 52 = .ok (.iconst 0, 1) := by decide +kernel
theorem dX0_contradictions_53 : decode cX0_contradictions 53 = .ok (.istore_n 1, 1) := by decide +kernel
theorem dX0_contradictions_54 : decode cX0_contradictions 54 = .ok (.iconst 0, 1) := by decide +kernel
theorem dX0_contradictions_55 : decode cX0_contradictions 55 = .ok (.istore_n 2, 1) := by decide +kernel
theorem dX0_contradictions_56 : decode cX0_contradictions 56 = .ok (.iload_n 2, 1) := by decide +kernel
theorem dX0_contradictions_57 : decode cX0_contradictions 57 = .ok (.aload_n 0, 1) := by decide +kernel
theorem dX0_contradictions_58 : decode cX0_contradictions 58 = .ok (.getfield 29, 3) := by decide +kernel
theorem dX0_contradictions_61 : decode cX0_contradictions 61 = .ok (.getfield 53, 3) := by decide +kernel
theorem dX0_contradictions_64 : decode cX0_contradictions 64 = .ok (.if_icmp .ge 44, 3) := by decide +kernel
theorem dX0_contradictions_67 : decode cX0_contradictions 67 = .ok (.iload_n 2, 1) := by decide +kernel
theorem dX0_contradictions_68 : decode cX0_contradictions 68 = .ok (.sipush 2401, 3) := by decide +kernel
theorem dX0_contradictions_71 : decode cX0_contradictions 71 = .ok (.if_icmp .ge 37, 3) := by decide +kernel
theorem dX0_contradictions_74 : decode cX0_contradictions 74 = .ok (.iload_n 1, 1) := by decide +kernel
theorem dX0_contradictions_75 : decode cX0_contradictions 75 = .ok (.aload_n 0, 1) := by decide +kernel
theorem dX0_contradictions_76 : decode cX0_contradictions 76 = .ok (.getfield 18, 3) := by decide +kernel
theorem dX0_contradictions_79 : decode cX0_contradictions 79 = .ok (.iload_n 2, 1) := by decide +kernel
theorem dX0_contradictions_80 : decode cX0_contradictions 80 = .ok (.iaload, 1) := by decide +kernel
theorem dX0_contradictions_81 : decode cX0_contradictions 81 = .ok (.aload_n 0, 1) := by decide +kernel
theorem dX0_contradictions_82 : decode cX0_contradictions 82 = .ok (.getfield 15, 3) := by decide +kernel
theorem dX0_contradictions_85 : decode cX0_contradictions 85 = .ok (.iload_n 2, 1) := by decide +kernel
theorem dX0_contradictions_86 : decode cX0_contradictions 86 = .ok (.iaload, 1) := by decide +kernel
theorem dX0_contradictions_87 : decode cX0_contradictions 87 = .ok (.isub, 1) := by decide +kernel
theorem dX0_contradictions_88 : decode cX0_contradictions 88 = .ok (.aload_n 0, 1) := by decide +kernel
theorem dX0_contradictions_89 : decode cX0_contradictions 89 = .ok (.getfield 21, 3) := by decide +kernel
theorem dX0_contradictions_92 : decode cX0_contradictions 92 = .ok (.if_icmp .le 7, 3) := by decide +kernel
theorem dX0_contradictions_95 : decode cX0_contradictions 95 = .ok (.iconst 1, 1) := by decide +kernel
theorem dX0_contradictions_96 : decode cX0_contradictions 96 = .ok (.goto 4, 3) := by decide +kernel
theorem dX0_contradictions_99 : decode cX0_contradictions 99 = .ok (.iconst 0, 1) := by decide +kernel
theorem dX0_contradictions_100 : decode cX0_contradictions 100 = .ok (.iadd, 1) := by decide +kernel
theorem dX0_contradictions_101 : decode cX0_contradictions 101 = .ok (.istore_n 1, 1) := by decide +kernel
theorem dX0_contradictions_102 : decode cX0_contradictions 102 = .ok (.iinc 2 1, 3) := by decide +kernel
theorem dX0_contradictions_105 : decode cX0_contradictions 105 = .ok (.goto (-49), 3) := by decide +kernel
theorem dX0_contradictions_108 : decode cX0_contradictions 108 = .ok (.iload_n 1, 1) := by decide +kernel
theorem dX0_contradictions_109 : decode cX0_contradictions 109 = .ok (.ireturn, 1) := by decide +kernel
theorem dX0_widen_0 : decode cX0_widen 0 = .ok (.aload_n 0, 1) := by decide +kernel
theorem dX0_widen_1 : decode cX0_widen 1 = .ok (.getfield 29, 3) := by decide +kernel
theorem dX0_widen_4 : decode cX0_widen 4 = .ok (.getfield 53, 3) := by decide +kernel
theorem dX0_widen_7 : decode cX0_widen 7 = .ok (.istore_n 3, 1) := by decide +kernel
theorem dX0_widen_8 : decode cX0_widen 8 = .ok (.aload_n 0, 1) := by decide +kernel
theorem dX0_widen_9 : decode cX0_widen 9 = .ok (.getfield 29, 3) := by decide +kernel
theorem dX0_widen_12 : decode cX0_widen 12 = .ok (.iload_n 2, 1) := by decide +kernel
theorem dX0_widen_13 : decode cX0_widen 13 = .ok (.invokevirtual 56, 3) := by decide +kernel
theorem dX0_widen_16 : decode cX0_widen 16 = .ok (.istore 4, 2) := by decide +kernel
theorem dX0_widen_18 : decode cX0_widen 18 = .ok (.iload 4, 2) := by decide +kernel
theorem dX0_widen_20 : decode cX0_widen 20 = .ok (.sipush 2401, 3) := by decide +kernel
theorem dX0_widen_23 : decode cX0_widen 23 = .ok (.if_icmp .lt 4, 3) := by decide +kernel
theorem dX0_widen_26 : decode cX0_widen 26 = .ok (.return_, 1) := by decide +kernel
theorem dX0_widen_27 : decode cX0_widen 27 = .ok (.aload_n 0, 1) := by decide +kernel
theorem dX0_widen_28 : decode cX0_widen 28 = .ok (.getfield 29, 3) := by decide +kernel
theorem dX0_widen_31 : decode cX0_widen 31 = .ok (.getfield 53, 3) := by decide +kernel
theorem dX0_widen_34 : decode cX0_widen 34 = .ok (.iload_n 3, 1) := by decide +kernel
theorem dX0_widen_35 : decode cX0_widen 35 = .ok (.if_icmp .le 7, 3) := by decide +kernel
theorem dX0_widen_38 : decode cX0_widen 38 = .ok (.iconst 1, 1) := by decide +kernel
theorem dX0_widen_39 : decode cX0_widen 39 = .ok (.goto 4, 3) := by decide +kernel
theorem dX0_widen_42 : decode cX0_widen 42 = .ok (.iconst 0, 1) := by decide +kernel
theorem dX0_widen_43 : decode cX0_widen 43 = .ok (.istore 5, 2) := by decide +kernel
theorem dX0_widen_45 : decode cX0_widen 45 = .ok (.aload_n 0, 1) := by decide +kernel
theorem dX0_widen_46 : decode cX0_widen 46 = .ok (.getfield 15, 3) := by decide +kernel
theorem dX0_widen_49 : decode cX0_widen 49 = .ok (.iload 4, 2) := by decide +kernel
theorem dX0_widen_51 : decode cX0_widen 51 = .ok (.iload 5, 2) := by decide +kernel
theorem dX0_widen_53 : decode cX0_widen 53 = .ok (.ifCond .eq 7, 3) := by decide +kernel
theorem dX0_widen_56 : decode cX0_widen 56 = .ok (.iload_n 1, 1) := by decide +kernel
theorem dX0_widen_57 : decode cX0_widen 57 = .ok (.goto 14, 3) := by decide +kernel
theorem dX0_widen_60 : decode cX0_widen 60 = .ok (.aload_n 0, 1) := by decide +kernel
theorem dX0_widen_61 : decode cX0_widen 61 = .ok (.getfield 15, 3) := by decide +kernel
theorem dX0_widen_64 : decode cX0_widen 64 = .ok (.iload 4, 2) := by decide +kernel
theorem dX0_widen_66 : decode cX0_widen 66 = .ok (.iaload, 1) := by decide +kernel
theorem dX0_widen_67 : decode cX0_widen 67 = .ok (.iload_n 1, 1) := by decide +kernel
theorem dX0_widen_68 : decode cX0_widen 68 = .ok (.invokestatic 60, 3) := by decide +kernel
theorem dX0_widen_71 : decode cX0_widen 71 = .ok (.iastore, 1) := by decide +kernel
theorem dX0_widen_72 : decode cX0_widen 72 = .ok (.aload_n 0, 1) := by decide +kernel
theorem dX0_widen_73 : decode cX0_widen 73 = .ok (.getfield 18, 3) := by decide +kernel
theorem dX0_widen_76 : decode cX0_widen 76 = .ok (.iload 4, 2) := by decide +kernel
theorem dX0_widen_78 : decode cX0_widen 78 = .ok (.iload 5, 2) := by decide +kernel
theorem dX0_widen_80 : decode cX0_widen 80 = .ok (.ifCond .eq 7, 3) := by decide +kernel
theorem dX0_widen_83 : decode cX0_widen 83 = .ok (.iload_n 1, 1) := by decide +kernel
theorem dX0_widen_84 : decode cX0_widen 84 = .ok (.goto 14, 3) := by decide +kernel
theorem dX0_widen_87 : decode cX0_widen 87 = .ok (.aload_n 0, 1) := by decide +kernel
theorem dX0_widen_88 : decode cX0_widen 88 = .ok (.getfield 18, 3) := by decide +kernel
theorem dX0_widen_91 : decode cX0_widen 91 = .ok (.iload 4, 2) := by decide +kernel
theorem dX0_widen_93 : decode cX0_widen 93 = .ok (.iaload, 1) := by decide +kernel
theorem dX0_widen_94 : decode cX0_widen 94 = .ok (.iload_n 1, 1) := by decide +kernel
theorem dX0_widen_95 : decode cX0_widen 95 = .ok (.invokestatic 66, 3) := by decide +kernel
theorem dX0_widen_98 : decode cX0_widen 98 = .ok (.iastore, 1) := by decide +kernel
theorem dX0_widen_99 : decode cX0_widen 99 = .ok (.return_, 1) := by decide +kernel
theorem dX1_init_0 : decode cX1_init 0 = .ok (.aload_n 0, 1) := by decide +kernel
theorem dX1_init_1 : decode cX1_init 1 = .ok (.invokespecial 3, 3) := by decide +kernel
theorem dX1_init_4 : decode cX1_init 4 = .ok (.aload_n 0, 1) := by decide +kernel
theorem dX1_init_5 : decode cX1_init 5 = .ok (.sipush 2401, 3) := by decide +kernel
theorem dX1_init_8 : decode cX1_init 8 = .ok (.newarray .boolean, 2) := by decide +kernel
theorem dX1_init_10 : decode cX1_init 10 = .ok (.putfield 9, 3) := by decide +kernel
theorem dX1_init_13 : decode cX1_init 13 = .ok (.aload_n 0, 1) := by decide +kernel
theorem dX1_init_14 : decode cX1_init 14 = .ok (.sipush 2401, 3) := by decide +kernel
theorem dX1_init_17 : decode cX1_init 17 = .ok (.newarray .int, 2) := by decide +kernel
theorem dX1_init_19 : decode cX1_init 19 = .ok (.putfield 15, 3) := by decide +kernel
theorem dX1_init_22 : decode cX1_init 22 = .ok (.return_, 1) := by decide +kernel
theorem dX1_split_0 : decode cX1_split 0 = .ok (.iconst 0, 1) := by decide +kernel
theorem dX1_split_1 : decode cX1_split 1 = .ok (.istore_n 2, 1) := by decide +kernel
theorem dX1_split_2 : decode cX1_split 2 = .ok (.iconst 0, 1) := by decide +kernel
theorem dX1_split_3 : decode cX1_split 3 = .ok (.istore_n 3, 1) := by decide +kernel
theorem dX1_split_4 : decode cX1_split 4 = .ok (.iload_n 3, 1) := by decide +kernel
theorem dX1_split_5 : decode cX1_split 5 = .ok (.sipush 2401, 3) := by decide +kernel
theorem dX1_split_8 : decode cX1_split 8 = .ok (.if_icmp .ge 44, 3) := by decide +kernel
theorem dX1_split_11 : decode cX1_split 11 = .ok (.aload_n 0, 1) := by decide +kernel
theorem dX1_split_12 : decode cX1_split 12 = .ok (.getfield 9, 3) := by decide +kernel
theorem dX1_split_15 : decode cX1_split 15 = .ok (.iload_n 3, 1) := by decide +kernel
theorem dX1_split_16 : decode cX1_split 16 = .ok (.baload, 1) := by decide +kernel
theorem dX1_split_17 : decode cX1_split 17 = .ok (.ifCond .eq 29, 3) := by decide +kernel
theorem dX1_split_20 : decode cX1_split 20 = .ok (.aload_n 0, 1) := by decide +kernel
theorem dX1_split_21 : decode cX1_split 21 = .ok (.iload_n 3, 1) := by decide +kernel
theorem dX1_split_22 : decode cX1_split 22 = .ok (.invokevirtual 19, 3) := by decide +kernel
theorem dX1_split_25 : decode cX1_split 25 = .ok (.istore 4, 2) := by decide +kernel
theorem dX1_split_27 : decode cX1_split 27 = .ok (.iload_n 2, 1) := by decide +kernel
theorem dX1_split_28 : decode cX1_split 28 = .ok (.iload_n 1, 1) := by decide +kernel
theorem dX1_split_29 : decode cX1_split 29 = .ok (.if_icmp .ne 14, 3) := by decide +kernel
theorem dX1_split_32 : decode cX1_split 32 = .ok (.aload_n 0, 1) := by decide +kernel
theorem dX1_split_33 : decode cX1_split 33 = .ok (.iload_n 3, 1) := by decide +kernel
theorem dX1_split_34 : decode cX1_split 34 = .ok (.putfield 23, 3) := by decide +kernel
theorem dX1_split_37 : decode cX1_split 37 = .ok (.aload_n 0, 1) := by decide +kernel
theorem dX1_split_38 : decode cX1_split 38 = .ok (.iload 4, 2) := by decide +kernel
theorem dX1_split_40 : decode cX1_split 40 = .ok (.putfield 27, 3) := by decide +kernel
theorem dX1_split_43 : decode cX1_split 43 = .ok (.iinc 2 1, 3) := by decide +kernel
theorem dX1_split_46 : decode cX1_split 46 = .ok (.iinc 3 1, 3) := by decide +kernel
theorem dX1_split_49 : decode cX1_split 49 = .ok (.goto (-45), 3) := by decide +kernel
theorem dX1_split_52 : decode cX1_split 52 = .ok (.iload_n 2, 1) := by decide +kernel
theorem dX1_split_53 : decode cX1_split 53 = .ok (.ireturn, 1) := by decide +kernel
theorem dX1_collect_0 : decode cX1_collect 0 = .ok (.aload_n 0, 1) := by decide +kernel
theorem dX1_collect_1 : decode cX1_collect 1 = .ok (.getfield 9, 3) := by decide +kernel
theorem dX1_collect_4 : decode cX1_collect 4 = .ok (.iload_n 1, 1) := by decide +kernel
theorem dX1_collect_5 : decode cX1_collect 5 = .ok (.iconst 0, 1) := by decide +kernel
theorem dX1_collect_6 : decode cX1_collect 6 = .ok (.bastore, 1) := by decide +kernel
theorem dX1_collect_7 : decode cX1_collect 7 = .ok (.aload_n 0, 1) := by decide +kernel
theorem dX1_collect_8 : decode cX1_collect 8 = .ok (.getfield 15, 3) := by decide +kernel
theorem dX1_collect_11 : decode cX1_collect 11 = .ok (.iconst 0, 1) := by decide +kernel
theorem dX1_collect_12 : decode cX1_collect 12 = .ok (.iload_n 1, 1) := by decide +kernel
theorem dX1_collect_13 : decode cX1_collect 13 = .ok (.iastore, 1) := by decide +kernel
theorem dX1_collect_14 : decode cX1_collect 14 = .ok (.iconst 1, 1) := by decide +kernel
theorem dX1_collect_15 : decode cX1_collect 15 = .ok (.istore_n 2, 1) := by decide +kernel
theorem dX1_collect_16 : decode cX1_collect 16 = .ok (.iconst 0, 1) := by decide +kernel
theorem dX1_collect_17 : decode cX1_collect 17 = .ok (.istore_n 3, 1) := by decide +kernel
theorem dX1_collect_18 : decode cX1_collect 18 = .ok (.iload_n 3, 1) := by decide +kernel
theorem dX1_collect_19 : decode cX1_collect 19 = .ok (.iload_n 2, 1) := by decide +kernel
theorem dX1_collect_20 : decode cX1_collect 20 = .ok (.if_icmp .ge 28, 3) := by decide +kernel
theorem dX1_collect_23 : decode cX1_collect 23 = .ok (.iload_n 3, 1) := by decide +kernel
theorem dX1_collect_24 : decode cX1_collect 24 = .ok (.sipush 2401, 3) := by decide +kernel
theorem dX1_collect_27 : decode cX1_collect 27 = .ok (.if_icmp .ge 21, 3) := by decide +kernel
theorem dX1_collect_30 : decode cX1_collect 30 = .ok (.aload_n 0, 1) := by decide +kernel
theorem dX1_collect_31 : decode cX1_collect 31 = .ok (.aload_n 0, 1) := by decide +kernel
theorem dX1_collect_32 : decode cX1_collect 32 = .ok (.getfield 15, 3) := by decide +kernel
theorem dX1_collect_35 : decode cX1_collect 35 = .ok (.iload_n 3, 1) := by decide +kernel
theorem dX1_collect_36 : decode cX1_collect 36 = .ok (.iaload, 1) := by decide +kernel
theorem dX1_collect_37 : decode cX1_collect 37 = .ok (.iload_n 2, 1) := by decide +kernel
theorem dX1_collect_38 : decode cX1_collect 38 = .ok (.invokevirtual 30, 3) := by decide +kernel
theorem dX1_collect_41 : decode cX1_collect 41 = .ok (.istore_n 2, 1) := by decide +kernel
theorem dX1_collect_42 : decode cX1_collect 42 = .ok (.iinc 3 1, 3) := by decide +kernel
theorem dX1_collect_45 : decode cX1_collect 45 = .ok (.goto (-27), 3) := by decide +kernel
theorem dX1_collect_48 : decode cX1_collect 48 = .ok (.iload_n 2, 1) := by decide +kernel
theorem dX1_collect_49 : decode cX1_collect 49 = .ok (.ireturn, 1) := by decide +kernel
theorem dX1_queueNeighbours_0 : decode cX1_queueNeighbours 0 = .ok (.iload_n 2, 1) := by decide +kernel
theorem dX1_queueNeighbours_1 : decode cX1_queueNeighbours 1 = .ok (.istore_n 3, 1) := by decide +kernel
theorem dX1_queueNeighbours_2 : decode cX1_queueNeighbours 2 = .ok (.iload_n 1, 1) := by decide +kernel
theorem dX1_queueNeighbours_3 : decode cX1_queueNeighbours 3 = .ok (.bipush 49, 2) := by decide +kernel
theorem dX1_queueNeighbours_5 : decode cX1_queueNeighbours 5 = .ok (.irem, 1) := by decide +kernel
theorem dX1_queueNeighbours_6 : decode cX1_queueNeighbours 6 = .ok (.istore 4, 2) := by decide +kernel
theorem dX1_queueNeighbours_8 : decode cX1_queueNeighbours 8 = .ok (.iload_n 1, 1) := by decide +kernel
theorem dX1_queueNeighbours_9 : decode cX1_queueNeighbours 9 = .ok (.bipush 49, 2) := by decide +kernel
theorem dX1_queueNeighbours_11 : decode cX1_queueNeighbours 11 = .ok (.idiv, 1) := by decide +kernel
theorem dX1_queueNeighbours_12 : decode cX1_queueNeighbours 12 = .ok (.istore 5, 2) := by decide +kernel
theorem dX1_queueNeighbours_14 : decode cX1_queueNeighbours 14 = .ok (.iload 5, 2) := by decide +kernel
theorem dX1_queueNeighbours_16 : decode cX1_queueNeighbours 16 = .ok (.iconst 1, 1) := by decide +kernel
theorem dX1_queueNeighbours_17 : decode cX1_queueNeighbours 17 = .ok (.isub, 1) := by decide +kernel
theorem dX1_queueNeighbours_18 : decode cX1_queueNeighbours 18 = .ok (.iconst 0, 1) := by decide +kernel
theorem dX1_queueNeighbours_19 : decode cX1_queueNeighbours 19 = .ok (.invokestatic 34, 3) := by decide +kernel
theorem dX1_queueNeighbours_22 : decode cX1_queueNeighbours 22 = .ok (.istore 6, 2) := by decide +kernel
theorem dX1_queueNeighbours_24 : decode cX1_queueNeighbours 24 = .ok (.iload 6, 2) := by decide +kernel
theorem dX1_queueNeighbours_26 : decode cX1_queueNeighbours 26 = .ok (.iload 5, 2) := by decide +kernel
theorem dX1_queueNeighbours_28 : decode cX1_queueNeighbours 28 = .ok (.iconst 1, 1) := by decide +kernel
theorem dX1_queueNeighbours_29 : decode cX1_queueNeighbours 29 = .ok (.iadd, 1) := by decide +kernel
theorem dX1_queueNeighbours_30 : decode cX1_queueNeighbours 30 = .ok (.bipush 48, 2) := by decide +kernel
theorem dX1_queueNeighbours_32 : decode cX1_queueNeighbours 32 = .ok (.invokestatic 39, 3) := by decide +kernel
theorem dX1_queueNeighbours_35 : decode cX1_queueNeighbours 35 = .ok (.if_icmp .gt 85, 3) := by decide +kernel
theorem dX1_queueNeighbours_38 : decode cX1_queueNeighbours 38 = .ok (.iload 4, 2) := by decide +kernel
theorem dX1_queueNeighbours_40 : decode cX1_queueNeighbours 40 = .ok (.iconst 1, 1) := by decide +kernel
theorem dX1_queueNeighbours_41 : decode cX1_queueNeighbours 41 = .ok (.isub, 1) := by decide +kernel
theorem dX1_queueNeighbours_42 : decode cX1_queueNeighbours 42 = .ok (.iconst 0, 1) := by decide +kernel
theorem dX1_queueNeighbours_43 : decode cX1_queueNeighbours 43 = .ok (.invokestatic 34, 3) := by decide +kernel
theorem dX1_queueNeighbours_46 : decode cX1_queueNeighbours 46 = .ok (.istore 7, 2) := by decide +kernel
theorem dX1_queueNeighbours_48 : decode cX1_queueNeighbours 48 = .ok (.iload 7, 2) := by decide +kernel
theorem dX1_queueNeighbours_50 : decode cX1_queueNeighbours 50 = .ok (.iload 4, 2) := by decide +kernel
theorem dX1_queueNeighbours_52 : decode cX1_queueNeighbours 52 = .ok (.iconst 1, 1) := by decide +kernel
theorem dX1_queueNeighbours_53 : decode cX1_queueNeighbours 53 = .ok (.iadd, 1) := by decide +kernel
theorem dX1_queueNeighbours_54 : decode cX1_queueNeighbours 54 = .ok (.bipush 48, 2) := by decide +kernel
theorem dX1_queueNeighbours_56 : decode cX1_queueNeighbours 56 = .ok (.invokestatic 39, 3) := by decide +kernel
theorem dX1_queueNeighbours_59 : decode cX1_queueNeighbours 59 = .ok (.if_icmp .gt 55, 3) := by decide +kernel
theorem dX1_queueNeighbours_62 : decode cX1_queueNeighbours 62 = .ok (.iload 6, 2) := by decide +kernel
theorem dX1_queueNeighbours_64 : decode cX1_queueNeighbours 64 = .ok (.bipush 49, 2) := by decide +kernel
theorem dX1_queueNeighbours_66 : decode cX1_queueNeighbours 66 = .ok (.imul, 1) := by decide +kernel
theorem dX1_queueNeighbours_67 : decode cX1_queueNeighbours 67 = .ok (.iload 7, 2) := by decide +kernel
theorem dX1_queueNeighbours_69 : decode cX1_queueNeighbours 69 = .ok (.iadd, 1) := by decide +kernel
theorem dX1_queueNeighbours_70 : decode cX1_queueNeighbours 70 = .ok (.istore 8, 2) := by decide +kernel
theorem dX1_queueNeighbours_72 : decode cX1_queueNeighbours 72 = .ok (.aload_n 0, 1) := by decide +kernel
theorem dX1_queueNeighbours_73 : decode cX1_queueNeighbours 73 = .ok (.getfield 9, 3) := by decide +kernel
theorem dX1_queueNeighbours_76 : decode cX1_queueNeighbours 76 = .ok (.iload 8, 2) := by decide +kernel
theorem dX1_queueNeighbours_78 : decode cX1_queueNeighbours 78 = .ok (.baload, 1) := by decide +kernel
theorem dX1_queueNeighbours_79 : decode cX1_queueNeighbours 79 = .ok (.ifCond .eq 29, 3) := by decide +kernel
theorem dX1_queueNeighbours_82 : decode cX1_queueNeighbours 82 = .ok (.iload_n 3, 1) := by decide +kernel
theorem dX1_queueNeighbours_83 : decode cX1_queueNeighbours 83 = .ok (.sipush 2401, 3) := by decide +kernel
theorem dX1_queueNeighbours_86 : decode cX1_queueNeighbours 86 = .ok (.if_icmp .ge 22, 3) := by decide +kernel
theorem dX1_queueNeighbours_89 : decode cX1_queueNeighbours 89 = .ok (.aload_n 0, 1) := by decide +kernel
theorem dX1_queueNeighbours_90 : decode cX1_queueNeighbours 90 = .ok (.getfield 9, 3) := by decide +kernel
theorem dX1_queueNeighbours_93 : decode cX1_queueNeighbours 93 = .ok (.iload 8, 2) := by decide +kernel
theorem dX1_queueNeighbours_95 : decode cX1_queueNeighbours 95 = .ok (.iconst 0, 1) := by decide +kernel
theorem dX1_queueNeighbours_96 : decode cX1_queueNeighbours 96 = .ok (.bastore, 1) := by decide +kernel
theorem dX1_queueNeighbours_97 : decode cX1_queueNeighbours 97 = .ok (.aload_n 0, 1) := by decide +kernel
theorem dX1_queueNeighbours_98 : decode cX1_queueNeighbours 98 = .ok (.getfield 15, 3) := by decide +kernel
theorem dX1_queueNeighbours_101 : decode cX1_queueNeighbours 101 = .ok (.iload_n 3, 1) := by decide +kernel
theorem dX1_queueNeighbours_102 : decode cX1_queueNeighbours 102 = .ok (.iload 8, 2) := by decide +kernel
theorem dX1_queueNeighbours_104 : decode cX1_queueNeighbours 104 = .ok (.iastore, 1) := by decide +kernel
theorem dX1_queueNeighbours_105 : decode cX1_queueNeighbours 105 = .ok (.iinc 3 1, 3) := by decide +kernel
theorem dX1_queueNeighbours_108 : decode cX1_queueNeighbours 108 = .ok (.iinc 7 1, 3) := by decide +kernel
theorem dX1_queueNeighbours_111 : decode cX1_queueNeighbours 111 = .ok (.goto (-63), 3) := by decide +kernel
theorem dX1_queueNeighbours_114 : decode cX1_queueNeighbours 114 = .ok (.iinc 6 1, 3) := by decide +kernel
theorem dX1_queueNeighbours_117 : decode cX1_queueNeighbours 117 = .ok (.goto (-93), 3) := by decide +kernel
theorem dX1_queueNeighbours_120 : decode cX1_queueNeighbours 120 = .ok (.iload_n 3, 1) := by decide +kernel
theorem dX1_queueNeighbours_121 : decode cX1_queueNeighbours 121 = .ok (.ireturn, 1) := by decide +kernel
theorem dX2_init_0 : decode cX2_init 0 = .ok (.aload_n 0, 1) := by decide +kernel
theorem dX2_init_1 : decode cX2_init 1 = .ok (.invokespecial 3, 3) := by decide +kernel
theorem dX2_init_4 : decode cX2_init 4 = .ok (.aload_n 0, 1) := by decide +kernel
theorem dX2_init_5 : decode cX2_init 5 = .ok (.bipush 8, 2) := by decide +kernel
theorem dX2_init_7 : decode cX2_init 7 = .ok (.bipush 6, 2) := by decide +kernel
theorem dX2_init_9 : decode cX2_init 9 = .ok (.multianewarray 9 2, 4) := by decide +kernel
theorem dX2_init_13 : decode cX2_init 13 = .ok (.putfield 11, 3) := by decide +kernel
theorem dX2_init_16 : decode cX2_init 16 = .ok (.return_, 1) := by decide +kernel
theorem dX2_add_0 : decode cX2_add 0 = .ok (.aload_n 0, 1) := by decide +kernel
theorem dX2_add_1 : decode cX2_add 1 = .ok (.getfield 16, 3) := by decide +kernel
theorem dX2_add_4 : decode cX2_add 4 = .ok (.istore 5, 2) := by decide +kernel
theorem dX2_add_6 : decode cX2_add 6 = .ok (.aload_n 0, 1) := by decide +kernel
theorem dX2_add_7 : decode cX2_add 7 = .ok (.getfield 11, 3) := by decide +kernel
theorem dX2_add_10 : decode cX2_add 10 = .ok (.iload 5, 2) := by decide +kernel
theorem dX2_add_12 : decode cX2_add 12 = .ok (.aaload, 1) := by decide +kernel
theorem dX2_add_13 : decode cX2_add 13 = .ok (.astore 6, 2) := by decide +kernel
theorem dX2_add_15 : decode cX2_add 15 = .ok (.aload 6, 2) := by decide +kernel
theorem dX2_add_17 : decode cX2_add 17 = .ok (.iconst 0, 1) := by decide +kernel
theorem dX2_add_18 : decode cX2_add 18 = .ok (.iload_n 1, 1) := by decide +kernel
theorem dX2_add_19 : decode cX2_add 19 = .ok (.iastore, 1) := by decide +kernel
theorem dX2_add_20 : decode cX2_add 20 = .ok (.aload 6, 2) := by decide +kernel
theorem dX2_add_22 : decode cX2_add 22 = .ok (.iconst 1, 1) := by decide +kernel
theorem dX2_add_23 : decode cX2_add 23 = .ok (.iload_n 2, 1) := by decide +kernel
theorem dX2_add_24 : decode cX2_add 24 = .ok (.iastore, 1) := by decide +kernel
theorem dX2_add_25 : decode cX2_add 25 = .ok (.aload 6, 2) := by decide +kernel
theorem dX2_add_27 : decode cX2_add 27 = .ok (.iconst 2, 1) := by decide +kernel
theorem dX2_add_28 : decode cX2_add 28 = .ok (.iload_n 3, 1) := by decide +kernel
theorem dX2_add_29 : decode cX2_add 29 = .ok (.iastore, 1) := by decide +kernel
theorem dX2_add_30 : decode cX2_add 30 = .ok (.aload 6, 2) := by decide +kernel
theorem dX2_add_32 : decode cX2_add 32 = .ok (.iconst 3, 1) := by decide +kernel
theorem dX2_add_33 : decode cX2_add 33 = .ok (.iload 4, 2) := by decide +kernel
theorem dX2_add_35 : decode cX2_add 35 = .ok (.iastore, 1) := by decide +kernel
theorem dX2_add_36 : decode cX2_add 36 = .ok (.aload 6, 2) := by decide +kernel
theorem dX2_add_38 : decode cX2_add 38 = .ok (.iconst 4, 1) := by decide +kernel
theorem dX2_add_39 : decode cX2_add 39 = .ok (.iconst 0, 1) := by decide +kernel
theorem dX2_add_40 : decode cX2_add 40 = .ok (.iastore, 1) := by decide +kernel
theorem dX2_add_41 : decode cX2_add 41 = .ok (.aload 6, 2) := by decide +kernel
theorem dX2_add_43 : decode cX2_add 43 = .ok (.iconst 5, 1) := by decide +kernel
theorem dX2_add_44 : decode cX2_add 44 = .ok (.getstatic 20, 3) := by decide +kernel
theorem dX2_add_47 : decode cX2_add 47 = .ok (.iconst 5, 1) := by decide +kernel
theorem dX2_add_48 : decode cX2_add 48 = .ok (.iaload, 1) := by decide +kernel
theorem dX2_add_49 : decode cX2_add 49 = .ok (.iastore, 1) := by decide +kernel
theorem dX2_add_50 : decode cX2_add 50 = .ok (.aload_n 0, 1) := by decide +kernel
theorem dX2_add_51 : decode cX2_add 51 = .ok (.dup, 1) := by decide +kernel
theorem dX2_add_52 : decode cX2_add 52 = .ok (.getfield 16, 3) := by decide +kernel
theorem dX2_add_55 : decode cX2_add 55 = .ok (.iconst 1, 1) := by decide +kernel
theorem dX2_add_56 : decode cX2_add 56 = .ok (.iadd, 1) := by decide +kernel
theorem dX2_add_57 : decode cX2_add 57 = .ok (.putfield 16, 3) := by decide +kernel
theorem dX2_add_60 : decode cX2_add 60 = .ok (.iload 5, 2) := by decide +kernel
theorem dX2_add_62 : decode cX2_add 62 = .ok (.ireturn, 1) := by decide +kernel
theorem dX2_weights_0 : decode cX2_weights 0 = .ok (.iconst 0, 1) := by decide +kernel
theorem dX2_weights_1 : decode cX2_weights 1 = .ok (.istore_n 1, 1) := by decide +kernel
theorem dX2_weights_2 : decode cX2_weights 2 = .ok (.iconst 0, 1) := by decide +kernel
theorem dX2_weights_3 : decode cX2_weights 3 = .ok (.istore_n 2, 1) := by decide +kernel
theorem dX2_weights_4 : decode cX2_weights 4 = .ok (.iload_n 2, 1) := by decide +kernel
theorem dX2_weights_5 : decode cX2_weights 5 = .ok (.aload_n 0, 1) := by decide +kernel
theorem dX2_weights_6 : decode cX2_weights 6 = .ok (.getfield 16, 3) := by decide +kernel
theorem dX2_weights_9 : decode cX2_weights 9 = .ok (.if_icmp .ge 20, 3) := by decide +kernel
theorem dX2_weights_12 : decode cX2_weights 12 = .ok (.iload_n 1, 1) := by decide +kernel
theorem dX2_weights_13 : decode cX2_weights 13 = .ok (.aload_n 0, 1) := by decide +kernel
theorem dX2_weights_14 : decode cX2_weights 14 = .ok (.getfield 11, 3) := by decide +kernel
theorem dX2_weights_17 : decode cX2_weights 17 = .ok (.iload_n 2, 1) := by decide +kernel
theorem dX2_weights_18 : decode cX2_weights 18 = .ok (.aaload, 1) := by decide +kernel
theorem dX2_weights_19 : decode cX2_weights 19 = .ok (.iconst 3, 1) := by decide +kernel
theorem dX2_weights_20 : decode cX2_weights 20 = .ok (.iaload, 1) := by decide +kernel
theorem dX2_weights_21 : decode cX2_weights 21 = .ok (.iadd, 1) := by decide +kernel
theorem dX2_weights_22 : decode cX2_weights 22 = .ok (.istore_n 1, 1) := by decide +kernel
theorem dX2_weights_23 : decode cX2_weights 23 = .ok (.iinc 2 1, 3) := by decide +kernel
theorem dX2_weights_26 : decode cX2_weights 26 = .ok (.goto (-22), 3) := by decide +kernel
theorem dX2_weights_29 : decode cX2_weights 29 = .ok (.iload_n 1, 1) := by decide +kernel
theorem dX2_weights_30 : decode cX2_weights 30 = .ok (.ireturn, 1) := by decide +kernel
theorem dX2_lightAt_0 : decode cX2_lightAt 0 = .ok (.aload_n 0, 1) := by decide +kernel
theorem dX2_lightAt_1 : decode cX2_lightAt 1 = .ok (.iconst 0, 1) := by decide +kernel
theorem dX2_lightAt_2 : decode cX2_lightAt 2 = .ok (.iload_n 1, 1) := by decide +kernel
theorem dX2_lightAt_3 : decode cX2_lightAt 3 = .ok (.iload_n 2, 1) := by decide +kernel
theorem dX2_lightAt_4 : decode cX2_lightAt 4 = .ok (.iload_n 3, 1) := by decide +kernel
theorem dX2_lightAt_5 : decode cX2_lightAt 5 = .ok (.invokevirtual 24, 3) := by decide +kernel
theorem dX2_lightAt_8 : decode cX2_lightAt 8 = .ok (.ireturn, 1) := by decide +kernel
theorem dX2_lightPast_0 : decode cX2_lightPast 0 = .ok (.iload 4, 2) := by decide +kernel
theorem dX2_lightPast_2 : decode cX2_lightPast 2 = .ok (.ifCond .ne 24, 3) := by decide +kernel
theorem dX2_lightPast_5 : decode cX2_lightPast 5 = .ok (.bipush 16, 2) := by decide +kernel
theorem dX2_lightPast_7 : decode cX2_lightPast 7 = .ok (.iload_n 2, 1) := by decide +kernel
theorem dX2_lightPast_8 : decode cX2_lightPast 8 = .ok (.imul, 1) := by decide +kernel
theorem dX2_lightPast_9 : decode cX2_lightPast 9 = .ok (.aload_n 0, 1) := by decide +kernel
theorem dX2_lightPast_10 : decode cX2_lightPast 10 = .ok (.getfield 28, 3) := by decide +kernel
theorem dX2_lightPast_13 : decode cX2_lightPast 13 = .ok (.iload_n 2, 1) := by decide +kernel
theorem dX2_lightPast_14 : decode cX2_lightPast 14 = .ok (.imul, 1) := by decide +kernel
theorem dX2_lightPast_15 : decode cX2_lightPast 15 = .ok (.aload_n 0, 1) := by decide +kernel
theorem dX2_lightPast_16 : decode cX2_lightPast 16 = .ok (.getfield 31, 3) := by decide +kernel
theorem dX2_lightPast_19 : decode cX2_lightPast 19 = .ok (.iload_n 3, 1) := by decide +kernel
theorem dX2_lightPast_20 : decode cX2_lightPast 20 = .ok (.imul, 1) := by decide +kernel
theorem dX2_lightPast_21 : decode cX2_lightPast 21 = .ok (.iadd, 1) := by decide +kernel
theorem dX2_lightPast_22 : decode cX2_lightPast 22 = .ok (.isub, 1) := by decide +kernel
theorem dX2_lightPast_23 : decode cX2_lightPast 23 = .ok (.goto 21, 3) := by decide +kernel
theorem dX2_lightPast_26 : decode cX2_lightPast 26 = .ok (.bipush 16, 2) := by decide +kernel
theorem dX2_lightPast_28 : decode cX2_lightPast 28 = .ok (.iload_n 3, 1) := by decide +kernel
theorem dX2_lightPast_29 : decode cX2_lightPast 29 = .ok (.imul, 1) := by decide +kernel
theorem dX2_lightPast_30 : decode cX2_lightPast 30 = .ok (.aload_n 0, 1) := by decide +kernel
theorem dX2_lightPast_31 : decode cX2_lightPast 31 = .ok (.getfield 31, 3) := by decide +kernel
theorem dX2_lightPast_34 : decode cX2_lightPast 34 = .ok (.iload_n 2, 1) := by decide +kernel
theorem dX2_lightPast_35 : decode cX2_lightPast 35 = .ok (.imul, 1) := by decide +kernel
theorem dX2_lightPast_36 : decode cX2_lightPast 36 = .ok (.aload_n 0, 1) := by decide +kernel
theorem dX2_lightPast_37 : decode cX2_lightPast 37 = .ok (.getfield 28, 3) := by decide +kernel
theorem dX2_lightPast_40 : decode cX2_lightPast 40 = .ok (.iload_n 3, 1) := by decide +kernel
theorem dX2_lightPast_41 : decode cX2_lightPast 41 = .ok (.imul, 1) := by decide +kernel
theorem dX2_lightPast_42 : decode cX2_lightPast 42 = .ok (.isub, 1) := by decide +kernel
theorem dX2_lightPast_43 : decode cX2_lightPast 43 = .ok (.isub, 1) := by decide +kernel
theorem dX2_lightPast_44 : decode cX2_lightPast 44 = .ok (.istore 5, 2) := by decide +kernel
theorem dX2_lightPast_46 : decode cX2_lightPast 46 = .ok (.iload_n 1, 1) := by decide +kernel
theorem dX2_lightPast_47 : decode cX2_lightPast 47 = .ok (.istore 6, 2) := by decide +kernel
theorem dX2_lightPast_49 : decode cX2_lightPast 49 = .ok (.iload 6, 2) := by decide +kernel
theorem dX2_lightPast_51 : decode cX2_lightPast 51 = .ok (.aload_n 0, 1) := by decide +kernel
theorem dX2_lightPast_52 : decode cX2_lightPast 52 = .ok (.getfield 16, 3) := by decide +kernel
theorem dX2_lightPast_55 : decode cX2_lightPast 55 = .ok (.if_icmp .ge 46, 3) := by decide +kernel
theorem dX2_lightPast_58 : decode cX2_lightPast 58 = .ok (.iload 5, 2) := by decide +kernel
theorem dX2_lightPast_60 : decode cX2_lightPast 60 = .ok (.aload_n 0, 1) := by decide +kernel
theorem dX2_lightPast_61 : decode cX2_lightPast 61 = .ok (.getfield 11, 3) := by decide +kernel
theorem dX2_lightPast_64 : decode cX2_lightPast 64 = .ok (.iload 6, 2) := by decide +kernel
theorem dX2_lightPast_66 : decode cX2_lightPast 66 = .ok (.aaload, 1) := by decide +kernel
theorem dX2_lightPast_67 : decode cX2_lightPast 67 = .ok (.iconst 0, 1) := by decide +kernel
theorem dX2_lightPast_68 : decode cX2_lightPast 68 = .ok (.iaload, 1) := by decide +kernel
theorem dX2_lightPast_69 : decode cX2_lightPast 69 = .ok (.aload_n 0, 1) := by decide +kernel
theorem dX2_lightPast_70 : decode cX2_lightPast 70 = .ok (.getfield 11, 3) := by decide +kernel
theorem dX2_lightPast_73 : decode cX2_lightPast 73 = .ok (.iload 6, 2) := by decide +kernel
theorem dX2_lightPast_75 : decode cX2_lightPast 75 = .ok (.aaload, 1) := by decide +kernel
theorem dX2_lightPast_76 : decode cX2_lightPast 76 = .ok (.aload_n 0, 1) := by decide +kernel
theorem dX2_lightPast_77 : decode cX2_lightPast 77 = .ok (.getfield 11, 3) := by decide +kernel
theorem dX2_lightPast_80 : decode cX2_lightPast 80 = .ok (.iload 6, 2) := by decide +kernel
theorem dX2_lightPast_82 : decode cX2_lightPast 82 = .ok (.aaload, 1) := by decide +kernel
theorem dX2_lightPast_83 : decode cX2_lightPast 83 = .ok (.iconst 3, 1) := by decide +kernel
theorem dX2_lightPast_84 : decode cX2_lightPast 84 = .ok (.iaload, 1) := by decide +kernel
theorem dX2_lightPast_85 : decode cX2_lightPast 85 = .ok (.iload_n 2, 1) := by decide +kernel
theorem dX2_lightPast_86 : decode cX2_lightPast 86 = .ok (.iload_n 3, 1) := by decide +kernel
theorem dX2_lightPast_87 : decode cX2_lightPast 87 = .ok (.iload 4, 2) := by decide +kernel
theorem dX2_lightPast_89 : decode cX2_lightPast 89 = .ok (.invokestatic 34, 3) := by decide +kernel
theorem dX2_lightPast_92 : decode cX2_lightPast 92 = .ok (.isub, 1) := by decide +kernel
theorem dX2_lightPast_93 : decode cX2_lightPast 93 = .ok (.istore 5, 2) := by decide +kernel
theorem dX2_lightPast_95 : decode cX2_lightPast 95 = .ok (.iinc 6 1, 3) := by decide +kernel
theorem dX2_lightPast_98 : decode cX2_lightPast 98 = .ok (.goto (-49), 3) := by decide +kernel
theorem dX2_lightPast_101 : decode cX2_lightPast 101 = .ok (.iload 5, 2) := by decide +kernel
theorem dX2_lightPast_103 : decode cX2_lightPast 103 = .ok (.ireturn, 1) := by decide +kernel
theorem dX2_bendBy_0 : decode cX2_bendBy 0 = .ok (.aload_n 1, 1) := by decide +kernel
theorem dX2_bendBy_1 : decode cX2_bendBy 1 = .ok (.iload_n 3, 1) := by decide +kernel
theorem dX2_bendBy_2 : decode cX2_bendBy 2 = .ok (.iload 4, 2) := by decide +kernel
theorem dX2_bendBy_4 : decode cX2_bendBy 4 = .ok (.invokestatic 38, 3) := by decide +kernel
theorem dX2_bendBy_7 : decode cX2_bendBy 7 = .ok (.istore 6, 2) := by decide +kernel
theorem dX2_bendBy_9 : decode cX2_bendBy 9 = .ok (.iload 6, 2) := by decide +kernel
theorem dX2_bendBy_11 : decode cX2_bendBy 11 = .ok (.ifCond .eq 17, 3) := by decide +kernel
theorem dX2_bendBy_14 : decode cX2_bendBy 14 = .ok (.iload_n 0, 1) := by decide +kernel
theorem dX2_bendBy_15 : decode cX2_bendBy 15 = .ok (.iconst 2, 1) := by decide +kernel
theorem dX2_bendBy_16 : decode cX2_bendBy 16 = .ok (.if_icmp .ne 14, 3) := by decide +kernel
theorem dX2_bendBy_19 : decode cX2_bendBy 19 = .ok (.aload_n 1, 1) := by decide +kernel
theorem dX2_bendBy_20 : decode cX2_bendBy 20 = .ok (.iload 6, 2) := by decide +kernel
theorem dX2_bendBy_22 : decode cX2_bendBy 22 = .ok (.invokestatic 42, 3) := by decide +kernel
theorem dX2_bendBy_25 : decode cX2_bendBy 25 = .ok (.ifCond .eq 5, 3) := by decide +kernel
theorem dX2_bendBy_28 : decode cX2_bendBy 28 = .ok (.iconst 0, 1) := by decide +kernel
theorem dX2_bendBy_29 : decode cX2_bendBy 29 = .ok (.ireturn, 1) := by decide +kernel
theorem dX2_bendBy_30 : decode cX2_bendBy 30 = .ok (.bipush 16, 2) := by decide +kernel
theorem dX2_bendBy_32 : decode cX2_bendBy 32 = .ok (.iload_n 2, 1) := by decide +kernel
theorem dX2_bendBy_33 : decode cX2_bendBy 33 = .ok (.imul, 1) := by decide +kernel
theorem dX2_bendBy_34 : decode cX2_bendBy 34 = .ok (.iload 5, 2) := by decide +kernel
theorem dX2_bendBy_36 : decode cX2_bendBy 36 = .ok (.ifCond .ne 11, 3) := by decide +kernel
theorem dX2_bendBy_39 : decode cX2_bendBy 39 = .ok (.iload_n 3, 1) := by decide +kernel
theorem dX2_bendBy_40 : decode cX2_bendBy 40 = .ok (.aload_n 1, 1) := by decide +kernel
theorem dX2_bendBy_41 : decode cX2_bendBy 41 = .ok (.iconst 1, 1) := by decide +kernel
theorem dX2_bendBy_42 : decode cX2_bendBy 42 = .ok (.iaload, 1) := by decide +kernel
theorem dX2_bendBy_43 : decode cX2_bendBy 43 = .ok (.isub, 1) := by decide +kernel
theorem dX2_bendBy_44 : decode cX2_bendBy 44 = .ok (.goto 9, 3) := by decide +kernel
theorem dX2_bendBy_47 : decode cX2_bendBy 47 = .ok (.iload 4, 2) := by decide +kernel
theorem dX2_bendBy_49 : decode cX2_bendBy 49 = .ok (.aload_n 1, 1) := by decide +kernel
theorem dX2_bendBy_50 : decode cX2_bendBy 50 = .ok (.iconst 2, 1) := by decide +kernel
theorem dX2_bendBy_51 : decode cX2_bendBy 51 = .ok (.iaload, 1) := by decide +kernel
theorem dX2_bendBy_52 : decode cX2_bendBy 52 = .ok (.isub, 1) := by decide +kernel
theorem dX2_bendBy_53 : decode cX2_bendBy 53 = .ok (.imul, 1) := by decide +kernel
theorem dX2_bendBy_54 : decode cX2_bendBy 54 = .ok (.iload 6, 2) := by decide +kernel
theorem dX2_bendBy_56 : decode cX2_bendBy 56 = .ok (.idiv, 1) := by decide +kernel
theorem dX2_bendBy_57 : decode cX2_bendBy 57 = .ok (.istore 7, 2) := by decide +kernel
theorem dX2_bendBy_59 : decode cX2_bendBy 59 = .ok (.iload_n 0, 1) := by decide +kernel
theorem dX2_bendBy_60 : decode cX2_bendBy 60 = .ok (.ifCond .ne 8, 3) := by decide +kernel
theorem dX2_bendBy_63 : decode cX2_bendBy 63 = .ok (.iload 7, 2) := by decide +kernel
theorem dX2_bendBy_65 : decode cX2_bendBy 65 = .ok (.goto 15, 3) := by decide +kernel
theorem dX2_bendBy_68 : decode cX2_bendBy 68 = .ok (.iload 7, 2) := by decide +kernel
theorem dX2_bendBy_70 : decode cX2_bendBy 70 = .ok (.iload 6, 2) := by decide +kernel
theorem dX2_bendBy_72 : decode cX2_bendBy 72 = .ok (.imul, 1) := by decide +kernel
theorem dX2_bendBy_73 : decode cX2_bendBy 73 = .ok (.iload 6, 2) := by decide +kernel
theorem dX2_bendBy_75 : decode cX2_bendBy 75 = .ok (.aload_n 1, 1) := by decide +kernel
theorem dX2_bendBy_76 : decode cX2_bendBy 76 = .ok (.iconst 4, 1) := by decide +kernel
theorem dX2_bendBy_77 : decode cX2_bendBy 77 = .ok (.iaload, 1) := by decide +kernel
theorem dX2_bendBy_78 : decode cX2_bendBy 78 = .ok (.iadd, 1) := by decide +kernel
theorem dX2_bendBy_79 : decode cX2_bendBy 79 = .ok (.idiv, 1) := by decide +kernel
theorem dX2_bendBy_80 : decode cX2_bendBy 80 = .ok (.ireturn, 1) := by decide +kernel
theorem dX2_askedBy_0 : decode cX2_askedBy 0 = .ok (.iload_n 0, 1) := by decide +kernel
theorem dX2_askedBy_1 : decode cX2_askedBy 1 = .ok (.lookupswitch 32 #[(0, 27), (1, 29)], 27) := by decide +kernel
theorem dX2_askedBy_28 : decode cX2_askedBy 28 = .ok (.iconst 1, 1) := by decide +kernel
theorem dX2_askedBy_29 : decode cX2_askedBy 29 = .ok (.ireturn, 1) := by decide +kernel
theorem dX2_askedBy_30 : decode cX2_askedBy 30 = .ok (.bipush 11, 2) := by decide +kernel
theorem dX2_askedBy_32 : decode cX2_askedBy 32 = .ok (.ireturn, 1) := by decide +kernel
theorem dX2_askedBy_33 : decode cX2_askedBy 33 = .ok (.bipush 111, 2) := by decide +kernel
theorem dX2_askedBy_35 : decode cX2_askedBy 35 = .ok (.ireturn, 1) := by decide +kernel
theorem dX2_isCutAway_0 : decode cX2_isCutAway 0 = .ok (.iload_n 1, 1) := by decide +kernel
theorem dX2_isCutAway_1 : decode cX2_isCutAway 1 = .ok (.aload_n 0, 1) := by decide +kernel
theorem dX2_isCutAway_2 : decode cX2_isCutAway 2 = .ok (.iconst 5, 1) := by decide +kernel
theorem dX2_isCutAway_3 : decode cX2_isCutAway 3 = .ok (.iaload, 1) := by decide +kernel
theorem dX2_isCutAway_4 : decode cX2_isCutAway 4 = .ok (.aload_n 0, 1) := by decide +kernel
theorem dX2_isCutAway_5 : decode cX2_isCutAway 5 = .ok (.iconst 5, 1) := by decide +kernel
theorem dX2_isCutAway_6 : decode cX2_isCutAway 6 = .ok (.iaload, 1) := by decide +kernel
theorem dX2_isCutAway_7 : decode cX2_isCutAway 7 = .ok (.imul, 1) := by decide +kernel
theorem dX2_isCutAway_8 : decode cX2_isCutAway 8 = .ok (.if_icmp .le 7, 3) := by decide +kernel
theorem dX2_isCutAway_11 : decode cX2_isCutAway 11 = .ok (.iconst 1, 1) := by decide +kernel
theorem dX2_isCutAway_12 : decode cX2_isCutAway 12 = .ok (.goto 4, 3) := by decide +kernel
theorem dX2_isCutAway_15 : decode cX2_isCutAway 15 = .ok (.iconst 0, 1) := by decide +kernel
theorem dX2_isCutAway_16 : decode cX2_isCutAway 16 = .ok (.ireturn, 1) := by decide +kernel
theorem dX2_squares_0 : decode cX2_squares 0 = .ok (.iload_n 1, 1) := by decide +kernel
theorem dX2_squares_1 : decode cX2_squares 1 = .ok (.aload_n 0, 1) := by decide +kernel
theorem dX2_squares_2 : decode cX2_squares 2 = .ok (.iconst 1, 1) := by decide +kernel
theorem dX2_squares_3 : decode cX2_squares 3 = .ok (.iaload, 1) := by decide +kernel
theorem dX2_squares_4 : decode cX2_squares 4 = .ok (.isub, 1) := by decide +kernel
theorem dX2_squares_5 : decode cX2_squares 5 = .ok (.istore_n 3, 1) := by decide +kernel
theorem dX2_squares_6 : decode cX2_squares 6 = .ok (.iload_n 2, 1) := by decide +kernel
theorem dX2_squares_7 : decode cX2_squares 7 = .ok (.aload_n 0, 1) := by decide +kernel
theorem dX2_squares_8 : decode cX2_squares 8 = .ok (.iconst 2, 1) := by decide +kernel
theorem dX2_squares_9 : decode cX2_squares 9 = .ok (.iaload, 1) := by decide +kernel
theorem dX2_squares_10 : decode cX2_squares 10 = .ok (.isub, 1) := by decide +kernel
theorem dX2_squares_11 : decode cX2_squares 11 = .ok (.istore 4, 2) := by decide +kernel
theorem dX2_squares_13 : decode cX2_squares 13 = .ok (.iload_n 3, 1) := by decide +kernel
theorem dX2_squares_14 : decode cX2_squares 14 = .ok (.iload_n 3, 1) := by decide +kernel
theorem dX2_squares_15 : decode cX2_squares 15 = .ok (.imul, 1) := by decide +kernel
theorem dX2_squares_16 : decode cX2_squares 16 = .ok (.iload 4, 2) := by decide +kernel
theorem dX2_squares_18 : decode cX2_squares 18 = .ok (.iload 4, 2) := by decide +kernel
theorem dX2_squares_20 : decode cX2_squares 20 = .ok (.imul, 1) := by decide +kernel
theorem dX2_squares_21 : decode cX2_squares 21 = .ok (.iadd, 1) := by decide +kernel
theorem dX2_squares_22 : decode cX2_squares 22 = .ok (.ireturn, 1) := by decide +kernel
theorem dX3_init_0 : decode cX3_init 0 = .ok (.aload_n 0, 1) := by decide +kernel
theorem dX3_init_1 : decode cX3_init 1 = .ok (.invokespecial 3, 3) := by decide +kernel
theorem dX3_init_4 : decode cX3_init 4 = .ok (.aload_n 0, 1) := by decide +kernel
theorem dX3_init_5 : decode cX3_init 5 = .ok (.sipush 2601, 3) := by decide +kernel
theorem dX3_init_8 : decode cX3_init 8 = .ok (.newarray .int, 2) := by decide +kernel
theorem dX3_init_10 : decode cX3_init 10 = .ok (.putfield 9, 3) := by decide +kernel
theorem dX3_init_13 : decode cX3_init 13 = .ok (.aload_n 0, 1) := by decide +kernel
theorem dX3_init_14 : decode cX3_init 14 = .ok (.sipush 2601, 3) := by decide +kernel
theorem dX3_init_17 : decode cX3_init 17 = .ok (.newarray .int, 2) := by decide +kernel
theorem dX3_init_19 : decode cX3_init 19 = .ok (.putfield 15, 3) := by decide +kernel
theorem dX3_init_22 : decode cX3_init 22 = .ok (.aload_n 0, 1) := by decide +kernel
theorem dX3_init_23 : decode cX3_init 23 = .ok (.sipush 2401, 3) := by decide +kernel
theorem dX3_init_26 : decode cX3_init 26 = .ok (.newarray .int, 2) := by decide +kernel
theorem dX3_init_28 : decode cX3_init 28 = .ok (.putfield 18, 3) := by decide +kernel
theorem dX3_init_31 : decode cX3_init 31 = .ok (.aload_n 0, 1) := by decide +kernel
theorem dX3_init_32 : decode cX3_init 32 = .ok (.sipush 2401, 3) := by decide +kernel
theorem dX3_init_35 : decode cX3_init 35 = .ok (.newarray .int, 2) := by decide +kernel
theorem dX3_init_37 : decode cX3_init 37 = .ok (.putfield 21, 3) := by decide +kernel
theorem dX3_init_40 : decode cX3_init 40 = .ok (.aload_n 0, 1) := by decide +kernel
theorem dX3_init_41 : decode cX3_init 41 = .ok (.iconst 1, 1) := by decide +kernel
theorem dX3_init_42 : decode cX3_init 42 = .ok (.putfield 24, 3) := by decide +kernel
theorem dX3_init_45 : decode cX3_init 45 = .ok (.aload_n 0, 1) := by decide +kernel
theorem dX3_init_46 : decode cX3_init 46 = .ok (.aload_n 1, 1) := by decide +kernel
theorem dX3_init_47 : decode cX3_init 47 = .ok (.putfield 28, 3) := by decide +kernel
theorem dX3_init_50 : decode cX3_init 50 = .ok (.return_, 1) := by decide +kernel
theorem dX3_lookAnew_0 : decode cX3_lookAnew 0 = .ok (.aload_n 0, 1) := by decide +kernel
theorem dX3_lookAnew_1 : decode cX3_lookAnew 1 = .ok (.getfield 24, 3) := by decide +kernel
theorem dX3_lookAnew_4 : decode cX3_lookAnew 4 = .ok (.ifCond .ne 4, 3) := by decide +kernel
theorem dX3_lookAnew_7 : decode cX3_lookAnew 7 = .ok (.return_, 1) := by decide +kernel
theorem dX3_lookAnew_8 : decode cX3_lookAnew 8 = .ok (.bipush (-25), 2) := by decide +kernel
theorem dX3_lookAnew_10 : decode cX3_lookAnew 10 = .ok (.istore_n 1, 1) := by decide +kernel
theorem dX3_lookAnew_11 : decode cX3_lookAnew 11 = .ok (.iload_n 1, 1) := by decide +kernel
theorem dX3_lookAnew_12 : decode cX3_lookAnew 12 = .ok (.bipush 25, 2) := by decide +kernel
theorem dX3_lookAnew_14 : decode cX3_lookAnew 14 = .ok (.if_icmp .gt 62, 3) := by decide +kernel
theorem dX3_lookAnew_17 : decode cX3_lookAnew 17 = .ok (.bipush (-25), 2) := by decide +kernel
theorem dX3_lookAnew_19 : decode cX3_lookAnew 19 = .ok (.istore_n 2, 1) := by decide +kernel
theorem dX3_lookAnew_20 : decode cX3_lookAnew 20 = .ok (.iload_n 2, 1) := by decide +kernel
theorem dX3_lookAnew_21 : decode cX3_lookAnew 21 = .ok (.bipush 25, 2) := by decide +kernel
theorem dX3_lookAnew_23 : decode cX3_lookAnew 23 = .ok (.if_icmp .gt 47, 3) := by decide +kernel
theorem dX3_lookAnew_26 : decode cX3_lookAnew 26 = .ok (.iload_n 2, 1) := by decide +kernel
theorem dX3_lookAnew_27 : decode cX3_lookAnew 27 = .ok (.iload_n 1, 1) := by decide +kernel
theorem dX3_lookAnew_28 : decode cX3_lookAnew 28 = .ok (.invokestatic 32, 3) := by decide +kernel
theorem dX3_lookAnew_31 : decode cX3_lookAnew 31 = .ok (.istore_n 3, 1) := by decide +kernel
theorem dX3_lookAnew_32 : decode cX3_lookAnew 32 = .ok (.aload_n 0, 1) := by decide +kernel
theorem dX3_lookAnew_33 : decode cX3_lookAnew 33 = .ok (.getfield 9, 3) := by decide +kernel
theorem dX3_lookAnew_36 : decode cX3_lookAnew 36 = .ok (.iload_n 3, 1) := by decide +kernel
theorem dX3_lookAnew_37 : decode cX3_lookAnew 37 = .ok (.aload_n 0, 1) := by decide +kernel
theorem dX3_lookAnew_38 : decode cX3_lookAnew 38 = .ok (.getfield 28, 3) := by decide +kernel
theorem dX3_lookAnew_41 : decode cX3_lookAnew 41 = .ok (.iload_n 2, 1) := by decide +kernel
theorem dX3_lookAnew_42 : decode cX3_lookAnew 42 = .ok (.iload_n 1, 1) := by decide +kernel
theorem dX3_lookAnew_43 : decode cX3_lookAnew 43 = .ok (.iconst 0, 1) := by decide +kernel
theorem dX3_lookAnew_44 : decode cX3_lookAnew 44 = .ok (.invokevirtual 36, 3) := by decide +kernel
theorem dX3_lookAnew_47 : decode cX3_lookAnew 47 = .ok (.iastore, 1) := by decide +kernel
theorem dX3_lookAnew_48 : decode cX3_lookAnew 48 = .ok (.aload_n 0, 1) := by decide +kernel
theorem dX3_lookAnew_49 : decode cX3_lookAnew 49 = .ok (.getfield 15, 3) := by decide +kernel
theorem dX3_lookAnew_52 : decode cX3_lookAnew 52 = .ok (.iload_n 3, 1) := by decide +kernel
theorem dX3_lookAnew_53 : decode cX3_lookAnew 53 = .ok (.aload_n 0, 1) := by decide +kernel
theorem dX3_lookAnew_54 : decode cX3_lookAnew 54 = .ok (.getfield 28, 3) := by decide +kernel
theorem dX3_lookAnew_57 : decode cX3_lookAnew 57 = .ok (.iload_n 2, 1) := by decide +kernel
theorem dX3_lookAnew_58 : decode cX3_lookAnew 58 = .ok (.iload_n 1, 1) := by decide +kernel
theorem dX3_lookAnew_59 : decode cX3_lookAnew 59 = .ok (.iconst 1, 1) := by decide +kernel
theorem dX3_lookAnew_60 : decode cX3_lookAnew 60 = .ok (.invokevirtual 36, 3) := by decide +kernel
theorem dX3_lookAnew_63 : decode cX3_lookAnew 63 = .ok (.iastore, 1) := by decide +kernel
theorem dX3_lookAnew_64 : decode cX3_lookAnew 64 = .ok (.iinc 2 1, 3) := by decide +kernel
theorem dX3_lookAnew_67 : decode cX3_lookAnew 67 = .ok (.goto (-47), 3) := by decide +kernel
theorem dX3_lookAnew_70 : decode cX3_lookAnew 70 = .ok (.iinc 1 1, 3) := by decide +kernel
theorem dX3_lookAnew_73 : decode cX3_lookAnew 73 = .ok (.goto (-62), 3) := by decide +kernel
theorem dX3_lookAnew_76 : decode cX3_lookAnew 76 = .ok (.iconst 0, 1) := by decide +kernel
theorem dX3_lookAnew_77 : decode cX3_lookAnew 77 = .ok (.istore_n 1, 1) := by decide +kernel
theorem dX3_lookAnew_78 : decode cX3_lookAnew 78 = .ok (.iload_n 1, 1) := by decide +kernel
theorem dX3_lookAnew_79 : decode cX3_lookAnew 79 = .ok (.sipush 2401, 3) := by decide +kernel
theorem dX3_lookAnew_82 : decode cX3_lookAnew 82 = .ok (.if_icmp .ge 59, 3) := by decide +kernel
theorem dX3_lookAnew_85 : decode cX3_lookAnew 85 = .ok (.iload_n 1, 1) := by decide +kernel
theorem dX3_lookAnew_86 : decode cX3_lookAnew 86 = .ok (.invokestatic 42, 3) := by decide +kernel
theorem dX3_lookAnew_89 : decode cX3_lookAnew 89 = .ok (.iload_n 1, 1) := by decide +kernel
theorem dX3_lookAnew_90 : decode cX3_lookAnew 90 = .ok (.invokestatic 46, 3) := by decide +kernel
theorem dX3_lookAnew_93 : decode cX3_lookAnew 93 = .ok (.invokestatic 32, 3) := by decide +kernel
theorem dX3_lookAnew_96 : decode cX3_lookAnew 96 = .ok (.istore_n 2, 1) := by decide +kernel
theorem dX3_lookAnew_97 : decode cX3_lookAnew 97 = .ok (.aload_n 0, 1) := by decide +kernel
theorem dX3_lookAnew_98 : decode cX3_lookAnew 98 = .ok (.getfield 18, 3) := by decide +kernel
theorem dX3_lookAnew_101 : decode cX3_lookAnew 101 = .ok (.iload_n 1, 1) := by decide +kernel
theorem dX3_lookAnew_102 : decode cX3_lookAnew 102 = .ok (.aload_n 0, 1) := by decide +kernel
theorem dX3_lookAnew_103 : decode cX3_lookAnew 103 = .ok (.getfield 9, 3) := by decide +kernel
theorem dX3_lookAnew_106 : decode cX3_lookAnew 106 = .ok (.iload_n 2, 1) := by decide +kernel
theorem dX3_lookAnew_107 : decode cX3_lookAnew 107 = .ok (.iaload, 1) := by decide +kernel
theorem dX3_lookAnew_108 : decode cX3_lookAnew 108 = .ok (.invokestatic 49, 3) := by decide +kernel
theorem dX3_lookAnew_111 : decode cX3_lookAnew 111 = .ok (.aload_n 0, 1) := by decide +kernel
theorem dX3_lookAnew_112 : decode cX3_lookAnew 112 = .ok (.getfield 15, 3) := by decide +kernel
theorem dX3_lookAnew_115 : decode cX3_lookAnew 115 = .ok (.iload_n 2, 1) := by decide +kernel
theorem dX3_lookAnew_116 : decode cX3_lookAnew 116 = .ok (.iaload, 1) := by decide +kernel
theorem dX3_lookAnew_117 : decode cX3_lookAnew 117 = .ok (.invokestatic 49, 3) := by decide +kernel
theorem dX3_lookAnew_120 : decode cX3_lookAnew 120 = .ok (.invokestatic 52, 3) := by decide +kernel
theorem dX3_lookAnew_123 : decode cX3_lookAnew 123 = .ok (.iastore, 1) := by decide +kernel
theorem dX3_lookAnew_124 : decode cX3_lookAnew 124 = .ok (.aload_n 0, 1) := by decide +kernel
theorem dX3_lookAnew_125 : decode cX3_lookAnew 125 = .ok (.getfield 21, 3) := by decide +kernel
theorem dX3_lookAnew_128 : decode cX3_lookAnew 128 = .ok (.iload_n 1, 1) := by decide +kernel
theorem dX3_lookAnew_129 : decode cX3_lookAnew 129 = .ok (.aload_n 0, 1) := by decide +kernel
theorem dX3_lookAnew_130 : decode cX3_lookAnew 130 = .ok (.iload_n 2, 1) := by decide +kernel
theorem dX3_lookAnew_131 : decode cX3_lookAnew 131 = .ok (.invokevirtual 55, 3) := by decide +kernel
theorem dX3_lookAnew_134 : decode cX3_lookAnew 134 = .ok (.iastore, 1) := by decide +kernel
theorem dX3_lookAnew_135 : decode cX3_lookAnew 135 = .ok (.iinc 1 1, 3) := by decide +kernel
theorem dX3_lookAnew_138 : decode cX3_lookAnew 138 = .ok (.goto (-60), 3) := by decide +kernel
theorem dX3_lookAnew_141 : decode cX3_lookAnew 141 = .ok (.aload_n 0, 1) := by decide +kernel
theorem dX3_lookAnew_142 : decode cX3_lookAnew 142 = .ok (.iconst 0, 1) := by decide +kernel
theorem dX3_lookAnew_143 : decode cX3_lookAnew 143 = .ok (.putfield 24, 3) := by decide +kernel
theorem dX3_lookAnew_146 : decode cX3_lookAnew 146 = .ok (.return_, 1) := by decide +kernel
theorem dX3_placeAt_0 : decode cX3_placeAt 0 = .ok (.iload_n 1, 1) := by decide +kernel
theorem dX3_placeAt_1 : decode cX3_placeAt 1 = .ok (.bipush 25, 2) := by decide +kernel
theorem dX3_placeAt_3 : decode cX3_placeAt 3 = .ok (.iadd, 1) := by decide +kernel
theorem dX3_placeAt_4 : decode cX3_placeAt 4 = .ok (.bipush 51, 2) := by decide +kernel
theorem dX3_placeAt_6 : decode cX3_placeAt 6 = .ok (.imul, 1) := by decide +kernel
theorem dX3_placeAt_7 : decode cX3_placeAt 7 = .ok (.iload_n 0, 1) := by decide +kernel
theorem dX3_placeAt_8 : decode cX3_placeAt 8 = .ok (.iadd, 1) := by decide +kernel
theorem dX3_placeAt_9 : decode cX3_placeAt 9 = .ok (.bipush 25, 2) := by decide +kernel
theorem dX3_placeAt_11 : decode cX3_placeAt 11 = .ok (.iadd, 1) := by decide +kernel
theorem dX3_placeAt_12 : decode cX3_placeAt 12 = .ok (.ireturn, 1) := by decide +kernel
theorem dX3_across_0 : decode cX3_across 0 = .ok (.aload_n 0, 1) := by decide +kernel
theorem dX3_across_1 : decode cX3_across 1 = .ok (.iload_n 1, 1) := by decide +kernel
theorem dX3_across_2 : decode cX3_across 2 = .ok (.iconst 1, 1) := by decide +kernel
theorem dX3_across_3 : decode cX3_across 3 = .ok (.iadd, 1) := by decide +kernel
theorem dX3_across_4 : decode cX3_across 4 = .ok (.iaload, 1) := by decide +kernel
theorem dX3_across_5 : decode cX3_across 5 = .ok (.aload_n 0, 1) := by decide +kernel
theorem dX3_across_6 : decode cX3_across 6 = .ok (.iload_n 1, 1) := by decide +kernel
theorem dX3_across_7 : decode cX3_across 7 = .ok (.iconst 1, 1) := by decide +kernel
theorem dX3_across_8 : decode cX3_across 8 = .ok (.isub, 1) := by decide +kernel
theorem dX3_across_9 : decode cX3_across 9 = .ok (.iaload, 1) := by decide +kernel
theorem dX3_across_10 : decode cX3_across 10 = .ok (.isub, 1) := by decide +kernel
theorem dX3_across_11 : decode cX3_across 11 = .ok (.ireturn, 1) := by decide +kernel
theorem dX3_down_0 : decode cX3_down 0 = .ok (.aload_n 0, 1) := by decide +kernel
theorem dX3_down_1 : decode cX3_down 1 = .ok (.iload_n 1, 1) := by decide +kernel
theorem dX3_down_2 : decode cX3_down 2 = .ok (.bipush 51, 2) := by decide +kernel
theorem dX3_down_4 : decode cX3_down 4 = .ok (.iadd, 1) := by decide +kernel
theorem dX3_down_5 : decode cX3_down 5 = .ok (.iaload, 1) := by decide +kernel
theorem dX3_down_6 : decode cX3_down 6 = .ok (.aload_n 0, 1) := by decide +kernel
theorem dX3_down_7 : decode cX3_down 7 = .ok (.iload_n 1, 1) := by decide +kernel
theorem dX3_down_8 : decode cX3_down 8 = .ok (.bipush 51, 2) := by decide +kernel
theorem dX3_down_10 : decode cX3_down 10 = .ok (.isub, 1) := by decide +kernel
theorem dX3_down_11 : decode cX3_down 11 = .ok (.iaload, 1) := by decide +kernel
theorem dX3_down_12 : decode cX3_down 12 = .ok (.isub, 1) := by decide +kernel
theorem dX3_down_13 : decode cX3_down 13 = .ok (.ireturn, 1) := by decide +kernel
theorem dX3_signOfArea_0 : decode cX3_signOfArea 0 = .ok (.aload_n 0, 1) := by decide +kernel
theorem dX3_signOfArea_1 : decode cX3_signOfArea 1 = .ok (.getfield 9, 3) := by decide +kernel
theorem dX3_signOfArea_4 : decode cX3_signOfArea 4 = .ok (.iload_n 1, 1) := by decide +kernel
theorem dX3_signOfArea_5 : decode cX3_signOfArea 5 = .ok (.invokestatic 58, 3) := by decide +kernel
theorem dX3_signOfArea_8 : decode cX3_signOfArea 8 = .ok (.i2l, 1) := by decide +kernel
theorem dX3_signOfArea_9 : decode cX3_signOfArea 9 = .ok (.aload_n 0, 1) := by decide +kernel
theorem dX3_signOfArea_10 : decode cX3_signOfArea 10 = .ok (.getfield 15, 3) := by decide +kernel
theorem dX3_signOfArea_13 : decode cX3_signOfArea 13 = .ok (.iload_n 1, 1) := by decide +kernel
theorem dX3_signOfArea_14 : decode cX3_signOfArea 14 = .ok (.invokestatic 62, 3) := by decide +kernel
theorem dX3_signOfArea_17 : decode cX3_signOfArea 17 = .ok (.i2l, 1) := by decide +kernel
theorem dX3_signOfArea_18 : decode cX3_signOfArea 18 = .ok (.lmul, 1) := by decide +kernel
theorem dX3_signOfArea_19 : decode cX3_signOfArea 19 = .ok (.lstore_n 2, 1) := by decide +kernel
theorem dX3_signOfArea_20 : decode cX3_signOfArea 20 = .ok (.aload_n 0, 1) := by decide +kernel
theorem dX3_signOfArea_21 : decode cX3_signOfArea 21 = .ok (.getfield 15, 3) := by decide +kernel
theorem dX3_signOfArea_24 : decode cX3_signOfArea 24 = .ok (.iload_n 1, 1) := by decide +kernel
theorem dX3_signOfArea_25 : decode cX3_signOfArea 25 = .ok (.invokestatic 58, 3) := by decide +kernel
theorem dX3_signOfArea_28 : decode cX3_signOfArea 28 = .ok (.i2l, 1) := by decide +kernel
theorem dX3_signOfArea_29 : decode cX3_signOfArea 29 = .ok (.aload_n 0, 1) := by decide +kernel
theorem dX3_signOfArea_30 : decode cX3_signOfArea 30 = .ok (.getfield 9, 3) := by decide +kernel
theorem dX3_signOfArea_33 : decode cX3_signOfArea 33 = .ok (.iload_n 1, 1) := by decide +kernel
theorem dX3_signOfArea_34 : decode cX3_signOfArea 34 = .ok (.invokestatic 62, 3) := by decide +kernel
theorem dX3_signOfArea_37 : decode cX3_signOfArea 37 = .ok (.i2l, 1) := by decide +kernel
theorem dX3_signOfArea_38 : decode cX3_signOfArea 38 = .ok (.lmul, 1) := by decide +kernel
theorem dX3_signOfArea_39 : decode cX3_signOfArea 39 = .ok (.lstore 4, 2) := by decide +kernel
theorem dX3_signOfArea_41 : decode cX3_signOfArea 41 = .ok (.lload_n 2, 1) := by decide +kernel
theorem dX3_signOfArea_42 : decode cX3_signOfArea 42 = .ok (.lload 4, 2) := by decide +kernel
theorem dX3_signOfArea_44 : decode cX3_signOfArea 44 = .ok (.invokestatic 65, 3) := by decide +kernel
theorem dX3_signOfArea_47 : decode cX3_signOfArea 47 = .ok (.ireturn, 1) := by decide +kernel
theorem dX3_parityAt_0 : decode cX3_parityAt 0 = .ok (.aload_n 0, 1) := by decide +kernel
theorem dX3_parityAt_1 : decode cX3_parityAt 1 = .ok (.getfield 21, 3) := by decide +kernel
theorem dX3_parityAt_4 : decode cX3_parityAt 4 = .ok (.iload_n 1, 1) := by decide +kernel
theorem dX3_parityAt_5 : decode cX3_parityAt 5 = .ok (.iload_n 2, 1) := by decide +kernel
theorem dX3_parityAt_6 : decode cX3_parityAt 6 = .ok (.invokestatic 71, 3) := by decide +kernel
theorem dX3_parityAt_9 : decode cX3_parityAt 9 = .ok (.iaload, 1) := by decide +kernel
theorem dX3_parityAt_10 : decode cX3_parityAt 10 = .ok (.ireturn, 1) := by decide +kernel
theorem dX3_isCritical_0 : decode cX3_isCritical 0 = .ok (.aload_n 0, 1) := by decide +kernel
theorem dX3_isCritical_1 : decode cX3_isCritical 1 = .ok (.iload_n 1, 1) := by decide +kernel
theorem dX3_isCritical_2 : decode cX3_isCritical 2 = .ok (.iload_n 2, 1) := by decide +kernel
theorem dX3_isCritical_3 : decode cX3_isCritical 3 = .ok (.invokevirtual 74, 3) := by decide +kernel
theorem dX3_isCritical_6 : decode cX3_isCritical 6 = .ok (.istore_n 3, 1) := by decide +kernel
theorem dX3_isCritical_7 : decode cX3_isCritical 7 = .ok (.iload_n 1, 1) := by decide +kernel
theorem dX3_isCritical_8 : decode cX3_isCritical 8 = .ok (.bipush 24, 2) := by decide +kernel
theorem dX3_isCritical_10 : decode cX3_isCritical 10 = .ok (.if_icmp .ge 15, 3) := by decide +kernel
theorem dX3_isCritical_13 : decode cX3_isCritical 13 = .ok (.aload_n 0, 1) := by decide +kernel
theorem dX3_isCritical_14 : decode cX3_isCritical 14 = .ok (.iload_n 1, 1) := by decide +kernel
theorem dX3_isCritical_15 : decode cX3_isCritical 15 = .ok (.iconst 1, 1) := by decide +kernel
theorem dX3_isCritical_16 : decode cX3_isCritical 16 = .ok (.iadd, 1) := by decide +kernel
theorem dX3_isCritical_17 : decode cX3_isCritical 17 = .ok (.iload_n 2, 1) := by decide +kernel
theorem dX3_isCritical_18 : decode cX3_isCritical 18 = .ok (.invokevirtual 74, 3) := by decide +kernel
theorem dX3_isCritical_21 : decode cX3_isCritical 21 = .ok (.iload_n 3, 1) := by decide +kernel
theorem dX3_isCritical_22 : decode cX3_isCritical 22 = .ok (.if_icmp .ne 21, 3) := by decide +kernel
theorem dX3_isCritical_25 : decode cX3_isCritical 25 = .ok (.iload_n 2, 1) := by decide +kernel
theorem dX3_isCritical_26 : decode cX3_isCritical 26 = .ok (.bipush 24, 2) := by decide +kernel
theorem dX3_isCritical_28 : decode cX3_isCritical 28 = .ok (.if_icmp .ge 19, 3) := by decide +kernel
theorem dX3_isCritical_31 : decode cX3_isCritical 31 = .ok (.aload_n 0, 1) := by decide +kernel
theorem dX3_isCritical_32 : decode cX3_isCritical 32 = .ok (.iload_n 1, 1) := by decide +kernel
theorem dX3_isCritical_33 : decode cX3_isCritical 33 = .ok (.iload_n 2, 1) := by decide +kernel
theorem dX3_isCritical_34 : decode cX3_isCritical 34 = .ok (.iconst 1, 1) := by decide +kernel
theorem dX3_isCritical_35 : decode cX3_isCritical 35 = .ok (.iadd, 1) := by decide +kernel
theorem dX3_isCritical_36 : decode cX3_isCritical 36 = .ok (.invokevirtual 74, 3) := by decide +kernel
theorem dX3_isCritical_39 : decode cX3_isCritical 39 = .ok (.iload_n 3, 1) := by decide +kernel
theorem dX3_isCritical_40 : decode cX3_isCritical 40 = .ok (.if_icmp .eq 7, 3) := by decide +kernel
theorem dX3_isCritical_43 : decode cX3_isCritical 43 = .ok (.iconst 1, 1) := by decide +kernel
theorem dX3_isCritical_44 : decode cX3_isCritical 44 = .ok (.goto 4, 3) := by decide +kernel
theorem dX3_isCritical_47 : decode cX3_isCritical 47 = .ok (.iconst 0, 1) := by decide +kernel
theorem dX3_isCritical_48 : decode cX3_isCritical 48 = .ok (.ireturn, 1) := by decide +kernel
theorem dX3_countOfParity_0 : decode cX3_countOfParity 0 = .ok (.iconst 0, 1) := by decide +kernel
theorem dX3_countOfParity_1 : decode cX3_countOfParity 1 = .ok (.istore_n 2, 1) := by decide +kernel
theorem dX3_countOfParity_2 : decode cX3_countOfParity 2 = .ok (.iconst 0, 1) := by decide +kernel
theorem dX3_countOfParity_3 : decode cX3_countOfParity 3 = .ok (.istore_n 3, 1) := by decide +kernel
theorem dX3_countOfParity_4 : decode cX3_countOfParity 4 = .ok (.iload_n 3, 1) := by decide +kernel
theorem dX3_countOfParity_5 : decode cX3_countOfParity 5 = .ok (.sipush 2401, 3) := by decide +kernel
theorem dX3_countOfParity_8 : decode cX3_countOfParity 8 = .ok (.if_icmp .ge 27, 3) := by decide +kernel
theorem dX3_countOfParity_11 : decode cX3_countOfParity 11 = .ok (.iload_n 2, 1) := by decide +kernel
theorem dX3_countOfParity_12 : decode cX3_countOfParity 12 = .ok (.aload_n 0, 1) := by decide +kernel
theorem dX3_countOfParity_13 : decode cX3_countOfParity 13 = .ok (.getfield 21, 3) := by decide +kernel
theorem dX3_countOfParity_16 : decode cX3_countOfParity 16 = .ok (.iload_n 3, 1) := by decide +kernel
theorem dX3_countOfParity_17 : decode cX3_countOfParity 17 = .ok (.iaload, 1) := by decide +kernel
theorem dX3_countOfParity_18 : decode cX3_countOfParity 18 = .ok (.iload_n 1, 1) := by decide +kernel
theorem dX3_countOfParity_19 : decode cX3_countOfParity 19 = .ok (.if_icmp .ne 7, 3) := by decide +kernel
theorem dX3_countOfParity_22 : decode cX3_countOfParity 22 = .ok (.iconst 1, 1) := by decide +kernel
theorem dX3_countOfParity_23 : decode cX3_countOfParity 23 = .ok (.goto 4, 3) := by decide +kernel
theorem dX3_countOfParity_26 : decode cX3_countOfParity 26 = .ok (.iconst 0, 1) := by decide +kernel
theorem dX3_countOfParity_27 : decode cX3_countOfParity 27 = .ok (.iadd, 1) := by decide +kernel
theorem dX3_countOfParity_28 : decode cX3_countOfParity 28 = .ok (.istore_n 2, 1) := by decide +kernel
theorem dX3_countOfParity_29 : decode cX3_countOfParity 29 = .ok (.iinc 3 1, 3) := by decide +kernel
theorem dX3_countOfParity_32 : decode cX3_countOfParity 32 = .ok (.goto (-28), 3) := by decide +kernel
theorem dX3_countOfParity_35 : decode cX3_countOfParity 35 = .ok (.iload_n 2, 1) := by decide +kernel
theorem dX3_countOfParity_36 : decode cX3_countOfParity 36 = .ok (.ireturn, 1) := by decide +kernel
theorem dX3_delayOnWay_0 : decode cX3_delayOnWay 0 = .ok (.aload_n 0, 1) := by decide +kernel
theorem dX3_delayOnWay_1 : decode cX3_delayOnWay 1 = .ok (.getfield 9, 3) := by decide +kernel
theorem dX3_delayOnWay_4 : decode cX3_delayOnWay 4 = .ok (.iload_n 1, 1) := by decide +kernel
theorem dX3_delayOnWay_5 : decode cX3_delayOnWay 5 = .ok (.iload_n 2, 1) := by decide +kernel
theorem dX3_delayOnWay_6 : decode cX3_delayOnWay 6 = .ok (.invokestatic 32, 3) := by decide +kernel
theorem dX3_delayOnWay_9 : decode cX3_delayOnWay 9 = .ok (.iload_n 3, 1) := by decide +kernel
theorem dX3_delayOnWay_10 : decode cX3_delayOnWay 10 = .ok (.iload_n 1, 1) := by decide +kernel
theorem dX3_delayOnWay_11 : decode cX3_delayOnWay 11 = .ok (.isub, 1) := by decide +kernel
theorem dX3_delayOnWay_12 : decode cX3_delayOnWay 12 = .ok (.iconst 1, 1) := by decide +kernel
theorem dX3_delayOnWay_13 : decode cX3_delayOnWay 13 = .ok (.iload 5, 2) := by decide +kernel
theorem dX3_delayOnWay_15 : decode cX3_delayOnWay 15 = .ok (.invokestatic 77, 3) := by decide +kernel
theorem dX3_delayOnWay_18 : decode cX3_delayOnWay 18 = .ok (.aload_n 0, 1) := by decide +kernel
theorem dX3_delayOnWay_19 : decode cX3_delayOnWay 19 = .ok (.getfield 15, 3) := by decide +kernel
theorem dX3_delayOnWay_22 : decode cX3_delayOnWay 22 = .ok (.iload_n 3, 1) := by decide +kernel
theorem dX3_delayOnWay_23 : decode cX3_delayOnWay 23 = .ok (.iload_n 2, 1) := by decide +kernel
theorem dX3_delayOnWay_24 : decode cX3_delayOnWay 24 = .ok (.invokestatic 32, 3) := by decide +kernel
theorem dX3_delayOnWay_27 : decode cX3_delayOnWay 27 = .ok (.iload 4, 2) := by decide +kernel
theorem dX3_delayOnWay_29 : decode cX3_delayOnWay 29 = .ok (.iload_n 2, 1) := by decide +kernel
theorem dX3_delayOnWay_30 : decode cX3_delayOnWay 30 = .ok (.isub, 1) := by decide +kernel
theorem dX3_delayOnWay_31 : decode cX3_delayOnWay 31 = .ok (.bipush 51, 2) := by decide +kernel
theorem dX3_delayOnWay_33 : decode cX3_delayOnWay 33 = .ok (.iload 6, 2) := by decide +kernel
theorem dX3_delayOnWay_35 : decode cX3_delayOnWay 35 = .ok (.invokestatic 77, 3) := by decide +kernel
theorem dX3_delayOnWay_38 : decode cX3_delayOnWay 38 = .ok (.ladd, 1) := by decide +kernel
theorem dX3_delayOnWay_39 : decode cX3_delayOnWay 39 = .ok (.lreturn, 1) := by decide +kernel
theorem dX3_delayAlong_0 : decode cX3_delayAlong 0 = .ok (.iload_n 2, 1) := by decide +kernel
theorem dX3_delayAlong_1 : decode cX3_delayAlong 1 = .ok (.invokestatic 81, 3) := by decide +kernel
theorem dX3_delayAlong_4 : decode cX3_delayAlong 4 = .ok (.istore 5, 2) := by decide +kernel
theorem dX3_delayAlong_6 : decode cX3_delayAlong 6 = .ok (.lconst 0, 1) := by decide +kernel
theorem dX3_delayAlong_7 : decode cX3_delayAlong 7 = .ok (.lstore 6, 2) := by decide +kernel
theorem dX3_delayAlong_9 : decode cX3_delayAlong 9 = .ok (.iconst 0, 1) := by decide +kernel
theorem dX3_delayAlong_10 : decode cX3_delayAlong 10 = .ok (.istore 8, 2) := by decide +kernel
theorem dX3_delayAlong_12 : decode cX3_delayAlong 12 = .ok (.iload 8, 2) := by decide +kernel
theorem dX3_delayAlong_14 : decode cX3_delayAlong 14 = .ok (.iload_n 2, 1) := by decide +kernel
theorem dX3_delayAlong_15 : decode cX3_delayAlong 15 = .ok (.invokestatic 86, 3) := by decide +kernel
theorem dX3_delayAlong_18 : decode cX3_delayAlong 18 = .ok (.if_icmp .ge 49, 3) := by decide +kernel
theorem dX3_delayAlong_21 : decode cX3_delayAlong 21 = .ok (.iload_n 1, 1) := by decide +kernel
theorem dX3_delayAlong_22 : decode cX3_delayAlong 22 = .ok (.iload 8, 2) := by decide +kernel
theorem dX3_delayAlong_24 : decode cX3_delayAlong 24 = .ok (.iload 5, 2) := by decide +kernel
theorem dX3_delayAlong_26 : decode cX3_delayAlong 26 = .ok (.imul, 1) := by decide +kernel
theorem dX3_delayAlong_27 : decode cX3_delayAlong 27 = .ok (.iload_n 3, 1) := by decide +kernel
theorem dX3_delayAlong_28 : decode cX3_delayAlong 28 = .ok (.imul, 1) := by decide +kernel
theorem dX3_delayAlong_29 : decode cX3_delayAlong 29 = .ok (.iadd, 1) := by decide +kernel
theorem dX3_delayAlong_30 : decode cX3_delayAlong 30 = .ok (.istore 9, 2) := by decide +kernel
theorem dX3_delayAlong_32 : decode cX3_delayAlong 32 = .ok (.lload 6, 2) := by decide +kernel
theorem dX3_delayAlong_34 : decode cX3_delayAlong 34 = .ok (.iload 5, 2) := by decide +kernel
theorem dX3_delayAlong_36 : decode cX3_delayAlong 36 = .ok (.i2l, 1) := by decide +kernel
theorem dX3_delayAlong_37 : decode cX3_delayAlong 37 = .ok (.aload_n 0, 1) := by decide +kernel
theorem dX3_delayAlong_38 : decode cX3_delayAlong 38 = .ok (.iload 9, 2) := by decide +kernel
theorem dX3_delayAlong_40 : decode cX3_delayAlong 40 = .ok (.iaload, 1) := by decide +kernel
theorem dX3_delayAlong_41 : decode cX3_delayAlong 41 = .ok (.aload_n 0, 1) := by decide +kernel
theorem dX3_delayAlong_42 : decode cX3_delayAlong 42 = .ok (.iload 9, 2) := by decide +kernel
theorem dX3_delayAlong_44 : decode cX3_delayAlong 44 = .ok (.iload 5, 2) := by decide +kernel
theorem dX3_delayAlong_46 : decode cX3_delayAlong 46 = .ok (.iload_n 3, 1) := by decide +kernel
theorem dX3_delayAlong_47 : decode cX3_delayAlong 47 = .ok (.imul, 1) := by decide +kernel
theorem dX3_delayAlong_48 : decode cX3_delayAlong 48 = .ok (.iadd, 1) := by decide +kernel
theorem dX3_delayAlong_49 : decode cX3_delayAlong 49 = .ok (.iaload, 1) := by decide +kernel
theorem dX3_delayAlong_50 : decode cX3_delayAlong 50 = .ok (.iadd, 1) := by decide +kernel
theorem dX3_delayAlong_51 : decode cX3_delayAlong 51 = .ok (.iconst 2, 1) := by decide +kernel
theorem dX3_delayAlong_52 : decode cX3_delayAlong 52 = .ok (.iload 4, 2) := by decide +kernel
theorem dX3_delayAlong_54 : decode cX3_delayAlong 54 = .ok (.imul, 1) := by decide +kernel
theorem dX3_delayAlong_55 : decode cX3_delayAlong 55 = .ok (.isub, 1) := by decide +kernel
theorem dX3_delayAlong_56 : decode cX3_delayAlong 56 = .ok (.i2l, 1) := by decide +kernel
theorem dX3_delayAlong_57 : decode cX3_delayAlong 57 = .ok (.lmul, 1) := by decide +kernel
theorem dX3_delayAlong_58 : decode cX3_delayAlong 58 = .ok (.ladd, 1) := by decide +kernel
theorem dX3_delayAlong_59 : decode cX3_delayAlong 59 = .ok (.lstore 6, 2) := by decide +kernel
theorem dX3_delayAlong_61 : decode cX3_delayAlong 61 = .ok (.iinc 8 1, 3) := by decide +kernel
theorem dX3_delayAlong_64 : decode cX3_delayAlong 64 = .ok (.goto (-52), 3) := by decide +kernel
theorem dX3_delayAlong_67 : decode cX3_delayAlong 67 = .ok (.lload 6, 2) := by decide +kernel
theorem dX3_delayAlong_69 : decode cX3_delayAlong 69 = .ok (.lreturn, 1) := by decide +kernel
theorem dX3_stretchOf_0 : decode cX3_stretchOf 0 = .ok (.lconst 0, 1) := by decide +kernel
theorem dX3_stretchOf_1 : decode cX3_stretchOf 1 = .ok (.lstore_n 2, 1) := by decide +kernel
theorem dX3_stretchOf_2 : decode cX3_stretchOf 2 = .ok (.iload_n 1, 1) := by decide +kernel
theorem dX3_stretchOf_3 : decode cX3_stretchOf 3 = .ok (.ineg, 1) := by decide +kernel
theorem dX3_stretchOf_4 : decode cX3_stretchOf 4 = .ok (.istore 4, 2) := by decide +kernel
theorem dX3_stretchOf_6 : decode cX3_stretchOf 6 = .ok (.iload 4, 2) := by decide +kernel
theorem dX3_stretchOf_8 : decode cX3_stretchOf 8 = .ok (.iload_n 1, 1) := by decide +kernel
theorem dX3_stretchOf_9 : decode cX3_stretchOf 9 = .ok (.if_icmp .gt 53, 3) := by decide +kernel
theorem dX3_stretchOf_12 : decode cX3_stretchOf 12 = .ok (.iload_n 1, 1) := by decide +kernel
theorem dX3_stretchOf_13 : decode cX3_stretchOf 13 = .ok (.ineg, 1) := by decide +kernel
theorem dX3_stretchOf_14 : decode cX3_stretchOf 14 = .ok (.istore 5, 2) := by decide +kernel
theorem dX3_stretchOf_16 : decode cX3_stretchOf 16 = .ok (.iload 5, 2) := by decide +kernel
theorem dX3_stretchOf_18 : decode cX3_stretchOf 18 = .ok (.iload_n 1, 1) := by decide +kernel
theorem dX3_stretchOf_19 : decode cX3_stretchOf 19 = .ok (.if_icmp .gt 37, 3) := by decide +kernel
theorem dX3_stretchOf_22 : decode cX3_stretchOf 22 = .ok (.iload 5, 2) := by decide +kernel
theorem dX3_stretchOf_24 : decode cX3_stretchOf 24 = .ok (.invokestatic 86, 3) := by decide +kernel
theorem dX3_stretchOf_27 : decode cX3_stretchOf 27 = .ok (.iload 4, 2) := by decide +kernel
theorem dX3_stretchOf_29 : decode cX3_stretchOf 29 = .ok (.invokestatic 86, 3) := by decide +kernel
theorem dX3_stretchOf_32 : decode cX3_stretchOf 32 = .ok (.invokestatic 91, 3) := by decide +kernel
theorem dX3_stretchOf_35 : decode cX3_stretchOf 35 = .ok (.iload_n 1, 1) := by decide +kernel
theorem dX3_stretchOf_36 : decode cX3_stretchOf 36 = .ok (.if_icmp .ne 14, 3) := by decide +kernel
theorem dX3_stretchOf_39 : decode cX3_stretchOf 39 = .ok (.lload_n 2, 1) := by decide +kernel
theorem dX3_stretchOf_40 : decode cX3_stretchOf 40 = .ok (.aload_n 0, 1) := by decide +kernel
theorem dX3_stretchOf_41 : decode cX3_stretchOf 41 = .ok (.iload 5, 2) := by decide +kernel
theorem dX3_stretchOf_43 : decode cX3_stretchOf 43 = .ok (.iload 4, 2) := by decide +kernel
theorem dX3_stretchOf_45 : decode cX3_stretchOf 45 = .ok (.invokevirtual 94, 3) := by decide +kernel
theorem dX3_stretchOf_48 : decode cX3_stretchOf 48 = .ok (.ladd, 1) := by decide +kernel
theorem dX3_stretchOf_49 : decode cX3_stretchOf 49 = .ok (.lstore_n 2, 1) := by decide +kernel
theorem dX3_stretchOf_50 : decode cX3_stretchOf 50 = .ok (.iinc 5 1, 3) := by decide +kernel
theorem dX3_stretchOf_53 : decode cX3_stretchOf 53 = .ok (.goto (-37), 3) := by decide +kernel
theorem dX3_stretchOf_56 : decode cX3_stretchOf 56 = .ok (.iinc 4 1, 3) := by decide +kernel
theorem dX3_stretchOf_59 : decode cX3_stretchOf 59 = .ok (.goto (-53), 3) := by decide +kernel
theorem dX3_stretchOf_62 : decode cX3_stretchOf 62 = .ok (.lload_n 2, 1) := by decide +kernel
theorem dX3_stretchOf_63 : decode cX3_stretchOf 63 = .ok (.ldc2_w 98, 3) := by decide +kernel
theorem dX3_stretchOf_66 : decode cX3_stretchOf 66 = .ok (.invokestatic 100, 3) := by decide +kernel
theorem dX3_stretchOf_69 : decode cX3_stretchOf 69 = .ok (.l2i, 1) := by decide +kernel
theorem dX3_stretchOf_70 : decode cX3_stretchOf 70 = .ok (.ireturn, 1) := by decide +kernel
theorem dX3_doubledStretchAt_0 : decode cX3_doubledStretchAt 0 = .ok (.iload_n 1, 1) := by decide +kernel
theorem dX3_doubledStretchAt_1 : decode cX3_doubledStretchAt 1 = .ok (.iload_n 2, 1) := by decide +kernel
theorem dX3_doubledStretchAt_2 : decode cX3_doubledStretchAt 2 = .ok (.invokestatic 32, 3) := by decide +kernel
theorem dX3_doubledStretchAt_5 : decode cX3_doubledStretchAt 5 = .ok (.istore_n 3, 1) := by decide +kernel
theorem dX3_doubledStretchAt_6 : decode cX3_doubledStretchAt 6 = .ok (.aload_n 0, 1) := by decide +kernel
theorem dX3_doubledStretchAt_7 : decode cX3_doubledStretchAt 7 = .ok (.getfield 15, 3) := by decide +kernel
theorem dX3_doubledStretchAt_10 : decode cX3_doubledStretchAt 10 = .ok (.iload_n 3, 1) := by decide +kernel
theorem dX3_doubledStretchAt_11 : decode cX3_doubledStretchAt 11 = .ok (.invokestatic 58, 3) := by decide +kernel
theorem dX3_doubledStretchAt_14 : decode cX3_doubledStretchAt 14 = .ok (.aload_n 0, 1) := by decide +kernel
theorem dX3_doubledStretchAt_15 : decode cX3_doubledStretchAt 15 = .ok (.getfield 9, 3) := by decide +kernel
theorem dX3_doubledStretchAt_18 : decode cX3_doubledStretchAt 18 = .ok (.iload_n 3, 1) := by decide +kernel
theorem dX3_doubledStretchAt_19 : decode cX3_doubledStretchAt 19 = .ok (.invokestatic 62, 3) := by decide +kernel
theorem dX3_doubledStretchAt_22 : decode cX3_doubledStretchAt 22 = .ok (.iadd, 1) := by decide +kernel
theorem dX3_doubledStretchAt_23 : decode cX3_doubledStretchAt 23 = .ok (.i2l, 1) := by decide +kernel
theorem dX3_doubledStretchAt_24 : decode cX3_doubledStretchAt 24 = .ok (.lstore 4, 2) := by decide +kernel
theorem dX3_doubledStretchAt_26 : decode cX3_doubledStretchAt 26 = .ok (.aload_n 0, 1) := by decide +kernel
theorem dX3_doubledStretchAt_27 : decode cX3_doubledStretchAt 27 = .ok (.getfield 9, 3) := by decide +kernel
theorem dX3_doubledStretchAt_30 : decode cX3_doubledStretchAt 30 = .ok (.iload_n 3, 1) := by decide +kernel
theorem dX3_doubledStretchAt_31 : decode cX3_doubledStretchAt 31 = .ok (.invokestatic 58, 3) := by decide +kernel
theorem dX3_doubledStretchAt_34 : decode cX3_doubledStretchAt 34 = .ok (.aload_n 0, 1) := by decide +kernel
theorem dX3_doubledStretchAt_35 : decode cX3_doubledStretchAt 35 = .ok (.getfield 15, 3) := by decide +kernel
theorem dX3_doubledStretchAt_38 : decode cX3_doubledStretchAt 38 = .ok (.iload_n 3, 1) := by decide +kernel
theorem dX3_doubledStretchAt_39 : decode cX3_doubledStretchAt 39 = .ok (.invokestatic 62, 3) := by decide +kernel
theorem dX3_doubledStretchAt_42 : decode cX3_doubledStretchAt 42 = .ok (.isub, 1) := by decide +kernel
theorem dX3_doubledStretchAt_43 : decode cX3_doubledStretchAt 43 = .ok (.i2l, 1) := by decide +kernel
theorem dX3_doubledStretchAt_44 : decode cX3_doubledStretchAt 44 = .ok (.lstore 6, 2) := by decide +kernel
theorem dX3_doubledStretchAt_46 : decode cX3_doubledStretchAt 46 = .ok (.ldc2_w 104, 3) := by decide +kernel
theorem dX3_doubledStretchAt_49 : decode cX3_doubledStretchAt 49 = .ok (.lload 4, 2) := by decide +kernel
theorem dX3_doubledStretchAt_51 : decode cX3_doubledStretchAt 51 = .ok (.lmul, 1) := by decide +kernel
theorem dX3_doubledStretchAt_52 : decode cX3_doubledStretchAt 52 = .ok (.iload_n 1, 1) := by decide +kernel
theorem dX3_doubledStretchAt_53 : decode cX3_doubledStretchAt 53 = .ok (.i2l, 1) := by decide +kernel
theorem dX3_doubledStretchAt_54 : decode cX3_doubledStretchAt 54 = .ok (.lmul, 1) := by decide +kernel
theorem dX3_doubledStretchAt_55 : decode cX3_doubledStretchAt 55 = .ok (.iload_n 2, 1) := by decide +kernel
theorem dX3_doubledStretchAt_56 : decode cX3_doubledStretchAt 56 = .ok (.i2l, 1) := by decide +kernel
theorem dX3_doubledStretchAt_57 : decode cX3_doubledStretchAt 57 = .ok (.lmul, 1) := by decide +kernel
theorem dX3_doubledStretchAt_58 : decode cX3_doubledStretchAt 58 = .ok (.lload 6, 2) := by decide +kernel
theorem dX3_doubledStretchAt_60 : decode cX3_doubledStretchAt 60 = .ok (.iload_n 1, 1) := by decide +kernel
theorem dX3_doubledStretchAt_61 : decode cX3_doubledStretchAt 61 = .ok (.iload_n 1, 1) := by decide +kernel
theorem dX3_doubledStretchAt_62 : decode cX3_doubledStretchAt 62 = .ok (.imul, 1) := by decide +kernel
theorem dX3_doubledStretchAt_63 : decode cX3_doubledStretchAt 63 = .ok (.iload_n 2, 1) := by decide +kernel
theorem dX3_doubledStretchAt_64 : decode cX3_doubledStretchAt 64 = .ok (.iload_n 2, 1) := by decide +kernel
theorem dX3_doubledStretchAt_65 : decode cX3_doubledStretchAt 65 = .ok (.imul, 1) := by decide +kernel
theorem dX3_doubledStretchAt_66 : decode cX3_doubledStretchAt 66 = .ok (.isub, 1) := by decide +kernel
theorem dX3_doubledStretchAt_67 : decode cX3_doubledStretchAt 67 = .ok (.i2l, 1) := by decide +kernel
theorem dX3_doubledStretchAt_68 : decode cX3_doubledStretchAt 68 = .ok (.lmul, 1) := by decide +kernel
theorem dX3_doubledStretchAt_69 : decode cX3_doubledStretchAt 69 = .ok (.lsub, 1) := by decide +kernel
theorem dX3_doubledStretchAt_70 : decode cX3_doubledStretchAt 70 = .ok (.lreturn, 1) := by decide +kernel
theorem dX4_init_0 : decode cX4_init 0 = .ok (.aload_n 0, 1) := by decide +kernel
theorem dX4_init_1 : decode cX4_init 1 = .ok (.invokespecial 1, 3) := by decide +kernel
theorem dX4_init_4 : decode cX4_init 4 = .ok (.aload_n 0, 1) := by decide +kernel
theorem dX4_init_5 : decode cX4_init 5 = .ok (.sipush 8192, 3) := by decide +kernel
theorem dX4_init_8 : decode cX4_init 8 = .ok (.newarray .int, 2) := by decide +kernel
theorem dX4_init_10 : decode cX4_init 10 = .ok (.putfield 9, 3) := by decide +kernel
theorem dX4_init_13 : decode cX4_init 13 = .ok (.aload_n 0, 1) := by decide +kernel
theorem dX4_init_14 : decode cX4_init 14 = .ok (.sipush 4096, 3) := by decide +kernel
theorem dX4_init_17 : decode cX4_init 17 = .ok (.newarray .int, 2) := by decide +kernel
theorem dX4_init_19 : decode cX4_init 19 = .ok (.putfield 13, 3) := by decide +kernel
theorem dX4_init_22 : decode cX4_init 22 = .ok (.aload_n 0, 1) := by decide +kernel
theorem dX4_init_23 : decode cX4_init 23 = .ok (.sipush 4096, 3) := by decide +kernel
theorem dX4_init_26 : decode cX4_init 26 = .ok (.newarray .int, 2) := by decide +kernel
theorem dX4_init_28 : decode cX4_init 28 = .ok (.putfield 16, 3) := by decide +kernel
theorem dX4_init_31 : decode cX4_init 31 = .ok (.return_, 1) := by decide +kernel
theorem dX4_start_0 : decode cX4_start 0 = .ok (.aload_n 0, 1) := by decide +kernel
theorem dX4_start_1 : decode cX4_start 1 = .ok (.getfield 9, 3) := by decide +kernel
theorem dX4_start_4 : decode cX4_start 4 = .ok (.iconst 0, 1) := by decide +kernel
theorem dX4_start_5 : decode cX4_start 5 = .ok (.invokestatic 19, 3) := by decide +kernel
theorem dX4_start_8 : decode cX4_start 8 = .ok (.aload_n 0, 1) := by decide +kernel
theorem dX4_start_9 : decode cX4_start 9 = .ok (.iconst 0, 1) := by decide +kernel
theorem dX4_start_10 : decode cX4_start 10 = .ok (.putfield 25, 3) := by decide +kernel
theorem dX4_start_13 : decode cX4_start 13 = .ok (.return_, 1) := by decide +kernel
theorem dX4_numberOf_0 : decode cX4_numberOf 0 = .ok (.iload_n 1, 1) := by decide +kernel
theorem dX4_numberOf_1 : decode cX4_numberOf 1 = .ok (.ldc 29, 2) := by decide +kernel
theorem dX4_numberOf_3 : decode cX4_numberOf 3 = .ok (.imul, 1) := by decide +kernel
theorem dX4_numberOf_4 : decode cX4_numberOf 4 = .ok (.bipush 19, 2) := by decide +kernel
theorem dX4_numberOf_6 : decode cX4_numberOf 6 = .ok (.iushr, 1) := by decide +kernel
theorem dX4_numberOf_7 : decode cX4_numberOf 7 = .ok (.istore_n 2, 1) := by decide +kernel
theorem dX4_numberOf_8 : decode cX4_numberOf 8 = .ok (.iconst 0, 1) := by decide +kernel
theorem dX4_numberOf_9 : decode cX4_numberOf 9 = .ok (.istore_n 3, 1) := by decide +kernel
theorem dX4_numberOf_10 : decode cX4_numberOf 10 = .ok (.iload_n 3, 1) := by decide +kernel
theorem dX4_numberOf_11 : decode cX4_numberOf 11 = .ok (.sipush 8192, 3) := by decide +kernel
theorem dX4_numberOf_14 : decode cX4_numberOf 14 = .ok (.if_icmp .ge 64, 3) := by decide +kernel
theorem dX4_numberOf_17 : decode cX4_numberOf 17 = .ok (.aload_n 0, 1) := by decide +kernel
theorem dX4_numberOf_18 : decode cX4_numberOf 18 = .ok (.getfield 9, 3) := by decide +kernel
theorem dX4_numberOf_21 : decode cX4_numberOf 21 = .ok (.iload_n 2, 1) := by decide +kernel
theorem dX4_numberOf_22 : decode cX4_numberOf 22 = .ok (.iaload, 1) := by decide +kernel
theorem dX4_numberOf_23 : decode cX4_numberOf 23 = .ok (.iconst 1, 1) := by decide +kernel
theorem dX4_numberOf_24 : decode cX4_numberOf 24 = .ok (.isub, 1) := by decide +kernel
theorem dX4_numberOf_25 : decode cX4_numberOf 25 = .ok (.istore 4, 2) := by decide +kernel
theorem dX4_numberOf_27 : decode cX4_numberOf 27 = .ok (.iload 4, 2) := by decide +kernel
theorem dX4_numberOf_29 : decode cX4_numberOf 29 = .ok (.ifCond .ge 10, 3) := by decide +kernel
theorem dX4_numberOf_32 : decode cX4_numberOf 32 = .ok (.aload_n 0, 1) := by decide +kernel
theorem dX4_numberOf_33 : decode cX4_numberOf 33 = .ok (.iload_n 1, 1) := by decide +kernel
theorem dX4_numberOf_34 : decode cX4_numberOf 34 = .ok (.iload_n 2, 1) := by decide +kernel
theorem dX4_numberOf_35 : decode cX4_numberOf 35 = .ok (.invokevirtual 30, 3) := by decide +kernel
theorem dX4_numberOf_38 : decode cX4_numberOf 38 = .ok (.ireturn, 1) := by decide +kernel
theorem dX4_numberOf_39 : decode cX4_numberOf 39 = .ok (.aload_n 0, 1) := by decide +kernel
theorem dX4_numberOf_40 : decode cX4_numberOf 40 = .ok (.getfield 13, 3) := by decide +kernel
theorem dX4_numberOf_43 : decode cX4_numberOf 43 = .ok (.iload 4, 2) := by decide +kernel
theorem dX4_numberOf_45 : decode cX4_numberOf 45 = .ok (.iaload, 1) := by decide +kernel
theorem dX4_numberOf_46 : decode cX4_numberOf 46 = .ok (.iload_n 1, 1) := by decide +kernel
theorem dX4_numberOf_47 : decode cX4_numberOf 47 = .ok (.if_icmp .ne 17, 3) := by decide +kernel
theorem dX4_numberOf_50 : decode cX4_numberOf 50 = .ok (.aload_n 0, 1) := by decide +kernel
theorem dX4_numberOf_51 : decode cX4_numberOf 51 = .ok (.getfield 16, 3) := by decide +kernel
theorem dX4_numberOf_54 : decode cX4_numberOf 54 = .ok (.iload 4, 2) := by decide +kernel
theorem dX4_numberOf_56 : decode cX4_numberOf 56 = .ok (.dup2, 1) := by decide +kernel
theorem dX4_numberOf_57 : decode cX4_numberOf 57 = .ok (.iaload, 1) := by decide +kernel
theorem dX4_numberOf_58 : decode cX4_numberOf 58 = .ok (.iconst 1, 1) := by decide +kernel
theorem dX4_numberOf_59 : decode cX4_numberOf 59 = .ok (.iadd, 1) := by decide +kernel
theorem dX4_numberOf_60 : decode cX4_numberOf 60 = .ok (.iastore, 1) := by decide +kernel
theorem dX4_numberOf_61 : decode cX4_numberOf 61 = .ok (.iload 4, 2) := by decide +kernel
theorem dX4_numberOf_63 : decode cX4_numberOf 63 = .ok (.ireturn, 1) := by decide +kernel
theorem dX4_numberOf_64 : decode cX4_numberOf 64 = .ok (.iload_n 2, 1) := by decide +kernel
theorem dX4_numberOf_65 : decode cX4_numberOf 65 = .ok (.iconst 1, 1) := by decide +kernel
theorem dX4_numberOf_66 : decode cX4_numberOf 66 = .ok (.iadd, 1) := by decide +kernel
theorem dX4_numberOf_67 : decode cX4_numberOf 67 = .ok (.sipush 8191, 3) := by decide +kernel
theorem dX4_numberOf_70 : decode cX4_numberOf 70 = .ok (.iand, 1) := by decide +kernel
theorem dX4_numberOf_71 : decode cX4_numberOf 71 = .ok (.istore_n 2, 1) := by decide +kernel
theorem dX4_numberOf_72 : decode cX4_numberOf 72 = .ok (.iinc 3 1, 3) := by decide +kernel
theorem dX4_numberOf_75 : decode cX4_numberOf 75 = .ok (.goto (-65), 3) := by decide +kernel
theorem dX4_numberOf_78 : decode cX4_numberOf 78 = .ok (.iconst 0, 1) := by decide +kernel
theorem dX4_numberOf_79 : decode cX4_numberOf 79 = .ok (.ireturn, 1) := by decide +kernel
theorem dX4_take_0 : decode cX4_take 0 = .ok (.aload_n 0, 1) := by decide +kernel
theorem dX4_take_1 : decode cX4_take 1 = .ok (.getfield 25, 3) := by decide +kernel
theorem dX4_take_4 : decode cX4_take 4 = .ok (.sipush 4096, 3) := by decide +kernel
theorem dX4_take_7 : decode cX4_take 7 = .ok (.if_icmp .lt 5, 3) := by decide +kernel
theorem dX4_take_10 : decode cX4_take 10 = .ok (.iconst 0, 1) := by decide +kernel
theorem dX4_take_11 : decode cX4_take 11 = .ok (.ireturn, 1) := by decide +kernel
theorem dX4_take_12 : decode cX4_take 12 = .ok (.aload_n 0, 1) := by decide +kernel
theorem dX4_take_13 : decode cX4_take 13 = .ok (.getfield 25, 3) := by decide +kernel
theorem dX4_take_16 : decode cX4_take 16 = .ok (.istore_n 3, 1) := by decide +kernel
theorem dX4_take_17 : decode cX4_take 17 = .ok (.aload_n 0, 1) := by decide +kernel
theorem dX4_take_18 : decode cX4_take 18 = .ok (.getfield 13, 3) := by decide +kernel
theorem dX4_take_21 : decode cX4_take 21 = .ok (.iload_n 3, 1) := by decide +kernel
theorem dX4_take_22 : decode cX4_take 22 = .ok (.iload_n 1, 1) := by decide +kernel
theorem dX4_take_23 : decode cX4_take 23 = .ok (.iastore, 1) := by decide +kernel
theorem dX4_take_24 : decode cX4_take 24 = .ok (.aload_n 0, 1) := by decide +kernel
theorem dX4_take_25 : decode cX4_take 25 = .ok (.getfield 16, 3) := by decide +kernel
theorem dX4_take_28 : decode cX4_take 28 = .ok (.iload_n 3, 1) := by decide +kernel
theorem dX4_take_29 : decode cX4_take 29 = .ok (.iconst 1, 1) := by decide +kernel
theorem dX4_take_30 : decode cX4_take 30 = .ok (.iastore, 1) := by decide +kernel
theorem dX4_take_31 : decode cX4_take 31 = .ok (.aload_n 0, 1) := by decide +kernel
theorem dX4_take_32 : decode cX4_take 32 = .ok (.dup, 1) := by decide +kernel
theorem dX4_take_33 : decode cX4_take 33 = .ok (.getfield 25, 3) := by decide +kernel
theorem dX4_take_36 : decode cX4_take 36 = .ok (.iconst 1, 1) := by decide +kernel
theorem dX4_take_37 : decode cX4_take 37 = .ok (.iadd, 1) := by decide +kernel
theorem dX4_take_38 : decode cX4_take 38 = .ok (.putfield 25, 3) := by decide +kernel
theorem dX4_take_41 : decode cX4_take 41 = .ok (.aload_n 0, 1) := by decide +kernel
theorem dX4_take_42 : decode cX4_take 42 = .ok (.getfield 9, 3) := by decide +kernel
theorem dX4_take_45 : decode cX4_take 45 = .ok (.iload_n 2, 1) := by decide +kernel
theorem dX4_take_46 : decode cX4_take 46 = .ok (.aload_n 0, 1) := by decide +kernel
theorem dX4_take_47 : decode cX4_take 47 = .ok (.getfield 25, 3) := by decide +kernel
theorem dX4_take_50 : decode cX4_take 50 = .ok (.iastore, 1) := by decide +kernel
theorem dX4_take_51 : decode cX4_take 51 = .ok (.iload_n 3, 1) := by decide +kernel
theorem dX4_take_52 : decode cX4_take 52 = .ok (.ireturn, 1) := by decide +kernel
theorem dX4_greatest_0 : decode cX4_greatest 0 = .ok (.iconst 0, 1) := by decide +kernel
theorem dX4_greatest_1 : decode cX4_greatest 1 = .ok (.istore_n 1, 1) := by decide +kernel
theorem dX4_greatest_2 : decode cX4_greatest 2 = .ok (.iconst 1, 1) := by decide +kernel
theorem dX4_greatest_3 : decode cX4_greatest 3 = .ok (.istore_n 2, 1) := by decide +kernel
theorem dX4_greatest_4 : decode cX4_greatest 4 = .ok (.iload_n 2, 1) := by decide +kernel
theorem dX4_greatest_5 : decode cX4_greatest 5 = .ok (.aload_n 0, 1) := by decide +kernel
theorem dX4_greatest_6 : decode cX4_greatest 6 = .ok (.getfield 25, 3) := by decide +kernel
theorem dX4_greatest_9 : decode cX4_greatest 9 = .ok (.if_icmp .ge 26, 3) := by decide +kernel
theorem dX4_greatest_12 : decode cX4_greatest 12 = .ok (.aload_n 0, 1) := by decide +kernel
theorem dX4_greatest_13 : decode cX4_greatest 13 = .ok (.getfield 16, 3) := by decide +kernel
theorem dX4_greatest_16 : decode cX4_greatest 16 = .ok (.iload_n 2, 1) := by decide +kernel
theorem dX4_greatest_17 : decode cX4_greatest 17 = .ok (.iaload, 1) := by decide +kernel
theorem dX4_greatest_18 : decode cX4_greatest 18 = .ok (.aload_n 0, 1) := by decide +kernel
theorem dX4_greatest_19 : decode cX4_greatest 19 = .ok (.getfield 16, 3) := by decide +kernel
theorem dX4_greatest_22 : decode cX4_greatest 22 = .ok (.iload_n 1, 1) := by decide +kernel
theorem dX4_greatest_23 : decode cX4_greatest 23 = .ok (.iaload, 1) := by decide +kernel
theorem dX4_greatest_24 : decode cX4_greatest 24 = .ok (.if_icmp .le 5, 3) := by decide +kernel
theorem dX4_greatest_27 : decode cX4_greatest 27 = .ok (.iload_n 2, 1) := by decide +kernel
theorem dX4_greatest_28 : decode cX4_greatest 28 = .ok (.istore_n 1, 1) := by decide +kernel
theorem dX4_greatest_29 : decode cX4_greatest 29 = .ok (.iinc 2 1, 3) := by decide +kernel
theorem dX4_greatest_32 : decode cX4_greatest 32 = .ok (.goto (-28), 3) := by decide +kernel
theorem dX4_greatest_35 : decode cX4_greatest 35 = .ok (.iload_n 1, 1) := by decide +kernel
theorem dX4_greatest_36 : decode cX4_greatest 36 = .ok (.ireturn, 1) := by decide +kernel
theorem dX5_init_0 : decode cX5_init 0 = .ok (.aload_n 0, 1) := by decide +kernel
theorem dX5_init_1 : decode cX5_init 1 = .ok (.invokespecial 3, 3) := by decide +kernel
theorem dX5_init_4 : decode cX5_init 4 = .ok (.aload_n 0, 1) := by decide +kernel
theorem dX5_init_5 : decode cX5_init 5 = .ok (.sipush 200, 3) := by decide +kernel
theorem dX5_init_8 : decode cX5_init 8 = .ok (.newarray .int, 2) := by decide +kernel
theorem dX5_init_10 : decode cX5_init 10 = .ok (.putfield 9, 3) := by decide +kernel
theorem dX5_init_13 : decode cX5_init 13 = .ok (.aload_n 0, 1) := by decide +kernel
theorem dX5_init_14 : decode cX5_init 14 = .ok (.bipush 8, 2) := by decide +kernel
theorem dX5_init_16 : decode cX5_init 16 = .ok (.bipush 6, 2) := by decide +kernel
theorem dX5_init_18 : decode cX5_init 18 = .ok (.multianewarray 15 2, 4) := by decide +kernel
theorem dX5_init_22 : decode cX5_init 22 = .ok (.putfield 17, 3) := by decide +kernel
theorem dX5_init_25 : decode cX5_init 25 = .ok (.return_, 1) := by decide +kernel
theorem dX5_add_0 : decode cX5_add 0 = .ok (.aload_n 0, 1) := by decide +kernel
theorem dX5_add_1 : decode cX5_add 1 = .ok (.getfield 20, 3) := by decide +kernel
theorem dX5_add_4 : decode cX5_add 4 = .ok (.sipush 200, 3) := by decide +kernel
theorem dX5_add_7 : decode cX5_add 7 = .ok (.if_icmp .ge 23, 3) := by decide +kernel
theorem dX5_add_10 : decode cX5_add 10 = .ok (.aload_n 0, 1) := by decide +kernel
theorem dX5_add_11 : decode cX5_add 11 = .ok (.getfield 9, 3) := by decide +kernel
theorem dX5_add_14 : decode cX5_add 14 = .ok (.aload_n 0, 1) := by decide +kernel
theorem dX5_add_15 : decode cX5_add 15 = .ok (.getfield 20, 3) := by decide +kernel
theorem dX5_add_18 : decode cX5_add 18 = .ok (.iload_n 1, 1) := by decide +kernel
theorem dX5_add_19 : decode cX5_add 19 = .ok (.iastore, 1) := by decide +kernel
theorem dX5_add_20 : decode cX5_add 20 = .ok (.aload_n 0, 1) := by decide +kernel
theorem dX5_add_21 : decode cX5_add 21 = .ok (.dup, 1) := by decide +kernel
theorem dX5_add_22 : decode cX5_add 22 = .ok (.getfield 20, 3) := by decide +kernel
theorem dX5_add_25 : decode cX5_add 25 = .ok (.iconst 1, 1) := by decide +kernel
theorem dX5_add_26 : decode cX5_add 26 = .ok (.iadd, 1) := by decide +kernel
theorem dX5_add_27 : decode cX5_add 27 = .ok (.putfield 20, 3) := by decide +kernel
theorem dX5_add_30 : decode cX5_add 30 = .ok (.return_, 1) := by decide +kernel
theorem dX5_tellBodies_0 : decode cX5_tellBodies 0 = .ok (.aload_n 0, 1) := by decide +kernel
theorem dX5_tellBodies_1 : decode cX5_tellBodies 1 = .ok (.iconst 0, 1) := by decide +kernel
theorem dX5_tellBodies_2 : decode cX5_tellBodies 2 = .ok (.putfield 24, 3) := by decide +kernel
theorem dX5_tellBodies_5 : decode cX5_tellBodies 5 = .ok (.iconst 0, 1) := by decide +kernel
theorem dX5_tellBodies_6 : decode cX5_tellBodies 6 = .ok (.istore_n 1, 1) := by decide +kernel
theorem dX5_tellBodies_7 : decode cX5_tellBodies 7 = .ok (.iload_n 1, 1) := by decide +kernel
theorem dX5_tellBodies_8 : decode cX5_tellBodies 8 = .ok (.bipush 8, 2) := by decide +kernel
theorem dX5_tellBodies_10 : decode cX5_tellBodies 10 = .ok (.if_icmp .ge 35, 3) := by decide +kernel
theorem dX5_tellBodies_13 : decode cX5_tellBodies 13 = .ok (.aload_n 0, 1) := by decide +kernel
theorem dX5_tellBodies_14 : decode cX5_tellBodies 14 = .ok (.getfield 24, 3) := by decide +kernel
theorem dX5_tellBodies_17 : decode cX5_tellBodies 17 = .ok (.aload_n 0, 1) := by decide +kernel
theorem dX5_tellBodies_18 : decode cX5_tellBodies 18 = .ok (.getfield 20, 3) := by decide +kernel
theorem dX5_tellBodies_21 : decode cX5_tellBodies 21 = .ok (.if_icmp .ge 24, 3) := by decide +kernel
theorem dX5_tellBodies_24 : decode cX5_tellBodies 24 = .ok (.aload_n 0, 1) := by decide +kernel
theorem dX5_tellBodies_25 : decode cX5_tellBodies 25 = .ok (.aload_n 0, 1) := by decide +kernel
theorem dX5_tellBodies_26 : decode cX5_tellBodies 26 = .ok (.getfield 17, 3) := by decide +kernel
theorem dX5_tellBodies_29 : decode cX5_tellBodies 29 = .ok (.iload_n 1, 1) := by decide +kernel
theorem dX5_tellBodies_30 : decode cX5_tellBodies 30 = .ok (.aaload, 1) := by decide +kernel
theorem dX5_tellBodies_31 : decode cX5_tellBodies 31 = .ok (.invokevirtual 27, 3) := by decide +kernel
theorem dX5_tellBodies_34 : decode cX5_tellBodies 34 = .ok (.ifCond .ne 5, 3) := by decide +kernel
theorem dX5_tellBodies_37 : decode cX5_tellBodies 37 = .ok (.iconst (-1), 1) := by decide +kernel
theorem dX5_tellBodies_38 : decode cX5_tellBodies 38 = .ok (.ireturn, 1) := by decide +kernel
theorem dX5_tellBodies_39 : decode cX5_tellBodies 39 = .ok (.iinc 1 1, 3) := by decide +kernel
theorem dX5_tellBodies_42 : decode cX5_tellBodies 42 = .ok (.goto (-35), 3) := by decide +kernel
theorem dX5_tellBodies_45 : decode cX5_tellBodies 45 = .ok (.aload_n 0, 1) := by decide +kernel
theorem dX5_tellBodies_46 : decode cX5_tellBodies 46 = .ok (.getfield 24, 3) := by decide +kernel
theorem dX5_tellBodies_49 : decode cX5_tellBodies 49 = .ok (.aload_n 0, 1) := by decide +kernel
theorem dX5_tellBodies_50 : decode cX5_tellBodies 50 = .ok (.getfield 20, 3) := by decide +kernel
theorem dX5_tellBodies_53 : decode cX5_tellBodies 53 = .ok (.if_icmp .ge 7, 3) := by decide +kernel
theorem dX5_tellBodies_56 : decode cX5_tellBodies 56 = .ok (.iconst (-1), 1) := by decide +kernel
theorem dX5_tellBodies_57 : decode cX5_tellBodies 57 = .ok (.goto 4, 3) := by decide +kernel
theorem dX5_tellBodies_60 : decode cX5_tellBodies 60 = .ok (.iload_n 1, 1) := by decide +kernel
theorem dX5_tellBodies_61 : decode cX5_tellBodies 61 = .ok (.ireturn, 1) := by decide +kernel
theorem dX5_takeItem_0 : decode cX5_takeItem 0 = .ok (.aload_n 0, 1) := by decide +kernel
theorem dX5_takeItem_1 : decode cX5_takeItem 1 = .ok (.invokevirtual 31, 3) := by decide +kernel
theorem dX5_takeItem_4 : decode cX5_takeItem 4 = .ok (.istore_n 2, 1) := by decide +kernel
theorem dX5_takeItem_5 : decode cX5_takeItem 5 = .ok (.iload_n 2, 1) := by decide +kernel
theorem dX5_takeItem_6 : decode cX5_takeItem 6 = .ok (.ifCond .ge 5, 3) := by decide +kernel
theorem dX5_takeItem_9 : decode cX5_takeItem 9 = .ok (.iconst 0, 1) := by decide +kernel
theorem dX5_takeItem_10 : decode cX5_takeItem 10 = .ok (.ireturn, 1) := by decide +kernel
theorem dX5_takeItem_11 : decode cX5_takeItem 11 = .ok (.aload_n 1, 1) := by decide +kernel
theorem dX5_takeItem_12 : decode cX5_takeItem 12 = .ok (.iconst 0, 1) := by decide +kernel
theorem dX5_takeItem_13 : decode cX5_takeItem 13 = .ok (.iload_n 2, 1) := by decide +kernel
theorem dX5_takeItem_14 : decode cX5_takeItem 14 = .ok (.iastore, 1) := by decide +kernel
theorem dX5_takeItem_15 : decode cX5_takeItem 15 = .ok (.aload_n 1, 1) := by decide +kernel
theorem dX5_takeItem_16 : decode cX5_takeItem 16 = .ok (.iconst 4, 1) := by decide +kernel
theorem dX5_takeItem_17 : decode cX5_takeItem 17 = .ok (.iconst 0, 1) := by decide +kernel
theorem dX5_takeItem_18 : decode cX5_takeItem 18 = .ok (.iastore, 1) := by decide +kernel
theorem dX5_takeItem_19 : decode cX5_takeItem 19 = .ok (.aload_n 1, 1) := by decide +kernel
theorem dX5_takeItem_20 : decode cX5_takeItem 20 = .ok (.iconst 5, 1) := by decide +kernel
theorem dX5_takeItem_21 : decode cX5_takeItem 21 = .ok (.getstatic 35, 3) := by decide +kernel
theorem dX5_takeItem_24 : decode cX5_takeItem 24 = .ok (.iconst 5, 1) := by decide +kernel
theorem dX5_takeItem_25 : decode cX5_takeItem 25 = .ok (.iaload, 1) := by decide +kernel
theorem dX5_takeItem_26 : decode cX5_takeItem 26 = .ok (.iastore, 1) := by decide +kernel
theorem dX5_takeItem_27 : decode cX5_takeItem 27 = .ok (.aload_n 0, 1) := by decide +kernel
theorem dX5_takeItem_28 : decode cX5_takeItem 28 = .ok (.aload_n 1, 1) := by decide +kernel
theorem dX5_takeItem_29 : decode cX5_takeItem 29 = .ok (.iconst 1, 1) := by decide +kernel
theorem dX5_takeItem_30 : decode cX5_takeItem 30 = .ok (.invokevirtual 38, 3) := by decide +kernel
theorem dX5_takeItem_33 : decode cX5_takeItem 33 = .ok (.ifCond .eq 97, 3) := by decide +kernel
theorem dX5_takeItem_36 : decode cX5_takeItem 36 = .ok (.aload_n 0, 1) := by decide +kernel
theorem dX5_takeItem_37 : decode cX5_takeItem 37 = .ok (.bipush 44, 2) := by decide +kernel
theorem dX5_takeItem_39 : decode cX5_takeItem 39 = .ok (.invokevirtual 42, 3) := by decide +kernel
theorem dX5_takeItem_42 : decode cX5_takeItem 42 = .ok (.ifCond .eq 88, 3) := by decide +kernel
theorem dX5_takeItem_45 : decode cX5_takeItem 45 = .ok (.aload_n 0, 1) := by decide +kernel
theorem dX5_takeItem_46 : decode cX5_takeItem 46 = .ok (.aload_n 1, 1) := by decide +kernel
theorem dX5_takeItem_47 : decode cX5_takeItem 47 = .ok (.iconst 2, 1) := by decide +kernel
theorem dX5_takeItem_48 : decode cX5_takeItem 48 = .ok (.invokevirtual 38, 3) := by decide +kernel
theorem dX5_takeItem_51 : decode cX5_takeItem 51 = .ok (.ifCond .eq 79, 3) := by decide +kernel
theorem dX5_takeItem_54 : decode cX5_takeItem 54 = .ok (.aload_n 0, 1) := by decide +kernel
theorem dX5_takeItem_55 : decode cX5_takeItem 55 = .ok (.bipush 119, 2) := by decide +kernel
theorem dX5_takeItem_57 : decode cX5_takeItem 57 = .ok (.invokevirtual 42, 3) := by decide +kernel
theorem dX5_takeItem_60 : decode cX5_takeItem 60 = .ok (.ifCond .eq 70, 3) := by decide +kernel
theorem dX5_takeItem_63 : decode cX5_takeItem 63 = .ok (.aload_n 0, 1) := by decide +kernel
theorem dX5_takeItem_64 : decode cX5_takeItem 64 = .ok (.aload_n 1, 1) := by decide +kernel
theorem dX5_takeItem_65 : decode cX5_takeItem 65 = .ok (.iconst 3, 1) := by decide +kernel
theorem dX5_takeItem_66 : decode cX5_takeItem 66 = .ok (.invokevirtual 38, 3) := by decide +kernel
theorem dX5_takeItem_69 : decode cX5_takeItem 69 = .ok (.ifCond .eq 61, 3) := by decide +kernel
theorem dX5_takeItem_72 : decode cX5_takeItem 72 = .ok (.iload_n 2, 1) := by decide +kernel
theorem dX5_takeItem_73 : decode cX5_takeItem 73 = .ok (.ifCond .eq 21, 3) := by decide +kernel
theorem dX5_takeItem_76 : decode cX5_takeItem 76 = .ok (.aload_n 0, 1) := by decide +kernel
theorem dX5_takeItem_77 : decode cX5_takeItem 77 = .ok (.bipush 111, 2) := by decide +kernel
theorem dX5_takeItem_79 : decode cX5_takeItem 79 = .ok (.invokevirtual 42, 3) := by decide +kernel
theorem dX5_takeItem_82 : decode cX5_takeItem 82 = .ok (.ifCond .eq 48, 3) := by decide +kernel
theorem dX5_takeItem_85 : decode cX5_takeItem 85 = .ok (.aload_n 0, 1) := by decide +kernel
theorem dX5_takeItem_86 : decode cX5_takeItem 86 = .ok (.aload_n 1, 1) := by decide +kernel
theorem dX5_takeItem_87 : decode cX5_takeItem 87 = .ok (.iconst 4, 1) := by decide +kernel
theorem dX5_takeItem_88 : decode cX5_takeItem 88 = .ok (.invokevirtual 38, 3) := by decide +kernel
theorem dX5_takeItem_91 : decode cX5_takeItem 91 = .ok (.ifCond .eq 39, 3) := by decide +kernel
theorem dX5_takeItem_94 : decode cX5_takeItem 94 = .ok (.iload_n 2, 1) := by decide +kernel
theorem dX5_takeItem_95 : decode cX5_takeItem 95 = .ok (.iconst 2, 1) := by decide +kernel
theorem dX5_takeItem_96 : decode cX5_takeItem 96 = .ok (.if_icmp .ne 21, 3) := by decide +kernel
theorem dX5_takeItem_99 : decode cX5_takeItem 99 = .ok (.aload_n 0, 1) := by decide +kernel
theorem dX5_takeItem_100 : decode cX5_takeItem 100 = .ok (.bipush 101, 2) := by decide +kernel
theorem dX5_takeItem_102 : decode cX5_takeItem 102 = .ok (.invokevirtual 42, 3) := by decide +kernel
theorem dX5_takeItem_105 : decode cX5_takeItem 105 = .ok (.ifCond .eq 25, 3) := by decide +kernel
theorem dX5_takeItem_108 : decode cX5_takeItem 108 = .ok (.aload_n 0, 1) := by decide +kernel
theorem dX5_takeItem_109 : decode cX5_takeItem 109 = .ok (.aload_n 1, 1) := by decide +kernel
theorem dX5_takeItem_110 : decode cX5_takeItem 110 = .ok (.iconst 5, 1) := by decide +kernel
theorem dX5_takeItem_111 : decode cX5_takeItem 111 = .ok (.invokevirtual 38, 3) := by decide +kernel
theorem dX5_takeItem_114 : decode cX5_takeItem 114 = .ok (.ifCond .eq 16, 3) := by decide +kernel
theorem dX5_takeItem_117 : decode cX5_takeItem 117 = .ok (.aload_n 0, 1) := by decide +kernel
theorem dX5_takeItem_118 : decode cX5_takeItem 118 = .ok (.bipush 59, 2) := by decide +kernel
theorem dX5_takeItem_120 : decode cX5_takeItem 120 = .ok (.invokevirtual 42, 3) := by decide +kernel
theorem dX5_takeItem_123 : decode cX5_takeItem 123 = .ok (.ifCond .eq 7, 3) := by decide +kernel
theorem dX5_takeItem_126 : decode cX5_takeItem 126 = .ok (.iconst 1, 1) := by decide +kernel
theorem dX5_takeItem_127 : decode cX5_takeItem 127 = .ok (.goto 4, 3) := by decide +kernel
theorem dX5_takeItem_130 : decode cX5_takeItem 130 = .ok (.iconst 0, 1) := by decide +kernel
theorem dX5_takeItem_131 : decode cX5_takeItem 131 = .ok (.ireturn, 1) := by decide +kernel
theorem dX5_takeKind_0 : decode cX5_takeKind 0 = .ok (.aload_n 0, 1) := by decide +kernel
theorem dX5_takeKind_1 : decode cX5_takeKind 1 = .ok (.bipush 112, 2) := by decide +kernel
theorem dX5_takeKind_3 : decode cX5_takeKind 3 = .ok (.invokevirtual 42, 3) := by decide +kernel
theorem dX5_takeKind_6 : decode cX5_takeKind 6 = .ok (.ifCond .eq 5, 3) := by decide +kernel
theorem dX5_takeKind_9 : decode cX5_takeKind 9 = .ok (.iconst 0, 1) := by decide +kernel
theorem dX5_takeKind_10 : decode cX5_takeKind 10 = .ok (.ireturn, 1) := by decide +kernel
theorem dX5_takeKind_11 : decode cX5_takeKind 11 = .ok (.aload_n 0, 1) := by decide +kernel
theorem dX5_takeKind_12 : decode cX5_takeKind 12 = .ok (.bipush 115, 2) := by decide +kernel
theorem dX5_takeKind_14 : decode cX5_takeKind 14 = .ok (.invokevirtual 42, 3) := by decide +kernel
theorem dX5_takeKind_17 : decode cX5_takeKind 17 = .ok (.ifCond .eq 5, 3) := by decide +kernel
theorem dX5_takeKind_20 : decode cX5_takeKind 20 = .ok (.iconst 1, 1) := by decide +kernel
theorem dX5_takeKind_21 : decode cX5_takeKind 21 = .ok (.ireturn, 1) := by decide +kernel
theorem dX5_takeKind_22 : decode cX5_takeKind 22 = .ok (.aload_n 0, 1) := by decide +kernel
theorem dX5_takeKind_23 : decode cX5_takeKind 23 = .ok (.bipush 99, 2) := by decide +kernel
theorem dX5_takeKind_25 : decode cX5_takeKind 25 = .ok (.invokevirtual 42, 3) := by decide +kernel
theorem dX5_takeKind_28 : decode cX5_takeKind 28 = .ok (.ifCond .eq 7, 3) := by decide +kernel
theorem dX5_takeKind_31 : decode cX5_takeKind 31 = .ok (.iconst 2, 1) := by decide +kernel
theorem dX5_takeKind_32 : decode cX5_takeKind 32 = .ok (.goto 4, 3) := by decide +kernel
theorem dX5_takeKind_35 : decode cX5_takeKind 35 = .ok (.iconst (-1), 1) := by decide +kernel
theorem dX5_takeKind_36 : decode cX5_takeKind 36 = .ok (.ireturn, 1) := by decide +kernel
theorem dX5_takeSign_0 : decode cX5_takeSign 0 = .ok (.aload_n 0, 1) := by decide +kernel
theorem dX5_takeSign_1 : decode cX5_takeSign 1 = .ok (.getfield 24, 3) := by decide +kernel
theorem dX5_takeSign_4 : decode cX5_takeSign 4 = .ok (.aload_n 0, 1) := by decide +kernel
theorem dX5_takeSign_5 : decode cX5_takeSign 5 = .ok (.getfield 20, 3) := by decide +kernel
theorem dX5_takeSign_8 : decode cX5_takeSign 8 = .ok (.if_icmp .ge 16, 3) := by decide +kernel
theorem dX5_takeSign_11 : decode cX5_takeSign 11 = .ok (.aload_n 0, 1) := by decide +kernel
theorem dX5_takeSign_12 : decode cX5_takeSign 12 = .ok (.getfield 9, 3) := by decide +kernel
theorem dX5_takeSign_15 : decode cX5_takeSign 15 = .ok (.aload_n 0, 1) := by decide +kernel
theorem dX5_takeSign_16 : decode cX5_takeSign 16 = .ok (.getfield 24, 3) := by decide +kernel
theorem dX5_takeSign_19 : decode cX5_takeSign 19 = .ok (.iaload, 1) := by decide +kernel
theorem dX5_takeSign_20 : decode cX5_takeSign 20 = .ok (.iload_n 1, 1) := by decide +kernel
theorem dX5_takeSign_21 : decode cX5_takeSign 21 = .ok (.if_icmp .eq 5, 3) := by decide +kernel
theorem dX5_takeSign_24 : decode cX5_takeSign 24 = .ok (.iconst 0, 1) := by decide +kernel
theorem dX5_takeSign_25 : decode cX5_takeSign 25 = .ok (.ireturn, 1) := by decide +kernel
theorem dX5_takeSign_26 : decode cX5_takeSign 26 = .ok (.aload_n 0, 1) := by decide +kernel
theorem dX5_takeSign_27 : decode cX5_takeSign 27 = .ok (.dup, 1) := by decide +kernel
theorem dX5_takeSign_28 : decode cX5_takeSign 28 = .ok (.getfield 24, 3) := by decide +kernel
theorem dX5_takeSign_31 : decode cX5_takeSign 31 = .ok (.iconst 1, 1) := by decide +kernel
theorem dX5_takeSign_32 : decode cX5_takeSign 32 = .ok (.iadd, 1) := by decide +kernel
theorem dX5_takeSign_33 : decode cX5_takeSign 33 = .ok (.putfield 24, 3) := by decide +kernel
theorem dX5_takeSign_36 : decode cX5_takeSign 36 = .ok (.iconst 1, 1) := by decide +kernel
theorem dX5_takeSign_37 : decode cX5_takeSign 37 = .ok (.ireturn, 1) := by decide +kernel
theorem dX5_takeNumber_0 : decode cX5_takeNumber 0 = .ok (.getstatic 46, 3) := by decide +kernel
theorem dX5_takeNumber_3 : decode cX5_takeNumber 3 = .ok (.iload_n 2, 1) := by decide +kernel
theorem dX5_takeNumber_4 : decode cX5_takeNumber 4 = .ok (.iaload, 1) := by decide +kernel
theorem dX5_takeNumber_5 : decode cX5_takeNumber 5 = .ok (.ifCond .ge 16, 3) := by decide +kernel
theorem dX5_takeNumber_8 : decode cX5_takeNumber 8 = .ok (.aload_n 0, 1) := by decide +kernel
theorem dX5_takeNumber_9 : decode cX5_takeNumber 9 = .ok (.bipush 45, 2) := by decide +kernel
theorem dX5_takeNumber_11 : decode cX5_takeNumber 11 = .ok (.invokevirtual 42, 3) := by decide +kernel
theorem dX5_takeNumber_14 : decode cX5_takeNumber 14 = .ok (.ifCond .eq 7, 3) := by decide +kernel
theorem dX5_takeNumber_17 : decode cX5_takeNumber 17 = .ok (.iconst 1, 1) := by decide +kernel
theorem dX5_takeNumber_18 : decode cX5_takeNumber 18 = .ok (.goto 4, 3) := by decide +kernel
theorem dX5_takeNumber_21 : decode cX5_takeNumber 21 = .ok (.iconst 0, 1) := by decide +kernel
theorem dX5_takeNumber_22 : decode cX5_takeNumber 22 = .ok (.istore_n 3, 1) := by decide +kernel
theorem dX5_takeNumber_23 : decode cX5_takeNumber 23 = .ok (.iload_n 3, 1) := by decide +kernel
theorem dX5_takeNumber_24 : decode cX5_takeNumber 24 = .ok (.ifCond .ne 18, 3) := by decide +kernel
theorem dX5_takeNumber_27 : decode cX5_takeNumber 27 = .ok (.aload_n 0, 1) := by decide +kernel
theorem dX5_takeNumber_28 : decode cX5_takeNumber 28 = .ok (.bipush 48, 2) := by decide +kernel
theorem dX5_takeNumber_30 : decode cX5_takeNumber 30 = .ok (.invokevirtual 42, 3) := by decide +kernel
theorem dX5_takeNumber_33 : decode cX5_takeNumber 33 = .ok (.ifCond .eq 9, 3) := by decide +kernel
theorem dX5_takeNumber_36 : decode cX5_takeNumber 36 = .ok (.aload_n 1, 1) := by decide +kernel
theorem dX5_takeNumber_37 : decode cX5_takeNumber 37 = .ok (.iload_n 2, 1) := by decide +kernel
theorem dX5_takeNumber_38 : decode cX5_takeNumber 38 = .ok (.iconst 0, 1) := by decide +kernel
theorem dX5_takeNumber_39 : decode cX5_takeNumber 39 = .ok (.iastore, 1) := by decide +kernel
theorem dX5_takeNumber_40 : decode cX5_takeNumber 40 = .ok (.iconst 1, 1) := by decide +kernel
theorem dX5_takeNumber_41 : decode cX5_takeNumber 41 = .ok (.ireturn, 1) := by decide +kernel
theorem dX5_takeNumber_42 : decode cX5_takeNumber 42 = .ok (.aload_n 0, 1) := by decide +kernel
theorem dX5_takeNumber_43 : decode cX5_takeNumber 43 = .ok (.getfield 24, 3) := by decide +kernel
theorem dX5_takeNumber_46 : decode cX5_takeNumber 46 = .ok (.aload_n 0, 1) := by decide +kernel
theorem dX5_takeNumber_47 : decode cX5_takeNumber 47 = .ok (.getfield 20, 3) := by decide +kernel
theorem dX5_takeNumber_50 : decode cX5_takeNumber 50 = .ok (.if_icmp .ge 22, 3) := by decide +kernel
theorem dX5_takeNumber_53 : decode cX5_takeNumber 53 = .ok (.aload_n 0, 1) := by decide +kernel
theorem dX5_takeNumber_54 : decode cX5_takeNumber 54 = .ok (.getfield 9, 3) := by decide +kernel
theorem dX5_takeNumber_57 : decode cX5_takeNumber 57 = .ok (.aload_n 0, 1) := by decide +kernel
theorem dX5_takeNumber_58 : decode cX5_takeNumber 58 = .ok (.getfield 24, 3) := by decide +kernel
theorem dX5_takeNumber_61 : decode cX5_takeNumber 61 = .ok (.iaload, 1) := by decide +kernel
theorem dX5_takeNumber_62 : decode cX5_takeNumber 62 = .ok (.bipush 49, 2) := by decide +kernel
theorem dX5_takeNumber_64 : decode cX5_takeNumber 64 = .ok (.bipush 57, 2) := by decide +kernel
theorem dX5_takeNumber_66 : decode cX5_takeNumber 66 = .ok (.invokestatic 49, 3) := by decide +kernel
theorem dX5_takeNumber_69 : decode cX5_takeNumber 69 = .ok (.ifCond .ne 5, 3) := by decide +kernel
theorem dX5_takeNumber_72 : decode cX5_takeNumber 72 = .ok (.iconst 0, 1) := by decide +kernel
theorem dX5_takeNumber_73 : decode cX5_takeNumber 73 = .ok (.ireturn, 1) := by decide +kernel
theorem dX5_takeNumber_74 : decode cX5_takeNumber 74 = .ok (.iload_n 3, 1) := by decide +kernel
theorem dX5_takeNumber_75 : decode cX5_takeNumber 75 = .ok (.ifCond .eq 12, 3) := by decide +kernel
theorem dX5_takeNumber_78 : decode cX5_takeNumber 78 = .ok (.getstatic 46, 3) := by decide +kernel
theorem dX5_takeNumber_81 : decode cX5_takeNumber 81 = .ok (.iload_n 2, 1) := by decide +kernel
theorem dX5_takeNumber_82 : decode cX5_takeNumber 82 = .ok (.iaload, 1) := by decide +kernel
theorem dX5_takeNumber_83 : decode cX5_takeNumber 83 = .ok (.ineg, 1) := by decide +kernel
theorem dX5_takeNumber_84 : decode cX5_takeNumber 84 = .ok (.goto 8, 3) := by decide +kernel
theorem dX5_takeNumber_87 : decode cX5_takeNumber 87 = .ok (.getstatic 35, 3) := by decide +kernel
theorem dX5_takeNumber_90 : decode cX5_takeNumber 90 = .ok (.iload_n 2, 1) := by decide +kernel
theorem dX5_takeNumber_91 : decode cX5_takeNumber 91 = .ok (.iaload, 1) := by decide +kernel
theorem dX5_takeNumber_92 : decode cX5_takeNumber 92 = .ok (.istore 4, 2) := by decide +kernel
theorem dX5_takeNumber_94 : decode cX5_takeNumber 94 = .ok (.iconst 0, 1) := by decide +kernel
theorem dX5_takeNumber_95 : decode cX5_takeNumber 95 = .ok (.istore 5, 2) := by decide +kernel
theorem dX5_takeNumber_97 : decode cX5_takeNumber 97 = .ok (.aload_n 0, 1) := by decide +kernel
theorem dX5_takeNumber_98 : decode cX5_takeNumber 98 = .ok (.getfield 24, 3) := by decide +kernel
theorem dX5_takeNumber_101 : decode cX5_takeNumber 101 = .ok (.aload_n 0, 1) := by decide +kernel
theorem dX5_takeNumber_102 : decode cX5_takeNumber 102 = .ok (.getfield 20, 3) := by decide +kernel
theorem dX5_takeNumber_105 : decode cX5_takeNumber 105 = .ok (.if_icmp .ge 64, 3) := by decide +kernel
theorem dX5_takeNumber_108 : decode cX5_takeNumber 108 = .ok (.aload_n 0, 1) := by decide +kernel
theorem dX5_takeNumber_109 : decode cX5_takeNumber 109 = .ok (.getfield 9, 3) := by decide +kernel
theorem dX5_takeNumber_112 : decode cX5_takeNumber 112 = .ok (.aload_n 0, 1) := by decide +kernel
theorem dX5_takeNumber_113 : decode cX5_takeNumber 113 = .ok (.getfield 24, 3) := by decide +kernel
theorem dX5_takeNumber_116 : decode cX5_takeNumber 116 = .ok (.iaload, 1) := by decide +kernel
theorem dX5_takeNumber_117 : decode cX5_takeNumber 117 = .ok (.bipush 48, 2) := by decide +kernel
theorem dX5_takeNumber_119 : decode cX5_takeNumber 119 = .ok (.bipush 57, 2) := by decide +kernel
theorem dX5_takeNumber_121 : decode cX5_takeNumber 121 = .ok (.invokestatic 49, 3) := by decide +kernel
theorem dX5_takeNumber_124 : decode cX5_takeNumber 124 = .ok (.ifCond .eq 45, 3) := by decide +kernel
theorem dX5_takeNumber_127 : decode cX5_takeNumber 127 = .ok (.bipush 10, 2) := by decide +kernel
theorem dX5_takeNumber_129 : decode cX5_takeNumber 129 = .ok (.iload 5, 2) := by decide +kernel
theorem dX5_takeNumber_131 : decode cX5_takeNumber 131 = .ok (.imul, 1) := by decide +kernel
theorem dX5_takeNumber_132 : decode cX5_takeNumber 132 = .ok (.aload_n 0, 1) := by decide +kernel
theorem dX5_takeNumber_133 : decode cX5_takeNumber 133 = .ok (.getfield 9, 3) := by decide +kernel
theorem dX5_takeNumber_136 : decode cX5_takeNumber 136 = .ok (.aload_n 0, 1) := by decide +kernel
theorem dX5_takeNumber_137 : decode cX5_takeNumber 137 = .ok (.getfield 24, 3) := by decide +kernel
theorem dX5_takeNumber_140 : decode cX5_takeNumber 140 = .ok (.iaload, 1) := by decide +kernel
theorem dX5_takeNumber_141 : decode cX5_takeNumber 141 = .ok (.iadd, 1) := by decide +kernel
theorem dX5_takeNumber_142 : decode cX5_takeNumber 142 = .ok (.bipush 48, 2) := by decide +kernel
theorem dX5_takeNumber_144 : decode cX5_takeNumber 144 = .ok (.isub, 1) := by decide +kernel
theorem dX5_takeNumber_145 : decode cX5_takeNumber 145 = .ok (.istore 5, 2) := by decide +kernel
theorem dX5_takeNumber_147 : decode cX5_takeNumber 147 = .ok (.iload 5, 2) := by decide +kernel
theorem dX5_takeNumber_149 : decode cX5_takeNumber 149 = .ok (.iload 4, 2) := by decide +kernel
theorem dX5_takeNumber_151 : decode cX5_takeNumber 151 = .ok (.if_icmp .le 5, 3) := by decide +kernel
theorem dX5_takeNumber_154 : decode cX5_takeNumber 154 = .ok (.iconst 0, 1) := by decide +kernel
theorem dX5_takeNumber_155 : decode cX5_takeNumber 155 = .ok (.ireturn, 1) := by decide +kernel
theorem dX5_takeNumber_156 : decode cX5_takeNumber 156 = .ok (.aload_n 0, 1) := by decide +kernel
theorem dX5_takeNumber_157 : decode cX5_takeNumber 157 = .ok (.dup, 1) := by decide +kernel
theorem dX5_takeNumber_158 : decode cX5_takeNumber 158 = .ok (.getfield 24, 3) := by decide +kernel
theorem dX5_takeNumber_161 : decode cX5_takeNumber 161 = .ok (.iconst 1, 1) := by decide +kernel
theorem dX5_takeNumber_162 : decode cX5_takeNumber 162 = .ok (.iadd, 1) := by decide +kernel
theorem dX5_takeNumber_163 : decode cX5_takeNumber 163 = .ok (.putfield 24, 3) := by decide +kernel
theorem dX5_takeNumber_166 : decode cX5_takeNumber 166 = .ok (.goto (-69), 3) := by decide +kernel
theorem dX5_takeNumber_169 : decode cX5_takeNumber 169 = .ok (.aload_n 1, 1) := by decide +kernel
theorem dX5_takeNumber_170 : decode cX5_takeNumber 170 = .ok (.iload_n 2, 1) := by decide +kernel
theorem dX5_takeNumber_171 : decode cX5_takeNumber 171 = .ok (.iload_n 3, 1) := by decide +kernel
theorem dX5_takeNumber_172 : decode cX5_takeNumber 172 = .ok (.ifCond .eq 9, 3) := by decide +kernel
theorem dX5_takeNumber_175 : decode cX5_takeNumber 175 = .ok (.iload 5, 2) := by decide +kernel
theorem dX5_takeNumber_177 : decode cX5_takeNumber 177 = .ok (.ineg, 1) := by decide +kernel
theorem dX5_takeNumber_178 : decode cX5_takeNumber 178 = .ok (.goto 5, 3) := by decide +kernel
theorem dX5_takeNumber_181 : decode cX5_takeNumber 181 = .ok (.iload 5, 2) := by decide +kernel
theorem dX5_takeNumber_183 : decode cX5_takeNumber 183 = .ok (.iastore, 1) := by decide +kernel
theorem dX5_takeNumber_184 : decode cX5_takeNumber 184 = .ok (.iconst 1, 1) := by decide +kernel
theorem dX5_takeNumber_185 : decode cX5_takeNumber 185 = .ok (.ireturn, 1) := by decide +kernel
theorem dX6_init_0 : decode cX6_init 0 = .ok (.aload_n 0, 1) := by decide +kernel
theorem dX6_init_1 : decode cX6_init 1 = .ok (.invokespecial 5, 3) := by decide +kernel
theorem dX6_init_4 : decode cX6_init 4 = .ok (.aload_n 0, 1) := by decide +kernel
theorem dX6_init_5 : decode cX6_init 5 = .ok (.bipush 10, 2) := by decide +kernel
theorem dX6_init_7 : decode cX6_init 7 = .ok (.iconst 4, 1) := by decide +kernel
theorem dX6_init_8 : decode cX6_init 8 = .ok (.multianewarray 11 2, 4) := by decide +kernel
theorem dX6_init_12 : decode cX6_init 12 = .ok (.putfield 13, 3) := by decide +kernel
theorem dX6_init_15 : decode cX6_init 15 = .ok (.aload_n 0, 1) := by decide +kernel
theorem dX6_init_16 : decode cX6_init 16 = .ok (.bipush 8, 2) := by decide +kernel
theorem dX6_init_18 : decode cX6_init 18 = .ok (.iconst 2, 1) := by decide +kernel
theorem dX6_init_19 : decode cX6_init 19 = .ok (.multianewarray 11 2, 4) := by decide +kernel
theorem dX6_init_23 : decode cX6_init 23 = .ok (.putfield 16, 3) := by decide +kernel
theorem dX6_init_26 : decode cX6_init 26 = .ok (.aload_n 0, 1) := by decide +kernel
theorem dX6_init_27 : decode cX6_init 27 = .ok (.bipush 8, 2) := by decide +kernel
theorem dX6_init_29 : decode cX6_init 29 = .ok (.putfield 19, 3) := by decide +kernel
theorem dX6_init_32 : decode cX6_init 32 = .ok (.aload_n 0, 1) := by decide +kernel
theorem dX6_init_33 : decode cX6_init 33 = .ok (.bipush 36, 2) := by decide +kernel
theorem dX6_init_35 : decode cX6_init 35 = .ok (.newarray .int, 2) := by decide +kernel
theorem dX6_init_37 : decode cX6_init 37 = .ok (.putfield 23, 3) := by decide +kernel
theorem dX6_init_40 : decode cX6_init 40 = .ok (.aload_n 0, 1) := by decide +kernel
theorem dX6_init_41 : decode cX6_init 41 = .ok (.bipush 36, 2) := by decide +kernel
theorem dX6_init_43 : decode cX6_init 43 = .ok (.bipush 48, 2) := by decide +kernel
theorem dX6_init_45 : decode cX6_init 45 = .ok (.multianewarray 11 2, 4) := by decide +kernel
theorem dX6_init_49 : decode cX6_init 49 = .ok (.putfield 27, 3) := by decide +kernel
theorem dX6_init_52 : decode cX6_init 52 = .ok (.aload_n 0, 1) := by decide +kernel
theorem dX6_init_53 : decode cX6_init 53 = .ok (.iconst 3, 1) := by decide +kernel
theorem dX6_init_54 : decode cX6_init 54 = .ok (.newarray .int, 2) := by decide +kernel
theorem dX6_init_56 : decode cX6_init 56 = .ok (.putfield 30, 3) := by decide +kernel
theorem dX6_init_59 : decode cX6_init 59 = .ok (.aload_n 0, 1) := by decide +kernel
theorem dX6_init_60 : decode cX6_init 60 = .ok (.sipush 4096, 3) := by decide +kernel
theorem dX6_init_63 : decode cX6_init 63 = .ok (.newarray .int, 2) := by decide +kernel
theorem dX6_init_65 : decode cX6_init 65 = .ok (.putfield 33, 3) := by decide +kernel
theorem dX6_init_68 : decode cX6_init 68 = .ok (.aload_n 0, 1) := by decide +kernel
theorem dX6_init_69 : decode cX6_init 69 = .ok (.sipush 4096, 3) := by decide +kernel
theorem dX6_init_72 : decode cX6_init 72 = .ok (.newarray .int, 2) := by decide +kernel
theorem dX6_init_74 : decode cX6_init 74 = .ok (.putfield 36, 3) := by decide +kernel
theorem dX6_init_77 : decode cX6_init 77 = .ok (.aload_n 0, 1) := by decide +kernel
theorem dX6_init_78 : decode cX6_init 78 = .ok (.iconst 1, 1) := by decide +kernel
theorem dX6_init_79 : decode cX6_init 79 = .ok (.putfield 39, 3) := by decide +kernel
theorem dX6_init_82 : decode cX6_init 82 = .ok (.aload_n 0, 1) := by decide +kernel
theorem dX6_init_83 : decode cX6_init 83 = .ok (.iconst 2, 1) := by decide +kernel
theorem dX6_init_84 : decode cX6_init 84 = .ok (.putfield 42, 3) := by decide +kernel
theorem dX6_init_87 : decode cX6_init 87 = .ok (.aload_n 0, 1) := by decide +kernel
theorem dX6_init_88 : decode cX6_init 88 = .ok (.iconst 1, 1) := by decide +kernel
theorem dX6_init_89 : decode cX6_init 89 = .ok (.putfield 45, 3) := by decide +kernel
theorem dX6_init_92 : decode cX6_init 92 = .ok (.aload_n 0, 1) := by decide +kernel
theorem dX6_init_93 : decode cX6_init 93 = .ok (.aload_n 1, 1) := by decide +kernel
theorem dX6_init_94 : decode cX6_init 94 = .ok (.putfield 49, 3) := by decide +kernel
theorem dX6_init_97 : decode cX6_init 97 = .ok (.aload_n 0, 1) := by decide +kernel
theorem dX6_init_98 : decode cX6_init 98 = .ok (.aload_n 2, 1) := by decide +kernel
theorem dX6_init_99 : decode cX6_init 99 = .ok (.putfield 53, 3) := by decide +kernel
theorem dX6_init_102 : decode cX6_init 102 = .ok (.return_, 1) := by decide +kernel
theorem dX6_addPair_0 : decode cX6_addPair 0 = .ok (.aload_n 0, 1) := by decide +kernel
theorem dX6_addPair_1 : decode cX6_addPair 1 = .ok (.getfield 13, 3) := by decide +kernel
theorem dX6_addPair_4 : decode cX6_addPair 4 = .ok (.aload_n 0, 1) := by decide +kernel
theorem dX6_addPair_5 : decode cX6_addPair 5 = .ok (.getfield 57, 3) := by decide +kernel
theorem dX6_addPair_8 : decode cX6_addPair 8 = .ok (.aaload, 1) := by decide +kernel
theorem dX6_addPair_9 : decode cX6_addPair 9 = .ok (.astore 5, 2) := by decide +kernel
theorem dX6_addPair_11 : decode cX6_addPair 11 = .ok (.aload 5, 2) := by decide +kernel
theorem dX6_addPair_13 : decode cX6_addPair 13 = .ok (.iconst 0, 1) := by decide +kernel
theorem dX6_addPair_14 : decode cX6_addPair 14 = .ok (.iload_n 1, 1) := by decide +kernel
theorem dX6_addPair_15 : decode cX6_addPair 15 = .ok (.iastore, 1) := by decide +kernel
theorem dX6_addPair_16 : decode cX6_addPair 16 = .ok (.aload 5, 2) := by decide +kernel
theorem dX6_addPair_18 : decode cX6_addPair 18 = .ok (.iconst 1, 1) := by decide +kernel
theorem dX6_addPair_19 : decode cX6_addPair 19 = .ok (.iload_n 2, 1) := by decide +kernel
theorem dX6_addPair_20 : decode cX6_addPair 20 = .ok (.iastore, 1) := by decide +kernel
theorem dX6_addPair_21 : decode cX6_addPair 21 = .ok (.aload 5, 2) := by decide +kernel
theorem dX6_addPair_23 : decode cX6_addPair 23 = .ok (.iconst 2, 1) := by decide +kernel
theorem dX6_addPair_24 : decode cX6_addPair 24 = .ok (.iload_n 3, 1) := by decide +kernel
theorem dX6_addPair_25 : decode cX6_addPair 25 = .ok (.iastore, 1) := by decide +kernel
theorem dX6_addPair_26 : decode cX6_addPair 26 = .ok (.aload 5, 2) := by decide +kernel
theorem dX6_addPair_28 : decode cX6_addPair 28 = .ok (.iconst 3, 1) := by decide +kernel
theorem dX6_addPair_29 : decode cX6_addPair 29 = .ok (.iload 4, 2) := by decide +kernel
theorem dX6_addPair_31 : decode cX6_addPair 31 = .ok (.iastore, 1) := by decide +kernel
theorem dX6_addPair_32 : decode cX6_addPair 32 = .ok (.aload_n 0, 1) := by decide +kernel
theorem dX6_addPair_33 : decode cX6_addPair 33 = .ok (.dup, 1) := by decide +kernel
theorem dX6_addPair_34 : decode cX6_addPair 34 = .ok (.getfield 57, 3) := by decide +kernel
theorem dX6_addPair_37 : decode cX6_addPair 37 = .ok (.iconst 1, 1) := by decide +kernel
theorem dX6_addPair_38 : decode cX6_addPair 38 = .ok (.iadd, 1) := by decide +kernel
theorem dX6_addPair_39 : decode cX6_addPair 39 = .ok (.putfield 57, 3) := by decide +kernel
theorem dX6_addPair_42 : decode cX6_addPair 42 = .ok (.aload_n 0, 1) := by decide +kernel
theorem dX6_addPair_43 : decode cX6_addPair 43 = .ok (.iconst 1, 1) := by decide +kernel
theorem dX6_addPair_44 : decode cX6_addPair 44 = .ok (.putfield 45, 3) := by decide +kernel
theorem dX6_addPair_47 : decode cX6_addPair 47 = .ok (.aload_n 0, 1) := by decide +kernel
theorem dX6_addPair_48 : decode cX6_addPair 48 = .ok (.getfield 57, 3) := by decide +kernel
theorem dX6_addPair_51 : decode cX6_addPair 51 = .ok (.ireturn, 1) := by decide +kernel
theorem dX6_addSpot_0 : decode cX6_addSpot 0 = .ok (.aload_n 0, 1) := by decide +kernel
theorem dX6_addSpot_1 : decode cX6_addSpot 1 = .ok (.getfield 16, 3) := by decide +kernel
theorem dX6_addSpot_4 : decode cX6_addSpot 4 = .ok (.aload_n 0, 1) := by decide +kernel
theorem dX6_addSpot_5 : decode cX6_addSpot 5 = .ok (.getfield 60, 3) := by decide +kernel
theorem dX6_addSpot_8 : decode cX6_addSpot 8 = .ok (.aaload, 1) := by decide +kernel
theorem dX6_addSpot_9 : decode cX6_addSpot 9 = .ok (.iconst 0, 1) := by decide +kernel
theorem dX6_addSpot_10 : decode cX6_addSpot 10 = .ok (.iload_n 1, 1) := by decide +kernel
theorem dX6_addSpot_11 : decode cX6_addSpot 11 = .ok (.iastore, 1) := by decide +kernel
theorem dX6_addSpot_12 : decode cX6_addSpot 12 = .ok (.aload_n 0, 1) := by decide +kernel
theorem dX6_addSpot_13 : decode cX6_addSpot 13 = .ok (.getfield 16, 3) := by decide +kernel
theorem dX6_addSpot_16 : decode cX6_addSpot 16 = .ok (.aload_n 0, 1) := by decide +kernel
theorem dX6_addSpot_17 : decode cX6_addSpot 17 = .ok (.getfield 60, 3) := by decide +kernel
theorem dX6_addSpot_20 : decode cX6_addSpot 20 = .ok (.aaload, 1) := by decide +kernel
theorem dX6_addSpot_21 : decode cX6_addSpot 21 = .ok (.iconst 1, 1) := by decide +kernel
theorem dX6_addSpot_22 : decode cX6_addSpot 22 = .ok (.iload_n 2, 1) := by decide +kernel
theorem dX6_addSpot_23 : decode cX6_addSpot 23 = .ok (.iastore, 1) := by decide +kernel
theorem dX6_addSpot_24 : decode cX6_addSpot 24 = .ok (.aload_n 0, 1) := by decide +kernel
theorem dX6_addSpot_25 : decode cX6_addSpot 25 = .ok (.dup, 1) := by decide +kernel
theorem dX6_addSpot_26 : decode cX6_addSpot 26 = .ok (.getfield 60, 3) := by decide +kernel
theorem dX6_addSpot_29 : decode cX6_addSpot 29 = .ok (.iconst 1, 1) := by decide +kernel
theorem dX6_addSpot_30 : decode cX6_addSpot 30 = .ok (.iadd, 1) := by decide +kernel
theorem dX6_addSpot_31 : decode cX6_addSpot 31 = .ok (.putfield 60, 3) := by decide +kernel
theorem dX6_addSpot_34 : decode cX6_addSpot 34 = .ok (.aload_n 0, 1) := by decide +kernel
theorem dX6_addSpot_35 : decode cX6_addSpot 35 = .ok (.iconst 1, 1) := by decide +kernel
theorem dX6_addSpot_36 : decode cX6_addSpot 36 = .ok (.putfield 45, 3) := by decide +kernel
theorem dX6_addSpot_39 : decode cX6_addSpot 39 = .ok (.aload_n 0, 1) := by decide +kernel
theorem dX6_addSpot_40 : decode cX6_addSpot 40 = .ok (.getfield 60, 3) := by decide +kernel
theorem dX6_addSpot_43 : decode cX6_addSpot 43 = .ok (.ireturn, 1) := by decide +kernel
theorem dX6_load_0 : decode cX6_load 0 = .ok (.aload_n 0, 1) := by decide +kernel
theorem dX6_load_1 : decode cX6_load 1 = .ok (.getfield 45, 3) := by decide +kernel
theorem dX6_load_4 : decode cX6_load 4 = .ok (.ifCond .ne 22, 3) := by decide +kernel
theorem dX6_load_7 : decode cX6_load 7 = .ok (.aload_n 0, 1) := by decide +kernel
theorem dX6_load_8 : decode cX6_load 8 = .ok (.getfield 39, 3) := by decide +kernel
theorem dX6_load_11 : decode cX6_load 11 = .ok (.iload_n 1, 1) := by decide +kernel
theorem dX6_load_12 : decode cX6_load 12 = .ok (.if_icmp .ne 14, 3) := by decide +kernel
theorem dX6_load_15 : decode cX6_load 15 = .ok (.aload_n 0, 1) := by decide +kernel
theorem dX6_load_16 : decode cX6_load 16 = .ok (.getfield 42, 3) := by decide +kernel
theorem dX6_load_19 : decode cX6_load 19 = .ok (.iload_n 2, 1) := by decide +kernel
theorem dX6_load_20 : decode cX6_load 20 = .ok (.iconst 1, 1) := by decide +kernel
theorem dX6_load_21 : decode cX6_load 21 = .ok (.iadd, 1) := by decide +kernel
theorem dX6_load_22 : decode cX6_load 22 = .ok (.if_icmp .ne 4, 3) := by decide +kernel
theorem dX6_load_25 : decode cX6_load 25 = .ok (.return_, 1) := by decide +kernel
theorem dX6_load_26 : decode cX6_load 26 = .ok (.aload_n 0, 1) := by decide +kernel
theorem dX6_load_27 : decode cX6_load 27 = .ok (.iload_n 1, 1) := by decide +kernel
theorem dX6_load_28 : decode cX6_load 28 = .ok (.putfield 39, 3) := by decide +kernel
theorem dX6_load_31 : decode cX6_load 31 = .ok (.aload_n 0, 1) := by decide +kernel
theorem dX6_load_32 : decode cX6_load 32 = .ok (.iload_n 2, 1) := by decide +kernel
theorem dX6_load_33 : decode cX6_load 33 = .ok (.iconst 1, 1) := by decide +kernel
theorem dX6_load_34 : decode cX6_load 34 = .ok (.iadd, 1) := by decide +kernel
theorem dX6_load_35 : decode cX6_load 35 = .ok (.putfield 42, 3) := by decide +kernel
theorem dX6_load_38 : decode cX6_load 38 = .ok (.aload_n 0, 1) := by decide +kernel
theorem dX6_load_39 : decode cX6_load 39 = .ok (.iconst 1, 1) := by decide +kernel
theorem dX6_load_40 : decode cX6_load 40 = .ok (.putfield 63, 3) := by decide +kernel
theorem dX6_load_43 : decode cX6_load 43 = .ok (.iconst 0, 1) := by decide +kernel
theorem dX6_load_44 : decode cX6_load 44 = .ok (.istore_n 3, 1) := by decide +kernel
theorem dX6_load_45 : decode cX6_load 45 = .ok (.iload_n 3, 1) := by decide +kernel
theorem dX6_load_46 : decode cX6_load 46 = .ok (.iload_n 1, 1) := by decide +kernel
theorem dX6_load_47 : decode cX6_load 47 = .ok (.if_icmp .ge 22, 3) := by decide +kernel
theorem dX6_load_50 : decode cX6_load 50 = .ok (.aload_n 0, 1) := by decide +kernel
theorem dX6_load_51 : decode cX6_load 51 = .ok (.dup, 1) := by decide +kernel
theorem dX6_load_52 : decode cX6_load 52 = .ok (.getfield 63, 3) := by decide +kernel
theorem dX6_load_55 : decode cX6_load 55 = .ok (.aload_n 0, 1) := by decide +kernel
theorem dX6_load_56 : decode cX6_load 56 = .ok (.getfield 42, 3) := by decide +kernel
theorem dX6_load_59 : decode cX6_load 59 = .ok (.imul, 1) := by decide +kernel
theorem dX6_load_60 : decode cX6_load 60 = .ok (.putfield 63, 3) := by decide +kernel
theorem dX6_load_63 : decode cX6_load 63 = .ok (.iinc 3 1, 3) := by decide +kernel
theorem dX6_load_66 : decode cX6_load 66 = .ok (.goto (-21), 3) := by decide +kernel
theorem dX6_load_69 : decode cX6_load 69 = .ok (.iconst 0, 1) := by decide +kernel
theorem dX6_load_70 : decode cX6_load 70 = .ok (.istore_n 3, 1) := by decide +kernel
theorem dX6_load_71 : decode cX6_load 71 = .ok (.iload_n 3, 1) := by decide +kernel
theorem dX6_load_72 : decode cX6_load 72 = .ok (.iconst 2, 1) := by decide +kernel
theorem dX6_load_73 : decode cX6_load 73 = .ok (.if_icmp .ge 161, 3) := by decide +kernel
theorem dX6_load_76 : decode cX6_load 76 = .ok (.iconst 0, 1) := by decide +kernel
theorem dX6_load_77 : decode cX6_load 77 = .ok (.istore 4, 2) := by decide +kernel
theorem dX6_load_79 : decode cX6_load 79 = .ok (.iload 4, 2) := by decide +kernel
theorem dX6_load_81 : decode cX6_load 81 = .ok (.aload_n 0, 1) := by decide +kernel
theorem dX6_load_82 : decode cX6_load 82 = .ok (.getfield 57, 3) := by decide +kernel
theorem dX6_load_85 : decode cX6_load 85 = .ok (.if_icmp .ge 79, 3) := by decide +kernel
theorem dX6_load_88 : decode cX6_load 88 = .ok (.aload_n 0, 1) := by decide +kernel
theorem dX6_load_89 : decode cX6_load 89 = .ok (.iconst 2, 1) := by decide +kernel
theorem dX6_load_90 : decode cX6_load 90 = .ok (.iload 4, 2) := by decide +kernel
theorem dX6_load_92 : decode cX6_load 92 = .ok (.imul, 1) := by decide +kernel
theorem dX6_load_93 : decode cX6_load 93 = .ok (.iload_n 3, 1) := by decide +kernel
theorem dX6_load_94 : decode cX6_load 94 = .ok (.iadd, 1) := by decide +kernel
theorem dX6_load_95 : decode cX6_load 95 = .ok (.invokevirtual 66, 3) := by decide +kernel
theorem dX6_load_98 : decode cX6_load 98 = .ok (.aload_n 0, 1) := by decide +kernel
theorem dX6_load_99 : decode cX6_load 99 = .ok (.iconst 2, 1) := by decide +kernel
theorem dX6_load_100 : decode cX6_load 100 = .ok (.iload 4, 2) := by decide +kernel
theorem dX6_load_102 : decode cX6_load 102 = .ok (.imul, 1) := by decide +kernel
theorem dX6_load_103 : decode cX6_load 103 = .ok (.iload_n 3, 1) := by decide +kernel
theorem dX6_load_104 : decode cX6_load 104 = .ok (.iadd, 1) := by decide +kernel
theorem dX6_load_105 : decode cX6_load 105 = .ok (.iconst 1, 1) := by decide +kernel
theorem dX6_load_106 : decode cX6_load 106 = .ok (.aload_n 0, 1) := by decide +kernel
theorem dX6_load_107 : decode cX6_load 107 = .ok (.getfield 13, 3) := by decide +kernel
theorem dX6_load_110 : decode cX6_load 110 = .ok (.iload 4, 2) := by decide +kernel
theorem dX6_load_112 : decode cX6_load 112 = .ok (.aaload, 1) := by decide +kernel
theorem dX6_load_113 : decode cX6_load 113 = .ok (.iconst 0, 1) := by decide +kernel
theorem dX6_load_114 : decode cX6_load 114 = .ok (.iaload, 1) := by decide +kernel
theorem dX6_load_115 : decode cX6_load 115 = .ok (.aload_n 0, 1) := by decide +kernel
theorem dX6_load_116 : decode cX6_load 116 = .ok (.getfield 13, 3) := by decide +kernel
theorem dX6_load_119 : decode cX6_load 119 = .ok (.iload 4, 2) := by decide +kernel
theorem dX6_load_121 : decode cX6_load 121 = .ok (.aaload, 1) := by decide +kernel
theorem dX6_load_122 : decode cX6_load 122 = .ok (.iconst 1, 1) := by decide +kernel
theorem dX6_load_123 : decode cX6_load 123 = .ok (.iaload, 1) := by decide +kernel
theorem dX6_load_124 : decode cX6_load 124 = .ok (.iload_n 3, 1) := by decide +kernel
theorem dX6_load_125 : decode cX6_load 125 = .ok (.invokevirtual 70, 3) := by decide +kernel
theorem dX6_load_128 : decode cX6_load 128 = .ok (.aload_n 0, 1) := by decide +kernel
theorem dX6_load_129 : decode cX6_load 129 = .ok (.iconst 2, 1) := by decide +kernel
theorem dX6_load_130 : decode cX6_load 130 = .ok (.iload 4, 2) := by decide +kernel
theorem dX6_load_132 : decode cX6_load 132 = .ok (.imul, 1) := by decide +kernel
theorem dX6_load_133 : decode cX6_load 133 = .ok (.iload_n 3, 1) := by decide +kernel
theorem dX6_load_134 : decode cX6_load 134 = .ok (.iadd, 1) := by decide +kernel
theorem dX6_load_135 : decode cX6_load 135 = .ok (.iconst (-1), 1) := by decide +kernel
theorem dX6_load_136 : decode cX6_load 136 = .ok (.aload_n 0, 1) := by decide +kernel
theorem dX6_load_137 : decode cX6_load 137 = .ok (.getfield 13, 3) := by decide +kernel
theorem dX6_load_140 : decode cX6_load 140 = .ok (.iload 4, 2) := by decide +kernel
theorem dX6_load_142 : decode cX6_load 142 = .ok (.aaload, 1) := by decide +kernel
theorem dX6_load_143 : decode cX6_load 143 = .ok (.iconst 2, 1) := by decide +kernel
theorem dX6_load_144 : decode cX6_load 144 = .ok (.iaload, 1) := by decide +kernel
theorem dX6_load_145 : decode cX6_load 145 = .ok (.aload_n 0, 1) := by decide +kernel
theorem dX6_load_146 : decode cX6_load 146 = .ok (.getfield 13, 3) := by decide +kernel
theorem dX6_load_149 : decode cX6_load 149 = .ok (.iload 4, 2) := by decide +kernel
theorem dX6_load_151 : decode cX6_load 151 = .ok (.aaload, 1) := by decide +kernel
theorem dX6_load_152 : decode cX6_load 152 = .ok (.iconst 3, 1) := by decide +kernel
theorem dX6_load_153 : decode cX6_load 153 = .ok (.iaload, 1) := by decide +kernel
theorem dX6_load_154 : decode cX6_load 154 = .ok (.iload_n 3, 1) := by decide +kernel
theorem dX6_load_155 : decode cX6_load 155 = .ok (.invokevirtual 70, 3) := by decide +kernel
theorem dX6_load_158 : decode cX6_load 158 = .ok (.iinc 4 1, 3) := by decide +kernel
theorem dX6_load_161 : decode cX6_load 161 = .ok (.goto (-82), 3) := by decide +kernel
theorem dX6_load_164 : decode cX6_load 164 = .ok (.iconst 0, 1) := by decide +kernel
theorem dX6_load_165 : decode cX6_load 165 = .ok (.istore 4, 2) := by decide +kernel
theorem dX6_load_167 : decode cX6_load 167 = .ok (.iload 4, 2) := by decide +kernel
theorem dX6_load_169 : decode cX6_load 169 = .ok (.aload_n 0, 1) := by decide +kernel
theorem dX6_load_170 : decode cX6_load 170 = .ok (.getfield 60, 3) := by decide +kernel
theorem dX6_load_173 : decode cX6_load 173 = .ok (.if_icmp .ge 55, 3) := by decide +kernel
theorem dX6_load_176 : decode cX6_load 176 = .ok (.aload_n 0, 1) := by decide +kernel
theorem dX6_load_177 : decode cX6_load 177 = .ok (.bipush 20, 2) := by decide +kernel
theorem dX6_load_179 : decode cX6_load 179 = .ok (.iconst 2, 1) := by decide +kernel
theorem dX6_load_180 : decode cX6_load 180 = .ok (.iload 4, 2) := by decide +kernel
theorem dX6_load_182 : decode cX6_load 182 = .ok (.imul, 1) := by decide +kernel
theorem dX6_load_183 : decode cX6_load 183 = .ok (.iadd, 1) := by decide +kernel
theorem dX6_load_184 : decode cX6_load 184 = .ok (.iload_n 3, 1) := by decide +kernel
theorem dX6_load_185 : decode cX6_load 185 = .ok (.iadd, 1) := by decide +kernel
theorem dX6_load_186 : decode cX6_load 186 = .ok (.invokevirtual 66, 3) := by decide +kernel
theorem dX6_load_189 : decode cX6_load 189 = .ok (.aload_n 0, 1) := by decide +kernel
theorem dX6_load_190 : decode cX6_load 190 = .ok (.bipush 20, 2) := by decide +kernel
theorem dX6_load_192 : decode cX6_load 192 = .ok (.iconst 2, 1) := by decide +kernel
theorem dX6_load_193 : decode cX6_load 193 = .ok (.iload 4, 2) := by decide +kernel
theorem dX6_load_195 : decode cX6_load 195 = .ok (.imul, 1) := by decide +kernel
theorem dX6_load_196 : decode cX6_load 196 = .ok (.iadd, 1) := by decide +kernel
theorem dX6_load_197 : decode cX6_load 197 = .ok (.iload_n 3, 1) := by decide +kernel
theorem dX6_load_198 : decode cX6_load 198 = .ok (.iadd, 1) := by decide +kernel
theorem dX6_load_199 : decode cX6_load 199 = .ok (.iconst 1, 1) := by decide +kernel
theorem dX6_load_200 : decode cX6_load 200 = .ok (.aload_n 0, 1) := by decide +kernel
theorem dX6_load_201 : decode cX6_load 201 = .ok (.getfield 16, 3) := by decide +kernel
theorem dX6_load_204 : decode cX6_load 204 = .ok (.iload 4, 2) := by decide +kernel
theorem dX6_load_206 : decode cX6_load 206 = .ok (.aaload, 1) := by decide +kernel
theorem dX6_load_207 : decode cX6_load 207 = .ok (.iconst 0, 1) := by decide +kernel
theorem dX6_load_208 : decode cX6_load 208 = .ok (.iaload, 1) := by decide +kernel
theorem dX6_load_209 : decode cX6_load 209 = .ok (.aload_n 0, 1) := by decide +kernel
theorem dX6_load_210 : decode cX6_load 210 = .ok (.getfield 16, 3) := by decide +kernel
theorem dX6_load_213 : decode cX6_load 213 = .ok (.iload 4, 2) := by decide +kernel
theorem dX6_load_215 : decode cX6_load 215 = .ok (.aaload, 1) := by decide +kernel
theorem dX6_load_216 : decode cX6_load 216 = .ok (.iconst 1, 1) := by decide +kernel
theorem dX6_load_217 : decode cX6_load 217 = .ok (.iaload, 1) := by decide +kernel
theorem dX6_load_218 : decode cX6_load 218 = .ok (.iload_n 3, 1) := by decide +kernel
theorem dX6_load_219 : decode cX6_load 219 = .ok (.invokevirtual 70, 3) := by decide +kernel
theorem dX6_load_222 : decode cX6_load 222 = .ok (.iinc 4 1, 3) := by decide +kernel
theorem dX6_load_225 : decode cX6_load 225 = .ok (.goto (-58), 3) := by decide +kernel
theorem dX6_load_228 : decode cX6_load 228 = .ok (.iinc 3 1, 3) := by decide +kernel
theorem dX6_load_231 : decode cX6_load 231 = .ok (.goto (-160), 3) := by decide +kernel
theorem dX6_load_234 : decode cX6_load 234 = .ok (.aload_n 0, 1) := by decide +kernel
theorem dX6_load_235 : decode cX6_load 235 = .ok (.iconst 0, 1) := by decide +kernel
theorem dX6_load_236 : decode cX6_load 236 = .ok (.putfield 45, 3) := by decide +kernel
theorem dX6_load_239 : decode cX6_load 239 = .ok (.aload_n 0, 1) := by decide +kernel
theorem dX6_load_240 : decode cX6_load 240 = .ok (.iconst 0, 1) := by decide +kernel
theorem dX6_load_241 : decode cX6_load 241 = .ok (.putfield 74, 3) := by decide +kernel
theorem dX6_load_244 : decode cX6_load 244 = .ok (.return_, 1) := by decide +kernel
theorem dX6_startRow_0 : decode cX6_startRow 0 = .ok (.aload_n 0, 1) := by decide +kernel
theorem dX6_startRow_1 : decode cX6_startRow 1 = .ok (.getfield 23, 3) := by decide +kernel
theorem dX6_startRow_4 : decode cX6_startRow 4 = .ok (.iload_n 1, 1) := by decide +kernel
theorem dX6_startRow_5 : decode cX6_startRow 5 = .ok (.iconst 0, 1) := by decide +kernel
theorem dX6_startRow_6 : decode cX6_startRow 6 = .ok (.iastore, 1) := by decide +kernel
theorem dX6_startRow_7 : decode cX6_startRow 7 = .ok (.aload_n 0, 1) := by decide +kernel
theorem dX6_startRow_8 : decode cX6_startRow 8 = .ok (.getfield 27, 3) := by decide +kernel
theorem dX6_startRow_11 : decode cX6_startRow 11 = .ok (.iload_n 1, 1) := by decide +kernel
theorem dX6_startRow_12 : decode cX6_startRow 12 = .ok (.aaload, 1) := by decide +kernel
theorem dX6_startRow_13 : decode cX6_startRow 13 = .ok (.iconst 0, 1) := by decide +kernel
theorem dX6_startRow_14 : decode cX6_startRow 14 = .ok (.invokestatic 77, 3) := by decide +kernel
theorem dX6_startRow_17 : decode cX6_startRow 17 = .ok (.return_, 1) := by decide +kernel
theorem dX6_addToRow_0 : decode cX6_addToRow 0 = .ok (.aload_n 0, 1) := by decide +kernel
theorem dX6_addToRow_1 : decode cX6_addToRow 1 = .ok (.getfield 23, 3) := by decide +kernel
theorem dX6_addToRow_4 : decode cX6_addToRow 4 = .ok (.iload_n 1, 1) := by decide +kernel
theorem dX6_addToRow_5 : decode cX6_addToRow 5 = .ok (.dup2, 1) := by decide +kernel
theorem dX6_addToRow_6 : decode cX6_addToRow 6 = .ok (.iaload, 1) := by decide +kernel
theorem dX6_addToRow_7 : decode cX6_addToRow 7 = .ok (.iload_n 2, 1) := by decide +kernel
theorem dX6_addToRow_8 : decode cX6_addToRow 8 = .ok (.aload_n 0, 1) := by decide +kernel
theorem dX6_addToRow_9 : decode cX6_addToRow 9 = .ok (.getfield 49, 3) := by decide +kernel
theorem dX6_addToRow_12 : decode cX6_addToRow 12 = .ok (.aload_n 0, 1) := by decide +kernel
theorem dX6_addToRow_13 : decode cX6_addToRow 13 = .ok (.getfield 39, 3) := by decide +kernel
theorem dX6_addToRow_16 : decode cX6_addToRow 16 = .ok (.iload_n 3, 1) := by decide +kernel
theorem dX6_addToRow_17 : decode cX6_addToRow 17 = .ok (.iload 4, 2) := by decide +kernel
theorem dX6_addToRow_19 : decode cX6_addToRow 19 = .ok (.iload 5, 2) := by decide +kernel
theorem dX6_addToRow_21 : decode cX6_addToRow 21 = .ok (.invokevirtual 83, 3) := by decide +kernel
theorem dX6_addToRow_24 : decode cX6_addToRow 24 = .ok (.imul, 1) := by decide +kernel
theorem dX6_addToRow_25 : decode cX6_addToRow 25 = .ok (.iadd, 1) := by decide +kernel
theorem dX6_addToRow_26 : decode cX6_addToRow 26 = .ok (.iastore, 1) := by decide +kernel
theorem dX6_addToRow_27 : decode cX6_addToRow 27 = .ok (.iconst 0, 1) := by decide +kernel
theorem dX6_addToRow_28 : decode cX6_addToRow 28 = .ok (.istore 6, 2) := by decide +kernel
theorem dX6_addToRow_30 : decode cX6_addToRow 30 = .ok (.iload 6, 2) := by decide +kernel
theorem dX6_addToRow_32 : decode cX6_addToRow 32 = .ok (.aload_n 0, 1) := by decide +kernel
theorem dX6_addToRow_33 : decode cX6_addToRow 33 = .ok (.getfield 39, 3) := by decide +kernel
theorem dX6_addToRow_36 : decode cX6_addToRow 36 = .ok (.if_icmp .ge 75, 3) := by decide +kernel
theorem dX6_addToRow_39 : decode cX6_addToRow 39 = .ok (.aload_n 0, 1) := by decide +kernel
theorem dX6_addToRow_40 : decode cX6_addToRow 40 = .ok (.getfield 49, 3) := by decide +kernel
theorem dX6_addToRow_43 : decode cX6_addToRow 43 = .ok (.getfield 89, 3) := by decide +kernel
theorem dX6_addToRow_46 : decode cX6_addToRow 46 = .ok (.iload 6, 2) := by decide +kernel
theorem dX6_addToRow_48 : decode cX6_addToRow 48 = .ok (.aaload, 1) := by decide +kernel
theorem dX6_addToRow_49 : decode cX6_addToRow 49 = .ok (.astore 7, 2) := by decide +kernel
theorem dX6_addToRow_51 : decode cX6_addToRow 51 = .ok (.iconst 0, 1) := by decide +kernel
theorem dX6_addToRow_52 : decode cX6_addToRow 52 = .ok (.istore 8, 2) := by decide +kernel
theorem dX6_addToRow_54 : decode cX6_addToRow 54 = .ok (.iload 8, 2) := by decide +kernel
theorem dX6_addToRow_56 : decode cX6_addToRow 56 = .ok (.aload_n 0, 1) := by decide +kernel
theorem dX6_addToRow_57 : decode cX6_addToRow 57 = .ok (.getfield 42, 3) := by decide +kernel
theorem dX6_addToRow_60 : decode cX6_addToRow 60 = .ok (.if_icmp .ge 45, 3) := by decide +kernel
theorem dX6_addToRow_63 : decode cX6_addToRow 63 = .ok (.aload_n 0, 1) := by decide +kernel
theorem dX6_addToRow_64 : decode cX6_addToRow 64 = .ok (.getfield 27, 3) := by decide +kernel
theorem dX6_addToRow_67 : decode cX6_addToRow 67 = .ok (.iload_n 1, 1) := by decide +kernel
theorem dX6_addToRow_68 : decode cX6_addToRow 68 = .ok (.aaload, 1) := by decide +kernel
theorem dX6_addToRow_69 : decode cX6_addToRow 69 = .ok (.iload 6, 2) := by decide +kernel
theorem dX6_addToRow_71 : decode cX6_addToRow 71 = .ok (.bipush 16, 2) := by decide +kernel
theorem dX6_addToRow_73 : decode cX6_addToRow 73 = .ok (.imul, 1) := by decide +kernel
theorem dX6_addToRow_74 : decode cX6_addToRow 74 = .ok (.iload 8, 2) := by decide +kernel
theorem dX6_addToRow_76 : decode cX6_addToRow 76 = .ok (.iadd, 1) := by decide +kernel
theorem dX6_addToRow_77 : decode cX6_addToRow 77 = .ok (.dup2, 1) := by decide +kernel
theorem dX6_addToRow_78 : decode cX6_addToRow 78 = .ok (.iaload, 1) := by decide +kernel
theorem dX6_addToRow_79 : decode cX6_addToRow 79 = .ok (.iload_n 2, 1) := by decide +kernel
theorem dX6_addToRow_80 : decode cX6_addToRow 80 = .ok (.aload 7, 2) := by decide +kernel
theorem dX6_addToRow_82 : decode cX6_addToRow 82 = .ok (.iconst 0, 1) := by decide +kernel
theorem dX6_addToRow_83 : decode cX6_addToRow 83 = .ok (.iaload, 1) := by decide +kernel
theorem dX6_addToRow_84 : decode cX6_addToRow 84 = .ok (.aload 7, 2) := by decide +kernel
theorem dX6_addToRow_86 : decode cX6_addToRow 86 = .ok (.iload 8, 2) := by decide +kernel
theorem dX6_addToRow_88 : decode cX6_addToRow 88 = .ok (.iload_n 3, 1) := by decide +kernel
theorem dX6_addToRow_89 : decode cX6_addToRow 89 = .ok (.iload 4, 2) := by decide +kernel
theorem dX6_addToRow_91 : decode cX6_addToRow 91 = .ok (.iload 5, 2) := by decide +kernel
theorem dX6_addToRow_93 : decode cX6_addToRow 93 = .ok (.invokestatic 92, 3) := by decide +kernel
theorem dX6_addToRow_96 : decode cX6_addToRow 96 = .ok (.imul, 1) := by decide +kernel
theorem dX6_addToRow_97 : decode cX6_addToRow 97 = .ok (.iadd, 1) := by decide +kernel
theorem dX6_addToRow_98 : decode cX6_addToRow 98 = .ok (.iastore, 1) := by decide +kernel
theorem dX6_addToRow_99 : decode cX6_addToRow 99 = .ok (.iinc 8 1, 3) := by decide +kernel
theorem dX6_addToRow_102 : decode cX6_addToRow 102 = .ok (.goto (-48), 3) := by decide +kernel
theorem dX6_addToRow_105 : decode cX6_addToRow 105 = .ok (.iinc 6 1, 3) := by decide +kernel
theorem dX6_addToRow_108 : decode cX6_addToRow 108 = .ok (.goto (-78), 3) := by decide +kernel
theorem dX6_addToRow_111 : decode cX6_addToRow 111 = .ok (.return_, 1) := by decide +kernel
theorem dX6_aim_0 : decode cX6_aim 0 = .ok (.iload_n 1, 1) := by decide +kernel
theorem dX6_aim_1 : decode cX6_aim 1 = .ok (.istore_n 2, 1) := by decide +kernel
theorem dX6_aim_2 : decode cX6_aim 2 = .ok (.iconst 0, 1) := by decide +kernel
theorem dX6_aim_3 : decode cX6_aim 3 = .ok (.istore_n 3, 1) := by decide +kernel
theorem dX6_aim_4 : decode cX6_aim 4 = .ok (.iload_n 3, 1) := by decide +kernel
theorem dX6_aim_5 : decode cX6_aim 5 = .ok (.aload_n 0, 1) := by decide +kernel
theorem dX6_aim_6 : decode cX6_aim 6 = .ok (.getfield 39, 3) := by decide +kernel
theorem dX6_aim_9 : decode cX6_aim 9 = .ok (.if_icmp .ge 33, 3) := by decide +kernel
theorem dX6_aim_12 : decode cX6_aim 12 = .ok (.aload_n 0, 1) := by decide +kernel
theorem dX6_aim_13 : decode cX6_aim 13 = .ok (.getfield 30, 3) := by decide +kernel
theorem dX6_aim_16 : decode cX6_aim 16 = .ok (.iload_n 3, 1) := by decide +kernel
theorem dX6_aim_17 : decode cX6_aim 17 = .ok (.iload_n 3, 1) := by decide +kernel
theorem dX6_aim_18 : decode cX6_aim 18 = .ok (.bipush 16, 2) := by decide +kernel
theorem dX6_aim_20 : decode cX6_aim 20 = .ok (.imul, 1) := by decide +kernel
theorem dX6_aim_21 : decode cX6_aim 21 = .ok (.iload_n 2, 1) := by decide +kernel
theorem dX6_aim_22 : decode cX6_aim 22 = .ok (.aload_n 0, 1) := by decide +kernel
theorem dX6_aim_23 : decode cX6_aim 23 = .ok (.getfield 42, 3) := by decide +kernel
theorem dX6_aim_26 : decode cX6_aim 26 = .ok (.irem, 1) := by decide +kernel
theorem dX6_aim_27 : decode cX6_aim 27 = .ok (.iadd, 1) := by decide +kernel
theorem dX6_aim_28 : decode cX6_aim 28 = .ok (.iastore, 1) := by decide +kernel
theorem dX6_aim_29 : decode cX6_aim 29 = .ok (.iload_n 2, 1) := by decide +kernel
theorem dX6_aim_30 : decode cX6_aim 30 = .ok (.aload_n 0, 1) := by decide +kernel
theorem dX6_aim_31 : decode cX6_aim 31 = .ok (.getfield 42, 3) := by decide +kernel
theorem dX6_aim_34 : decode cX6_aim 34 = .ok (.idiv, 1) := by decide +kernel
theorem dX6_aim_35 : decode cX6_aim 35 = .ok (.istore_n 2, 1) := by decide +kernel
theorem dX6_aim_36 : decode cX6_aim 36 = .ok (.iinc 3 1, 3) := by decide +kernel
theorem dX6_aim_39 : decode cX6_aim 39 = .ok (.goto (-35), 3) := by decide +kernel
theorem dX6_aim_42 : decode cX6_aim 42 = .ok (.return_, 1) := by decide +kernel
theorem dX6_shownBy_0 : decode cX6_shownBy 0 = .ok (.aload_n 0, 1) := by decide +kernel
theorem dX6_shownBy_1 : decode cX6_shownBy 1 = .ok (.getfield 23, 3) := by decide +kernel
theorem dX6_shownBy_4 : decode cX6_shownBy 4 = .ok (.iload_n 1, 1) := by decide +kernel
theorem dX6_shownBy_5 : decode cX6_shownBy 5 = .ok (.iaload, 1) := by decide +kernel
theorem dX6_shownBy_6 : decode cX6_shownBy 6 = .ok (.istore_n 2, 1) := by decide +kernel
theorem dX6_shownBy_7 : decode cX6_shownBy 7 = .ok (.iconst 0, 1) := by decide +kernel
theorem dX6_shownBy_8 : decode cX6_shownBy 8 = .ok (.istore_n 3, 1) := by decide +kernel
theorem dX6_shownBy_9 : decode cX6_shownBy 9 = .ok (.iload_n 3, 1) := by decide +kernel
theorem dX6_shownBy_10 : decode cX6_shownBy 10 = .ok (.aload_n 0, 1) := by decide +kernel
theorem dX6_shownBy_11 : decode cX6_shownBy 11 = .ok (.getfield 39, 3) := by decide +kernel
theorem dX6_shownBy_14 : decode cX6_shownBy 14 = .ok (.if_icmp .ge 25, 3) := by decide +kernel
theorem dX6_shownBy_17 : decode cX6_shownBy 17 = .ok (.iload_n 2, 1) := by decide +kernel
theorem dX6_shownBy_18 : decode cX6_shownBy 18 = .ok (.aload_n 0, 1) := by decide +kernel
theorem dX6_shownBy_19 : decode cX6_shownBy 19 = .ok (.getfield 27, 3) := by decide +kernel
theorem dX6_shownBy_22 : decode cX6_shownBy 22 = .ok (.iload_n 1, 1) := by decide +kernel
theorem dX6_shownBy_23 : decode cX6_shownBy 23 = .ok (.aaload, 1) := by decide +kernel
theorem dX6_shownBy_24 : decode cX6_shownBy 24 = .ok (.aload_n 0, 1) := by decide +kernel
theorem dX6_shownBy_25 : decode cX6_shownBy 25 = .ok (.getfield 30, 3) := by decide +kernel
theorem dX6_shownBy_28 : decode cX6_shownBy 28 = .ok (.iload_n 3, 1) := by decide +kernel
theorem dX6_shownBy_29 : decode cX6_shownBy 29 = .ok (.iaload, 1) := by decide +kernel
theorem dX6_shownBy_30 : decode cX6_shownBy 30 = .ok (.iaload, 1) := by decide +kernel
theorem dX6_shownBy_31 : decode cX6_shownBy 31 = .ok (.isub, 1) := by decide +kernel
theorem dX6_shownBy_32 : decode cX6_shownBy 32 = .ok (.istore_n 2, 1) := by decide +kernel
theorem dX6_shownBy_33 : decode cX6_shownBy 33 = .ok (.iinc 3 1, 3) := by decide +kernel
theorem dX6_shownBy_36 : decode cX6_shownBy 36 = .ok (.goto (-27), 3) := by decide +kernel
theorem dX6_shownBy_39 : decode cX6_shownBy 39 = .ok (.iload_n 2, 1) := by decide +kernel
theorem dX6_shownBy_40 : decode cX6_shownBy 40 = .ok (.ireturn, 1) := by decide +kernel
theorem dX6_holds_0 : decode cX6_holds 0 = .ok (.aload_n 0, 1) := by decide +kernel
theorem dX6_holds_1 : decode cX6_holds 1 = .ok (.iload_n 1, 1) := by decide +kernel
theorem dX6_holds_2 : decode cX6_holds 2 = .ok (.invokevirtual 96, 3) := by decide +kernel
theorem dX6_holds_5 : decode cX6_holds 5 = .ok (.iconst 0, 1) := by decide +kernel
theorem dX6_holds_6 : decode cX6_holds 6 = .ok (.istore_n 2, 1) := by decide +kernel
theorem dX6_holds_7 : decode cX6_holds 7 = .ok (.iload_n 2, 1) := by decide +kernel
theorem dX6_holds_8 : decode cX6_holds 8 = .ok (.iconst 2, 1) := by decide +kernel
theorem dX6_holds_9 : decode cX6_holds 9 = .ok (.aload_n 0, 1) := by decide +kernel
theorem dX6_holds_10 : decode cX6_holds 10 = .ok (.getfield 57, 3) := by decide +kernel
theorem dX6_holds_13 : decode cX6_holds 13 = .ok (.imul, 1) := by decide +kernel
theorem dX6_holds_14 : decode cX6_holds 14 = .ok (.if_icmp .ge 26, 3) := by decide +kernel
theorem dX6_holds_17 : decode cX6_holds 17 = .ok (.aload_n 0, 1) := by decide +kernel
theorem dX6_holds_18 : decode cX6_holds 18 = .ok (.iload_n 2, 1) := by decide +kernel
theorem dX6_holds_19 : decode cX6_holds 19 = .ok (.invokevirtual 99, 3) := by decide +kernel
theorem dX6_holds_22 : decode cX6_holds 22 = .ok (.invokestatic 103, 3) := by decide +kernel
theorem dX6_holds_25 : decode cX6_holds 25 = .ok (.aload_n 0, 1) := by decide +kernel
theorem dX6_holds_26 : decode cX6_holds 26 = .ok (.getfield 19, 3) := by decide +kernel
theorem dX6_holds_29 : decode cX6_holds 29 = .ok (.if_icmp .le 5, 3) := by decide +kernel
theorem dX6_holds_32 : decode cX6_holds 32 = .ok (.iconst 0, 1) := by decide +kernel
theorem dX6_holds_33 : decode cX6_holds 33 = .ok (.ireturn, 1) := by decide +kernel
theorem dX6_holds_34 : decode cX6_holds 34 = .ok (.iinc 2 1, 3) := by decide +kernel
theorem dX6_holds_37 : decode cX6_holds 37 = .ok (.goto (-30), 3) := by decide +kernel
theorem dX6_holds_40 : decode cX6_holds 40 = .ok (.iconst 1, 1) := by decide +kernel
theorem dX6_holds_41 : decode cX6_holds 41 = .ok (.ireturn, 1) := by decide +kernel
theorem dX6_gather_0 : decode cX6_gather 0 = .ok (.aload_n 0, 1) := by decide +kernel
theorem dX6_gather_1 : decode cX6_gather 1 = .ok (.getfield 74, 3) := by decide +kernel
theorem dX6_gather_4 : decode cX6_gather 4 = .ok (.ifCond .eq 4, 3) := by decide +kernel
theorem dX6_gather_7 : decode cX6_gather 7 = .ok (.return_, 1) := by decide +kernel
theorem dX6_gather_8 : decode cX6_gather 8 = .ok (.aload_n 0, 1) := by decide +kernel
theorem dX6_gather_9 : decode cX6_gather 9 = .ok (.iconst 0, 1) := by decide +kernel
theorem dX6_gather_10 : decode cX6_gather 10 = .ok (.putfield 108, 3) := by decide +kernel
theorem dX6_gather_13 : decode cX6_gather 13 = .ok (.iconst 0, 1) := by decide +kernel
theorem dX6_gather_14 : decode cX6_gather 14 = .ok (.istore_n 1, 1) := by decide +kernel
theorem dX6_gather_15 : decode cX6_gather 15 = .ok (.iload_n 1, 1) := by decide +kernel
theorem dX6_gather_16 : decode cX6_gather 16 = .ok (.aload_n 0, 1) := by decide +kernel
theorem dX6_gather_17 : decode cX6_gather 17 = .ok (.getfield 63, 3) := by decide +kernel
theorem dX6_gather_20 : decode cX6_gather 20 = .ok (.if_icmp .ge 44, 3) := by decide +kernel
theorem dX6_gather_23 : decode cX6_gather 23 = .ok (.iload_n 1, 1) := by decide +kernel
theorem dX6_gather_24 : decode cX6_gather 24 = .ok (.sipush 4096, 3) := by decide +kernel
theorem dX6_gather_27 : decode cX6_gather 27 = .ok (.if_icmp .ge 37, 3) := by decide +kernel
theorem dX6_gather_30 : decode cX6_gather 30 = .ok (.aload_n 0, 1) := by decide +kernel
theorem dX6_gather_31 : decode cX6_gather 31 = .ok (.iload_n 1, 1) := by decide +kernel
theorem dX6_gather_32 : decode cX6_gather 32 = .ok (.invokevirtual 111, 3) := by decide +kernel
theorem dX6_gather_35 : decode cX6_gather 35 = .ok (.ifCond .eq 23, 3) := by decide +kernel
theorem dX6_gather_38 : decode cX6_gather 38 = .ok (.aload_n 0, 1) := by decide +kernel
theorem dX6_gather_39 : decode cX6_gather 39 = .ok (.getfield 33, 3) := by decide +kernel
theorem dX6_gather_42 : decode cX6_gather 42 = .ok (.aload_n 0, 1) := by decide +kernel
theorem dX6_gather_43 : decode cX6_gather 43 = .ok (.getfield 108, 3) := by decide +kernel
theorem dX6_gather_46 : decode cX6_gather 46 = .ok (.iload_n 1, 1) := by decide +kernel
theorem dX6_gather_47 : decode cX6_gather 47 = .ok (.iastore, 1) := by decide +kernel
theorem dX6_gather_48 : decode cX6_gather 48 = .ok (.aload_n 0, 1) := by decide +kernel
theorem dX6_gather_49 : decode cX6_gather 49 = .ok (.dup, 1) := by decide +kernel
theorem dX6_gather_50 : decode cX6_gather 50 = .ok (.getfield 108, 3) := by decide +kernel
theorem dX6_gather_53 : decode cX6_gather 53 = .ok (.iconst 1, 1) := by decide +kernel
theorem dX6_gather_54 : decode cX6_gather 54 = .ok (.iadd, 1) := by decide +kernel
theorem dX6_gather_55 : decode cX6_gather 55 = .ok (.putfield 108, 3) := by decide +kernel
theorem dX6_gather_58 : decode cX6_gather 58 = .ok (.iinc 1 1, 3) := by decide +kernel
theorem dX6_gather_61 : decode cX6_gather 61 = .ok (.goto (-46), 3) := by decide +kernel
theorem dX6_gather_64 : decode cX6_gather 64 = .ok (.aload_n 0, 1) := by decide +kernel
theorem dX6_gather_65 : decode cX6_gather 65 = .ok (.iconst 1, 1) := by decide +kernel
theorem dX6_gather_66 : decode cX6_gather 66 = .ok (.putfield 74, 3) := by decide +kernel
theorem dX6_gather_69 : decode cX6_gather 69 = .ok (.return_, 1) := by decide +kernel
theorem dX6_weightOf_0 : decode cX6_weightOf 0 = .ok (.iload_n 1, 1) := by decide +kernel
theorem dX6_weightOf_1 : decode cX6_weightOf 1 = .ok (.istore_n 3, 1) := by decide +kernel
theorem dX6_weightOf_2 : decode cX6_weightOf 2 = .ok (.iconst 0, 1) := by decide +kernel
theorem dX6_weightOf_3 : decode cX6_weightOf 3 = .ok (.istore 4, 2) := by decide +kernel
theorem dX6_weightOf_5 : decode cX6_weightOf 5 = .ok (.iload 4, 2) := by decide +kernel
theorem dX6_weightOf_7 : decode cX6_weightOf 7 = .ok (.iload_n 2, 1) := by decide +kernel
theorem dX6_weightOf_8 : decode cX6_weightOf 8 = .ok (.if_icmp .ge 16, 3) := by decide +kernel
theorem dX6_weightOf_11 : decode cX6_weightOf 11 = .ok (.iload_n 3, 1) := by decide +kernel
theorem dX6_weightOf_12 : decode cX6_weightOf 12 = .ok (.aload_n 0, 1) := by decide +kernel
theorem dX6_weightOf_13 : decode cX6_weightOf 13 = .ok (.getfield 42, 3) := by decide +kernel
theorem dX6_weightOf_16 : decode cX6_weightOf 16 = .ok (.idiv, 1) := by decide +kernel
theorem dX6_weightOf_17 : decode cX6_weightOf 17 = .ok (.istore_n 3, 1) := by decide +kernel
theorem dX6_weightOf_18 : decode cX6_weightOf 18 = .ok (.iinc 4 1, 3) := by decide +kernel
theorem dX6_weightOf_21 : decode cX6_weightOf 21 = .ok (.goto (-16), 3) := by decide +kernel
theorem dX6_weightOf_24 : decode cX6_weightOf 24 = .ok (.iload_n 3, 1) := by decide +kernel
theorem dX6_weightOf_25 : decode cX6_weightOf 25 = .ok (.aload_n 0, 1) := by decide +kernel
theorem dX6_weightOf_26 : decode cX6_weightOf 26 = .ok (.getfield 42, 3) := by decide +kernel
theorem dX6_weightOf_29 : decode cX6_weightOf 29 = .ok (.irem, 1) := by decide +kernel
theorem dX6_weightOf_30 : decode cX6_weightOf 30 = .ok (.ireturn, 1) := by decide +kernel
theorem dX6_least_0 : decode cX6_least 0 = .ok (.bipush (-9), 2) := by decide +kernel
theorem dX6_least_2 : decode cX6_least 2 = .ok (.istore_n 1, 1) := by decide +kernel
theorem dX6_least_3 : decode cX6_least 3 = .ok (.iconst 0, 1) := by decide +kernel
theorem dX6_least_4 : decode cX6_least 4 = .ok (.istore_n 2, 1) := by decide +kernel
theorem dX6_least_5 : decode cX6_least 5 = .ok (.iconst 0, 1) := by decide +kernel
theorem dX6_least_6 : decode cX6_least 6 = .ok (.istore_n 3, 1) := by decide +kernel
theorem dX6_least_7 : decode cX6_least 7 = .ok (.iload_n 3, 1) := by decide +kernel
theorem dX6_least_8 : decode cX6_least 8 = .ok (.aload_n 0, 1) := by decide +kernel
theorem dX6_least_9 : decode cX6_least 9 = .ok (.getfield 108, 3) := by decide +kernel
theorem dX6_least_12 : decode cX6_least 12 = .ok (.if_icmp .ge 69, 3) := by decide +kernel
theorem dX6_least_15 : decode cX6_least 15 = .ok (.iconst 0, 1) := by decide +kernel
theorem dX6_least_16 : decode cX6_least 16 = .ok (.istore 4, 2) := by decide +kernel
theorem dX6_least_18 : decode cX6_least 18 = .ok (.iconst 0, 1) := by decide +kernel
theorem dX6_least_19 : decode cX6_least 19 = .ok (.istore 5, 2) := by decide +kernel
theorem dX6_least_21 : decode cX6_least 21 = .ok (.iload 5, 2) := by decide +kernel
theorem dX6_least_23 : decode cX6_least 23 = .ok (.aload_n 0, 1) := by decide +kernel
theorem dX6_least_24 : decode cX6_least 24 = .ok (.getfield 39, 3) := by decide +kernel
theorem dX6_least_27 : decode cX6_least 27 = .ok (.if_icmp .ge 26, 3) := by decide +kernel
theorem dX6_least_30 : decode cX6_least 30 = .ok (.iload 4, 2) := by decide +kernel
theorem dX6_least_32 : decode cX6_least 32 = .ok (.aload_n 0, 1) := by decide +kernel
theorem dX6_least_33 : decode cX6_least 33 = .ok (.aload_n 0, 1) := by decide +kernel
theorem dX6_least_34 : decode cX6_least 34 = .ok (.getfield 33, 3) := by decide +kernel
theorem dX6_least_37 : decode cX6_least 37 = .ok (.iload_n 3, 1) := by decide +kernel
theorem dX6_least_38 : decode cX6_least 38 = .ok (.iaload, 1) := by decide +kernel
theorem dX6_least_39 : decode cX6_least 39 = .ok (.iload 5, 2) := by decide +kernel
theorem dX6_least_41 : decode cX6_least 41 = .ok (.invokevirtual 115, 3) := by decide +kernel
theorem dX6_least_44 : decode cX6_least 44 = .ok (.iadd, 1) := by decide +kernel
theorem dX6_least_45 : decode cX6_least 45 = .ok (.istore 4, 2) := by decide +kernel
theorem dX6_least_47 : decode cX6_least 47 = .ok (.iinc 5 1, 3) := by decide +kernel
theorem dX6_least_50 : decode cX6_least 50 = .ok (.goto (-29), 3) := by decide +kernel
theorem dX6_least_53 : decode cX6_least 53 = .ok (.iload_n 1, 1) := by decide +kernel
theorem dX6_least_54 : decode cX6_least 54 = .ok (.bipush (-9), 2) := by decide +kernel
theorem dX6_least_56 : decode cX6_least 56 = .ok (.if_icmp .eq 9, 3) := by decide +kernel
theorem dX6_least_59 : decode cX6_least 59 = .ok (.iload 4, 2) := by decide +kernel
theorem dX6_least_61 : decode cX6_least 61 = .ok (.iload_n 2, 1) := by decide +kernel
theorem dX6_least_62 : decode cX6_least 62 = .ok (.if_icmp .ge 13, 3) := by decide +kernel
theorem dX6_least_65 : decode cX6_least 65 = .ok (.aload_n 0, 1) := by decide +kernel
theorem dX6_least_66 : decode cX6_least 66 = .ok (.getfield 33, 3) := by decide +kernel
theorem dX6_least_69 : decode cX6_least 69 = .ok (.iload_n 3, 1) := by decide +kernel
theorem dX6_least_70 : decode cX6_least 70 = .ok (.iaload, 1) := by decide +kernel
theorem dX6_least_71 : decode cX6_least 71 = .ok (.istore_n 1, 1) := by decide +kernel
theorem dX6_least_72 : decode cX6_least 72 = .ok (.iload 4, 2) := by decide +kernel
theorem dX6_least_74 : decode cX6_least 74 = .ok (.istore_n 2, 1) := by decide +kernel
theorem dX6_least_75 : decode cX6_least 75 = .ok (.iinc 3 1, 3) := by decide +kernel
theorem dX6_least_78 : decode cX6_least 78 = .ok (.goto (-71), 3) := by decide +kernel
theorem dX6_least_81 : decode cX6_least 81 = .ok (.iload_n 1, 1) := by decide +kernel
theorem dX6_least_82 : decode cX6_least 82 = .ok (.ireturn, 1) := by decide +kernel
theorem dX6_sureWeight_0 : decode cX6_sureWeight 0 = .ok (.aload_n 0, 1) := by decide +kernel
theorem dX6_sureWeight_1 : decode cX6_sureWeight 1 = .ok (.getfield 108, 3) := by decide +kernel
theorem dX6_sureWeight_4 : decode cX6_sureWeight 4 = .ok (.ifCond .ne 6, 3) := by decide +kernel
theorem dX6_sureWeight_7 : decode cX6_sureWeight 7 = .ok (.bipush (-9), 2) := by decide +kernel
theorem dX6_sureWeight_9 : decode cX6_sureWeight 9 = .ok (.ireturn, 1) := by decide +kernel
theorem dX6_sureWeight_10 : decode cX6_sureWeight 10 = .ok (.aload_n 0, 1) := by decide +kernel
theorem dX6_sureWeight_11 : decode cX6_sureWeight 11 = .ok (.aload_n 0, 1) := by decide +kernel
theorem dX6_sureWeight_12 : decode cX6_sureWeight 12 = .ok (.getfield 33, 3) := by decide +kernel
theorem dX6_sureWeight_15 : decode cX6_sureWeight 15 = .ok (.iconst 0, 1) := by decide +kernel
theorem dX6_sureWeight_16 : decode cX6_sureWeight 16 = .ok (.iaload, 1) := by decide +kernel
theorem dX6_sureWeight_17 : decode cX6_sureWeight 17 = .ok (.iload_n 1, 1) := by decide +kernel
theorem dX6_sureWeight_18 : decode cX6_sureWeight 18 = .ok (.invokevirtual 115, 3) := by decide +kernel
theorem dX6_sureWeight_21 : decode cX6_sureWeight 21 = .ok (.istore_n 2, 1) := by decide +kernel
theorem dX6_sureWeight_22 : decode cX6_sureWeight 22 = .ok (.iconst 1, 1) := by decide +kernel
theorem dX6_sureWeight_23 : decode cX6_sureWeight 23 = .ok (.istore_n 3, 1) := by decide +kernel
theorem dX6_sureWeight_24 : decode cX6_sureWeight 24 = .ok (.iload_n 3, 1) := by decide +kernel
theorem dX6_sureWeight_25 : decode cX6_sureWeight 25 = .ok (.aload_n 0, 1) := by decide +kernel
theorem dX6_sureWeight_26 : decode cX6_sureWeight 26 = .ok (.getfield 108, 3) := by decide +kernel
theorem dX6_sureWeight_29 : decode cX6_sureWeight 29 = .ok (.if_icmp .ge 27, 3) := by decide +kernel
theorem dX6_sureWeight_32 : decode cX6_sureWeight 32 = .ok (.aload_n 0, 1) := by decide +kernel
theorem dX6_sureWeight_33 : decode cX6_sureWeight 33 = .ok (.aload_n 0, 1) := by decide +kernel
theorem dX6_sureWeight_34 : decode cX6_sureWeight 34 = .ok (.getfield 33, 3) := by decide +kernel
theorem dX6_sureWeight_37 : decode cX6_sureWeight 37 = .ok (.iload_n 3, 1) := by decide +kernel
theorem dX6_sureWeight_38 : decode cX6_sureWeight 38 = .ok (.iaload, 1) := by decide +kernel
theorem dX6_sureWeight_39 : decode cX6_sureWeight 39 = .ok (.iload_n 1, 1) := by decide +kernel
theorem dX6_sureWeight_40 : decode cX6_sureWeight 40 = .ok (.invokevirtual 115, 3) := by decide +kernel
theorem dX6_sureWeight_43 : decode cX6_sureWeight 43 = .ok (.iload_n 2, 1) := by decide +kernel
theorem dX6_sureWeight_44 : decode cX6_sureWeight 44 = .ok (.if_icmp .eq 6, 3) := by decide +kernel
theorem dX6_sureWeight_47 : decode cX6_sureWeight 47 = .ok (.bipush (-9), 2) := by decide +kernel
theorem dX6_sureWeight_49 : decode cX6_sureWeight 49 = .ok (.ireturn, 1) := by decide +kernel
theorem dX6_sureWeight_50 : decode cX6_sureWeight 50 = .ok (.iinc 3 1, 3) := by decide +kernel
theorem dX6_sureWeight_53 : decode cX6_sureWeight 53 = .ok (.goto (-29), 3) := by decide +kernel
theorem dX6_sureWeight_56 : decode cX6_sureWeight 56 = .ok (.iload_n 2, 1) := by decide +kernel
theorem dX6_sureWeight_57 : decode cX6_sureWeight 57 = .ok (.ireturn, 1) := by decide +kernel
theorem dX6_twins_0 : decode cX6_twins 0 = .ok (.aload_n 0, 1) := by decide +kernel
theorem dX6_twins_1 : decode cX6_twins 1 = .ok (.getfield 108, 3) := by decide +kernel
theorem dX6_twins_4 : decode cX6_twins 4 = .ok (.ifCond .le 7, 3) := by decide +kernel
theorem dX6_twins_7 : decode cX6_twins 7 = .ok (.iconst 1, 1) := by decide +kernel
theorem dX6_twins_8 : decode cX6_twins 8 = .ok (.goto 4, 3) := by decide +kernel
theorem dX6_twins_11 : decode cX6_twins 11 = .ok (.iconst 0, 1) := by decide +kernel
theorem dX6_twins_12 : decode cX6_twins 12 = .ok (.istore_n 1, 1) := by decide +kernel
theorem dX6_twins_13 : decode cX6_twins 13 = .ok (.aload_n 0, 1) := by decide +kernel
theorem dX6_twins_14 : decode cX6_twins 14 = .ok (.getfield 36, 3) := by decide +kernel
theorem dX6_twins_17 : decode cX6_twins 17 = .ok (.iconst 0, 1) := by decide +kernel
theorem dX6_twins_18 : decode cX6_twins 18 = .ok (.invokestatic 77, 3) := by decide +kernel
theorem dX6_twins_21 : decode cX6_twins 21 = .ok (.iconst 0, 1) := by decide +kernel
theorem dX6_twins_22 : decode cX6_twins 22 = .ok (.istore_n 2, 1) := by decide +kernel
theorem dX6_twins_23 : decode cX6_twins 23 = .ok (.iload_n 2, 1) := by decide +kernel
theorem dX6_twins_24 : decode cX6_twins 24 = .ok (.aload_n 0, 1) := by decide +kernel
theorem dX6_twins_25 : decode cX6_twins 25 = .ok (.getfield 60, 3) := by decide +kernel
theorem dX6_twins_28 : decode cX6_twins 28 = .ok (.if_icmp .ge 39, 3) := by decide +kernel
theorem dX6_twins_31 : decode cX6_twins 31 = .ok (.aload_n 0, 1) := by decide +kernel
theorem dX6_twins_32 : decode cX6_twins 32 = .ok (.bipush 20, 2) := by decide +kernel
theorem dX6_twins_34 : decode cX6_twins 34 = .ok (.iconst 2, 1) := by decide +kernel
theorem dX6_twins_35 : decode cX6_twins 35 = .ok (.iload_n 2, 1) := by decide +kernel
theorem dX6_twins_36 : decode cX6_twins 36 = .ok (.imul, 1) := by decide +kernel
theorem dX6_twins_37 : decode cX6_twins 37 = .ok (.iadd, 1) := by decide +kernel
theorem dX6_twins_38 : decode cX6_twins 38 = .ok (.invokevirtual 119, 3) := by decide +kernel
theorem dX6_twins_41 : decode cX6_twins 41 = .ok (.aload_n 0, 1) := by decide +kernel
theorem dX6_twins_42 : decode cX6_twins 42 = .ok (.bipush 20, 2) := by decide +kernel
theorem dX6_twins_44 : decode cX6_twins 44 = .ok (.iconst 2, 1) := by decide +kernel
theorem dX6_twins_45 : decode cX6_twins 45 = .ok (.iload_n 2, 1) := by decide +kernel
theorem dX6_twins_46 : decode cX6_twins 46 = .ok (.imul, 1) := by decide +kernel
theorem dX6_twins_47 : decode cX6_twins 47 = .ok (.iadd, 1) := by decide +kernel
theorem dX6_twins_48 : decode cX6_twins 48 = .ok (.iconst 1, 1) := by decide +kernel
theorem dX6_twins_49 : decode cX6_twins 49 = .ok (.iadd, 1) := by decide +kernel
theorem dX6_twins_50 : decode cX6_twins 50 = .ok (.invokevirtual 119, 3) := by decide +kernel
theorem dX6_twins_53 : decode cX6_twins 53 = .ok (.aload_n 0, 1) := by decide +kernel
theorem dX6_twins_54 : decode cX6_twins 54 = .ok (.getfield 53, 3) := by decide +kernel
theorem dX6_twins_57 : decode cX6_twins 57 = .ok (.getfield 122, 3) := by decide +kernel
theorem dX6_twins_60 : decode cX6_twins 60 = .ok (.istore_n 1, 1) := by decide +kernel
theorem dX6_twins_61 : decode cX6_twins 61 = .ok (.iinc 2 1, 3) := by decide +kernel
theorem dX6_twins_64 : decode cX6_twins 64 = .ok (.goto (-41), 3) := by decide +kernel
theorem dX6_twins_67 : decode cX6_twins 67 = .ok (.iload_n 1, 1) := by decide +kernel
theorem dX6_twins_68 : decode cX6_twins 68 = .ok (.ireturn, 1) := by decide +kernel
theorem dX6_nextLook_0 : decode cX6_nextLook 0 = .ok (.bipush (-9), 2) := by decide +kernel
theorem dX6_nextLook_2 : decode cX6_nextLook 2 = .ok (.istore_n 1, 1) := by decide +kernel
theorem dX6_nextLook_3 : decode cX6_nextLook 3 = .ok (.iconst 0, 1) := by decide +kernel
theorem dX6_nextLook_4 : decode cX6_nextLook 4 = .ok (.istore_n 2, 1) := by decide +kernel
theorem dX6_nextLook_5 : decode cX6_nextLook 5 = .ok (.iconst 0, 1) := by decide +kernel
theorem dX6_nextLook_6 : decode cX6_nextLook 6 = .ok (.istore_n 3, 1) := by decide +kernel
theorem dX6_nextLook_7 : decode cX6_nextLook 7 = .ok (.iload_n 3, 1) := by decide +kernel
theorem dX6_nextLook_8 : decode cX6_nextLook 8 = .ok (.aload_n 0, 1) := by decide +kernel
theorem dX6_nextLook_9 : decode cX6_nextLook 9 = .ok (.getfield 60, 3) := by decide +kernel
theorem dX6_nextLook_12 : decode cX6_nextLook 12 = .ok (.if_icmp .ge 80, 3) := by decide +kernel
theorem dX6_nextLook_15 : decode cX6_nextLook 15 = .ok (.aload_n 0, 1) := by decide +kernel
theorem dX6_nextLook_16 : decode cX6_nextLook 16 = .ok (.getfield 108, 3) := by decide +kernel
theorem dX6_nextLook_19 : decode cX6_nextLook 19 = .ok (.ifCond .le 73, 3) := by decide +kernel
theorem dX6_nextLook_22 : decode cX6_nextLook 22 = .ok (.aload_n 0, 1) := by decide +kernel
theorem dX6_nextLook_23 : decode cX6_nextLook 23 = .ok (.getfield 36, 3) := by decide +kernel
theorem dX6_nextLook_26 : decode cX6_nextLook 26 = .ok (.iconst 0, 1) := by decide +kernel
theorem dX6_nextLook_27 : decode cX6_nextLook 27 = .ok (.invokestatic 77, 3) := by decide +kernel
theorem dX6_nextLook_30 : decode cX6_nextLook 30 = .ok (.aload_n 0, 1) := by decide +kernel
theorem dX6_nextLook_31 : decode cX6_nextLook 31 = .ok (.bipush 20, 2) := by decide +kernel
theorem dX6_nextLook_33 : decode cX6_nextLook 33 = .ok (.iconst 2, 1) := by decide +kernel
theorem dX6_nextLook_34 : decode cX6_nextLook 34 = .ok (.iload_n 3, 1) := by decide +kernel
theorem dX6_nextLook_35 : decode cX6_nextLook 35 = .ok (.imul, 1) := by decide +kernel
theorem dX6_nextLook_36 : decode cX6_nextLook 36 = .ok (.iadd, 1) := by decide +kernel
theorem dX6_nextLook_37 : decode cX6_nextLook 37 = .ok (.invokevirtual 119, 3) := by decide +kernel
theorem dX6_nextLook_40 : decode cX6_nextLook 40 = .ok (.aload_n 0, 1) := by decide +kernel
theorem dX6_nextLook_41 : decode cX6_nextLook 41 = .ok (.bipush 20, 2) := by decide +kernel
theorem dX6_nextLook_43 : decode cX6_nextLook 43 = .ok (.iconst 2, 1) := by decide +kernel
theorem dX6_nextLook_44 : decode cX6_nextLook 44 = .ok (.iload_n 3, 1) := by decide +kernel
theorem dX6_nextLook_45 : decode cX6_nextLook 45 = .ok (.imul, 1) := by decide +kernel
theorem dX6_nextLook_46 : decode cX6_nextLook 46 = .ok (.iadd, 1) := by decide +kernel
theorem dX6_nextLook_47 : decode cX6_nextLook 47 = .ok (.iconst 1, 1) := by decide +kernel
theorem dX6_nextLook_48 : decode cX6_nextLook 48 = .ok (.iadd, 1) := by decide +kernel
theorem dX6_nextLook_49 : decode cX6_nextLook 49 = .ok (.invokevirtual 119, 3) := by decide +kernel
theorem dX6_nextLook_52 : decode cX6_nextLook 52 = .ok (.aload_n 0, 1) := by decide +kernel
theorem dX6_nextLook_53 : decode cX6_nextLook 53 = .ok (.getfield 53, 3) := by decide +kernel
theorem dX6_nextLook_56 : decode cX6_nextLook 56 = .ok (.getfield 127, 3) := by decide +kernel
theorem dX6_nextLook_59 : decode cX6_nextLook 59 = .ok (.aload_n 0, 1) := by decide +kernel
theorem dX6_nextLook_60 : decode cX6_nextLook 60 = .ok (.getfield 53, 3) := by decide +kernel
theorem dX6_nextLook_63 : decode cX6_nextLook 63 = .ok (.invokevirtual 130, 3) := by decide +kernel
theorem dX6_nextLook_66 : decode cX6_nextLook 66 = .ok (.iaload, 1) := by decide +kernel
theorem dX6_nextLook_67 : decode cX6_nextLook 67 = .ok (.istore 4, 2) := by decide +kernel
theorem dX6_nextLook_69 : decode cX6_nextLook 69 = .ok (.iload_n 1, 1) := by decide +kernel
theorem dX6_nextLook_70 : decode cX6_nextLook 70 = .ok (.bipush (-9), 2) := by decide +kernel
theorem dX6_nextLook_72 : decode cX6_nextLook 72 = .ok (.if_icmp .eq 9, 3) := by decide +kernel
theorem dX6_nextLook_75 : decode cX6_nextLook 75 = .ok (.iload 4, 2) := by decide +kernel
theorem dX6_nextLook_77 : decode cX6_nextLook 77 = .ok (.iload_n 2, 1) := by decide +kernel
theorem dX6_nextLook_78 : decode cX6_nextLook 78 = .ok (.if_icmp .ge 8, 3) := by decide +kernel
theorem dX6_nextLook_81 : decode cX6_nextLook 81 = .ok (.iload_n 3, 1) := by decide +kernel
theorem dX6_nextLook_82 : decode cX6_nextLook 82 = .ok (.istore_n 1, 1) := by decide +kernel
theorem dX6_nextLook_83 : decode cX6_nextLook 83 = .ok (.iload 4, 2) := by decide +kernel
theorem dX6_nextLook_85 : decode cX6_nextLook 85 = .ok (.istore_n 2, 1) := by decide +kernel
theorem dX6_nextLook_86 : decode cX6_nextLook 86 = .ok (.iinc 3 1, 3) := by decide +kernel
theorem dX6_nextLook_89 : decode cX6_nextLook 89 = .ok (.goto (-82), 3) := by decide +kernel
theorem dX6_nextLook_92 : decode cX6_nextLook 92 = .ok (.iload_n 1, 1) := by decide +kernel
theorem dX6_nextLook_93 : decode cX6_nextLook 93 = .ok (.ireturn, 1) := by decide +kernel
theorem dX6_splitHeaps_0 : decode cX6_splitHeaps 0 = .ok (.aload_n 0, 1) := by decide +kernel
theorem dX6_splitHeaps_1 : decode cX6_splitHeaps 1 = .ok (.getfield 53, 3) := by decide +kernel
theorem dX6_splitHeaps_4 : decode cX6_splitHeaps 4 = .ok (.invokevirtual 134, 3) := by decide +kernel
theorem dX6_splitHeaps_7 : decode cX6_splitHeaps 7 = .ok (.iconst 0, 1) := by decide +kernel
theorem dX6_splitHeaps_8 : decode cX6_splitHeaps 8 = .ok (.istore_n 2, 1) := by decide +kernel
theorem dX6_splitHeaps_9 : decode cX6_splitHeaps 9 = .ok (.iload_n 2, 1) := by decide +kernel
theorem dX6_splitHeaps_10 : decode cX6_splitHeaps 10 = .ok (.aload_n 0, 1) := by decide +kernel
theorem dX6_splitHeaps_11 : decode cX6_splitHeaps 11 = .ok (.getfield 108, 3) := by decide +kernel
theorem dX6_splitHeaps_14 : decode cX6_splitHeaps 14 = .ok (.if_icmp .ge 55, 3) := by decide +kernel
theorem dX6_splitHeaps_17 : decode cX6_splitHeaps 17 = .ok (.aload_n 0, 1) := by decide +kernel
theorem dX6_splitHeaps_18 : decode cX6_splitHeaps 18 = .ok (.aload_n 0, 1) := by decide +kernel
theorem dX6_splitHeaps_19 : decode cX6_splitHeaps 19 = .ok (.getfield 33, 3) := by decide +kernel
theorem dX6_splitHeaps_22 : decode cX6_splitHeaps 22 = .ok (.iload_n 2, 1) := by decide +kernel
theorem dX6_splitHeaps_23 : decode cX6_splitHeaps 23 = .ok (.iaload, 1) := by decide +kernel
theorem dX6_splitHeaps_24 : decode cX6_splitHeaps 24 = .ok (.invokevirtual 96, 3) := by decide +kernel
theorem dX6_splitHeaps_27 : decode cX6_splitHeaps 27 = .ok (.aload_n 0, 1) := by decide +kernel
theorem dX6_splitHeaps_28 : decode cX6_splitHeaps 28 = .ok (.getfield 36, 3) := by decide +kernel
theorem dX6_splitHeaps_31 : decode cX6_splitHeaps 31 = .ok (.iload_n 2, 1) := by decide +kernel
theorem dX6_splitHeaps_32 : decode cX6_splitHeaps 32 = .ok (.aload_n 0, 1) := by decide +kernel
theorem dX6_splitHeaps_33 : decode cX6_splitHeaps 33 = .ok (.getfield 53, 3) := by decide +kernel
theorem dX6_splitHeaps_36 : decode cX6_splitHeaps 36 = .ok (.aload_n 0, 1) := by decide +kernel
theorem dX6_splitHeaps_37 : decode cX6_splitHeaps 37 = .ok (.getfield 36, 3) := by decide +kernel
theorem dX6_splitHeaps_40 : decode cX6_splitHeaps 40 = .ok (.iload_n 2, 1) := by decide +kernel
theorem dX6_splitHeaps_41 : decode cX6_splitHeaps 41 = .ok (.iaload, 1) := by decide +kernel
theorem dX6_splitHeaps_42 : decode cX6_splitHeaps 42 = .ok (.sipush 8192, 3) := by decide +kernel
theorem dX6_splitHeaps_45 : decode cX6_splitHeaps 45 = .ok (.imul, 1) := by decide +kernel
theorem dX6_splitHeaps_46 : decode cX6_splitHeaps 46 = .ok (.aload_n 0, 1) := by decide +kernel
theorem dX6_splitHeaps_47 : decode cX6_splitHeaps 47 = .ok (.iload_n 1, 1) := by decide +kernel
theorem dX6_splitHeaps_48 : decode cX6_splitHeaps 48 = .ok (.invokevirtual 99, 3) := by decide +kernel
theorem dX6_splitHeaps_51 : decode cX6_splitHeaps 51 = .ok (.invokestatic 137, 3) := by decide +kernel
theorem dX6_splitHeaps_54 : decode cX6_splitHeaps 54 = .ok (.iadd, 1) := by decide +kernel
theorem dX6_splitHeaps_55 : decode cX6_splitHeaps 55 = .ok (.sipush 4096, 3) := by decide +kernel
theorem dX6_splitHeaps_58 : decode cX6_splitHeaps 58 = .ok (.iadd, 1) := by decide +kernel
theorem dX6_splitHeaps_59 : decode cX6_splitHeaps 59 = .ok (.invokevirtual 140, 3) := by decide +kernel
theorem dX6_splitHeaps_62 : decode cX6_splitHeaps 62 = .ok (.iastore, 1) := by decide +kernel
theorem dX6_splitHeaps_63 : decode cX6_splitHeaps 63 = .ok (.iinc 2 1, 3) := by decide +kernel
theorem dX6_splitHeaps_66 : decode cX6_splitHeaps 66 = .ok (.goto (-57), 3) := by decide +kernel
theorem dX6_splitHeaps_69 : decode cX6_splitHeaps 69 = .ok (.return_, 1) := by decide +kernel
theorem dX7_init_0 : decode cX7_init 0 = .ok (.aload_n 0, 1) := by decide +kernel
theorem dX7_init_1 : decode cX7_init 1 = .ok (.invokespecial 3, 3) := by decide +kernel
theorem dX7_init_4 : decode cX7_init 4 = .ok (.new 9, 3) := by decide +kernel
theorem dX7_init_7 : decode cX7_init 7 = .ok (.dup, 1) := by decide +kernel
theorem dX7_init_8 : decode cX7_init 8 = .ok (.invokespecial 11, 3) := by decide +kernel
theorem dX7_init_11 : decode cX7_init 11 = .ok (.astore_n 1, 1) := by decide +kernel
theorem dX7_init_12 : decode cX7_init 12 = .ok (.new 12, 3) := by decide +kernel
theorem dX7_init_15 : decode cX7_init 15 = .ok (.dup, 1) := by decide +kernel
theorem dX7_init_16 : decode cX7_init 16 = .ok (.invokespecial 14, 3) := by decide +kernel
theorem dX7_init_19 : decode cX7_init 19 = .ok (.astore_n 2, 1) := by decide +kernel
theorem dX7_init_20 : decode cX7_init 20 = .ok (.new 15, 3) := by decide +kernel
theorem dX7_init_23 : decode cX7_init 23 = .ok (.dup, 1) := by decide +kernel
theorem dX7_init_24 : decode cX7_init 24 = .ok (.aload_n 1, 1) := by decide +kernel
theorem dX7_init_25 : decode cX7_init 25 = .ok (.invokespecial 17, 3) := by decide +kernel
theorem dX7_init_28 : decode cX7_init 28 = .ok (.astore_n 3, 1) := by decide +kernel
theorem dX7_init_29 : decode cX7_init 29 = .ok (.aload_n 0, 1) := by decide +kernel
theorem dX7_init_30 : decode cX7_init 30 = .ok (.aload_n 1, 1) := by decide +kernel
theorem dX7_init_31 : decode cX7_init 31 = .ok (.putfield 20, 3) := by decide +kernel
theorem dX7_init_34 : decode cX7_init 34 = .ok (.aload_n 0, 1) := by decide +kernel
theorem dX7_init_35 : decode cX7_init 35 = .ok (.aload_n 2, 1) := by decide +kernel
theorem dX7_init_36 : decode cX7_init 36 = .ok (.putfield 24, 3) := by decide +kernel
theorem dX7_init_39 : decode cX7_init 39 = .ok (.aload_n 0, 1) := by decide +kernel
theorem dX7_init_40 : decode cX7_init 40 = .ok (.aload_n 3, 1) := by decide +kernel
theorem dX7_init_41 : decode cX7_init 41 = .ok (.putfield 28, 3) := by decide +kernel
theorem dX7_init_44 : decode cX7_init 44 = .ok (.aload_n 0, 1) := by decide +kernel
theorem dX7_init_45 : decode cX7_init 45 = .ok (.new 32, 3) := by decide +kernel
theorem dX7_init_48 : decode cX7_init 48 = .ok (.dup, 1) := by decide +kernel
theorem dX7_init_49 : decode cX7_init 49 = .ok (.invokespecial 34, 3) := by decide +kernel
theorem dX7_init_52 : decode cX7_init 52 = .ok (.putfield 35, 3) := by decide +kernel
theorem dX7_init_55 : decode cX7_init 55 = .ok (.aload_n 0, 1) := by decide +kernel
theorem dX7_init_56 : decode cX7_init 56 = .ok (.new 39, 3) := by decide +kernel
theorem dX7_init_59 : decode cX7_init 59 = .ok (.dup, 1) := by decide +kernel
theorem dX7_init_60 : decode cX7_init 60 = .ok (.invokespecial 41, 3) := by decide +kernel
theorem dX7_init_63 : decode cX7_init 63 = .ok (.putfield 42, 3) := by decide +kernel
theorem dX7_init_66 : decode cX7_init 66 = .ok (.aload_n 0, 1) := by decide +kernel
theorem dX7_init_67 : decode cX7_init 67 = .ok (.new 46, 3) := by decide +kernel
theorem dX7_init_70 : decode cX7_init 70 = .ok (.dup, 1) := by decide +kernel
theorem dX7_init_71 : decode cX7_init 71 = .ok (.aload_n 1, 1) := by decide +kernel
theorem dX7_init_72 : decode cX7_init 72 = .ok (.aload_n 2, 1) := by decide +kernel
theorem dX7_init_73 : decode cX7_init 73 = .ok (.invokespecial 48, 3) := by decide +kernel
theorem dX7_init_76 : decode cX7_init 76 = .ok (.putfield 51, 3) := by decide +kernel
theorem dX7_init_79 : decode cX7_init 79 = .ok (.aload_n 0, 1) := by decide +kernel
theorem dX7_init_80 : decode cX7_init 80 = .ok (.new 55, 3) := by decide +kernel
theorem dX7_init_83 : decode cX7_init 83 = .ok (.dup, 1) := by decide +kernel
theorem dX7_init_84 : decode cX7_init 84 = .ok (.aload_n 3, 1) := by decide +kernel
theorem dX7_init_85 : decode cX7_init 85 = .ok (.aload_n 2, 1) := by decide +kernel
theorem dX7_init_86 : decode cX7_init 86 = .ok (.invokespecial 57, 3) := by decide +kernel
theorem dX7_init_89 : decode cX7_init 89 = .ok (.putfield 60, 3) := by decide +kernel
theorem dX7_init_92 : decode cX7_init 92 = .ok (.return_, 1) := by decide +kernel
theorem dX7_body_0 : decode cX7_body 0 = .ok (.iconst 0, 1) := by decide +kernel
theorem dX7_body_1 : decode cX7_body 1 = .ok (.iload_n 1, 1) := by decide +kernel
theorem dX7_body_2 : decode cX7_body 2 = .ok (.invokestatic 64, 3) := by decide +kernel
theorem dX7_body_5 : decode cX7_body 5 = .ok (.ifCond .eq 28, 3) := by decide +kernel
theorem dX7_body_8 : decode cX7_body 8 = .ok (.iconst 1, 1) := by decide +kernel
theorem dX7_body_9 : decode cX7_body 9 = .ok (.iload_n 2, 1) := by decide +kernel
theorem dX7_body_10 : decode cX7_body 10 = .ok (.invokestatic 64, 3) := by decide +kernel
theorem dX7_body_13 : decode cX7_body 13 = .ok (.ifCond .eq 20, 3) := by decide +kernel
theorem dX7_body_16 : decode cX7_body 16 = .ok (.iconst 2, 1) := by decide +kernel
theorem dX7_body_17 : decode cX7_body 17 = .ok (.iload_n 3, 1) := by decide +kernel
theorem dX7_body_18 : decode cX7_body 18 = .ok (.invokestatic 64, 3) := by decide +kernel
theorem dX7_body_21 : decode cX7_body 21 = .ok (.ifCond .eq 12, 3) := by decide +kernel
theorem dX7_body_24 : decode cX7_body 24 = .ok (.iconst 3, 1) := by decide +kernel
theorem dX7_body_25 : decode cX7_body 25 = .ok (.iload 4, 2) := by decide +kernel
theorem dX7_body_27 : decode cX7_body 27 = .ok (.invokestatic 64, 3) := by decide +kernel
theorem dX7_body_30 : decode cX7_body 30 = .ok (.ifCond .ne 5, 3) := by decide +kernel
theorem dX7_body_33 : decode cX7_body 33 = .ok (.iconst (-1), 1) := by decide +kernel
theorem dX7_body_34 : decode cX7_body 34 = .ok (.ireturn, 1) := by decide +kernel
theorem dX7_body_35 : decode cX7_body 35 = .ok (.aload_n 0, 1) := by decide +kernel
theorem dX7_body_36 : decode cX7_body 36 = .ok (.getfield 20, 3) := by decide +kernel
theorem dX7_body_39 : decode cX7_body 39 = .ok (.getfield 68, 3) := by decide +kernel
theorem dX7_body_42 : decode cX7_body 42 = .ok (.bipush 8, 2) := by decide +kernel
theorem dX7_body_44 : decode cX7_body 44 = .ok (.if_icmp .lt 6, 3) := by decide +kernel
theorem dX7_body_47 : decode cX7_body 47 = .ok (.bipush (-3), 2) := by decide +kernel
theorem dX7_body_49 : decode cX7_body 49 = .ok (.ireturn, 1) := by decide +kernel
theorem dX7_body_50 : decode cX7_body 50 = .ok (.aload_n 0, 1) := by decide +kernel
theorem dX7_body_51 : decode cX7_body 51 = .ok (.invokevirtual 72, 3) := by decide +kernel
theorem dX7_body_54 : decode cX7_body 54 = .ok (.aload_n 0, 1) := by decide +kernel
theorem dX7_body_55 : decode cX7_body 55 = .ok (.getfield 20, 3) := by decide +kernel
theorem dX7_body_58 : decode cX7_body 58 = .ok (.iload_n 1, 1) := by decide +kernel
theorem dX7_body_59 : decode cX7_body 59 = .ok (.iload_n 2, 1) := by decide +kernel
theorem dX7_body_60 : decode cX7_body 60 = .ok (.iload_n 3, 1) := by decide +kernel
theorem dX7_body_61 : decode cX7_body 61 = .ok (.iload 4, 2) := by decide +kernel
theorem dX7_body_63 : decode cX7_body 63 = .ok (.invokevirtual 75, 3) := by decide +kernel
theorem dX7_body_66 : decode cX7_body 66 = .ok (.ireturn, 1) := by decide +kernel
theorem dX7_set_0 : decode cX7_set 0 = .ok (.aload_n 0, 1) := by decide +kernel
theorem dX7_set_1 : decode cX7_set 1 = .ok (.iload_n 1, 1) := by decide +kernel
theorem dX7_set_2 : decode cX7_set 2 = .ok (.invokevirtual 79, 3) := by decide +kernel
theorem dX7_set_5 : decode cX7_set 5 = .ok (.ifCond .eq 20, 3) := by decide +kernel
theorem dX7_set_8 : decode cX7_set 8 = .ok (.iload_n 2, 1) := by decide +kernel
theorem dX7_set_9 : decode cX7_set 9 = .ok (.iconst 0, 1) := by decide +kernel
theorem dX7_set_10 : decode cX7_set 10 = .ok (.iconst 5, 1) := by decide +kernel
theorem dX7_set_11 : decode cX7_set 11 = .ok (.invokestatic 83, 3) := by decide +kernel
theorem dX7_set_14 : decode cX7_set 14 = .ok (.ifCond .eq 11, 3) := by decide +kernel
theorem dX7_set_17 : decode cX7_set 17 = .ok (.iload_n 2, 1) := by decide +kernel
theorem dX7_set_18 : decode cX7_set 18 = .ok (.iload_n 3, 1) := by decide +kernel
theorem dX7_set_19 : decode cX7_set 19 = .ok (.invokestatic 64, 3) := by decide +kernel
theorem dX7_set_22 : decode cX7_set 22 = .ok (.ifCond .ne 6, 3) := by decide +kernel
theorem dX7_set_25 : decode cX7_set 25 = .ok (.ldc 87, 2) := by decide +kernel
theorem dX7_set_27 : decode cX7_set 27 = .ok (.ireturn, 1) := by decide +kernel
theorem dX7_set_28 : decode cX7_set 28 = .ok (.aload_n 0, 1) := by decide +kernel
theorem dX7_set_29 : decode cX7_set 29 = .ok (.invokevirtual 72, 3) := by decide +kernel
theorem dX7_set_32 : decode cX7_set 32 = .ok (.aload_n 0, 1) := by decide +kernel
theorem dX7_set_33 : decode cX7_set 33 = .ok (.getfield 20, 3) := by decide +kernel
theorem dX7_set_36 : decode cX7_set 36 = .ok (.getfield 88, 3) := by decide +kernel
theorem dX7_set_39 : decode cX7_set 39 = .ok (.iload_n 1, 1) := by decide +kernel
theorem dX7_set_40 : decode cX7_set 40 = .ok (.aaload, 1) := by decide +kernel
theorem dX7_set_41 : decode cX7_set 41 = .ok (.iload_n 2, 1) := by decide +kernel
theorem dX7_set_42 : decode cX7_set 42 = .ok (.iaload, 1) := by decide +kernel
theorem dX7_set_43 : decode cX7_set 43 = .ok (.istore 4, 2) := by decide +kernel
theorem dX7_set_45 : decode cX7_set 45 = .ok (.aload_n 0, 1) := by decide +kernel
theorem dX7_set_46 : decode cX7_set 46 = .ok (.getfield 20, 3) := by decide +kernel
theorem dX7_set_49 : decode cX7_set 49 = .ok (.getfield 88, 3) := by decide +kernel
theorem dX7_set_52 : decode cX7_set 52 = .ok (.iload_n 1, 1) := by decide +kernel
theorem dX7_set_53 : decode cX7_set 53 = .ok (.aaload, 1) := by decide +kernel
theorem dX7_set_54 : decode cX7_set 54 = .ok (.iload_n 2, 1) := by decide +kernel
theorem dX7_set_55 : decode cX7_set 55 = .ok (.iload_n 3, 1) := by decide +kernel
theorem dX7_set_56 : decode cX7_set 56 = .ok (.iastore, 1) := by decide +kernel
theorem dX7_set_57 : decode cX7_set 57 = .ok (.iload 4, 2) := by decide +kernel
theorem dX7_set_59 : decode cX7_set 59 = .ok (.ireturn, 1) := by decide +kernel
theorem dX7_drop_0 : decode cX7_drop 0 = .ok (.aload_n 0, 1) := by decide +kernel
theorem dX7_drop_1 : decode cX7_drop 1 = .ok (.getfield 20, 3) := by decide +kernel
theorem dX7_drop_4 : decode cX7_drop 4 = .ok (.getfield 68, 3) := by decide +kernel
theorem dX7_drop_7 : decode cX7_drop 7 = .ok (.ifCond .gt 6, 3) := by decide +kernel
theorem dX7_drop_10 : decode cX7_drop 10 = .ok (.bipush (-2), 2) := by decide +kernel
theorem dX7_drop_12 : decode cX7_drop 12 = .ok (.ireturn, 1) := by decide +kernel
theorem dX7_drop_13 : decode cX7_drop 13 = .ok (.aload_n 0, 1) := by decide +kernel
theorem dX7_drop_14 : decode cX7_drop 14 = .ok (.invokevirtual 72, 3) := by decide +kernel
theorem dX7_drop_17 : decode cX7_drop 17 = .ok (.aload_n 0, 1) := by decide +kernel
theorem dX7_drop_18 : decode cX7_drop 18 = .ok (.getfield 20, 3) := by decide +kernel
theorem dX7_drop_21 : decode cX7_drop 21 = .ok (.dup, 1) := by decide +kernel
theorem dX7_drop_22 : decode cX7_drop 22 = .ok (.getfield 68, 3) := by decide +kernel
theorem dX7_drop_25 : decode cX7_drop 25 = .ok (.iconst 1, 1) := by decide +kernel
theorem dX7_drop_26 : decode cX7_drop 26 = .ok (.isub, 1) := by decide +kernel
theorem dX7_drop_27 : decode cX7_drop 27 = .ok (.putfield 68, 3) := by decide +kernel
theorem dX7_drop_30 : decode cX7_drop 30 = .ok (.aload_n 0, 1) := by decide +kernel
theorem dX7_drop_31 : decode cX7_drop 31 = .ok (.getfield 20, 3) := by decide +kernel
theorem dX7_drop_34 : decode cX7_drop 34 = .ok (.getfield 68, 3) := by decide +kernel
theorem dX7_drop_37 : decode cX7_drop 37 = .ok (.ireturn, 1) := by decide +kernel
theorem dX7_field_0 : decode cX7_field 0 = .ok (.iload_n 1, 1) := by decide +kernel
theorem dX7_field_1 : decode cX7_field 1 = .ok (.iconst 0, 1) := by decide +kernel
theorem dX7_field_2 : decode cX7_field 2 = .ok (.iconst 1, 1) := by decide +kernel
theorem dX7_field_3 : decode cX7_field 3 = .ok (.invokestatic 83, 3) := by decide +kernel
theorem dX7_field_6 : decode cX7_field 6 = .ok (.ifCond .eq 14, 3) := by decide +kernel
theorem dX7_field_9 : decode cX7_field 9 = .ok (.iload_n 2, 1) := by decide +kernel
theorem dX7_field_10 : decode cX7_field 10 = .ok (.bipush (-8), 2) := by decide +kernel
theorem dX7_field_12 : decode cX7_field 12 = .ok (.bipush 8, 2) := by decide +kernel
theorem dX7_field_14 : decode cX7_field 14 = .ok (.invokestatic 83, 3) := by decide +kernel
theorem dX7_field_17 : decode cX7_field 17 = .ok (.ifCond .ne 6, 3) := by decide +kernel
theorem dX7_field_20 : decode cX7_field 20 = .ok (.ldc 87, 2) := by decide +kernel
theorem dX7_field_22 : decode cX7_field 22 = .ok (.ireturn, 1) := by decide +kernel
theorem dX7_field_23 : decode cX7_field 23 = .ok (.aload_n 0, 1) := by decide +kernel
theorem dX7_field_24 : decode cX7_field 24 = .ok (.invokevirtual 72, 3) := by decide +kernel
theorem dX7_field_27 : decode cX7_field 27 = .ok (.iload_n 1, 1) := by decide +kernel
theorem dX7_field_28 : decode cX7_field 28 = .ok (.ifCond .ne 13, 3) := by decide +kernel
theorem dX7_field_31 : decode cX7_field 31 = .ok (.aload_n 0, 1) := by decide +kernel
theorem dX7_field_32 : decode cX7_field 32 = .ok (.getfield 20, 3) := by decide +kernel
theorem dX7_field_35 : decode cX7_field 35 = .ok (.getfield 92, 3) := by decide +kernel
theorem dX7_field_38 : decode cX7_field 38 = .ok (.goto 10, 3) := by decide +kernel
theorem dX7_field_41 : decode cX7_field 41 = .ok (.aload_n 0, 1) := by decide +kernel
theorem dX7_field_42 : decode cX7_field 42 = .ok (.getfield 20, 3) := by decide +kernel
theorem dX7_field_45 : decode cX7_field 45 = .ok (.getfield 95, 3) := by decide +kernel
theorem dX7_field_48 : decode cX7_field 48 = .ok (.istore_n 3, 1) := by decide +kernel
theorem dX7_field_49 : decode cX7_field 49 = .ok (.iload_n 1, 1) := by decide +kernel
theorem dX7_field_50 : decode cX7_field 50 = .ok (.ifCond .ne 14, 3) := by decide +kernel
theorem dX7_field_53 : decode cX7_field 53 = .ok (.aload_n 0, 1) := by decide +kernel
theorem dX7_field_54 : decode cX7_field 54 = .ok (.getfield 20, 3) := by decide +kernel
theorem dX7_field_57 : decode cX7_field 57 = .ok (.iload_n 2, 1) := by decide +kernel
theorem dX7_field_58 : decode cX7_field 58 = .ok (.putfield 92, 3) := by decide +kernel
theorem dX7_field_61 : decode cX7_field 61 = .ok (.goto 11, 3) := by decide +kernel
theorem dX7_field_64 : decode cX7_field 64 = .ok (.aload_n 0, 1) := by decide +kernel
theorem dX7_field_65 : decode cX7_field 65 = .ok (.getfield 20, 3) := by decide +kernel
theorem dX7_field_68 : decode cX7_field 68 = .ok (.iload_n 2, 1) := by decide +kernel
theorem dX7_field_69 : decode cX7_field 69 = .ok (.putfield 95, 3) := by decide +kernel
theorem dX7_field_72 : decode cX7_field 72 = .ok (.iload_n 3, 1) := by decide +kernel
theorem dX7_field_73 : decode cX7_field 73 = .ok (.ireturn, 1) := by decide +kernel
theorem dX7_bend_0 : decode cX7_bend 0 = .ok (.iconst 0, 1) := by decide +kernel
theorem dX7_bend_1 : decode cX7_bend 1 = .ok (.iload_n 1, 1) := by decide +kernel
theorem dX7_bend_2 : decode cX7_bend 2 = .ok (.invokestatic 64, 3) := by decide +kernel
theorem dX7_bend_5 : decode cX7_bend 5 = .ok (.ifCond .eq 22, 3) := by decide +kernel
theorem dX7_bend_8 : decode cX7_bend 8 = .ok (.aload_n 0, 1) := by decide +kernel
theorem dX7_bend_9 : decode cX7_bend 9 = .ok (.iload_n 2, 1) := by decide +kernel
theorem dX7_bend_10 : decode cX7_bend 10 = .ok (.invokevirtual 79, 3) := by decide +kernel
theorem dX7_bend_13 : decode cX7_bend 13 = .ok (.ifCond .eq 14, 3) := by decide +kernel
theorem dX7_bend_16 : decode cX7_bend 16 = .ok (.iload_n 3, 1) := by decide +kernel
theorem dX7_bend_17 : decode cX7_bend 17 = .ok (.iload 4, 2) := by decide +kernel
theorem dX7_bend_19 : decode cX7_bend 19 = .ok (.iload 5, 2) := by decide +kernel
theorem dX7_bend_21 : decode cX7_bend 21 = .ok (.invokestatic 98, 3) := by decide +kernel
theorem dX7_bend_24 : decode cX7_bend 24 = .ok (.ifCond .ne 6, 3) := by decide +kernel
theorem dX7_bend_27 : decode cX7_bend 27 = .ok (.ldc 87, 2) := by decide +kernel
theorem dX7_bend_29 : decode cX7_bend 29 = .ok (.ireturn, 1) := by decide +kernel
theorem dX7_bend_30 : decode cX7_bend 30 = .ok (.aload_n 0, 1) := by decide +kernel
theorem dX7_bend_31 : decode cX7_bend 31 = .ok (.getfield 20, 3) := by decide +kernel
theorem dX7_bend_34 : decode cX7_bend 34 = .ok (.getfield 88, 3) := by decide +kernel
theorem dX7_bend_37 : decode cX7_bend 37 = .ok (.iload_n 2, 1) := by decide +kernel
theorem dX7_bend_38 : decode cX7_bend 38 = .ok (.aaload, 1) := by decide +kernel
theorem dX7_bend_39 : decode cX7_bend 39 = .ok (.astore 6, 2) := by decide +kernel
theorem dX7_bend_41 : decode cX7_bend 41 = .ok (.aload_n 0, 1) := by decide +kernel
theorem dX7_bend_42 : decode cX7_bend 42 = .ok (.dup, 1) := by decide +kernel
theorem dX7_bend_43 : decode cX7_bend 43 = .ok (.getfield 101, 3) := by decide +kernel
theorem dX7_bend_46 : decode cX7_bend 46 = .ok (.iload_n 1, 1) := by decide +kernel
theorem dX7_bend_47 : decode cX7_bend 47 = .ok (.invokestatic 105, 3) := by decide +kernel
theorem dX7_bend_50 : decode cX7_bend 50 = .ok (.i2l, 1) := by decide +kernel
theorem dX7_bend_51 : decode cX7_bend 51 = .ok (.ladd, 1) := by decide +kernel
theorem dX7_bend_52 : decode cX7_bend 52 = .ok (.putfield 101, 3) := by decide +kernel
theorem dX7_bend_55 : decode cX7_bend 55 = .ok (.iload_n 1, 1) := by decide +kernel
theorem dX7_bend_56 : decode cX7_bend 56 = .ok (.aload 6, 2) := by decide +kernel
theorem dX7_bend_58 : decode cX7_bend 58 = .ok (.aload 6, 2) := by decide +kernel
theorem dX7_bend_60 : decode cX7_bend 60 = .ok (.iconst 3, 1) := by decide +kernel
theorem dX7_bend_61 : decode cX7_bend 61 = .ok (.iaload, 1) := by decide +kernel
theorem dX7_bend_62 : decode cX7_bend 62 = .ok (.iload_n 3, 1) := by decide +kernel
theorem dX7_bend_63 : decode cX7_bend 63 = .ok (.iload 4, 2) := by decide +kernel
theorem dX7_bend_65 : decode cX7_bend 65 = .ok (.iload 5, 2) := by decide +kernel
theorem dX7_bend_67 : decode cX7_bend 67 = .ok (.invokestatic 109, 3) := by decide +kernel
theorem dX7_bend_70 : decode cX7_bend 70 = .ok (.ireturn, 1) := by decide +kernel
theorem dX7_from_0 : decode cX7_from 0 = .ok (.iload_n 1, 1) := by decide +kernel
theorem dX7_from_1 : decode cX7_from 1 = .ok (.iload_n 2, 1) := by decide +kernel
theorem dX7_from_2 : decode cX7_from 2 = .ok (.iload_n 3, 1) := by decide +kernel
theorem dX7_from_3 : decode cX7_from 3 = .ok (.invokestatic 98, 3) := by decide +kernel
theorem dX7_from_6 : decode cX7_from 6 = .ok (.ifCond .eq 16, 3) := by decide +kernel
theorem dX7_from_9 : decode cX7_from 9 = .ok (.aload_n 0, 1) := by decide +kernel
theorem dX7_from_10 : decode cX7_from 10 = .ok (.getfield 20, 3) := by decide +kernel
theorem dX7_from_13 : decode cX7_from 13 = .ok (.iload_n 1, 1) := by decide +kernel
theorem dX7_from_14 : decode cX7_from 14 = .ok (.iload_n 2, 1) := by decide +kernel
theorem dX7_from_15 : decode cX7_from 15 = .ok (.iload_n 3, 1) := by decide +kernel
theorem dX7_from_16 : decode cX7_from 16 = .ok (.invokevirtual 113, 3) := by decide +kernel
theorem dX7_from_19 : decode cX7_from 19 = .ok (.goto 5, 3) := by decide +kernel
theorem dX7_from_22 : decode cX7_from 22 = .ok (.ldc 87, 2) := by decide +kernel
theorem dX7_from_24 : decode cX7_from 24 = .ok (.ireturn, 1) := by decide +kernel
theorem dX7_cell_0 : decode cX7_cell 0 = .ok (.iload_n 1, 1) := by decide +kernel
theorem dX7_cell_1 : decode cX7_cell 1 = .ok (.iload_n 2, 1) := by decide +kernel
theorem dX7_cell_2 : decode cX7_cell 2 = .ok (.iload_n 3, 1) := by decide +kernel
theorem dX7_cell_3 : decode cX7_cell 3 = .ok (.invokestatic 98, 3) := by decide +kernel
theorem dX7_cell_6 : decode cX7_cell 6 = .ok (.ifCond .eq 19, 3) := by decide +kernel
theorem dX7_cell_9 : decode cX7_cell 9 = .ok (.aload_n 0, 1) := by decide +kernel
theorem dX7_cell_10 : decode cX7_cell 10 = .ok (.getfield 20, 3) := by decide +kernel
theorem dX7_cell_13 : decode cX7_cell 13 = .ok (.iload_n 1, 1) := by decide +kernel
theorem dX7_cell_14 : decode cX7_cell 14 = .ok (.iload_n 2, 1) := by decide +kernel
theorem dX7_cell_15 : decode cX7_cell 15 = .ok (.iload_n 3, 1) := by decide +kernel
theorem dX7_cell_16 : decode cX7_cell 16 = .ok (.invokevirtual 113, 3) := by decide +kernel
theorem dX7_cell_19 : decode cX7_cell 19 = .ok (.invokestatic 117, 3) := by decide +kernel
theorem dX7_cell_22 : decode cX7_cell 22 = .ok (.goto 5, 3) := by decide +kernel
theorem dX7_cell_25 : decode cX7_cell 25 = .ok (.ldc 87, 2) := by decide +kernel
theorem dX7_cell_27 : decode cX7_cell 27 = .ok (.ireturn, 1) := by decide +kernel
theorem dX7_pictures_0 : decode cX7_pictures 0 = .ok (.iload_n 1, 1) := by decide +kernel
theorem dX7_pictures_1 : decode cX7_pictures 1 = .ok (.iload_n 2, 1) := by decide +kernel
theorem dX7_pictures_2 : decode cX7_pictures 2 = .ok (.bipush 99, 2) := by decide +kernel
theorem dX7_pictures_4 : decode cX7_pictures 4 = .ok (.invokestatic 120, 3) := by decide +kernel
theorem dX7_pictures_7 : decode cX7_pictures 7 = .ok (.ifCond .eq 12, 3) := by decide +kernel
theorem dX7_pictures_10 : decode cX7_pictures 10 = .ok (.iload_n 3, 1) := by decide +kernel
theorem dX7_pictures_11 : decode cX7_pictures 11 = .ok (.iconst 0, 1) := by decide +kernel
theorem dX7_pictures_12 : decode cX7_pictures 12 = .ok (.iconst 1, 1) := by decide +kernel
theorem dX7_pictures_13 : decode cX7_pictures 13 = .ok (.invokestatic 83, 3) := by decide +kernel
theorem dX7_pictures_16 : decode cX7_pictures 16 = .ok (.ifCond .ne 5, 3) := by decide +kernel
theorem dX7_pictures_19 : decode cX7_pictures 19 = .ok (.iconst (-1), 1) := by decide +kernel
theorem dX7_pictures_20 : decode cX7_pictures 20 = .ok (.ireturn, 1) := by decide +kernel
theorem dX7_pictures_21 : decode cX7_pictures 21 = .ok (.aload_n 0, 1) := by decide +kernel
theorem dX7_pictures_22 : decode cX7_pictures 22 = .ok (.iload_n 1, 1) := by decide +kernel
theorem dX7_pictures_23 : decode cX7_pictures 23 = .ok (.iload_n 2, 1) := by decide +kernel
theorem dX7_pictures_24 : decode cX7_pictures 24 = .ok (.invokevirtual 123, 3) := by decide +kernel
theorem dX7_pictures_27 : decode cX7_pictures 27 = .ok (.istore 4, 2) := by decide +kernel
theorem dX7_pictures_29 : decode cX7_pictures 29 = .ok (.iload_n 3, 1) := by decide +kernel
theorem dX7_pictures_30 : decode cX7_pictures 30 = .ok (.ifCond .ne 6, 3) := by decide +kernel
theorem dX7_pictures_33 : decode cX7_pictures 33 = .ok (.iload 4, 2) := by decide +kernel
theorem dX7_pictures_35 : decode cX7_pictures 35 = .ok (.ireturn, 1) := by decide +kernel
theorem dX7_pictures_36 : decode cX7_pictures 36 = .ok (.aload_n 0, 1) := by decide +kernel
theorem dX7_pictures_37 : decode cX7_pictures 37 = .ok (.getfield 35, 3) := by decide +kernel
theorem dX7_pictures_40 : decode cX7_pictures 40 = .ok (.bipush (-9), 2) := by decide +kernel
theorem dX7_pictures_42 : decode cX7_pictures 42 = .ok (.invokevirtual 127, 3) := by decide +kernel
theorem dX7_pictures_45 : decode cX7_pictures 45 = .ok (.ireturn, 1) := by decide +kernel
theorem dX7_group_0 : decode cX7_group 0 = .ok (.iload_n 1, 1) := by decide +kernel
theorem dX7_group_1 : decode cX7_group 1 = .ok (.iload_n 2, 1) := by decide +kernel
theorem dX7_group_2 : decode cX7_group 2 = .ok (.bipush 99, 2) := by decide +kernel
theorem dX7_group_4 : decode cX7_group 4 = .ok (.invokestatic 120, 3) := by decide +kernel
theorem dX7_group_7 : decode cX7_group 7 = .ok (.ifCond .eq 17, 3) := by decide +kernel
theorem dX7_group_10 : decode cX7_group 10 = .ok (.iload_n 3, 1) := by decide +kernel
theorem dX7_group_11 : decode cX7_group 11 = .ok (.ifCond .lt 13, 3) := by decide +kernel
theorem dX7_group_14 : decode cX7_group 14 = .ok (.iload 4, 2) := by decide +kernel
theorem dX7_group_16 : decode cX7_group 16 = .ok (.iconst 0, 1) := by decide +kernel
theorem dX7_group_17 : decode cX7_group 17 = .ok (.iconst 3, 1) := by decide +kernel
theorem dX7_group_18 : decode cX7_group 18 = .ok (.invokestatic 83, 3) := by decide +kernel
theorem dX7_group_21 : decode cX7_group 21 = .ok (.ifCond .ne 6, 3) := by decide +kernel
theorem dX7_group_24 : decode cX7_group 24 = .ok (.ldc 87, 2) := by decide +kernel
theorem dX7_group_26 : decode cX7_group 26 = .ok (.ireturn, 1) := by decide +kernel
theorem dX7_group_27 : decode cX7_group 27 = .ok (.aload_n 0, 1) := by decide +kernel
theorem dX7_group_28 : decode cX7_group 28 = .ok (.iload_n 1, 1) := by decide +kernel
theorem dX7_group_29 : decode cX7_group 29 = .ok (.iload_n 2, 1) := by decide +kernel
theorem dX7_group_30 : decode cX7_group 30 = .ok (.invokevirtual 123, 3) := by decide +kernel
theorem dX7_group_33 : decode cX7_group 33 = .ok (.pop, 1) := by decide +kernel
theorem dX7_group_34 : decode cX7_group 34 = .ok (.iload_n 3, 1) := by decide +kernel
theorem dX7_group_35 : decode cX7_group 35 = .ok (.aload_n 0, 1) := by decide +kernel
theorem dX7_group_36 : decode cX7_group 36 = .ok (.getfield 35, 3) := by decide +kernel
theorem dX7_group_39 : decode cX7_group 39 = .ok (.iload_n 3, 1) := by decide +kernel
theorem dX7_group_40 : decode cX7_group 40 = .ok (.invokevirtual 127, 3) := by decide +kernel
theorem dX7_group_43 : decode cX7_group 43 = .ok (.if_icmp .lt 6, 3) := by decide +kernel
theorem dX7_group_46 : decode cX7_group 46 = .ok (.ldc 87, 2) := by decide +kernel
theorem dX7_group_48 : decode cX7_group 48 = .ok (.ireturn, 1) := by decide +kernel
theorem dX7_group_49 : decode cX7_group 49 = .ok (.aload_n 0, 1) := by decide +kernel
theorem dX7_group_50 : decode cX7_group 50 = .ok (.getfield 35, 3) := by decide +kernel
theorem dX7_group_53 : decode cX7_group 53 = .ok (.getfield 130, 3) := by decide +kernel
theorem dX7_group_56 : decode cX7_group 56 = .ok (.invokestatic 133, 3) := by decide +kernel
theorem dX7_group_59 : decode cX7_group 59 = .ok (.istore 5, 2) := by decide +kernel
theorem dX7_group_61 : decode cX7_group 61 = .ok (.aload_n 0, 1) := by decide +kernel
theorem dX7_group_62 : decode cX7_group 62 = .ok (.getfield 35, 3) := by decide +kernel
theorem dX7_group_65 : decode cX7_group 65 = .ok (.getfield 130, 3) := by decide +kernel
theorem dX7_group_68 : decode cX7_group 68 = .ok (.invokestatic 136, 3) := by decide +kernel
theorem dX7_group_71 : decode cX7_group 71 = .ok (.istore 6, 2) := by decide +kernel
theorem dX7_group_73 : decode cX7_group 73 = .ok (.iload 4, 2) := by decide +kernel
theorem dX7_group_75 : decode cX7_group 75 = .ok (.tableswitch 39 0 2 #[25, 28, 31], 25) := by decide +kernel
theorem dX7_group_100 : decode cX7_group 100 = .ok (.iload 5, 2) := by decide +kernel
theorem dX7_group_102 : decode cX7_group 102 = .ok (.ireturn, 1) := by decide +kernel
theorem dX7_group_103 : decode cX7_group 103 = .ok (.iload 6, 2) := by decide +kernel
theorem dX7_group_105 : decode cX7_group 105 = .ok (.ireturn, 1) := by decide +kernel
theorem dX7_group_106 : decode cX7_group 106 = .ok (.aload_n 0, 1) := by decide +kernel
theorem dX7_group_107 : decode cX7_group 107 = .ok (.getfield 35, 3) := by decide +kernel
theorem dX7_group_110 : decode cX7_group 110 = .ok (.getfield 139, 3) := by decide +kernel
theorem dX7_group_113 : decode cX7_group 113 = .ok (.ireturn, 1) := by decide +kernel
theorem dX7_group_114 : decode cX7_group 114 = .ok (.aload_n 0, 1) := by decide +kernel
theorem dX7_group_115 : decode cX7_group 115 = .ok (.getfield 28, 3) := by decide +kernel
theorem dX7_group_118 : decode cX7_group 118 = .ok (.iload 5, 2) := by decide +kernel
theorem dX7_group_120 : decode cX7_group 120 = .ok (.iload 6, 2) := by decide +kernel
theorem dX7_group_122 : decode cX7_group 122 = .ok (.invokevirtual 142, 3) := by decide +kernel
theorem dX7_group_125 : decode cX7_group 125 = .ok (.ireturn, 1) := by decide +kernel
theorem dX7_parity_0 : decode cX7_parity 0 = .ok (.iload_n 1, 1) := by decide +kernel
theorem dX7_parity_1 : decode cX7_parity 1 = .ok (.iload_n 2, 1) := by decide +kernel
theorem dX7_parity_2 : decode cX7_parity 2 = .ok (.bipush 24, 2) := by decide +kernel
theorem dX7_parity_4 : decode cX7_parity 4 = .ok (.invokestatic 120, 3) := by decide +kernel
theorem dX7_parity_7 : decode cX7_parity 7 = .ok (.ifCond .ne 6, 3) := by decide +kernel
theorem dX7_parity_10 : decode cX7_parity 10 = .ok (.ldc 87, 2) := by decide +kernel
theorem dX7_parity_12 : decode cX7_parity 12 = .ok (.ireturn, 1) := by decide +kernel
theorem dX7_parity_13 : decode cX7_parity 13 = .ok (.aload_n 0, 1) := by decide +kernel
theorem dX7_parity_14 : decode cX7_parity 14 = .ok (.getfield 28, 3) := by decide +kernel
theorem dX7_parity_17 : decode cX7_parity 17 = .ok (.invokevirtual 145, 3) := by decide +kernel
theorem dX7_parity_20 : decode cX7_parity 20 = .ok (.aload_n 0, 1) := by decide +kernel
theorem dX7_parity_21 : decode cX7_parity 21 = .ok (.getfield 28, 3) := by decide +kernel
theorem dX7_parity_24 : decode cX7_parity 24 = .ok (.iload_n 1, 1) := by decide +kernel
theorem dX7_parity_25 : decode cX7_parity 25 = .ok (.iload_n 2, 1) := by decide +kernel
theorem dX7_parity_26 : decode cX7_parity 26 = .ok (.invokevirtual 142, 3) := by decide +kernel
theorem dX7_parity_29 : decode cX7_parity 29 = .ok (.ireturn, 1) := by decide +kernel
theorem dX7_critical_0 : decode cX7_critical 0 = .ok (.iload_n 1, 1) := by decide +kernel
theorem dX7_critical_1 : decode cX7_critical 1 = .ok (.iload_n 2, 1) := by decide +kernel
theorem dX7_critical_2 : decode cX7_critical 2 = .ok (.bipush 24, 2) := by decide +kernel
theorem dX7_critical_4 : decode cX7_critical 4 = .ok (.invokestatic 120, 3) := by decide +kernel
theorem dX7_critical_7 : decode cX7_critical 7 = .ok (.ifCond .ne 5, 3) := by decide +kernel
theorem dX7_critical_10 : decode cX7_critical 10 = .ok (.iconst (-1), 1) := by decide +kernel
theorem dX7_critical_11 : decode cX7_critical 11 = .ok (.ireturn, 1) := by decide +kernel
theorem dX7_critical_12 : decode cX7_critical 12 = .ok (.aload_n 0, 1) := by decide +kernel
theorem dX7_critical_13 : decode cX7_critical 13 = .ok (.getfield 28, 3) := by decide +kernel
theorem dX7_critical_16 : decode cX7_critical 16 = .ok (.invokevirtual 145, 3) := by decide +kernel
theorem dX7_critical_19 : decode cX7_critical 19 = .ok (.aload_n 0, 1) := by decide +kernel
theorem dX7_critical_20 : decode cX7_critical 20 = .ok (.getfield 28, 3) := by decide +kernel
theorem dX7_critical_23 : decode cX7_critical 23 = .ok (.iload_n 1, 1) := by decide +kernel
theorem dX7_critical_24 : decode cX7_critical 24 = .ok (.iload_n 2, 1) := by decide +kernel
theorem dX7_critical_25 : decode cX7_critical 25 = .ok (.invokevirtual 148, 3) := by decide +kernel
theorem dX7_critical_28 : decode cX7_critical 28 = .ok (.ifCond .eq 7, 3) := by decide +kernel
theorem dX7_critical_31 : decode cX7_critical 31 = .ok (.iconst 1, 1) := by decide +kernel
theorem dX7_critical_32 : decode cX7_critical 32 = .ok (.goto 4, 3) := by decide +kernel
theorem dX7_critical_35 : decode cX7_critical 35 = .ok (.iconst 0, 1) := by decide +kernel
theorem dX7_critical_36 : decode cX7_critical 36 = .ok (.ireturn, 1) := by decide +kernel
theorem dX7_rings_0 : decode cX7_rings 0 = .ok (.iload_n 1, 1) := by decide +kernel
theorem dX7_rings_1 : decode cX7_rings 1 = .ok (.iconst 0, 1) := by decide +kernel
theorem dX7_rings_2 : decode cX7_rings 2 = .ok (.iconst 3, 1) := by decide +kernel
theorem dX7_rings_3 : decode cX7_rings 3 = .ok (.invokestatic 83, 3) := by decide +kernel
theorem dX7_rings_6 : decode cX7_rings 6 = .ok (.ifCond .ne 5, 3) := by decide +kernel
theorem dX7_rings_9 : decode cX7_rings 9 = .ok (.iconst (-1), 1) := by decide +kernel
theorem dX7_rings_10 : decode cX7_rings 10 = .ok (.ireturn, 1) := by decide +kernel
theorem dX7_rings_11 : decode cX7_rings 11 = .ok (.aload_n 0, 1) := by decide +kernel
theorem dX7_rings_12 : decode cX7_rings 12 = .ok (.getfield 28, 3) := by decide +kernel
theorem dX7_rings_15 : decode cX7_rings 15 = .ok (.invokevirtual 145, 3) := by decide +kernel
theorem dX7_rings_18 : decode cX7_rings 18 = .ok (.iload_n 1, 1) := by decide +kernel
theorem dX7_rings_19 : decode cX7_rings 19 = .ok (.iconst 2, 1) := by decide +kernel
theorem dX7_rings_20 : decode cX7_rings 20 = .ok (.if_icmp .lt 21, 3) := by decide +kernel
theorem dX7_rings_23 : decode cX7_rings 23 = .ok (.aload_n 0, 1) := by decide +kernel
theorem dX7_rings_24 : decode cX7_rings 24 = .ok (.getfield 28, 3) := by decide +kernel
theorem dX7_rings_27 : decode cX7_rings 27 = .ok (.iload_n 1, 1) := by decide +kernel
theorem dX7_rings_28 : decode cX7_rings 28 = .ok (.iconst 2, 1) := by decide +kernel
theorem dX7_rings_29 : decode cX7_rings 29 = .ok (.if_icmp .ne 7, 3) := by decide +kernel
theorem dX7_rings_32 : decode cX7_rings 32 = .ok (.iconst 1, 1) := by decide +kernel
theorem dX7_rings_33 : decode cX7_rings 33 = .ok (.goto 4, 3) := by decide +kernel
theorem dX7_rings_36 : decode cX7_rings 36 = .ok (.iconst (-1), 1) := by decide +kernel
theorem dX7_rings_37 : decode cX7_rings 37 = .ok (.invokevirtual 151, 3) := by decide +kernel
theorem dX7_rings_40 : decode cX7_rings 40 = .ok (.ireturn, 1) := by decide +kernel
theorem dX7_rings_41 : decode cX7_rings 41 = .ok (.aload_n 0, 1) := by decide +kernel
theorem dX7_rings_42 : decode cX7_rings 42 = .ok (.invokevirtual 154, 3) := by decide +kernel
theorem dX7_rings_45 : decode cX7_rings 45 = .ok (.istore_n 2, 1) := by decide +kernel
theorem dX7_rings_46 : decode cX7_rings 46 = .ok (.iload_n 1, 1) := by decide +kernel
theorem dX7_rings_47 : decode cX7_rings 47 = .ok (.ifCond .ne 7, 3) := by decide +kernel
theorem dX7_rings_50 : decode cX7_rings 50 = .ok (.iload_n 2, 1) := by decide +kernel
theorem dX7_rings_51 : decode cX7_rings 51 = .ok (.goto 12, 3) := by decide +kernel
theorem dX7_rings_54 : decode cX7_rings 54 = .ok (.aload_n 0, 1) := by decide +kernel
theorem dX7_rings_55 : decode cX7_rings 55 = .ok (.getfield 35, 3) := by decide +kernel
theorem dX7_rings_58 : decode cX7_rings 58 = .ok (.bipush (-9), 2) := by decide +kernel
theorem dX7_rings_60 : decode cX7_rings 60 = .ok (.invokevirtual 127, 3) := by decide +kernel
theorem dX7_rings_63 : decode cX7_rings 63 = .ok (.ireturn, 1) := by decide +kernel
theorem dX7_brightest_0 : decode cX7_brightest 0 = .ok (.iload_n 1, 1) := by decide +kernel
theorem dX7_brightest_1 : decode cX7_brightest 1 = .ok (.iconst 0, 1) := by decide +kernel
theorem dX7_brightest_2 : decode cX7_brightest 2 = .ok (.iconst 2, 1) := by decide +kernel
theorem dX7_brightest_3 : decode cX7_brightest 3 = .ok (.invokestatic 83, 3) := by decide +kernel
theorem dX7_brightest_6 : decode cX7_brightest 6 = .ok (.ifCond .ne 6, 3) := by decide +kernel
theorem dX7_brightest_9 : decode cX7_brightest 9 = .ok (.ldc 87, 2) := by decide +kernel
theorem dX7_brightest_11 : decode cX7_brightest 11 = .ok (.ireturn, 1) := by decide +kernel
theorem dX7_brightest_12 : decode cX7_brightest 12 = .ok (.aload_n 0, 1) := by decide +kernel
theorem dX7_brightest_13 : decode cX7_brightest 13 = .ok (.getfield 28, 3) := by decide +kernel
theorem dX7_brightest_16 : decode cX7_brightest 16 = .ok (.invokevirtual 145, 3) := by decide +kernel
theorem dX7_brightest_19 : decode cX7_brightest 19 = .ok (.aload_n 0, 1) := by decide +kernel
theorem dX7_brightest_20 : decode cX7_brightest 20 = .ok (.getfield 24, 3) := by decide +kernel
theorem dX7_brightest_23 : decode cX7_brightest 23 = .ok (.invokevirtual 158, 3) := by decide +kernel
theorem dX7_brightest_26 : decode cX7_brightest 26 = .ok (.iconst 0, 1) := by decide +kernel
theorem dX7_brightest_27 : decode cX7_brightest 27 = .ok (.istore_n 2, 1) := by decide +kernel
theorem dX7_brightest_28 : decode cX7_brightest 28 = .ok (.iload_n 2, 1) := by decide +kernel
theorem dX7_brightest_29 : decode cX7_brightest 29 = .ok (.sipush 2401, 3) := by decide +kernel
theorem dX7_brightest_32 : decode cX7_brightest 32 = .ok (.if_icmp .ge 26, 3) := by decide +kernel
theorem dX7_brightest_35 : decode cX7_brightest 35 = .ok (.aload_n 0, 1) := by decide +kernel
theorem dX7_brightest_36 : decode cX7_brightest 36 = .ok (.getfield 24, 3) := by decide +kernel
theorem dX7_brightest_39 : decode cX7_brightest 39 = .ok (.aload_n 0, 1) := by decide +kernel
theorem dX7_brightest_40 : decode cX7_brightest 40 = .ok (.getfield 28, 3) := by decide +kernel
theorem dX7_brightest_43 : decode cX7_brightest 43 = .ok (.getfield 161, 3) := by decide +kernel
theorem dX7_brightest_46 : decode cX7_brightest 46 = .ok (.iload_n 2, 1) := by decide +kernel
theorem dX7_brightest_47 : decode cX7_brightest 47 = .ok (.iaload, 1) := by decide +kernel
theorem dX7_brightest_48 : decode cX7_brightest 48 = .ok (.invokevirtual 165, 3) := by decide +kernel
theorem dX7_brightest_51 : decode cX7_brightest 51 = .ok (.pop, 1) := by decide +kernel
theorem dX7_brightest_52 : decode cX7_brightest 52 = .ok (.iinc 2 1, 3) := by decide +kernel
theorem dX7_brightest_55 : decode cX7_brightest 55 = .ok (.goto (-27), 3) := by decide +kernel
theorem dX7_brightest_58 : decode cX7_brightest 58 = .ok (.aload_n 0, 1) := by decide +kernel
theorem dX7_brightest_59 : decode cX7_brightest 59 = .ok (.getfield 24, 3) := by decide +kernel
theorem dX7_brightest_62 : decode cX7_brightest 62 = .ok (.invokevirtual 168, 3) := by decide +kernel
theorem dX7_brightest_65 : decode cX7_brightest 65 = .ok (.istore_n 2, 1) := by decide +kernel
theorem dX7_brightest_66 : decode cX7_brightest 66 = .ok (.iload_n 1, 1) := by decide +kernel
theorem dX7_brightest_67 : decode cX7_brightest 67 = .ok (.ifCond .ne 13, 3) := by decide +kernel
theorem dX7_brightest_70 : decode cX7_brightest 70 = .ok (.aload_n 0, 1) := by decide +kernel
theorem dX7_brightest_71 : decode cX7_brightest 71 = .ok (.getfield 24, 3) := by decide +kernel
theorem dX7_brightest_74 : decode cX7_brightest 74 = .ok (.getfield 171, 3) := by decide +kernel
theorem dX7_brightest_77 : decode cX7_brightest 77 = .ok (.iload_n 2, 1) := by decide +kernel
theorem dX7_brightest_78 : decode cX7_brightest 78 = .ok (.iaload, 1) := by decide +kernel
theorem dX7_brightest_79 : decode cX7_brightest 79 = .ok (.ireturn, 1) := by decide +kernel
theorem dX7_brightest_80 : decode cX7_brightest 80 = .ok (.iload_n 1, 1) := by decide +kernel
theorem dX7_brightest_81 : decode cX7_brightest 81 = .ok (.iconst 1, 1) := by decide +kernel
theorem dX7_brightest_82 : decode cX7_brightest 82 = .ok (.if_icmp .ne 23, 3) := by decide +kernel
theorem dX7_brightest_85 : decode cX7_brightest 85 = .ok (.aload_n 0, 1) := by decide +kernel
theorem dX7_brightest_86 : decode cX7_brightest 86 = .ok (.getfield 24, 3) := by decide +kernel
theorem dX7_brightest_89 : decode cX7_brightest 89 = .ok (.getfield 174, 3) := by decide +kernel
theorem dX7_brightest_92 : decode cX7_brightest 92 = .ok (.iload_n 2, 1) := by decide +kernel
theorem dX7_brightest_93 : decode cX7_brightest 93 = .ok (.iaload, 1) := by decide +kernel
theorem dX7_brightest_94 : decode cX7_brightest 94 = .ok (.sipush 8192, 3) := by decide +kernel
theorem dX7_brightest_97 : decode cX7_brightest 97 = .ok (.irem, 1) := by decide +kernel
theorem dX7_brightest_98 : decode cX7_brightest 98 = .ok (.sipush 4096, 3) := by decide +kernel
theorem dX7_brightest_101 : decode cX7_brightest 101 = .ok (.isub, 1) := by decide +kernel
theorem dX7_brightest_102 : decode cX7_brightest 102 = .ok (.goto 20, 3) := by decide +kernel
theorem dX7_brightest_105 : decode cX7_brightest 105 = .ok (.aload_n 0, 1) := by decide +kernel
theorem dX7_brightest_106 : decode cX7_brightest 106 = .ok (.getfield 24, 3) := by decide +kernel
theorem dX7_brightest_109 : decode cX7_brightest 109 = .ok (.getfield 174, 3) := by decide +kernel
theorem dX7_brightest_112 : decode cX7_brightest 112 = .ok (.iload_n 2, 1) := by decide +kernel
theorem dX7_brightest_113 : decode cX7_brightest 113 = .ok (.iaload, 1) := by decide +kernel
theorem dX7_brightest_114 : decode cX7_brightest 114 = .ok (.sipush 8192, 3) := by decide +kernel
theorem dX7_brightest_117 : decode cX7_brightest 117 = .ok (.idiv, 1) := by decide +kernel
theorem dX7_brightest_118 : decode cX7_brightest 118 = .ok (.sipush 4096, 3) := by decide +kernel
theorem dX7_brightest_121 : decode cX7_brightest 121 = .ok (.isub, 1) := by decide +kernel
theorem dX7_brightest_122 : decode cX7_brightest 122 = .ok (.ireturn, 1) := by decide +kernel
theorem dX7_delay_0 : decode cX7_delay 0 = .ok (.iload_n 1, 1) := by decide +kernel
theorem dX7_delay_1 : decode cX7_delay 1 = .ok (.iload_n 2, 1) := by decide +kernel
theorem dX7_delay_2 : decode cX7_delay 2 = .ok (.bipush 24, 2) := by decide +kernel
theorem dX7_delay_4 : decode cX7_delay 4 = .ok (.invokestatic 120, 3) := by decide +kernel
theorem dX7_delay_7 : decode cX7_delay 7 = .ok (.ifCond .eq 27, 3) := by decide +kernel
theorem dX7_delay_10 : decode cX7_delay 10 = .ok (.iload_n 3, 1) := by decide +kernel
theorem dX7_delay_11 : decode cX7_delay 11 = .ok (.iload 4, 2) := by decide +kernel
theorem dX7_delay_13 : decode cX7_delay 13 = .ok (.bipush 24, 2) := by decide +kernel
theorem dX7_delay_15 : decode cX7_delay 15 = .ok (.invokestatic 120, 3) := by decide +kernel
theorem dX7_delay_18 : decode cX7_delay 18 = .ok (.ifCond .eq 16, 3) := by decide +kernel
theorem dX7_delay_21 : decode cX7_delay 21 = .ok (.iload 5, 2) := by decide +kernel
theorem dX7_delay_23 : decode cX7_delay 23 = .ok (.iload 6, 2) := by decide +kernel
theorem dX7_delay_25 : decode cX7_delay 25 = .ok (.sipush 2000, 3) := by decide +kernel
theorem dX7_delay_28 : decode cX7_delay 28 = .ok (.invokestatic 120, 3) := by decide +kernel
theorem dX7_delay_31 : decode cX7_delay 31 = .ok (.ifCond .ne 7, 3) := by decide +kernel
theorem dX7_delay_34 : decode cX7_delay 34 = .ok (.ldc2_w 177, 3) := by decide +kernel
theorem dX7_delay_37 : decode cX7_delay 37 = .ok (.lreturn, 1) := by decide +kernel
theorem dX7_delay_38 : decode cX7_delay 38 = .ok (.aload_n 0, 1) := by decide +kernel
theorem dX7_delay_39 : decode cX7_delay 39 = .ok (.getfield 28, 3) := by decide +kernel
theorem dX7_delay_42 : decode cX7_delay 42 = .ok (.invokevirtual 145, 3) := by decide +kernel
theorem dX7_delay_45 : decode cX7_delay 45 = .ok (.aload_n 0, 1) := by decide +kernel
theorem dX7_delay_46 : decode cX7_delay 46 = .ok (.getfield 28, 3) := by decide +kernel
theorem dX7_delay_49 : decode cX7_delay 49 = .ok (.iload_n 1, 1) := by decide +kernel
theorem dX7_delay_50 : decode cX7_delay 50 = .ok (.iload_n 2, 1) := by decide +kernel
theorem dX7_delay_51 : decode cX7_delay 51 = .ok (.iload_n 3, 1) := by decide +kernel
theorem dX7_delay_52 : decode cX7_delay 52 = .ok (.iload 4, 2) := by decide +kernel
theorem dX7_delay_54 : decode cX7_delay 54 = .ok (.iload 5, 2) := by decide +kernel
theorem dX7_delay_56 : decode cX7_delay 56 = .ok (.iload 6, 2) := by decide +kernel
theorem dX7_delay_58 : decode cX7_delay 58 = .ok (.invokevirtual 179, 3) := by decide +kernel
theorem dX7_delay_61 : decode cX7_delay 61 = .ok (.lreturn, 1) := by decide +kernel
theorem dX7_stretch_0 : decode cX7_stretch 0 = .ok (.iload_n 1, 1) := by decide +kernel
theorem dX7_stretch_1 : decode cX7_stretch 1 = .ok (.iconst 1, 1) := by decide +kernel
theorem dX7_stretch_2 : decode cX7_stretch 2 = .ok (.bipush 24, 2) := by decide +kernel
theorem dX7_stretch_4 : decode cX7_stretch 4 = .ok (.invokestatic 83, 3) := by decide +kernel
theorem dX7_stretch_7 : decode cX7_stretch 7 = .ok (.ifCond .ne 6, 3) := by decide +kernel
theorem dX7_stretch_10 : decode cX7_stretch 10 = .ok (.ldc 87, 2) := by decide +kernel
theorem dX7_stretch_12 : decode cX7_stretch 12 = .ok (.ireturn, 1) := by decide +kernel
theorem dX7_stretch_13 : decode cX7_stretch 13 = .ok (.aload_n 0, 1) := by decide +kernel
theorem dX7_stretch_14 : decode cX7_stretch 14 = .ok (.getfield 28, 3) := by decide +kernel
theorem dX7_stretch_17 : decode cX7_stretch 17 = .ok (.invokevirtual 145, 3) := by decide +kernel
theorem dX7_stretch_20 : decode cX7_stretch 20 = .ok (.aload_n 0, 1) := by decide +kernel
theorem dX7_stretch_21 : decode cX7_stretch 21 = .ok (.getfield 28, 3) := by decide +kernel
theorem dX7_stretch_24 : decode cX7_stretch 24 = .ok (.iload_n 1, 1) := by decide +kernel
theorem dX7_stretch_25 : decode cX7_stretch 25 = .ok (.invokevirtual 183, 3) := by decide +kernel
theorem dX7_stretch_28 : decode cX7_stretch 28 = .ok (.ireturn, 1) := by decide +kernel
theorem dX7_type_0 : decode cX7_type 0 = .ok (.iload_n 3, 1) := by decide +kernel
theorem dX7_type_1 : decode cX7_type 1 = .ok (.iconst 1, 1) := by decide +kernel
theorem dX7_type_2 : decode cX7_type 2 = .ok (.bipush 8, 2) := by decide +kernel
theorem dX7_type_4 : decode cX7_type 4 = .ok (.invokestatic 83, 3) := by decide +kernel
theorem dX7_type_7 : decode cX7_type 7 = .ok (.ifCond .ne 5, 3) := by decide +kernel
theorem dX7_type_10 : decode cX7_type 10 = .ok (.iconst (-1), 1) := by decide +kernel
theorem dX7_type_11 : decode cX7_type 11 = .ok (.ireturn, 1) := by decide +kernel
theorem dX7_type_12 : decode cX7_type 12 = .ok (.aload_n 0, 1) := by decide +kernel
theorem dX7_type_13 : decode cX7_type 13 = .ok (.getfield 42, 3) := by decide +kernel
theorem dX7_type_16 : decode cX7_type 16 = .ok (.getfield 186, 3) := by decide +kernel
theorem dX7_type_19 : decode cX7_type 19 = .ok (.iload_n 3, 1) := by decide +kernel
theorem dX7_type_20 : decode cX7_type 20 = .ok (.iadd, 1) := by decide +kernel
theorem dX7_type_21 : decode cX7_type 21 = .ok (.sipush 200, 3) := by decide +kernel
theorem dX7_type_24 : decode cX7_type 24 = .ok (.if_icmp .le 6, 3) := by decide +kernel
theorem dX7_type_27 : decode cX7_type 27 = .ok (.bipush (-3), 2) := by decide +kernel
theorem dX7_type_29 : decode cX7_type 29 = .ok (.ireturn, 1) := by decide +kernel
theorem dX7_type_30 : decode cX7_type 30 = .ok (.iload_n 3, 1) := by decide +kernel
theorem dX7_type_31 : decode cX7_type 31 = .ok (.iconst 1, 1) := by decide +kernel
theorem dX7_type_32 : decode cX7_type 32 = .ok (.isub, 1) := by decide +kernel
theorem dX7_type_33 : decode cX7_type 33 = .ok (.istore 4, 2) := by decide +kernel
theorem dX7_type_35 : decode cX7_type 35 = .ok (.iload 4, 2) := by decide +kernel
theorem dX7_type_37 : decode cX7_type 37 = .ok (.ifCond .lt 28, 3) := by decide +kernel
theorem dX7_type_40 : decode cX7_type 40 = .ok (.aload_n 0, 1) := by decide +kernel
theorem dX7_type_41 : decode cX7_type 41 = .ok (.getfield 42, 3) := by decide +kernel
theorem dX7_type_44 : decode cX7_type 44 = .ok (.lload_n 1, 1) := by decide +kernel
theorem dX7_type_45 : decode cX7_type 45 = .ok (.bipush 8, 2) := by decide +kernel
theorem dX7_type_47 : decode cX7_type 47 = .ok (.iload 4, 2) := by decide +kernel
theorem dX7_type_49 : decode cX7_type 49 = .ok (.imul, 1) := by decide +kernel
theorem dX7_type_50 : decode cX7_type 50 = .ok (.lushr, 1) := by decide +kernel
theorem dX7_type_51 : decode cX7_type 51 = .ok (.ldc2_w 189, 3) := by decide +kernel
theorem dX7_type_54 : decode cX7_type 54 = .ok (.land, 1) := by decide +kernel
theorem dX7_type_55 : decode cX7_type 55 = .ok (.l2i, 1) := by decide +kernel
theorem dX7_type_56 : decode cX7_type 56 = .ok (.invokevirtual 191, 3) := by decide +kernel
theorem dX7_type_59 : decode cX7_type 59 = .ok (.iinc 4 (-1), 3) := by decide +kernel
theorem dX7_type_62 : decode cX7_type 62 = .ok (.goto (-27), 3) := by decide +kernel
theorem dX7_type_65 : decode cX7_type 65 = .ok (.aload_n 0, 1) := by decide +kernel
theorem dX7_type_66 : decode cX7_type 66 = .ok (.getfield 42, 3) := by decide +kernel
theorem dX7_type_69 : decode cX7_type 69 = .ok (.getfield 186, 3) := by decide +kernel
theorem dX7_type_72 : decode cX7_type 72 = .ok (.ireturn, 1) := by decide +kernel
