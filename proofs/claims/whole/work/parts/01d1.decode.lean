theorem dX7_clear_0 : decode cX7_clear 0 = .ok (.aload_n 0, 1) := by decide +kernel
theorem dX7_clear_1 : decode cX7_clear 1 = .ok (.getfield 42, 3) := by decide +kernel
theorem dX7_clear_4 : decode cX7_clear 4 = .ok (.getfield 186, 3) := by decide +kernel
theorem dX7_clear_7 : decode cX7_clear 7 = .ok (.istore_n 1, 1) := by decide +kernel
theorem dX7_clear_8 : decode cX7_clear 8 = .ok (.aload_n 0, 1) := by decide +kernel
theorem dX7_clear_9 : decode cX7_clear 9 = .ok (.getfield 42, 3) := by decide +kernel
theorem dX7_clear_12 : decode cX7_clear 12 = .ok (.iconst 0, 1) := by decide +kernel
theorem dX7_clear_13 : decode cX7_clear 13 = .ok (.putfield 186, 3) := by decide +kernel
theorem dX7_clear_16 : decode cX7_clear 16 = .ok (.iload_n 1, 1) := by decide +kernel
theorem dX7_clear_17 : decode cX7_clear 17 = .ok (.ireturn, 1) := by decide +kernel
theorem dX7_read_0 : decode cX7_read 0 = .ok (.aload_n 0, 1) := by decide +kernel
theorem dX7_read_1 : decode cX7_read 1 = .ok (.getfield 42, 3) := by decide +kernel
theorem dX7_read_4 : decode cX7_read 4 = .ok (.invokevirtual 194, 3) := by decide +kernel
theorem dX7_read_7 : decode cX7_read 7 = .ok (.istore_n 1, 1) := by decide +kernel
theorem dX7_read_8 : decode cX7_read 8 = .ok (.iload_n 1, 1) := by decide +kernel
theorem dX7_read_9 : decode cX7_read 9 = .ok (.ifCond .ge 14, 3) := by decide +kernel
theorem dX7_read_12 : decode cX7_read 12 = .ok (.bipush (-10), 2) := by decide +kernel
theorem dX7_read_14 : decode cX7_read 14 = .ok (.aload_n 0, 1) := by decide +kernel
theorem dX7_read_15 : decode cX7_read 15 = .ok (.getfield 42, 3) := by decide +kernel
theorem dX7_read_18 : decode cX7_read 18 = .ok (.getfield 197, 3) := by decide +kernel
theorem dX7_read_21 : decode cX7_read 21 = .ok (.isub, 1) := by decide +kernel
theorem dX7_read_22 : decode cX7_read 22 = .ok (.ireturn, 1) := by decide +kernel
theorem dX7_read_23 : decode cX7_read 23 = .ok (.aload_n 0, 1) := by decide +kernel
theorem dX7_read_24 : decode cX7_read 24 = .ok (.invokevirtual 72, 3) := by decide +kernel
theorem dX7_read_27 : decode cX7_read 27 = .ok (.aload_n 0, 1) := by decide +kernel
theorem dX7_read_28 : decode cX7_read 28 = .ok (.getfield 20, 3) := by decide +kernel
theorem dX7_read_31 : decode cX7_read 31 = .ok (.getfield 88, 3) := by decide +kernel
theorem dX7_read_34 : decode cX7_read 34 = .ok (.astore_n 2, 1) := by decide +kernel
theorem dX7_read_35 : decode cX7_read 35 = .ok (.aload_n 0, 1) := by decide +kernel
theorem dX7_read_36 : decode cX7_read 36 = .ok (.getfield 20, 3) := by decide +kernel
theorem dX7_read_39 : decode cX7_read 39 = .ok (.aload_n 0, 1) := by decide +kernel
theorem dX7_read_40 : decode cX7_read 40 = .ok (.getfield 42, 3) := by decide +kernel
theorem dX7_read_43 : decode cX7_read 43 = .ok (.getfield 200, 3) := by decide +kernel
theorem dX7_read_46 : decode cX7_read 46 = .ok (.putfield 88, 3) := by decide +kernel
theorem dX7_read_49 : decode cX7_read 49 = .ok (.aload_n 0, 1) := by decide +kernel
theorem dX7_read_50 : decode cX7_read 50 = .ok (.getfield 20, 3) := by decide +kernel
theorem dX7_read_53 : decode cX7_read 53 = .ok (.iload_n 1, 1) := by decide +kernel
theorem dX7_read_54 : decode cX7_read 54 = .ok (.putfield 68, 3) := by decide +kernel
theorem dX7_read_57 : decode cX7_read 57 = .ok (.aload_n 0, 1) := by decide +kernel
theorem dX7_read_58 : decode cX7_read 58 = .ok (.getfield 42, 3) := by decide +kernel
theorem dX7_read_61 : decode cX7_read 61 = .ok (.aload_n 2, 1) := by decide +kernel
theorem dX7_read_62 : decode cX7_read 62 = .ok (.putfield 200, 3) := by decide +kernel
theorem dX7_read_65 : decode cX7_read 65 = .ok (.aload_n 0, 1) := by decide +kernel
theorem dX7_read_66 : decode cX7_read 66 = .ok (.getfield 42, 3) := by decide +kernel
theorem dX7_read_69 : decode cX7_read 69 = .ok (.iconst 0, 1) := by decide +kernel
theorem dX7_read_70 : decode cX7_read 70 = .ok (.putfield 186, 3) := by decide +kernel
theorem dX7_read_73 : decode cX7_read 73 = .ok (.iload_n 1, 1) := by decide +kernel
theorem dX7_read_74 : decode cX7_read 74 = .ok (.ireturn, 1) := by decide +kernel
theorem dX7_pair_0 : decode cX7_pair 0 = .ok (.iload_n 1, 1) := by decide +kernel
theorem dX7_pair_1 : decode cX7_pair 1 = .ok (.iload_n 2, 1) := by decide +kernel
theorem dX7_pair_2 : decode cX7_pair 2 = .ok (.bipush 30, 2) := by decide +kernel
theorem dX7_pair_4 : decode cX7_pair 4 = .ok (.invokestatic 120, 3) := by decide +kernel
theorem dX7_pair_7 : decode cX7_pair 7 = .ok (.ifCond .eq 14, 3) := by decide +kernel
theorem dX7_pair_10 : decode cX7_pair 10 = .ok (.iload_n 3, 1) := by decide +kernel
theorem dX7_pair_11 : decode cX7_pair 11 = .ok (.iload 4, 2) := by decide +kernel
theorem dX7_pair_13 : decode cX7_pair 13 = .ok (.bipush 30, 2) := by decide +kernel
theorem dX7_pair_15 : decode cX7_pair 15 = .ok (.invokestatic 120, 3) := by decide +kernel
theorem dX7_pair_18 : decode cX7_pair 18 = .ok (.ifCond .ne 5, 3) := by decide +kernel
theorem dX7_pair_21 : decode cX7_pair 21 = .ok (.iconst (-1), 1) := by decide +kernel
theorem dX7_pair_22 : decode cX7_pair 22 = .ok (.ireturn, 1) := by decide +kernel
theorem dX7_pair_23 : decode cX7_pair 23 = .ok (.aload_n 0, 1) := by decide +kernel
theorem dX7_pair_24 : decode cX7_pair 24 = .ok (.getfield 51, 3) := by decide +kernel
theorem dX7_pair_27 : decode cX7_pair 27 = .ok (.getfield 201, 3) := by decide +kernel
theorem dX7_pair_30 : decode cX7_pair 30 = .ok (.bipush 10, 2) := by decide +kernel
theorem dX7_pair_32 : decode cX7_pair 32 = .ok (.if_icmp .lt 6, 3) := by decide +kernel
theorem dX7_pair_35 : decode cX7_pair 35 = .ok (.bipush (-3), 2) := by decide +kernel
theorem dX7_pair_37 : decode cX7_pair 37 = .ok (.ireturn, 1) := by decide +kernel
theorem dX7_pair_38 : decode cX7_pair 38 = .ok (.aload_n 0, 1) := by decide +kernel
theorem dX7_pair_39 : decode cX7_pair 39 = .ok (.getfield 51, 3) := by decide +kernel
theorem dX7_pair_42 : decode cX7_pair 42 = .ok (.iload_n 1, 1) := by decide +kernel
theorem dX7_pair_43 : decode cX7_pair 43 = .ok (.iload_n 2, 1) := by decide +kernel
theorem dX7_pair_44 : decode cX7_pair 44 = .ok (.iload_n 3, 1) := by decide +kernel
theorem dX7_pair_45 : decode cX7_pair 45 = .ok (.iload 4, 2) := by decide +kernel
theorem dX7_pair_47 : decode cX7_pair 47 = .ok (.invokevirtual 204, 3) := by decide +kernel
theorem dX7_pair_50 : decode cX7_pair 50 = .ok (.ireturn, 1) := by decide +kernel
theorem dX7_wipe_0 : decode cX7_wipe 0 = .ok (.aload_n 0, 1) := by decide +kernel
theorem dX7_wipe_1 : decode cX7_wipe 1 = .ok (.getfield 51, 3) := by decide +kernel
theorem dX7_wipe_4 : decode cX7_wipe 4 = .ok (.getfield 201, 3) := by decide +kernel
theorem dX7_wipe_7 : decode cX7_wipe 7 = .ok (.istore_n 1, 1) := by decide +kernel
theorem dX7_wipe_8 : decode cX7_wipe 8 = .ok (.aload_n 0, 1) := by decide +kernel
theorem dX7_wipe_9 : decode cX7_wipe 9 = .ok (.getfield 51, 3) := by decide +kernel
theorem dX7_wipe_12 : decode cX7_wipe 12 = .ok (.iconst 0, 1) := by decide +kernel
theorem dX7_wipe_13 : decode cX7_wipe 13 = .ok (.putfield 201, 3) := by decide +kernel
theorem dX7_wipe_16 : decode cX7_wipe 16 = .ok (.aload_n 0, 1) := by decide +kernel
theorem dX7_wipe_17 : decode cX7_wipe 17 = .ok (.getfield 51, 3) := by decide +kernel
theorem dX7_wipe_20 : decode cX7_wipe 20 = .ok (.iconst 1, 1) := by decide +kernel
theorem dX7_wipe_21 : decode cX7_wipe 21 = .ok (.putfield 207, 3) := by decide +kernel
theorem dX7_wipe_24 : decode cX7_wipe 24 = .ok (.iload_n 1, 1) := by decide +kernel
theorem dX7_wipe_25 : decode cX7_wipe 25 = .ok (.ireturn, 1) := by decide +kernel
theorem dX7_tolerance_0 : decode cX7_tolerance 0 = .ok (.iload_n 1, 1) := by decide +kernel
theorem dX7_tolerance_1 : decode cX7_tolerance 1 = .ok (.iconst 0, 1) := by decide +kernel
theorem dX7_tolerance_2 : decode cX7_tolerance 2 = .ok (.iconst 1, 1) := by decide +kernel
theorem dX7_tolerance_3 : decode cX7_tolerance 3 = .ok (.invokestatic 83, 3) := by decide +kernel
theorem dX7_tolerance_6 : decode cX7_tolerance 6 = .ok (.ifCond .eq 22, 3) := by decide +kernel
theorem dX7_tolerance_9 : decode cX7_tolerance 9 = .ok (.iload_n 2, 1) := by decide +kernel
theorem dX7_tolerance_10 : decode cX7_tolerance 10 = .ok (.iconst 0, 1) := by decide +kernel
theorem dX7_tolerance_11 : decode cX7_tolerance 11 = .ok (.iload_n 1, 1) := by decide +kernel
theorem dX7_tolerance_12 : decode cX7_tolerance 12 = .ok (.ifCond .ne 8, 3) := by decide +kernel
theorem dX7_tolerance_15 : decode cX7_tolerance 15 = .ok (.bipush 64, 2) := by decide +kernel
theorem dX7_tolerance_17 : decode cX7_tolerance 17 = .ok (.goto 5, 3) := by decide +kernel
theorem dX7_tolerance_20 : decode cX7_tolerance 20 = .ok (.bipush 99, 2) := by decide +kernel
theorem dX7_tolerance_22 : decode cX7_tolerance 22 = .ok (.invokestatic 83, 3) := by decide +kernel
theorem dX7_tolerance_25 : decode cX7_tolerance 25 = .ok (.ifCond .ne 5, 3) := by decide +kernel
theorem dX7_tolerance_28 : decode cX7_tolerance 28 = .ok (.iconst (-1), 1) := by decide +kernel
theorem dX7_tolerance_29 : decode cX7_tolerance 29 = .ok (.ireturn, 1) := by decide +kernel
theorem dX7_tolerance_30 : decode cX7_tolerance 30 = .ok (.iload_n 1, 1) := by decide +kernel
theorem dX7_tolerance_31 : decode cX7_tolerance 31 = .ok (.ifCond .ne 13, 3) := by decide +kernel
theorem dX7_tolerance_34 : decode cX7_tolerance 34 = .ok (.aload_n 0, 1) := by decide +kernel
theorem dX7_tolerance_35 : decode cX7_tolerance 35 = .ok (.getfield 51, 3) := by decide +kernel
theorem dX7_tolerance_38 : decode cX7_tolerance 38 = .ok (.getfield 211, 3) := by decide +kernel
theorem dX7_tolerance_41 : decode cX7_tolerance 41 = .ok (.goto 10, 3) := by decide +kernel
theorem dX7_tolerance_44 : decode cX7_tolerance 44 = .ok (.aload_n 0, 1) := by decide +kernel
theorem dX7_tolerance_45 : decode cX7_tolerance 45 = .ok (.getfield 60, 3) := by decide +kernel
theorem dX7_tolerance_48 : decode cX7_tolerance 48 = .ok (.getfield 214, 3) := by decide +kernel
theorem dX7_tolerance_51 : decode cX7_tolerance 51 = .ok (.istore_n 3, 1) := by decide +kernel
theorem dX7_tolerance_52 : decode cX7_tolerance 52 = .ok (.iload_n 1, 1) := by decide +kernel
theorem dX7_tolerance_53 : decode cX7_tolerance 53 = .ok (.ifCond .ne 22, 3) := by decide +kernel
theorem dX7_tolerance_56 : decode cX7_tolerance 56 = .ok (.aload_n 0, 1) := by decide +kernel
theorem dX7_tolerance_57 : decode cX7_tolerance 57 = .ok (.getfield 51, 3) := by decide +kernel
theorem dX7_tolerance_60 : decode cX7_tolerance 60 = .ok (.iload_n 2, 1) := by decide +kernel
theorem dX7_tolerance_61 : decode cX7_tolerance 61 = .ok (.putfield 211, 3) := by decide +kernel
theorem dX7_tolerance_64 : decode cX7_tolerance 64 = .ok (.aload_n 0, 1) := by decide +kernel
theorem dX7_tolerance_65 : decode cX7_tolerance 65 = .ok (.getfield 51, 3) := by decide +kernel
theorem dX7_tolerance_68 : decode cX7_tolerance 68 = .ok (.iconst 1, 1) := by decide +kernel
theorem dX7_tolerance_69 : decode cX7_tolerance 69 = .ok (.putfield 207, 3) := by decide +kernel
theorem dX7_tolerance_72 : decode cX7_tolerance 72 = .ok (.goto 11, 3) := by decide +kernel
theorem dX7_tolerance_75 : decode cX7_tolerance 75 = .ok (.aload_n 0, 1) := by decide +kernel
theorem dX7_tolerance_76 : decode cX7_tolerance 76 = .ok (.getfield 60, 3) := by decide +kernel
theorem dX7_tolerance_79 : decode cX7_tolerance 79 = .ok (.iload_n 2, 1) := by decide +kernel
theorem dX7_tolerance_80 : decode cX7_tolerance 80 = .ok (.putfield 214, 3) := by decide +kernel
theorem dX7_tolerance_83 : decode cX7_tolerance 83 = .ok (.iload_n 3, 1) := by decide +kernel
theorem dX7_tolerance_84 : decode cX7_tolerance 84 = .ok (.ireturn, 1) := by decide +kernel
theorem dX7_fits_0 : decode cX7_fits 0 = .ok (.aload_n 0, 1) := by decide +kernel
theorem dX7_fits_1 : decode cX7_fits 1 = .ok (.iload_n 1, 1) := by decide +kernel
theorem dX7_fits_2 : decode cX7_fits 2 = .ok (.iload_n 2, 1) := by decide +kernel
theorem dX7_fits_3 : decode cX7_fits 3 = .ok (.invokevirtual 217, 3) := by decide +kernel
theorem dX7_fits_6 : decode cX7_fits 6 = .ok (.ifCond .ne 5, 3) := by decide +kernel
theorem dX7_fits_9 : decode cX7_fits 9 = .ok (.iconst (-1), 1) := by decide +kernel
theorem dX7_fits_10 : decode cX7_fits 10 = .ok (.ireturn, 1) := by decide +kernel
theorem dX7_fits_11 : decode cX7_fits 11 = .ok (.aload_n 0, 1) := by decide +kernel
theorem dX7_fits_12 : decode cX7_fits 12 = .ok (.getfield 51, 3) := by decide +kernel
theorem dX7_fits_15 : decode cX7_fits 15 = .ok (.iload_n 1, 1) := by decide +kernel
theorem dX7_fits_16 : decode cX7_fits 16 = .ok (.iload_n 2, 1) := by decide +kernel
theorem dX7_fits_17 : decode cX7_fits 17 = .ok (.invokevirtual 220, 3) := by decide +kernel
theorem dX7_fits_20 : decode cX7_fits 20 = .ok (.iload_n 3, 1) := by decide +kernel
theorem dX7_fits_21 : decode cX7_fits 21 = .ok (.iconst 0, 1) := by decide +kernel
theorem dX7_fits_22 : decode cX7_fits 22 = .ok (.aload_n 0, 1) := by decide +kernel
theorem dX7_fits_23 : decode cX7_fits 23 = .ok (.getfield 51, 3) := by decide +kernel
theorem dX7_fits_26 : decode cX7_fits 26 = .ok (.getfield 224, 3) := by decide +kernel
theorem dX7_fits_29 : decode cX7_fits 29 = .ok (.iconst 1, 1) := by decide +kernel
theorem dX7_fits_30 : decode cX7_fits 30 = .ok (.isub, 1) := by decide +kernel
theorem dX7_fits_31 : decode cX7_fits 31 = .ok (.invokestatic 83, 3) := by decide +kernel
theorem dX7_fits_34 : decode cX7_fits 34 = .ok (.ifCond .ne 5, 3) := by decide +kernel
theorem dX7_fits_37 : decode cX7_fits 37 = .ok (.iconst (-1), 1) := by decide +kernel
theorem dX7_fits_38 : decode cX7_fits 38 = .ok (.ireturn, 1) := by decide +kernel
theorem dX7_fits_39 : decode cX7_fits 39 = .ok (.aload_n 0, 1) := by decide +kernel
theorem dX7_fits_40 : decode cX7_fits 40 = .ok (.getfield 51, 3) := by decide +kernel
theorem dX7_fits_43 : decode cX7_fits 43 = .ok (.iload_n 3, 1) := by decide +kernel
theorem dX7_fits_44 : decode cX7_fits 44 = .ok (.invokevirtual 227, 3) := by decide +kernel
theorem dX7_fits_47 : decode cX7_fits 47 = .ok (.ifCond .eq 7, 3) := by decide +kernel
theorem dX7_fits_50 : decode cX7_fits 50 = .ok (.iconst 1, 1) := by decide +kernel
theorem dX7_fits_51 : decode cX7_fits 51 = .ok (.goto 4, 3) := by decide +kernel
theorem dX7_fits_54 : decode cX7_fits 54 = .ok (.iconst 0, 1) := by decide +kernel
theorem dX7_fits_55 : decode cX7_fits 55 = .ok (.ireturn, 1) := by decide +kernel
theorem dX7_models_0 : decode cX7_models 0 = .ok (.aload_n 0, 1) := by decide +kernel
theorem dX7_models_1 : decode cX7_models 1 = .ok (.iload_n 1, 1) := by decide +kernel
theorem dX7_models_2 : decode cX7_models 2 = .ok (.iload_n 2, 1) := by decide +kernel
theorem dX7_models_3 : decode cX7_models 3 = .ok (.invokevirtual 217, 3) := by decide +kernel
theorem dX7_models_6 : decode cX7_models 6 = .ok (.ifCond .eq 12, 3) := by decide +kernel
theorem dX7_models_9 : decode cX7_models 9 = .ok (.iload_n 3, 1) := by decide +kernel
theorem dX7_models_10 : decode cX7_models 10 = .ok (.iconst 0, 1) := by decide +kernel
theorem dX7_models_11 : decode cX7_models 11 = .ok (.iconst 3, 1) := by decide +kernel
theorem dX7_models_12 : decode cX7_models 12 = .ok (.invokestatic 83, 3) := by decide +kernel
theorem dX7_models_15 : decode cX7_models 15 = .ok (.ifCond .ne 5, 3) := by decide +kernel
theorem dX7_models_18 : decode cX7_models 18 = .ok (.iconst (-1), 1) := by decide +kernel
theorem dX7_models_19 : decode cX7_models 19 = .ok (.ireturn, 1) := by decide +kernel
theorem dX7_models_20 : decode cX7_models 20 = .ok (.aload_n 0, 1) := by decide +kernel
theorem dX7_models_21 : decode cX7_models 21 = .ok (.getfield 51, 3) := by decide +kernel
theorem dX7_models_24 : decode cX7_models 24 = .ok (.iload_n 1, 1) := by decide +kernel
theorem dX7_models_25 : decode cX7_models 25 = .ok (.iload_n 2, 1) := by decide +kernel
theorem dX7_models_26 : decode cX7_models 26 = .ok (.invokevirtual 220, 3) := by decide +kernel
theorem dX7_models_29 : decode cX7_models 29 = .ok (.aload_n 0, 1) := by decide +kernel
theorem dX7_models_30 : decode cX7_models 30 = .ok (.getfield 51, 3) := by decide +kernel
theorem dX7_models_33 : decode cX7_models 33 = .ok (.invokevirtual 230, 3) := by decide +kernel
theorem dX7_models_36 : decode cX7_models 36 = .ok (.iload_n 3, 1) := by decide +kernel
theorem dX7_models_37 : decode cX7_models 37 = .ok (.tableswitch 51 0 2 #[27, 35, 43], 27) := by decide +kernel
theorem dX7_models_64 : decode cX7_models 64 = .ok (.aload_n 0, 1) := by decide +kernel
theorem dX7_models_65 : decode cX7_models 65 = .ok (.getfield 51, 3) := by decide +kernel
theorem dX7_models_68 : decode cX7_models 68 = .ok (.getfield 233, 3) := by decide +kernel
theorem dX7_models_71 : decode cX7_models 71 = .ok (.ireturn, 1) := by decide +kernel
theorem dX7_models_72 : decode cX7_models 72 = .ok (.aload_n 0, 1) := by decide +kernel
theorem dX7_models_73 : decode cX7_models 73 = .ok (.getfield 51, 3) := by decide +kernel
theorem dX7_models_76 : decode cX7_models 76 = .ok (.invokevirtual 236, 3) := by decide +kernel
theorem dX7_models_79 : decode cX7_models 79 = .ok (.ireturn, 1) := by decide +kernel
theorem dX7_models_80 : decode cX7_models 80 = .ok (.aload_n 0, 1) := by decide +kernel
theorem dX7_models_81 : decode cX7_models 81 = .ok (.getfield 51, 3) := by decide +kernel
theorem dX7_models_84 : decode cX7_models 84 = .ok (.invokevirtual 239, 3) := by decide +kernel
theorem dX7_models_87 : decode cX7_models 87 = .ok (.ireturn, 1) := by decide +kernel
theorem dX7_models_88 : decode cX7_models 88 = .ok (.aload_n 0, 1) := by decide +kernel
theorem dX7_models_89 : decode cX7_models 89 = .ok (.getfield 51, 3) := by decide +kernel
theorem dX7_models_92 : decode cX7_models 92 = .ok (.invokevirtual 242, 3) := by decide +kernel
theorem dX7_models_95 : decode cX7_models 95 = .ok (.ireturn, 1) := by decide +kernel
theorem dX7_sure_0 : decode cX7_sure 0 = .ok (.aload_n 0, 1) := by decide +kernel
theorem dX7_sure_1 : decode cX7_sure 1 = .ok (.iload_n 1, 1) := by decide +kernel
theorem dX7_sure_2 : decode cX7_sure 2 = .ok (.iload_n 2, 1) := by decide +kernel
theorem dX7_sure_3 : decode cX7_sure 3 = .ok (.invokevirtual 217, 3) := by decide +kernel
theorem dX7_sure_6 : decode cX7_sure 6 = .ok (.ifCond .eq 14, 3) := by decide +kernel
theorem dX7_sure_9 : decode cX7_sure 9 = .ok (.iload_n 3, 1) := by decide +kernel
theorem dX7_sure_10 : decode cX7_sure 10 = .ok (.iconst 0, 1) := by decide +kernel
theorem dX7_sure_11 : decode cX7_sure 11 = .ok (.iload_n 1, 1) := by decide +kernel
theorem dX7_sure_12 : decode cX7_sure 12 = .ok (.iconst 1, 1) := by decide +kernel
theorem dX7_sure_13 : decode cX7_sure 13 = .ok (.isub, 1) := by decide +kernel
theorem dX7_sure_14 : decode cX7_sure 14 = .ok (.invokestatic 83, 3) := by decide +kernel
theorem dX7_sure_17 : decode cX7_sure 17 = .ok (.ifCond .ne 5, 3) := by decide +kernel
theorem dX7_sure_20 : decode cX7_sure 20 = .ok (.iconst (-1), 1) := by decide +kernel
theorem dX7_sure_21 : decode cX7_sure 21 = .ok (.ireturn, 1) := by decide +kernel
theorem dX7_sure_22 : decode cX7_sure 22 = .ok (.aload_n 0, 1) := by decide +kernel
theorem dX7_sure_23 : decode cX7_sure 23 = .ok (.getfield 51, 3) := by decide +kernel
theorem dX7_sure_26 : decode cX7_sure 26 = .ok (.iload_n 1, 1) := by decide +kernel
theorem dX7_sure_27 : decode cX7_sure 27 = .ok (.iload_n 2, 1) := by decide +kernel
theorem dX7_sure_28 : decode cX7_sure 28 = .ok (.invokevirtual 220, 3) := by decide +kernel
theorem dX7_sure_31 : decode cX7_sure 31 = .ok (.aload_n 0, 1) := by decide +kernel
theorem dX7_sure_32 : decode cX7_sure 32 = .ok (.getfield 51, 3) := by decide +kernel
theorem dX7_sure_35 : decode cX7_sure 35 = .ok (.invokevirtual 230, 3) := by decide +kernel
theorem dX7_sure_38 : decode cX7_sure 38 = .ok (.aload_n 0, 1) := by decide +kernel
theorem dX7_sure_39 : decode cX7_sure 39 = .ok (.getfield 51, 3) := by decide +kernel
theorem dX7_sure_42 : decode cX7_sure 42 = .ok (.iload_n 3, 1) := by decide +kernel
theorem dX7_sure_43 : decode cX7_sure 43 = .ok (.invokevirtual 245, 3) := by decide +kernel
theorem dX7_sure_46 : decode cX7_sure 46 = .ok (.ireturn, 1) := by decide +kernel
theorem dX7_spot_0 : decode cX7_spot 0 = .ok (.iload_n 1, 1) := by decide +kernel
theorem dX7_spot_1 : decode cX7_spot 1 = .ok (.iload_n 2, 1) := by decide +kernel
theorem dX7_spot_2 : decode cX7_spot 2 = .ok (.bipush 30, 2) := by decide +kernel
theorem dX7_spot_4 : decode cX7_spot 4 = .ok (.invokestatic 120, 3) := by decide +kernel
theorem dX7_spot_7 : decode cX7_spot 7 = .ok (.ifCond .ne 5, 3) := by decide +kernel
theorem dX7_spot_10 : decode cX7_spot 10 = .ok (.iconst (-1), 1) := by decide +kernel
theorem dX7_spot_11 : decode cX7_spot 11 = .ok (.ireturn, 1) := by decide +kernel
theorem dX7_spot_12 : decode cX7_spot 12 = .ok (.aload_n 0, 1) := by decide +kernel
theorem dX7_spot_13 : decode cX7_spot 13 = .ok (.getfield 51, 3) := by decide +kernel
theorem dX7_spot_16 : decode cX7_spot 16 = .ok (.getfield 248, 3) := by decide +kernel
theorem dX7_spot_19 : decode cX7_spot 19 = .ok (.bipush 8, 2) := by decide +kernel
theorem dX7_spot_21 : decode cX7_spot 21 = .ok (.if_icmp .lt 6, 3) := by decide +kernel
theorem dX7_spot_24 : decode cX7_spot 24 = .ok (.bipush (-3), 2) := by decide +kernel
theorem dX7_spot_26 : decode cX7_spot 26 = .ok (.ireturn, 1) := by decide +kernel
theorem dX7_spot_27 : decode cX7_spot 27 = .ok (.aload_n 0, 1) := by decide +kernel
theorem dX7_spot_28 : decode cX7_spot 28 = .ok (.getfield 51, 3) := by decide +kernel
theorem dX7_spot_31 : decode cX7_spot 31 = .ok (.iload_n 1, 1) := by decide +kernel
theorem dX7_spot_32 : decode cX7_spot 32 = .ok (.iload_n 2, 1) := by decide +kernel
theorem dX7_spot_33 : decode cX7_spot 33 = .ok (.invokevirtual 251, 3) := by decide +kernel
theorem dX7_spot_36 : decode cX7_spot 36 = .ok (.ireturn, 1) := by decide +kernel
theorem dX7_forget_0 : decode cX7_forget 0 = .ok (.aload_n 0, 1) := by decide +kernel
theorem dX7_forget_1 : decode cX7_forget 1 = .ok (.getfield 51, 3) := by decide +kernel
theorem dX7_forget_4 : decode cX7_forget 4 = .ok (.getfield 248, 3) := by decide +kernel
theorem dX7_forget_7 : decode cX7_forget 7 = .ok (.istore_n 1, 1) := by decide +kernel
theorem dX7_forget_8 : decode cX7_forget 8 = .ok (.aload_n 0, 1) := by decide +kernel
theorem dX7_forget_9 : decode cX7_forget 9 = .ok (.getfield 51, 3) := by decide +kernel
theorem dX7_forget_12 : decode cX7_forget 12 = .ok (.iconst 0, 1) := by decide +kernel
theorem dX7_forget_13 : decode cX7_forget 13 = .ok (.putfield 248, 3) := by decide +kernel
theorem dX7_forget_16 : decode cX7_forget 16 = .ok (.aload_n 0, 1) := by decide +kernel
theorem dX7_forget_17 : decode cX7_forget 17 = .ok (.getfield 51, 3) := by decide +kernel
theorem dX7_forget_20 : decode cX7_forget 20 = .ok (.iconst 1, 1) := by decide +kernel
theorem dX7_forget_21 : decode cX7_forget 21 = .ok (.putfield 207, 3) := by decide +kernel
theorem dX7_forget_24 : decode cX7_forget 24 = .ok (.iload_n 1, 1) := by decide +kernel
theorem dX7_forget_25 : decode cX7_forget 25 = .ok (.ireturn, 1) := by decide +kernel
theorem dX7_bright_0 : decode cX7_bright 0 = .ok (.iload_n 1, 1) := by decide +kernel
theorem dX7_bright_1 : decode cX7_bright 1 = .ok (.iload_n 2, 1) := by decide +kernel
theorem dX7_bright_2 : decode cX7_bright 2 = .ok (.bipush 24, 2) := by decide +kernel
theorem dX7_bright_4 : decode cX7_bright 4 = .ok (.invokestatic 120, 3) := by decide +kernel
theorem dX7_bright_7 : decode cX7_bright 7 = .ok (.ifCond .eq 19, 3) := by decide +kernel
theorem dX7_bright_10 : decode cX7_bright 10 = .ok (.iload_n 3, 1) := by decide +kernel
theorem dX7_bright_11 : decode cX7_bright 11 = .ok (.bipush (-9), 2) := by decide +kernel
theorem dX7_bright_13 : decode cX7_bright 13 = .ok (.if_icmp .eq 16, 3) := by decide +kernel
theorem dX7_bright_16 : decode cX7_bright 16 = .ok (.iload_n 3, 1) := by decide +kernel
theorem dX7_bright_17 : decode cX7_bright 17 = .ok (.iconst 0, 1) := by decide +kernel
theorem dX7_bright_18 : decode cX7_bright 18 = .ok (.bipush 99, 2) := by decide +kernel
theorem dX7_bright_20 : decode cX7_bright 20 = .ok (.invokestatic 83, 3) := by decide +kernel
theorem dX7_bright_23 : decode cX7_bright 23 = .ok (.ifCond .ne 6, 3) := by decide +kernel
theorem dX7_bright_26 : decode cX7_bright 26 = .ok (.bipush (-2), 2) := by decide +kernel
theorem dX7_bright_28 : decode cX7_bright 28 = .ok (.ireturn, 1) := by decide +kernel
theorem dX7_bright_29 : decode cX7_bright 29 = .ok (.iload_n 1, 1) := by decide +kernel
theorem dX7_bright_30 : decode cX7_bright 30 = .ok (.iload_n 2, 1) := by decide +kernel
theorem dX7_bright_31 : decode cX7_bright 31 = .ok (.invokestatic 254, 3) := by decide +kernel
theorem dX7_bright_34 : decode cX7_bright 34 = .ok (.istore 4, 2) := by decide +kernel
theorem dX7_bright_36 : decode cX7_bright 36 = .ok (.aload_n 0, 1) := by decide +kernel
theorem dX7_bright_37 : decode cX7_bright 37 = .ok (.getfield 60, 3) := by decide +kernel
theorem dX7_bright_40 : decode cX7_bright 40 = .ok (.getfield 257, 3) := by decide +kernel
theorem dX7_bright_43 : decode cX7_bright 43 = .ok (.iload 4, 2) := by decide +kernel
theorem dX7_bright_45 : decode cX7_bright 45 = .ok (.iaload, 1) := by decide +kernel
theorem dX7_bright_46 : decode cX7_bright 46 = .ok (.istore 5, 2) := by decide +kernel
theorem dX7_bright_48 : decode cX7_bright 48 = .ok (.aload_n 0, 1) := by decide +kernel
theorem dX7_bright_49 : decode cX7_bright 49 = .ok (.getfield 60, 3) := by decide +kernel
theorem dX7_bright_52 : decode cX7_bright 52 = .ok (.getfield 257, 3) := by decide +kernel
theorem dX7_bright_55 : decode cX7_bright 55 = .ok (.iload 4, 2) := by decide +kernel
theorem dX7_bright_57 : decode cX7_bright 57 = .ok (.iload_n 3, 1) := by decide +kernel
theorem dX7_bright_58 : decode cX7_bright 58 = .ok (.iastore, 1) := by decide +kernel
theorem dX7_bright_59 : decode cX7_bright 59 = .ok (.iload 5, 2) := by decide +kernel
theorem dX7_bright_61 : decode cX7_bright 61 = .ok (.ireturn, 1) := by decide +kernel
theorem dX7_far_0 : decode cX7_far 0 = .ok (.iload_n 1, 1) := by decide +kernel
theorem dX7_far_1 : decode cX7_far 1 = .ok (.iload_n 2, 1) := by decide +kernel
theorem dX7_far_2 : decode cX7_far 2 = .ok (.bipush 99, 2) := by decide +kernel
theorem dX7_far_4 : decode cX7_far 4 = .ok (.invokestatic 120, 3) := by decide +kernel
theorem dX7_far_7 : decode cX7_far 7 = .ok (.ifCond .ne 5, 3) := by decide +kernel
theorem dX7_far_10 : decode cX7_far 10 = .ok (.iconst (-1), 1) := by decide +kernel
theorem dX7_far_11 : decode cX7_far 11 = .ok (.ireturn, 1) := by decide +kernel
theorem dX7_far_12 : decode cX7_far 12 = .ok (.aload_n 0, 1) := by decide +kernel
theorem dX7_far_13 : decode cX7_far 13 = .ok (.getfield 28, 3) := by decide +kernel
theorem dX7_far_16 : decode cX7_far 16 = .ok (.invokevirtual 145, 3) := by decide +kernel
theorem dX7_far_19 : decode cX7_far 19 = .ok (.aload_n 0, 1) := by decide +kernel
theorem dX7_far_20 : decode cX7_far 20 = .ok (.getfield 60, 3) := by decide +kernel
theorem dX7_far_23 : decode cX7_far 23 = .ok (.iload_n 1, 1) := by decide +kernel
theorem dX7_far_24 : decode cX7_far 24 = .ok (.iload_n 2, 1) := by decide +kernel
theorem dX7_far_25 : decode cX7_far 25 = .ok (.invokestatic 260, 3) := by decide +kernel
theorem dX7_far_28 : decode cX7_far 28 = .ok (.invokevirtual 263, 3) := by decide +kernel
theorem dX7_far_31 : decode cX7_far 31 = .ok (.ireturn, 1) := by decide +kernel
theorem dX7_contradicts_0 : decode cX7_contradicts 0 = .ok (.aload_n 0, 1) := by decide +kernel
theorem dX7_contradicts_1 : decode cX7_contradicts 1 = .ok (.getfield 28, 3) := by decide +kernel
theorem dX7_contradicts_4 : decode cX7_contradicts 4 = .ok (.invokevirtual 145, 3) := by decide +kernel
theorem dX7_contradicts_7 : decode cX7_contradicts 7 = .ok (.aload_n 0, 1) := by decide +kernel
theorem dX7_contradicts_8 : decode cX7_contradicts 8 = .ok (.getfield 60, 3) := by decide +kernel
theorem dX7_contradicts_11 : decode cX7_contradicts 11 = .ok (.invokevirtual 266, 3) := by decide +kernel
theorem dX7_contradicts_14 : decode cX7_contradicts 14 = .ok (.ireturn, 1) := by decide +kernel
theorem dX7_filled_0 : decode cX7_filled 0 = .ok (.iload_n 1, 1) := by decide +kernel
theorem dX7_filled_1 : decode cX7_filled 1 = .ok (.iload_n 2, 1) := by decide +kernel
theorem dX7_filled_2 : decode cX7_filled 2 = .ok (.bipush 24, 2) := by decide +kernel
theorem dX7_filled_4 : decode cX7_filled 4 = .ok (.invokestatic 120, 3) := by decide +kernel
theorem dX7_filled_7 : decode cX7_filled 7 = .ok (.ifCond .ne 5, 3) := by decide +kernel
theorem dX7_filled_10 : decode cX7_filled 10 = .ok (.iconst (-1), 1) := by decide +kernel
theorem dX7_filled_11 : decode cX7_filled 11 = .ok (.ireturn, 1) := by decide +kernel
theorem dX7_filled_12 : decode cX7_filled 12 = .ok (.iload_n 1, 1) := by decide +kernel
theorem dX7_filled_13 : decode cX7_filled 13 = .ok (.iload_n 2, 1) := by decide +kernel
theorem dX7_filled_14 : decode cX7_filled 14 = .ok (.invokestatic 254, 3) := by decide +kernel
theorem dX7_filled_17 : decode cX7_filled 17 = .ok (.istore_n 3, 1) := by decide +kernel
theorem dX7_filled_18 : decode cX7_filled 18 = .ok (.aload_n 0, 1) := by decide +kernel
theorem dX7_filled_19 : decode cX7_filled 19 = .ok (.getfield 60, 3) := by decide +kernel
theorem dX7_filled_22 : decode cX7_filled 22 = .ok (.getfield 257, 3) := by decide +kernel
theorem dX7_filled_25 : decode cX7_filled 25 = .ok (.iload_n 3, 1) := by decide +kernel
theorem dX7_filled_26 : decode cX7_filled 26 = .ok (.iaload, 1) := by decide +kernel
theorem dX7_filled_27 : decode cX7_filled 27 = .ok (.bipush (-9), 2) := by decide +kernel
theorem dX7_filled_29 : decode cX7_filled 29 = .ok (.if_icmp .eq 13, 3) := by decide +kernel
theorem dX7_filled_32 : decode cX7_filled 32 = .ok (.aload_n 0, 1) := by decide +kernel
theorem dX7_filled_33 : decode cX7_filled 33 = .ok (.getfield 60, 3) := by decide +kernel
theorem dX7_filled_36 : decode cX7_filled 36 = .ok (.getfield 257, 3) := by decide +kernel
theorem dX7_filled_39 : decode cX7_filled 39 = .ok (.iload_n 3, 1) := by decide +kernel
theorem dX7_filled_40 : decode cX7_filled 40 = .ok (.iaload, 1) := by decide +kernel
theorem dX7_filled_41 : decode cX7_filled 41 = .ok (.ireturn, 1) := by decide +kernel
theorem dX7_filled_42 : decode cX7_filled 42 = .ok (.aload_n 0, 1) := by decide +kernel
theorem dX7_filled_43 : decode cX7_filled 43 = .ok (.getfield 28, 3) := by decide +kernel
theorem dX7_filled_46 : decode cX7_filled 46 = .ok (.invokevirtual 145, 3) := by decide +kernel
theorem dX7_filled_49 : decode cX7_filled 49 = .ok (.aload_n 0, 1) := by decide +kernel
theorem dX7_filled_50 : decode cX7_filled 50 = .ok (.getfield 60, 3) := by decide +kernel
theorem dX7_filled_53 : decode cX7_filled 53 = .ok (.aload_n 0, 1) := by decide +kernel
theorem dX7_filled_54 : decode cX7_filled 54 = .ok (.getfield 28, 3) := by decide +kernel
theorem dX7_filled_57 : decode cX7_filled 57 = .ok (.getfield 161, 3) := by decide +kernel
theorem dX7_filled_60 : decode cX7_filled 60 = .ok (.iload_n 3, 1) := by decide +kernel
theorem dX7_filled_61 : decode cX7_filled 61 = .ok (.iaload, 1) := by decide +kernel
theorem dX7_filled_62 : decode cX7_filled 62 = .ok (.invokevirtual 263, 3) := by decide +kernel
theorem dX7_filled_65 : decode cX7_filled 65 = .ok (.ireturn, 1) := by decide +kernel
theorem dX7_count_0 : decode cX7_count 0 = .ok (.iload_n 1, 1) := by decide +kernel
theorem dX7_count_1 : decode cX7_count 1 = .ok (.tableswitch 87 0 5 #[39, 47, 55, 63, 71, 79], 39) := by decide +kernel
theorem dX7_count_40 : decode cX7_count 40 = .ok (.aload_n 0, 1) := by decide +kernel
theorem dX7_count_41 : decode cX7_count 41 = .ok (.getfield 20, 3) := by decide +kernel
theorem dX7_count_44 : decode cX7_count 44 = .ok (.getfield 68, 3) := by decide +kernel
theorem dX7_count_47 : decode cX7_count 47 = .ok (.ireturn, 1) := by decide +kernel
theorem dX7_count_48 : decode cX7_count 48 = .ok (.aload_n 0, 1) := by decide +kernel
theorem dX7_count_49 : decode cX7_count 49 = .ok (.getfield 51, 3) := by decide +kernel
theorem dX7_count_52 : decode cX7_count 52 = .ok (.getfield 201, 3) := by decide +kernel
theorem dX7_count_55 : decode cX7_count 55 = .ok (.ireturn, 1) := by decide +kernel
theorem dX7_count_56 : decode cX7_count 56 = .ok (.aload_n 0, 1) := by decide +kernel
theorem dX7_count_57 : decode cX7_count 57 = .ok (.getfield 51, 3) := by decide +kernel
theorem dX7_count_60 : decode cX7_count 60 = .ok (.getfield 248, 3) := by decide +kernel
theorem dX7_count_63 : decode cX7_count 63 = .ok (.ireturn, 1) := by decide +kernel
theorem dX7_count_64 : decode cX7_count 64 = .ok (.aload_n 0, 1) := by decide +kernel
theorem dX7_count_65 : decode cX7_count 65 = .ok (.getfield 60, 3) := by decide +kernel
theorem dX7_count_68 : decode cX7_count 68 = .ok (.invokevirtual 269, 3) := by decide +kernel
theorem dX7_count_71 : decode cX7_count 71 = .ok (.ireturn, 1) := by decide +kernel
theorem dX7_count_72 : decode cX7_count 72 = .ok (.aload_n 0, 1) := by decide +kernel
theorem dX7_count_73 : decode cX7_count 73 = .ok (.getfield 42, 3) := by decide +kernel
theorem dX7_count_76 : decode cX7_count 76 = .ok (.getfield 186, 3) := by decide +kernel
theorem dX7_count_79 : decode cX7_count 79 = .ok (.ireturn, 1) := by decide +kernel
theorem dX7_count_80 : decode cX7_count 80 = .ok (.aload_n 0, 1) := by decide +kernel
theorem dX7_count_81 : decode cX7_count 81 = .ok (.getfield 20, 3) := by decide +kernel
theorem dX7_count_84 : decode cX7_count 84 = .ok (.invokevirtual 272, 3) := by decide +kernel
theorem dX7_count_87 : decode cX7_count 87 = .ok (.ireturn, 1) := by decide +kernel
theorem dX7_count_88 : decode cX7_count 88 = .ok (.iconst (-1), 1) := by decide +kernel
theorem dX7_count_89 : decode cX7_count 89 = .ok (.ireturn, 1) := by decide +kernel
theorem dX7_trace_0 : decode cX7_trace 0 = .ok (.aload_n 0, 1) := by decide +kernel
theorem dX7_trace_1 : decode cX7_trace 1 = .ok (.getfield 101, 3) := by decide +kernel
theorem dX7_trace_4 : decode cX7_trace 4 = .ok (.lreturn, 1) := by decide +kernel
theorem dX7_within_0 : decode cX7_within 0 = .ok (.iload_n 0, 1) := by decide +kernel
theorem dX7_within_1 : decode cX7_within 1 = .ok (.iload_n 1, 1) := by decide +kernel
theorem dX7_within_2 : decode cX7_within 2 = .ok (.if_icmp .lt 12, 3) := by decide +kernel
theorem dX7_within_5 : decode cX7_within 5 = .ok (.iload_n 0, 1) := by decide +kernel
theorem dX7_within_6 : decode cX7_within 6 = .ok (.iload_n 2, 1) := by decide +kernel
theorem dX7_within_7 : decode cX7_within 7 = .ok (.if_icmp .gt 7, 3) := by decide +kernel
theorem dX7_within_10 : decode cX7_within 10 = .ok (.iconst 1, 1) := by decide +kernel
theorem dX7_within_11 : decode cX7_within 11 = .ok (.goto 4, 3) := by decide +kernel
theorem dX7_within_14 : decode cX7_within 14 = .ok (.iconst 0, 1) := by decide +kernel
theorem dX7_within_15 : decode cX7_within 15 = .ok (.ireturn, 1) := by decide +kernel
theorem dX7_isWithin_0 : decode cX7_isWithin 0 = .ok (.iload_n 0, 1) := by decide +kernel
theorem dX7_isWithin_1 : decode cX7_isWithin 1 = .ok (.iload_n 2, 1) := by decide +kernel
theorem dX7_isWithin_2 : decode cX7_isWithin 2 = .ok (.ineg, 1) := by decide +kernel
theorem dX7_isWithin_3 : decode cX7_isWithin 3 = .ok (.iload_n 2, 1) := by decide +kernel
theorem dX7_isWithin_4 : decode cX7_isWithin 4 = .ok (.invokestatic 83, 3) := by decide +kernel
theorem dX7_isWithin_7 : decode cX7_isWithin 7 = .ok (.ifCond .eq 17, 3) := by decide +kernel
theorem dX7_isWithin_10 : decode cX7_isWithin 10 = .ok (.iload_n 1, 1) := by decide +kernel
theorem dX7_isWithin_11 : decode cX7_isWithin 11 = .ok (.iload_n 2, 1) := by decide +kernel
theorem dX7_isWithin_12 : decode cX7_isWithin 12 = .ok (.ineg, 1) := by decide +kernel
theorem dX7_isWithin_13 : decode cX7_isWithin 13 = .ok (.iload_n 2, 1) := by decide +kernel
theorem dX7_isWithin_14 : decode cX7_isWithin 14 = .ok (.invokestatic 83, 3) := by decide +kernel
theorem dX7_isWithin_17 : decode cX7_isWithin 17 = .ok (.ifCond .eq 7, 3) := by decide +kernel
theorem dX7_isWithin_20 : decode cX7_isWithin 20 = .ok (.iconst 1, 1) := by decide +kernel
theorem dX7_isWithin_21 : decode cX7_isWithin 21 = .ok (.goto 4, 3) := by decide +kernel
theorem dX7_isWithin_24 : decode cX7_isWithin 24 = .ok (.iconst 0, 1) := by decide +kernel
theorem dX7_isWithin_25 : decode cX7_isWithin 25 = .ok (.ireturn, 1) := by decide +kernel
theorem dX7_isAsked_0 : decode cX7_isAsked 0 = .ok (.iload_n 0, 1) := by decide +kernel
theorem dX7_isAsked_1 : decode cX7_isAsked 1 = .ok (.iload_n 1, 1) := by decide +kernel
theorem dX7_isAsked_2 : decode cX7_isAsked 2 = .ok (.bipush 60, 2) := by decide +kernel
theorem dX7_isAsked_4 : decode cX7_isAsked 4 = .ok (.invokestatic 120, 3) := by decide +kernel
theorem dX7_isAsked_7 : decode cX7_isAsked 7 = .ok (.ifCond .eq 16, 3) := by decide +kernel
theorem dX7_isAsked_10 : decode cX7_isAsked 10 = .ok (.iload_n 2, 1) := by decide +kernel
theorem dX7_isAsked_11 : decode cX7_isAsked 11 = .ok (.iconst 0, 1) := by decide +kernel
theorem dX7_isAsked_12 : decode cX7_isAsked 12 = .ok (.iconst 1, 1) := by decide +kernel
theorem dX7_isAsked_13 : decode cX7_isAsked 13 = .ok (.invokestatic 83, 3) := by decide +kernel
theorem dX7_isAsked_16 : decode cX7_isAsked 16 = .ok (.ifCond .eq 7, 3) := by decide +kernel
theorem dX7_isAsked_19 : decode cX7_isAsked 19 = .ok (.iconst 1, 1) := by decide +kernel
theorem dX7_isAsked_20 : decode cX7_isAsked 20 = .ok (.goto 4, 3) := by decide +kernel
theorem dX7_isAsked_23 : decode cX7_isAsked 23 = .ok (.iconst 0, 1) := by decide +kernel
theorem dX7_isAsked_24 : decode cX7_isAsked 24 = .ok (.ireturn, 1) := by decide +kernel
theorem dX7_isFeature_0 : decode cX7_isFeature 0 = .ok (.iload_n 1, 1) := by decide +kernel
theorem dX7_isFeature_1 : decode cX7_isFeature 1 = .ok (.getstatic 275, 3) := by decide +kernel
theorem dX7_isFeature_4 : decode cX7_isFeature 4 = .ok (.iload_n 0, 1) := by decide +kernel
theorem dX7_isFeature_5 : decode cX7_isFeature 5 = .ok (.iaload, 1) := by decide +kernel
theorem dX7_isFeature_6 : decode cX7_isFeature 6 = .ok (.getstatic 278, 3) := by decide +kernel
theorem dX7_isFeature_9 : decode cX7_isFeature 9 = .ok (.iload_n 0, 1) := by decide +kernel
theorem dX7_isFeature_10 : decode cX7_isFeature 10 = .ok (.iaload, 1) := by decide +kernel
theorem dX7_isFeature_11 : decode cX7_isFeature 11 = .ok (.invokestatic 83, 3) := by decide +kernel
theorem dX7_isFeature_14 : decode cX7_isFeature 14 = .ok (.ireturn, 1) := by decide +kernel
theorem dX7_isBody_0 : decode cX7_isBody 0 = .ok (.iload_n 1, 1) := by decide +kernel
theorem dX7_isBody_1 : decode cX7_isBody 1 = .ok (.iconst 0, 1) := by decide +kernel
theorem dX7_isBody_2 : decode cX7_isBody 2 = .ok (.aload_n 0, 1) := by decide +kernel
theorem dX7_isBody_3 : decode cX7_isBody 3 = .ok (.getfield 20, 3) := by decide +kernel
theorem dX7_isBody_6 : decode cX7_isBody 6 = .ok (.getfield 68, 3) := by decide +kernel
theorem dX7_isBody_9 : decode cX7_isBody 9 = .ok (.iconst 1, 1) := by decide +kernel
theorem dX7_isBody_10 : decode cX7_isBody 10 = .ok (.isub, 1) := by decide +kernel
theorem dX7_isBody_11 : decode cX7_isBody 11 = .ok (.invokestatic 83, 3) := by decide +kernel
theorem dX7_isBody_14 : decode cX7_isBody 14 = .ok (.ireturn, 1) := by decide +kernel
theorem dX7_isTrial_0 : decode cX7_isTrial 0 = .ok (.iload_n 1, 1) := by decide +kernel
theorem dX7_isTrial_1 : decode cX7_isTrial 1 = .ok (.iconst 1, 1) := by decide +kernel
theorem dX7_isTrial_2 : decode cX7_isTrial 2 = .ok (.iconst 3, 1) := by decide +kernel
theorem dX7_isTrial_3 : decode cX7_isTrial 3 = .ok (.invokestatic 83, 3) := by decide +kernel
theorem dX7_isTrial_6 : decode cX7_isTrial 6 = .ok (.ifCond .eq 28, 3) := by decide +kernel
theorem dX7_isTrial_9 : decode cX7_isTrial 9 = .ok (.iload_n 1, 1) := by decide +kernel
theorem dX7_isTrial_10 : decode cX7_isTrial 10 = .ok (.aload_n 0, 1) := by decide +kernel
theorem dX7_isTrial_11 : decode cX7_isTrial 11 = .ok (.getfield 20, 3) := by decide +kernel
theorem dX7_isTrial_14 : decode cX7_isTrial 14 = .ok (.getfield 68, 3) := by decide +kernel
theorem dX7_isTrial_17 : decode cX7_isTrial 17 = .ok (.if_icmp .gt 17, 3) := by decide +kernel
theorem dX7_isTrial_20 : decode cX7_isTrial 20 = .ok (.iload_n 2, 1) := by decide +kernel
theorem dX7_isTrial_21 : decode cX7_isTrial 21 = .ok (.iconst 1, 1) := by decide +kernel
theorem dX7_isTrial_22 : decode cX7_isTrial 22 = .ok (.bipush 15, 2) := by decide +kernel
theorem dX7_isTrial_24 : decode cX7_isTrial 24 = .ok (.invokestatic 83, 3) := by decide +kernel
theorem dX7_isTrial_27 : decode cX7_isTrial 27 = .ok (.ifCond .eq 7, 3) := by decide +kernel
theorem dX7_isTrial_30 : decode cX7_isTrial 30 = .ok (.iconst 1, 1) := by decide +kernel
theorem dX7_isTrial_31 : decode cX7_isTrial 31 = .ok (.goto 4, 3) := by decide +kernel
theorem dX7_isTrial_34 : decode cX7_isTrial 34 = .ok (.iconst 0, 1) := by decide +kernel
theorem dX7_isTrial_35 : decode cX7_isTrial 35 = .ok (.ireturn, 1) := by decide +kernel
theorem dX7_lensChanges_0 : decode cX7_lensChanges 0 = .ok (.aload_n 0, 1) := by decide +kernel
theorem dX7_lensChanges_1 : decode cX7_lensChanges 1 = .ok (.getfield 28, 3) := by decide +kernel
theorem dX7_lensChanges_4 : decode cX7_lensChanges 4 = .ok (.iconst 1, 1) := by decide +kernel
theorem dX7_lensChanges_5 : decode cX7_lensChanges 5 = .ok (.putfield 281, 3) := by decide +kernel
theorem dX7_lensChanges_8 : decode cX7_lensChanges 8 = .ok (.aload_n 0, 1) := by decide +kernel
theorem dX7_lensChanges_9 : decode cX7_lensChanges 9 = .ok (.getfield 51, 3) := by decide +kernel
theorem dX7_lensChanges_12 : decode cX7_lensChanges 12 = .ok (.iconst 1, 1) := by decide +kernel
theorem dX7_lensChanges_13 : decode cX7_lensChanges 13 = .ok (.putfield 207, 3) := by decide +kernel
theorem dX7_lensChanges_16 : decode cX7_lensChanges 16 = .ok (.return_, 1) := by decide +kernel
theorem dX7_markPictures_0 : decode cX7_markPictures 0 = .ok (.aload_n 0, 1) := by decide +kernel
theorem dX7_markPictures_1 : decode cX7_markPictures 1 = .ok (.getfield 28, 3) := by decide +kernel
theorem dX7_markPictures_4 : decode cX7_markPictures 4 = .ok (.invokevirtual 145, 3) := by decide +kernel
theorem dX7_markPictures_7 : decode cX7_markPictures 7 = .ok (.iload_n 1, 1) := by decide +kernel
theorem dX7_markPictures_8 : decode cX7_markPictures 8 = .ok (.iload_n 2, 1) := by decide +kernel
theorem dX7_markPictures_9 : decode cX7_markPictures 9 = .ok (.invokestatic 260, 3) := by decide +kernel
theorem dX7_markPictures_12 : decode cX7_markPictures 12 = .ok (.istore_n 3, 1) := by decide +kernel
theorem dX7_markPictures_13 : decode cX7_markPictures 13 = .ok (.iconst 0, 1) := by decide +kernel
theorem dX7_markPictures_14 : decode cX7_markPictures 14 = .ok (.istore 4, 2) := by decide +kernel
theorem dX7_markPictures_16 : decode cX7_markPictures 16 = .ok (.iconst 0, 1) := by decide +kernel
theorem dX7_markPictures_17 : decode cX7_markPictures 17 = .ok (.istore 5, 2) := by decide +kernel
theorem dX7_markPictures_19 : decode cX7_markPictures 19 = .ok (.iload 5, 2) := by decide +kernel
theorem dX7_markPictures_21 : decode cX7_markPictures 21 = .ok (.sipush 2401, 3) := by decide +kernel
theorem dX7_markPictures_24 : decode cX7_markPictures 24 = .ok (.if_icmp .ge 57, 3) := by decide +kernel
theorem dX7_markPictures_27 : decode cX7_markPictures 27 = .ok (.aload_n 0, 1) := by decide +kernel
theorem dX7_markPictures_28 : decode cX7_markPictures 28 = .ok (.getfield 28, 3) := by decide +kernel
theorem dX7_markPictures_31 : decode cX7_markPictures 31 = .ok (.getfield 161, 3) := by decide +kernel
theorem dX7_markPictures_34 : decode cX7_markPictures 34 = .ok (.iload 5, 2) := by decide +kernel
theorem dX7_markPictures_36 : decode cX7_markPictures 36 = .ok (.iaload, 1) := by decide +kernel
theorem dX7_markPictures_37 : decode cX7_markPictures 37 = .ok (.iload_n 3, 1) := by decide +kernel
theorem dX7_markPictures_38 : decode cX7_markPictures 38 = .ok (.if_icmp .ne 7, 3) := by decide +kernel
theorem dX7_markPictures_41 : decode cX7_markPictures 41 = .ok (.iconst 1, 1) := by decide +kernel
theorem dX7_markPictures_42 : decode cX7_markPictures 42 = .ok (.goto 4, 3) := by decide +kernel
theorem dX7_markPictures_45 : decode cX7_markPictures 45 = .ok (.iconst 0, 1) := by decide +kernel
theorem dX7_markPictures_46 : decode cX7_markPictures 46 = .ok (.istore 6, 2) := by decide +kernel
theorem dX7_markPictures_48 : decode cX7_markPictures 48 = .ok (.aload_n 0, 1) := by decide +kernel
theorem dX7_markPictures_49 : decode cX7_markPictures 49 = .ok (.getfield 35, 3) := by decide +kernel
theorem dX7_markPictures_52 : decode cX7_markPictures 52 = .ok (.getfield 282, 3) := by decide +kernel
theorem dX7_markPictures_55 : decode cX7_markPictures 55 = .ok (.iload 5, 2) := by decide +kernel
theorem dX7_markPictures_57 : decode cX7_markPictures 57 = .ok (.iload 6, 2) := by decide +kernel
theorem dX7_markPictures_59 : decode cX7_markPictures 59 = .ok (.bastore, 1) := by decide +kernel
theorem dX7_markPictures_60 : decode cX7_markPictures 60 = .ok (.iload 4, 2) := by decide +kernel
theorem dX7_markPictures_62 : decode cX7_markPictures 62 = .ok (.iload 6, 2) := by decide +kernel
theorem dX7_markPictures_64 : decode cX7_markPictures 64 = .ok (.ifCond .eq 7, 3) := by decide +kernel
theorem dX7_markPictures_67 : decode cX7_markPictures 67 = .ok (.iconst 1, 1) := by decide +kernel
theorem dX7_markPictures_68 : decode cX7_markPictures 68 = .ok (.goto 4, 3) := by decide +kernel
theorem dX7_markPictures_71 : decode cX7_markPictures 71 = .ok (.iconst 0, 1) := by decide +kernel
theorem dX7_markPictures_72 : decode cX7_markPictures 72 = .ok (.iadd, 1) := by decide +kernel
theorem dX7_markPictures_73 : decode cX7_markPictures 73 = .ok (.istore 4, 2) := by decide +kernel
theorem dX7_markPictures_75 : decode cX7_markPictures 75 = .ok (.iinc 5 1, 3) := by decide +kernel
theorem dX7_markPictures_78 : decode cX7_markPictures 78 = .ok (.goto (-59), 3) := by decide +kernel
theorem dX7_markPictures_81 : decode cX7_markPictures 81 = .ok (.iload 4, 2) := by decide +kernel
theorem dX7_markPictures_83 : decode cX7_markPictures 83 = .ok (.ireturn, 1) := by decide +kernel
theorem dX7_markCriticals_0 : decode cX7_markCriticals 0 = .ok (.iconst 0, 1) := by decide +kernel
theorem dX7_markCriticals_1 : decode cX7_markCriticals 1 = .ok (.istore_n 1, 1) := by decide +kernel
theorem dX7_markCriticals_2 : decode cX7_markCriticals 2 = .ok (.iconst 0, 1) := by decide +kernel
theorem dX7_markCriticals_3 : decode cX7_markCriticals 3 = .ok (.istore_n 2, 1) := by decide +kernel
theorem dX7_markCriticals_4 : decode cX7_markCriticals 4 = .ok (.iload_n 2, 1) := by decide +kernel
theorem dX7_markCriticals_5 : decode cX7_markCriticals 5 = .ok (.sipush 2401, 3) := by decide +kernel
theorem dX7_markCriticals_8 : decode cX7_markCriticals 8 = .ok (.if_icmp .ge 47, 3) := by decide +kernel
theorem dX7_markCriticals_11 : decode cX7_markCriticals 11 = .ok (.aload_n 0, 1) := by decide +kernel
theorem dX7_markCriticals_12 : decode cX7_markCriticals 12 = .ok (.getfield 28, 3) := by decide +kernel
theorem dX7_markCriticals_15 : decode cX7_markCriticals 15 = .ok (.iload_n 2, 1) := by decide +kernel
theorem dX7_markCriticals_16 : decode cX7_markCriticals 16 = .ok (.invokestatic 133, 3) := by decide +kernel
theorem dX7_markCriticals_19 : decode cX7_markCriticals 19 = .ok (.iload_n 2, 1) := by decide +kernel
theorem dX7_markCriticals_20 : decode cX7_markCriticals 20 = .ok (.invokestatic 136, 3) := by decide +kernel
theorem dX7_markCriticals_23 : decode cX7_markCriticals 23 = .ok (.invokevirtual 148, 3) := by decide +kernel
theorem dX7_markCriticals_26 : decode cX7_markCriticals 26 = .ok (.istore_n 3, 1) := by decide +kernel
theorem dX7_markCriticals_27 : decode cX7_markCriticals 27 = .ok (.aload_n 0, 1) := by decide +kernel
theorem dX7_markCriticals_28 : decode cX7_markCriticals 28 = .ok (.getfield 35, 3) := by decide +kernel
theorem dX7_markCriticals_31 : decode cX7_markCriticals 31 = .ok (.getfield 282, 3) := by decide +kernel
theorem dX7_markCriticals_34 : decode cX7_markCriticals 34 = .ok (.iload_n 2, 1) := by decide +kernel
theorem dX7_markCriticals_35 : decode cX7_markCriticals 35 = .ok (.iload_n 3, 1) := by decide +kernel
theorem dX7_markCriticals_36 : decode cX7_markCriticals 36 = .ok (.bastore, 1) := by decide +kernel
theorem dX7_markCriticals_37 : decode cX7_markCriticals 37 = .ok (.iload_n 1, 1) := by decide +kernel
theorem dX7_markCriticals_38 : decode cX7_markCriticals 38 = .ok (.iload_n 3, 1) := by decide +kernel
theorem dX7_markCriticals_39 : decode cX7_markCriticals 39 = .ok (.ifCond .eq 7, 3) := by decide +kernel
theorem dX7_markCriticals_42 : decode cX7_markCriticals 42 = .ok (.iconst 1, 1) := by decide +kernel
theorem dX7_markCriticals_43 : decode cX7_markCriticals 43 = .ok (.goto 4, 3) := by decide +kernel
theorem dX7_markCriticals_46 : decode cX7_markCriticals 46 = .ok (.iconst 0, 1) := by decide +kernel
theorem dX7_markCriticals_47 : decode cX7_markCriticals 47 = .ok (.iadd, 1) := by decide +kernel
theorem dX7_markCriticals_48 : decode cX7_markCriticals 48 = .ok (.istore_n 1, 1) := by decide +kernel
theorem dX7_markCriticals_49 : decode cX7_markCriticals 49 = .ok (.iinc 2 1, 3) := by decide +kernel
theorem dX7_markCriticals_52 : decode cX7_markCriticals 52 = .ok (.goto (-48), 3) := by decide +kernel
theorem dX7_markCriticals_55 : decode cX7_markCriticals 55 = .ok (.iload_n 1, 1) := by decide +kernel
theorem dX7_markCriticals_56 : decode cX7_markCriticals 56 = .ok (.ireturn, 1) := by decide +kernel
theorem dX7_pixelAt_0 : decode cX7_pixelAt 0 = .ok (.iload_n 1, 1) := by decide +kernel
theorem dX7_pixelAt_1 : decode cX7_pixelAt 1 = .ok (.bipush 24, 2) := by decide +kernel
theorem dX7_pixelAt_3 : decode cX7_pixelAt 3 = .ok (.iadd, 1) := by decide +kernel
theorem dX7_pixelAt_4 : decode cX7_pixelAt 4 = .ok (.bipush 49, 2) := by decide +kernel
theorem dX7_pixelAt_6 : decode cX7_pixelAt 6 = .ok (.imul, 1) := by decide +kernel
theorem dX7_pixelAt_7 : decode cX7_pixelAt 7 = .ok (.iload_n 0, 1) := by decide +kernel
theorem dX7_pixelAt_8 : decode cX7_pixelAt 8 = .ok (.iadd, 1) := by decide +kernel
theorem dX7_pixelAt_9 : decode cX7_pixelAt 9 = .ok (.bipush 24, 2) := by decide +kernel
theorem dX7_pixelAt_11 : decode cX7_pixelAt 11 = .ok (.iadd, 1) := by decide +kernel
theorem dX7_pixelAt_12 : decode cX7_pixelAt 12 = .ok (.ireturn, 1) := by decide +kernel
theorem dX7_xOf_0 : decode cX7_xOf 0 = .ok (.iload_n 0, 1) := by decide +kernel
theorem dX7_xOf_1 : decode cX7_xOf 1 = .ok (.bipush 49, 2) := by decide +kernel
theorem dX7_xOf_3 : decode cX7_xOf 3 = .ok (.irem, 1) := by decide +kernel
theorem dX7_xOf_4 : decode cX7_xOf 4 = .ok (.bipush 24, 2) := by decide +kernel
theorem dX7_xOf_6 : decode cX7_xOf 6 = .ok (.isub, 1) := by decide +kernel
theorem dX7_xOf_7 : decode cX7_xOf 7 = .ok (.ireturn, 1) := by decide +kernel
theorem dX7_yOf_0 : decode cX7_yOf 0 = .ok (.iload_n 0, 1) := by decide +kernel
theorem dX7_yOf_1 : decode cX7_yOf 1 = .ok (.bipush 49, 2) := by decide +kernel
theorem dX7_yOf_3 : decode cX7_yOf 3 = .ok (.idiv, 1) := by decide +kernel
theorem dX7_yOf_4 : decode cX7_yOf 4 = .ok (.bipush 24, 2) := by decide +kernel
theorem dX7_yOf_6 : decode cX7_yOf 6 = .ok (.isub, 1) := by decide +kernel
theorem dX7_yOf_7 : decode cX7_yOf 7 = .ok (.ireturn, 1) := by decide +kernel
theorem dX7_cellOf_0 : decode cX7_cellOf 0 = .ok (.iload_n 0, 1) := by decide +kernel
theorem dX7_cellOf_1 : decode cX7_cellOf 1 = .ok (.bipush 8, 2) := by decide +kernel
theorem dX7_cellOf_3 : decode cX7_cellOf 3 = .ok (.iadd, 1) := by decide +kernel
theorem dX7_cellOf_4 : decode cX7_cellOf 4 = .ok (.bipush 16, 2) := by decide +kernel
theorem dX7_cellOf_6 : decode cX7_cellOf 6 = .ok (.invokestatic 286, 3) := by decide +kernel
theorem dX7_cellOf_9 : decode cX7_cellOf 9 = .ok (.ireturn, 1) := by decide +kernel
theorem dX7_keyOf_0 : decode cX7_keyOf 0 = .ok (.iload_n 1, 1) := by decide +kernel
theorem dX7_keyOf_1 : decode cX7_keyOf 1 = .ok (.sipush 4096, 3) := by decide +kernel
theorem dX7_keyOf_4 : decode cX7_keyOf 4 = .ok (.iadd, 1) := by decide +kernel
theorem dX7_keyOf_5 : decode cX7_keyOf 5 = .ok (.sipush 8192, 3) := by decide +kernel
theorem dX7_keyOf_8 : decode cX7_keyOf 8 = .ok (.imul, 1) := by decide +kernel
theorem dX7_keyOf_9 : decode cX7_keyOf 9 = .ok (.iload_n 0, 1) := by decide +kernel
theorem dX7_keyOf_10 : decode cX7_keyOf 10 = .ok (.iadd, 1) := by decide +kernel
theorem dX7_keyOf_11 : decode cX7_keyOf 11 = .ok (.sipush 4096, 3) := by decide +kernel
theorem dX7_keyOf_14 : decode cX7_keyOf 14 = .ok (.iadd, 1) := by decide +kernel
theorem dX7_keyOf_15 : decode cX7_keyOf 15 = .ok (.ireturn, 1) := by decide +kernel
theorem dX8_init_0 : decode cX8_init 0 = .ok (.aload_n 0, 1) := by decide +kernel
theorem dX8_init_1 : decode cX8_init 1 = .ok (.invokespecial 1, 3) := by decide +kernel
theorem dX8_init_4 : decode cX8_init 4 = .ok (.aload_n 0, 1) := by decide +kernel
theorem dX8_init_5 : decode cX8_init 5 = .ok (.bipush 96, 2) := by decide +kernel
theorem dX8_init_7 : decode cX8_init 7 = .ok (.newarray .int, 2) := by decide +kernel
theorem dX8_init_9 : decode cX8_init 9 = .ok (.putfield 7, 3) := by decide +kernel
theorem dX8_init_12 : decode cX8_init 12 = .ok (.aload_n 0, 1) := by decide +kernel
theorem dX8_init_13 : decode cX8_init 13 = .ok (.sipush 200, 3) := by decide +kernel
theorem dX8_init_16 : decode cX8_init 16 = .ok (.newarray .byte, 2) := by decide +kernel
theorem dX8_init_18 : decode cX8_init 18 = .ok (.putfield 13, 3) := by decide +kernel
theorem dX8_init_21 : decode cX8_init 21 = .ok (.aload_n 0, 1) := by decide +kernel
theorem dX8_init_22 : decode cX8_init 22 = .ok (.bipush 40, 2) := by decide +kernel
theorem dX8_init_24 : decode cX8_init 24 = .ok (.newarray .int, 2) := by decide +kernel
theorem dX8_init_26 : decode cX8_init 26 = .ok (.putfield 17, 3) := by decide +kernel
theorem dX8_init_29 : decode cX8_init 29 = .ok (.aload_n 0, 1) := by decide +kernel
theorem dX8_init_30 : decode cX8_init 30 = .ok (.bipush 8, 2) := by decide +kernel
theorem dX8_init_32 : decode cX8_init 32 = .ok (.putfield 20, 3) := by decide +kernel
theorem dX8_init_35 : decode cX8_init 35 = .ok (.aload_n 0, 1) := by decide +kernel
theorem dX8_init_36 : decode cX8_init 36 = .ok (.iconst 5, 1) := by decide +kernel
theorem dX8_init_37 : decode cX8_init 37 = .ok (.putfield 24, 3) := by decide +kernel
theorem dX8_init_40 : decode cX8_init 40 = .ok (.aload_n 0, 1) := by decide +kernel
theorem dX8_init_41 : decode cX8_init 41 = .ok (.bipush 8, 2) := by decide +kernel
theorem dX8_init_43 : decode cX8_init 43 = .ok (.newarray .int, 2) := by decide +kernel
theorem dX8_init_45 : decode cX8_init 45 = .ok (.putfield 27, 3) := by decide +kernel
theorem dX8_init_48 : decode cX8_init 48 = .ok (.aload_n 0, 1) := by decide +kernel
theorem dX8_init_49 : decode cX8_init 49 = .ok (.bipush 8, 2) := by decide +kernel
theorem dX8_init_51 : decode cX8_init 51 = .ok (.newarray .int, 2) := by decide +kernel
theorem dX8_init_53 : decode cX8_init 53 = .ok (.putfield 30, 3) := by decide +kernel
theorem dX8_init_56 : decode cX8_init 56 = .ok (.aload_n 0, 1) := by decide +kernel
theorem dX8_init_57 : decode cX8_init 57 = .ok (.sipush 2401, 3) := by decide +kernel
theorem dX8_init_60 : decode cX8_init 60 = .ok (.newarray .int, 2) := by decide +kernel
theorem dX8_init_62 : decode cX8_init 62 = .ok (.putfield 33, 3) := by decide +kernel
theorem dX8_init_65 : decode cX8_init 65 = .ok (.aload_n 0, 1) := by decide +kernel
theorem dX8_init_66 : decode cX8_init 66 = .ok (.sipush 2601, 3) := by decide +kernel
theorem dX8_init_69 : decode cX8_init 69 = .ok (.newarray .int, 2) := by decide +kernel
theorem dX8_init_71 : decode cX8_init 71 = .ok (.putfield 36, 3) := by decide +kernel
theorem dX8_init_74 : decode cX8_init 74 = .ok (.aload_n 0, 1) := by decide +kernel
theorem dX8_init_75 : decode cX8_init 75 = .ok (.sipush 2601, 3) := by decide +kernel
theorem dX8_init_78 : decode cX8_init 78 = .ok (.newarray .int, 2) := by decide +kernel
theorem dX8_init_80 : decode cX8_init 80 = .ok (.putfield 39, 3) := by decide +kernel
theorem dX8_init_83 : decode cX8_init 83 = .ok (.aload_n 0, 1) := by decide +kernel
theorem dX8_init_84 : decode cX8_init 84 = .ok (.sipush 2401, 3) := by decide +kernel
theorem dX8_init_87 : decode cX8_init 87 = .ok (.newarray .boolean, 2) := by decide +kernel
theorem dX8_init_89 : decode cX8_init 89 = .ok (.putfield 42, 3) := by decide +kernel
theorem dX8_init_92 : decode cX8_init 92 = .ok (.aload_n 0, 1) := by decide +kernel
theorem dX8_init_93 : decode cX8_init 93 = .ok (.sipush 2401, 3) := by decide +kernel
theorem dX8_init_96 : decode cX8_init 96 = .ok (.newarray .int, 2) := by decide +kernel
theorem dX8_init_98 : decode cX8_init 98 = .ok (.putfield 46, 3) := by decide +kernel
theorem dX8_init_101 : decode cX8_init 101 = .ok (.aload_n 0, 1) := by decide +kernel
theorem dX8_init_102 : decode cX8_init 102 = .ok (.sipush 2401, 3) := by decide +kernel
theorem dX8_init_105 : decode cX8_init 105 = .ok (.newarray .int, 2) := by decide +kernel
theorem dX8_init_107 : decode cX8_init 107 = .ok (.putfield 49, 3) := by decide +kernel
theorem dX8_init_110 : decode cX8_init 110 = .ok (.aload_n 0, 1) := by decide +kernel
theorem dX8_init_111 : decode cX8_init 111 = .ok (.sipush 2401, 3) := by decide +kernel
theorem dX8_init_114 : decode cX8_init 114 = .ok (.newarray .int, 2) := by decide +kernel
theorem dX8_init_116 : decode cX8_init 116 = .ok (.putfield 52, 3) := by decide +kernel
theorem dX8_init_119 : decode cX8_init 119 = .ok (.aload_n 0, 1) := by decide +kernel
theorem dX8_init_120 : decode cX8_init 120 = .ok (.sipush 2401, 3) := by decide +kernel
theorem dX8_init_123 : decode cX8_init 123 = .ok (.newarray .int, 2) := by decide +kernel
theorem dX8_init_125 : decode cX8_init 125 = .ok (.putfield 55, 3) := by decide +kernel
theorem dX8_init_128 : decode cX8_init 128 = .ok (.aload_n 0, 1) := by decide +kernel
theorem dX8_init_129 : decode cX8_init 129 = .ok (.sipush 4096, 3) := by decide +kernel
theorem dX8_init_132 : decode cX8_init 132 = .ok (.newarray .int, 2) := by decide +kernel
theorem dX8_init_134 : decode cX8_init 134 = .ok (.putfield 58, 3) := by decide +kernel
theorem dX8_init_137 : decode cX8_init 137 = .ok (.aload_n 0, 1) := by decide +kernel
theorem dX8_init_138 : decode cX8_init 138 = .ok (.ldc 61, 2) := by decide +kernel
theorem dX8_init_140 : decode cX8_init 140 = .ok (.newarray .int, 2) := by decide +kernel
theorem dX8_init_142 : decode cX8_init 142 = .ok (.putfield 62, 3) := by decide +kernel
theorem dX8_init_145 : decode cX8_init 145 = .ok (.aload_n 0, 1) := by decide +kernel
theorem dX8_init_146 : decode cX8_init 146 = .ok (.ldc 61, 2) := by decide +kernel
theorem dX8_init_148 : decode cX8_init 148 = .ok (.newarray .int, 2) := by decide +kernel
theorem dX8_init_150 : decode cX8_init 150 = .ok (.putfield 65, 3) := by decide +kernel
theorem dX8_init_153 : decode cX8_init 153 = .ok (.aload_n 0, 1) := by decide +kernel
theorem dX8_init_154 : decode cX8_init 154 = .ok (.sipush 8192, 3) := by decide +kernel
theorem dX8_init_157 : decode cX8_init 157 = .ok (.newarray .int, 2) := by decide +kernel
theorem dX8_init_159 : decode cX8_init 159 = .ok (.putfield 68, 3) := by decide +kernel
theorem dX8_init_162 : decode cX8_init 162 = .ok (.aload_n 0, 1) := by decide +kernel
theorem dX8_init_163 : decode cX8_init 163 = .ok (.sipush 4096, 3) := by decide +kernel
theorem dX8_init_166 : decode cX8_init 166 = .ok (.newarray .int, 2) := by decide +kernel
theorem dX8_init_168 : decode cX8_init 168 = .ok (.putfield 71, 3) := by decide +kernel
theorem dX8_init_171 : decode cX8_init 171 = .ok (.iconst 0, 1) := by decide +kernel
theorem dX8_init_172 : decode cX8_init 172 = .ok (.istore_n 1, 1) := by decide +kernel
theorem dX8_init_173 : decode cX8_init 173 = .ok (.iload_n 1, 1) := by decide +kernel
theorem dX8_init_174 : decode cX8_init 174 = .ok (.sipush 2401, 3) := by decide +kernel
theorem dX8_init_177 : decode cX8_init 177 = .ok (.if_icmp .ge 17, 3) := by decide +kernel
theorem dX8_init_180 : decode cX8_init 180 = .ok (.aload_n 0, 1) := by decide +kernel
theorem dX8_init_181 : decode cX8_init 181 = .ok (.getfield 33, 3) := by decide +kernel
theorem dX8_init_184 : decode cX8_init 184 = .ok (.iload_n 1, 1) := by decide +kernel
theorem dX8_init_185 : decode cX8_init 185 = .ok (.bipush (-9), 2) := by decide +kernel
theorem dX8_init_187 : decode cX8_init 187 = .ok (.iastore, 1) := by decide +kernel
theorem dX8_init_188 : decode cX8_init 188 = .ok (.iinc 1 1, 3) := by decide +kernel
theorem dX8_init_191 : decode cX8_init 191 = .ok (.goto (-18), 3) := by decide +kernel
theorem dX8_init_194 : decode cX8_init 194 = .ok (.return_, 1) := by decide +kernel
theorem dX8_in_0 : decode cX8_in 0 = .ok (.iload_n 0, 1) := by decide +kernel
theorem dX8_in_1 : decode cX8_in 1 = .ok (.iload_n 1, 1) := by decide +kernel
theorem dX8_in_2 : decode cX8_in 2 = .ok (.if_icmp .lt 12, 3) := by decide +kernel
theorem dX8_in_5 : decode cX8_in 5 = .ok (.iload_n 0, 1) := by decide +kernel
theorem dX8_in_6 : decode cX8_in 6 = .ok (.iload_n 2, 1) := by decide +kernel
theorem dX8_in_7 : decode cX8_in 7 = .ok (.if_icmp .gt 7, 3) := by decide +kernel
theorem dX8_in_10 : decode cX8_in 10 = .ok (.iconst 1, 1) := by decide +kernel
theorem dX8_in_11 : decode cX8_in 11 = .ok (.goto 4, 3) := by decide +kernel
theorem dX8_in_14 : decode cX8_in 14 = .ok (.iconst 0, 1) := by decide +kernel
theorem dX8_in_15 : decode cX8_in 15 = .ok (.ireturn, 1) := by decide +kernel
theorem dX8_isNear_0 : decode cX8_isNear 0 = .ok (.iload_n 0, 1) := by decide +kernel
theorem dX8_isNear_1 : decode cX8_isNear 1 = .ok (.iload_n 2, 1) := by decide +kernel
theorem dX8_isNear_2 : decode cX8_isNear 2 = .ok (.ineg, 1) := by decide +kernel
theorem dX8_isNear_3 : decode cX8_isNear 3 = .ok (.iload_n 2, 1) := by decide +kernel
theorem dX8_isNear_4 : decode cX8_isNear 4 = .ok (.invokestatic 74, 3) := by decide +kernel
theorem dX8_isNear_7 : decode cX8_isNear 7 = .ok (.ifCond .eq 17, 3) := by decide +kernel
theorem dX8_isNear_10 : decode cX8_isNear 10 = .ok (.iload_n 1, 1) := by decide +kernel
theorem dX8_isNear_11 : decode cX8_isNear 11 = .ok (.iload_n 2, 1) := by decide +kernel
theorem dX8_isNear_12 : decode cX8_isNear 12 = .ok (.ineg, 1) := by decide +kernel
theorem dX8_isNear_13 : decode cX8_isNear 13 = .ok (.iload_n 2, 1) := by decide +kernel
theorem dX8_isNear_14 : decode cX8_isNear 14 = .ok (.invokestatic 74, 3) := by decide +kernel
theorem dX8_isNear_17 : decode cX8_isNear 17 = .ok (.ifCond .eq 7, 3) := by decide +kernel
theorem dX8_isNear_20 : decode cX8_isNear 20 = .ok (.iconst 1, 1) := by decide +kernel
theorem dX8_isNear_21 : decode cX8_isNear 21 = .ok (.goto 4, 3) := by decide +kernel
theorem dX8_isNear_24 : decode cX8_isNear 24 = .ok (.iconst 0, 1) := by decide +kernel
theorem dX8_isNear_25 : decode cX8_isNear 25 = .ok (.ireturn, 1) := by decide +kernel
theorem dX8_floored_0 : decode cX8_floored 0 = .ok (.lload_n 0, 1) := by decide +kernel
theorem dX8_floored_1 : decode cX8_floored 1 = .ok (.iload_n 2, 1) := by decide +kernel
theorem dX8_floored_2 : decode cX8_floored 2 = .ok (.i2l, 1) := by decide +kernel
theorem dX8_floored_3 : decode cX8_floored 3 = .ok (.ldiv, 1) := by decide +kernel
theorem dX8_floored_4 : decode cX8_floored 4 = .ok (.lstore_n 3, 1) := by decide +kernel
theorem dX8_floored_5 : decode cX8_floored 5 = .ok (.lload_n 0, 1) := by decide +kernel
theorem dX8_floored_6 : decode cX8_floored 6 = .ok (.iload_n 2, 1) := by decide +kernel
theorem dX8_floored_7 : decode cX8_floored 7 = .ok (.i2l, 1) := by decide +kernel
theorem dX8_floored_8 : decode cX8_floored 8 = .ok (.lrem, 1) := by decide +kernel
theorem dX8_floored_9 : decode cX8_floored 9 = .ok (.lconst 0, 1) := by decide +kernel
theorem dX8_floored_10 : decode cX8_floored 10 = .ok (.lcmp, 1) := by decide +kernel
theorem dX8_floored_11 : decode cX8_floored 11 = .ok (.ifCond .ge 9, 3) := by decide +kernel
theorem dX8_floored_14 : decode cX8_floored 14 = .ok (.lload_n 3, 1) := by decide +kernel
theorem dX8_floored_15 : decode cX8_floored 15 = .ok (.lconst 1, 1) := by decide +kernel
theorem dX8_floored_16 : decode cX8_floored 16 = .ok (.lsub, 1) := by decide +kernel
theorem dX8_floored_17 : decode cX8_floored 17 = .ok (.goto 4, 3) := by decide +kernel
theorem dX8_floored_20 : decode cX8_floored 20 = .ok (.lload_n 3, 1) := by decide +kernel
theorem dX8_floored_21 : decode cX8_floored 21 = .ok (.l2i, 1) := by decide +kernel
theorem dX8_floored_22 : decode cX8_floored 22 = .ok (.ireturn, 1) := by decide +kernel
theorem dX8_isTold_0 : decode cX8_isTold 0 = .ok (.iload_n 0, 1) := by decide +kernel
theorem dX8_isTold_1 : decode cX8_isTold 1 = .ok (.ifCond .ne 12, 3) := by decide +kernel
theorem dX8_isTold_4 : decode cX8_isTold 4 = .ok (.iload_n 1, 1) := by decide +kernel
theorem dX8_isTold_5 : decode cX8_isTold 5 = .ok (.iconst 0, 1) := by decide +kernel
theorem dX8_isTold_6 : decode cX8_isTold 6 = .ok (.iconst 2, 1) := by decide +kernel
theorem dX8_isTold_7 : decode cX8_isTold 7 = .ok (.invokestatic 74, 3) := by decide +kernel
theorem dX8_isTold_10 : decode cX8_isTold 10 = .ok (.goto 58, 3) := by decide +kernel
theorem dX8_isTold_13 : decode cX8_isTold 13 = .ok (.iload_n 0, 1) := by decide +kernel
theorem dX8_isTold_14 : decode cX8_isTold 14 = .ok (.iconst 3, 1) := by decide +kernel
theorem dX8_isTold_15 : decode cX8_isTold 15 = .ok (.if_icmp .ge 14, 3) := by decide +kernel
theorem dX8_isTold_18 : decode cX8_isTold 18 = .ok (.iload_n 1, 1) := by decide +kernel
theorem dX8_isTold_19 : decode cX8_isTold 19 = .ok (.bipush (-40), 2) := by decide +kernel
theorem dX8_isTold_21 : decode cX8_isTold 21 = .ok (.bipush 40, 2) := by decide +kernel
theorem dX8_isTold_23 : decode cX8_isTold 23 = .ok (.invokestatic 74, 3) := by decide +kernel
theorem dX8_isTold_26 : decode cX8_isTold 26 = .ok (.goto 42, 3) := by decide +kernel
theorem dX8_isTold_29 : decode cX8_isTold 29 = .ok (.iload_n 0, 1) := by decide +kernel
theorem dX8_isTold_30 : decode cX8_isTold 30 = .ok (.iconst 3, 1) := by decide +kernel
theorem dX8_isTold_31 : decode cX8_isTold 31 = .ok (.if_icmp .ne 14, 3) := by decide +kernel
theorem dX8_isTold_34 : decode cX8_isTold 34 = .ok (.iload_n 1, 1) := by decide +kernel
theorem dX8_isTold_35 : decode cX8_isTold 35 = .ok (.iconst 0, 1) := by decide +kernel
theorem dX8_isTold_36 : decode cX8_isTold 36 = .ok (.sipush 400, 3) := by decide +kernel
theorem dX8_isTold_39 : decode cX8_isTold 39 = .ok (.invokestatic 74, 3) := by decide +kernel
theorem dX8_isTold_42 : decode cX8_isTold 42 = .ok (.goto 26, 3) := by decide +kernel
theorem dX8_isTold_45 : decode cX8_isTold 45 = .ok (.iload_n 0, 1) := by decide +kernel
theorem dX8_isTold_46 : decode cX8_isTold 46 = .ok (.iconst 4, 1) := by decide +kernel
theorem dX8_isTold_47 : decode cX8_isTold 47 = .ok (.if_icmp .ne 14, 3) := by decide +kernel
theorem dX8_isTold_50 : decode cX8_isTold 50 = .ok (.iload_n 1, 1) := by decide +kernel
theorem dX8_isTold_51 : decode cX8_isTold 51 = .ok (.iconst 0, 1) := by decide +kernel
theorem dX8_isTold_52 : decode cX8_isTold 52 = .ok (.sipush 900, 3) := by decide +kernel
theorem dX8_isTold_55 : decode cX8_isTold 55 = .ok (.invokestatic 74, 3) := by decide +kernel
theorem dX8_isTold_58 : decode cX8_isTold 58 = .ok (.goto 10, 3) := by decide +kernel
theorem dX8_isTold_61 : decode cX8_isTold 61 = .ok (.iload_n 1, 1) := by decide +kernel
theorem dX8_isTold_62 : decode cX8_isTold 62 = .ok (.iconst 0, 1) := by decide +kernel
theorem dX8_isTold_63 : decode cX8_isTold 63 = .ok (.bipush 90, 2) := by decide +kernel
theorem dX8_isTold_65 : decode cX8_isTold 65 = .ok (.invokestatic 74, 3) := by decide +kernel
theorem dX8_isTold_68 : decode cX8_isTold 68 = .ok (.ireturn, 1) := by decide +kernel
theorem dX8_isBody_0 : decode cX8_isBody 0 = .ok (.iload_n 1, 1) := by decide +kernel
theorem dX8_isBody_1 : decode cX8_isBody 1 = .ok (.iconst 0, 1) := by decide +kernel
theorem dX8_isBody_2 : decode cX8_isBody 2 = .ok (.aload_n 0, 1) := by decide +kernel
theorem dX8_isBody_3 : decode cX8_isBody 3 = .ok (.getfield 78, 3) := by decide +kernel
theorem dX8_isBody_6 : decode cX8_isBody 6 = .ok (.iconst 1, 1) := by decide +kernel
theorem dX8_isBody_7 : decode cX8_isBody 7 = .ok (.isub, 1) := by decide +kernel
theorem dX8_isBody_8 : decode cX8_isBody 8 = .ok (.invokestatic 74, 3) := by decide +kernel
theorem dX8_isBody_11 : decode cX8_isBody 11 = .ok (.ireturn, 1) := by decide +kernel
theorem dX8_body_0 : decode cX8_body 0 = .ok (.iload_n 1, 1) := by decide +kernel
theorem dX8_body_1 : decode cX8_body 1 = .ok (.iconst 0, 1) := by decide +kernel
theorem dX8_body_2 : decode cX8_body 2 = .ok (.iconst 2, 1) := by decide +kernel
theorem dX8_body_3 : decode cX8_body 3 = .ok (.invokestatic 74, 3) := by decide +kernel
theorem dX8_body_6 : decode cX8_body 6 = .ok (.ifCond .eq 25, 3) := by decide +kernel
theorem dX8_body_9 : decode cX8_body 9 = .ok (.iload_n 2, 1) := by decide +kernel
theorem dX8_body_10 : decode cX8_body 10 = .ok (.iload_n 3, 1) := by decide +kernel
theorem dX8_body_11 : decode cX8_body 11 = .ok (.bipush 40, 2) := by decide +kernel
theorem dX8_body_13 : decode cX8_body 13 = .ok (.invokestatic 81, 3) := by decide +kernel
theorem dX8_body_16 : decode cX8_body 16 = .ok (.ifCond .eq 15, 3) := by decide +kernel
theorem dX8_body_19 : decode cX8_body 19 = .ok (.iload 4, 2) := by decide +kernel
theorem dX8_body_21 : decode cX8_body 21 = .ok (.iconst 0, 1) := by decide +kernel
theorem dX8_body_22 : decode cX8_body 22 = .ok (.sipush 400, 3) := by decide +kernel
theorem dX8_body_25 : decode cX8_body 25 = .ok (.invokestatic 74, 3) := by decide +kernel
theorem dX8_body_28 : decode cX8_body 28 = .ok (.ifCond .ne 5, 3) := by decide +kernel
theorem dX8_body_31 : decode cX8_body 31 = .ok (.iconst (-1), 1) := by decide +kernel
theorem dX8_body_32 : decode cX8_body 32 = .ok (.ireturn, 1) := by decide +kernel
theorem dX8_body_33 : decode cX8_body 33 = .ok (.aload_n 0, 1) := by decide +kernel
theorem dX8_body_34 : decode cX8_body 34 = .ok (.getfield 78, 3) := by decide +kernel
theorem dX8_body_37 : decode cX8_body 37 = .ok (.bipush 8, 2) := by decide +kernel
theorem dX8_body_39 : decode cX8_body 39 = .ok (.if_icmp .ne 6, 3) := by decide +kernel
theorem dX8_body_42 : decode cX8_body 42 = .ok (.bipush (-3), 2) := by decide +kernel
theorem dX8_body_44 : decode cX8_body 44 = .ok (.ireturn, 1) := by decide +kernel
theorem dX8_body_45 : decode cX8_body 45 = .ok (.bipush 6, 2) := by decide +kernel
theorem dX8_body_47 : decode cX8_body 47 = .ok (.aload_n 0, 1) := by decide +kernel
theorem dX8_body_48 : decode cX8_body 48 = .ok (.getfield 78, 3) := by decide +kernel
theorem dX8_body_51 : decode cX8_body 51 = .ok (.imul, 1) := by decide +kernel
theorem dX8_body_52 : decode cX8_body 52 = .ok (.istore 5, 2) := by decide +kernel
theorem dX8_body_54 : decode cX8_body 54 = .ok (.aload_n 0, 1) := by decide +kernel
theorem dX8_body_55 : decode cX8_body 55 = .ok (.getfield 7, 3) := by decide +kernel
theorem dX8_body_58 : decode cX8_body 58 = .ok (.iload 5, 2) := by decide +kernel
theorem dX8_body_60 : decode cX8_body 60 = .ok (.iload_n 1, 1) := by decide +kernel
theorem dX8_body_61 : decode cX8_body 61 = .ok (.iastore, 1) := by decide +kernel
theorem dX8_body_62 : decode cX8_body 62 = .ok (.aload_n 0, 1) := by decide +kernel
theorem dX8_body_63 : decode cX8_body 63 = .ok (.getfield 7, 3) := by decide +kernel
theorem dX8_body_66 : decode cX8_body 66 = .ok (.iload 5, 2) := by decide +kernel
theorem dX8_body_68 : decode cX8_body 68 = .ok (.iconst 1, 1) := by decide +kernel
theorem dX8_body_69 : decode cX8_body 69 = .ok (.iadd, 1) := by decide +kernel
theorem dX8_body_70 : decode cX8_body 70 = .ok (.iload_n 2, 1) := by decide +kernel
theorem dX8_body_71 : decode cX8_body 71 = .ok (.iastore, 1) := by decide +kernel
theorem dX8_body_72 : decode cX8_body 72 = .ok (.aload_n 0, 1) := by decide +kernel
theorem dX8_body_73 : decode cX8_body 73 = .ok (.getfield 7, 3) := by decide +kernel
theorem dX8_body_76 : decode cX8_body 76 = .ok (.iload 5, 2) := by decide +kernel
theorem dX8_body_78 : decode cX8_body 78 = .ok (.iconst 2, 1) := by decide +kernel
theorem dX8_body_79 : decode cX8_body 79 = .ok (.iadd, 1) := by decide +kernel
theorem dX8_body_80 : decode cX8_body 80 = .ok (.iload_n 3, 1) := by decide +kernel
theorem dX8_body_81 : decode cX8_body 81 = .ok (.iastore, 1) := by decide +kernel
theorem dX8_body_82 : decode cX8_body 82 = .ok (.aload_n 0, 1) := by decide +kernel
theorem dX8_body_83 : decode cX8_body 83 = .ok (.getfield 7, 3) := by decide +kernel
theorem dX8_body_86 : decode cX8_body 86 = .ok (.iload 5, 2) := by decide +kernel
theorem dX8_body_88 : decode cX8_body 88 = .ok (.iconst 3, 1) := by decide +kernel
theorem dX8_body_89 : decode cX8_body 89 = .ok (.iadd, 1) := by decide +kernel
theorem dX8_body_90 : decode cX8_body 90 = .ok (.iload 4, 2) := by decide +kernel
theorem dX8_body_92 : decode cX8_body 92 = .ok (.iastore, 1) := by decide +kernel
theorem dX8_body_93 : decode cX8_body 93 = .ok (.aload_n 0, 1) := by decide +kernel
theorem dX8_body_94 : decode cX8_body 94 = .ok (.getfield 7, 3) := by decide +kernel
theorem dX8_body_97 : decode cX8_body 97 = .ok (.iload 5, 2) := by decide +kernel
theorem dX8_body_99 : decode cX8_body 99 = .ok (.iconst 4, 1) := by decide +kernel
theorem dX8_body_100 : decode cX8_body 100 = .ok (.iadd, 1) := by decide +kernel
theorem dX8_body_101 : decode cX8_body 101 = .ok (.iconst 0, 1) := by decide +kernel
theorem dX8_body_102 : decode cX8_body 102 = .ok (.iastore, 1) := by decide +kernel
theorem dX8_body_103 : decode cX8_body 103 = .ok (.aload_n 0, 1) := by decide +kernel
theorem dX8_body_104 : decode cX8_body 104 = .ok (.getfield 7, 3) := by decide +kernel
theorem dX8_body_107 : decode cX8_body 107 = .ok (.iload 5, 2) := by decide +kernel
theorem dX8_body_109 : decode cX8_body 109 = .ok (.iconst 5, 1) := by decide +kernel
theorem dX8_body_110 : decode cX8_body 110 = .ok (.iadd, 1) := by decide +kernel
theorem dX8_body_111 : decode cX8_body 111 = .ok (.bipush 90, 2) := by decide +kernel
theorem dX8_body_113 : decode cX8_body 113 = .ok (.iastore, 1) := by decide +kernel
theorem dX8_body_114 : decode cX8_body 114 = .ok (.aload_n 0, 1) := by decide +kernel
theorem dX8_body_115 : decode cX8_body 115 = .ok (.dup, 1) := by decide +kernel
theorem dX8_body_116 : decode cX8_body 116 = .ok (.getfield 78, 3) := by decide +kernel
theorem dX8_body_119 : decode cX8_body 119 = .ok (.iconst 1, 1) := by decide +kernel
theorem dX8_body_120 : decode cX8_body 120 = .ok (.iadd, 1) := by decide +kernel
theorem dX8_body_121 : decode cX8_body 121 = .ok (.putfield 78, 3) := by decide +kernel
theorem dX8_body_124 : decode cX8_body 124 = .ok (.aload_n 0, 1) := by decide +kernel
theorem dX8_body_125 : decode cX8_body 125 = .ok (.getfield 78, 3) := by decide +kernel
theorem dX8_body_128 : decode cX8_body 128 = .ok (.iconst 1, 1) := by decide +kernel
theorem dX8_body_129 : decode cX8_body 129 = .ok (.isub, 1) := by decide +kernel
theorem dX8_body_130 : decode cX8_body 130 = .ok (.ireturn, 1) := by decide +kernel
theorem dX8_set_0 : decode cX8_set 0 = .ok (.aload_n 0, 1) := by decide +kernel
theorem dX8_set_1 : decode cX8_set 1 = .ok (.iload_n 1, 1) := by decide +kernel
theorem dX8_set_2 : decode cX8_set 2 = .ok (.invokevirtual 84, 3) := by decide +kernel
theorem dX8_set_5 : decode cX8_set 5 = .ok (.ifCond .eq 20, 3) := by decide +kernel
theorem dX8_set_8 : decode cX8_set 8 = .ok (.iload_n 2, 1) := by decide +kernel
theorem dX8_set_9 : decode cX8_set 9 = .ok (.iconst 0, 1) := by decide +kernel
theorem dX8_set_10 : decode cX8_set 10 = .ok (.iconst 5, 1) := by decide +kernel
theorem dX8_set_11 : decode cX8_set 11 = .ok (.invokestatic 74, 3) := by decide +kernel
theorem dX8_set_14 : decode cX8_set 14 = .ok (.ifCond .eq 11, 3) := by decide +kernel
theorem dX8_set_17 : decode cX8_set 17 = .ok (.iload_n 2, 1) := by decide +kernel
theorem dX8_set_18 : decode cX8_set 18 = .ok (.iload_n 3, 1) := by decide +kernel
theorem dX8_set_19 : decode cX8_set 19 = .ok (.invokestatic 88, 3) := by decide +kernel
theorem dX8_set_22 : decode cX8_set 22 = .ok (.ifCond .ne 6, 3) := by decide +kernel
theorem dX8_set_25 : decode cX8_set 25 = .ok (.ldc 92, 2) := by decide +kernel
theorem dX8_set_27 : decode cX8_set 27 = .ok (.ireturn, 1) := by decide +kernel
theorem dX8_set_28 : decode cX8_set 28 = .ok (.aload_n 0, 1) := by decide +kernel
theorem dX8_set_29 : decode cX8_set 29 = .ok (.getfield 7, 3) := by decide +kernel
theorem dX8_set_32 : decode cX8_set 32 = .ok (.bipush 6, 2) := by decide +kernel
theorem dX8_set_34 : decode cX8_set 34 = .ok (.iload_n 1, 1) := by decide +kernel
theorem dX8_set_35 : decode cX8_set 35 = .ok (.imul, 1) := by decide +kernel
theorem dX8_set_36 : decode cX8_set 36 = .ok (.iload_n 2, 1) := by decide +kernel
theorem dX8_set_37 : decode cX8_set 37 = .ok (.iadd, 1) := by decide +kernel
theorem dX8_set_38 : decode cX8_set 38 = .ok (.iaload, 1) := by decide +kernel
theorem dX8_set_39 : decode cX8_set 39 = .ok (.istore 4, 2) := by decide +kernel
theorem dX8_set_41 : decode cX8_set 41 = .ok (.aload_n 0, 1) := by decide +kernel
theorem dX8_set_42 : decode cX8_set 42 = .ok (.getfield 7, 3) := by decide +kernel
theorem dX8_set_45 : decode cX8_set 45 = .ok (.bipush 6, 2) := by decide +kernel
theorem dX8_set_47 : decode cX8_set 47 = .ok (.iload_n 1, 1) := by decide +kernel
theorem dX8_set_48 : decode cX8_set 48 = .ok (.imul, 1) := by decide +kernel
theorem dX8_set_49 : decode cX8_set 49 = .ok (.iload_n 2, 1) := by decide +kernel
theorem dX8_set_50 : decode cX8_set 50 = .ok (.iadd, 1) := by decide +kernel
theorem dX8_set_51 : decode cX8_set 51 = .ok (.iload_n 3, 1) := by decide +kernel
theorem dX8_set_52 : decode cX8_set 52 = .ok (.iastore, 1) := by decide +kernel
theorem dX8_set_53 : decode cX8_set 53 = .ok (.iload 4, 2) := by decide +kernel
theorem dX8_set_55 : decode cX8_set 55 = .ok (.ireturn, 1) := by decide +kernel
theorem dX8_drop_0 : decode cX8_drop 0 = .ok (.aload_n 0, 1) := by decide +kernel
theorem dX8_drop_1 : decode cX8_drop 1 = .ok (.getfield 78, 3) := by decide +kernel
theorem dX8_drop_4 : decode cX8_drop 4 = .ok (.ifCond .ne 6, 3) := by decide +kernel
theorem dX8_drop_7 : decode cX8_drop 7 = .ok (.bipush (-2), 2) := by decide +kernel
theorem dX8_drop_9 : decode cX8_drop 9 = .ok (.ireturn, 1) := by decide +kernel
theorem dX8_drop_10 : decode cX8_drop 10 = .ok (.aload_n 0, 1) := by decide +kernel
theorem dX8_drop_11 : decode cX8_drop 11 = .ok (.dup, 1) := by decide +kernel
theorem dX8_drop_12 : decode cX8_drop 12 = .ok (.getfield 78, 3) := by decide +kernel
theorem dX8_drop_15 : decode cX8_drop 15 = .ok (.iconst 1, 1) := by decide +kernel
theorem dX8_drop_16 : decode cX8_drop 16 = .ok (.isub, 1) := by decide +kernel
theorem dX8_drop_17 : decode cX8_drop 17 = .ok (.putfield 78, 3) := by decide +kernel
theorem dX8_drop_20 : decode cX8_drop 20 = .ok (.aload_n 0, 1) := by decide +kernel
theorem dX8_drop_21 : decode cX8_drop 21 = .ok (.getfield 78, 3) := by decide +kernel
theorem dX8_drop_24 : decode cX8_drop 24 = .ok (.ireturn, 1) := by decide +kernel
theorem dX8_field_0 : decode cX8_field 0 = .ok (.iload_n 1, 1) := by decide +kernel
theorem dX8_field_1 : decode cX8_field 1 = .ok (.iconst 0, 1) := by decide +kernel
theorem dX8_field_2 : decode cX8_field 2 = .ok (.iconst 1, 1) := by decide +kernel
theorem dX8_field_3 : decode cX8_field 3 = .ok (.invokestatic 74, 3) := by decide +kernel
theorem dX8_field_6 : decode cX8_field 6 = .ok (.ifCond .eq 14, 3) := by decide +kernel
theorem dX8_field_9 : decode cX8_field 9 = .ok (.iload_n 2, 1) := by decide +kernel
theorem dX8_field_10 : decode cX8_field 10 = .ok (.bipush (-8), 2) := by decide +kernel
theorem dX8_field_12 : decode cX8_field 12 = .ok (.bipush 8, 2) := by decide +kernel
theorem dX8_field_14 : decode cX8_field 14 = .ok (.invokestatic 74, 3) := by decide +kernel
theorem dX8_field_17 : decode cX8_field 17 = .ok (.ifCond .ne 6, 3) := by decide +kernel
theorem dX8_field_20 : decode cX8_field 20 = .ok (.ldc 92, 2) := by decide +kernel
theorem dX8_field_22 : decode cX8_field 22 = .ok (.ireturn, 1) := by decide +kernel
theorem dX8_field_23 : decode cX8_field 23 = .ok (.iload_n 1, 1) := by decide +kernel
theorem dX8_field_24 : decode cX8_field 24 = .ok (.ifCond .ne 10, 3) := by decide +kernel
theorem dX8_field_27 : decode cX8_field 27 = .ok (.aload_n 0, 1) := by decide +kernel
theorem dX8_field_28 : decode cX8_field 28 = .ok (.getfield 93, 3) := by decide +kernel
theorem dX8_field_31 : decode cX8_field 31 = .ok (.goto 7, 3) := by decide +kernel
theorem dX8_field_34 : decode cX8_field 34 = .ok (.aload_n 0, 1) := by decide +kernel
theorem dX8_field_35 : decode cX8_field 35 = .ok (.getfield 96, 3) := by decide +kernel
theorem dX8_field_38 : decode cX8_field 38 = .ok (.istore_n 3, 1) := by decide +kernel
theorem dX8_field_39 : decode cX8_field 39 = .ok (.aload_n 0, 1) := by decide +kernel
theorem dX8_field_40 : decode cX8_field 40 = .ok (.iload_n 1, 1) := by decide +kernel
theorem dX8_field_41 : decode cX8_field 41 = .ok (.ifCond .ne 7, 3) := by decide +kernel
theorem dX8_field_44 : decode cX8_field 44 = .ok (.iload_n 2, 1) := by decide +kernel
theorem dX8_field_45 : decode cX8_field 45 = .ok (.goto 7, 3) := by decide +kernel
theorem dX8_field_48 : decode cX8_field 48 = .ok (.aload_n 0, 1) := by decide +kernel
theorem dX8_field_49 : decode cX8_field 49 = .ok (.getfield 93, 3) := by decide +kernel
theorem dX8_field_52 : decode cX8_field 52 = .ok (.putfield 93, 3) := by decide +kernel
theorem dX8_field_55 : decode cX8_field 55 = .ok (.aload_n 0, 1) := by decide +kernel
theorem dX8_field_56 : decode cX8_field 56 = .ok (.iload_n 1, 1) := by decide +kernel
theorem dX8_field_57 : decode cX8_field 57 = .ok (.iconst 1, 1) := by decide +kernel
theorem dX8_field_58 : decode cX8_field 58 = .ok (.if_icmp .ne 7, 3) := by decide +kernel
theorem dX8_field_61 : decode cX8_field 61 = .ok (.iload_n 2, 1) := by decide +kernel
theorem dX8_field_62 : decode cX8_field 62 = .ok (.goto 7, 3) := by decide +kernel
theorem dX8_field_65 : decode cX8_field 65 = .ok (.aload_n 0, 1) := by decide +kernel
theorem dX8_field_66 : decode cX8_field 66 = .ok (.getfield 96, 3) := by decide +kernel
theorem dX8_field_69 : decode cX8_field 69 = .ok (.putfield 96, 3) := by decide +kernel
theorem dX8_field_72 : decode cX8_field 72 = .ok (.iload_n 3, 1) := by decide +kernel
theorem dX8_field_73 : decode cX8_field 73 = .ok (.ireturn, 1) := by decide +kernel
theorem dX8_bendOf_0 : decode cX8_bendOf 0 = .ok (.iload_n 3, 1) := by decide +kernel
theorem dX8_bendOf_1 : decode cX8_bendOf 1 = .ok (.aload_n 0, 1) := by decide +kernel
theorem dX8_bendOf_2 : decode cX8_bendOf 2 = .ok (.getfield 7, 3) := by decide +kernel
theorem dX8_bendOf_5 : decode cX8_bendOf 5 = .ok (.bipush 6, 2) := by decide +kernel
theorem dX8_bendOf_7 : decode cX8_bendOf 7 = .ok (.iload_n 2, 1) := by decide +kernel
theorem dX8_bendOf_8 : decode cX8_bendOf 8 = .ok (.imul, 1) := by decide +kernel
theorem dX8_bendOf_9 : decode cX8_bendOf 9 = .ok (.iconst 1, 1) := by decide +kernel
theorem dX8_bendOf_10 : decode cX8_bendOf 10 = .ok (.iadd, 1) := by decide +kernel
theorem dX8_bendOf_11 : decode cX8_bendOf 11 = .ok (.iaload, 1) := by decide +kernel
theorem dX8_bendOf_12 : decode cX8_bendOf 12 = .ok (.isub, 1) := by decide +kernel
theorem dX8_bendOf_13 : decode cX8_bendOf 13 = .ok (.istore 6, 2) := by decide +kernel
theorem dX8_bendOf_15 : decode cX8_bendOf 15 = .ok (.iload 4, 2) := by decide +kernel
theorem dX8_bendOf_17 : decode cX8_bendOf 17 = .ok (.aload_n 0, 1) := by decide +kernel
theorem dX8_bendOf_18 : decode cX8_bendOf 18 = .ok (.getfield 7, 3) := by decide +kernel
theorem dX8_bendOf_21 : decode cX8_bendOf 21 = .ok (.bipush 6, 2) := by decide +kernel
theorem dX8_bendOf_23 : decode cX8_bendOf 23 = .ok (.iload_n 2, 1) := by decide +kernel
theorem dX8_bendOf_24 : decode cX8_bendOf 24 = .ok (.imul, 1) := by decide +kernel
theorem dX8_bendOf_25 : decode cX8_bendOf 25 = .ok (.iconst 2, 1) := by decide +kernel
theorem dX8_bendOf_26 : decode cX8_bendOf 26 = .ok (.iadd, 1) := by decide +kernel
theorem dX8_bendOf_27 : decode cX8_bendOf 27 = .ok (.iaload, 1) := by decide +kernel
theorem dX8_bendOf_28 : decode cX8_bendOf 28 = .ok (.isub, 1) := by decide +kernel
theorem dX8_bendOf_29 : decode cX8_bendOf 29 = .ok (.istore 7, 2) := by decide +kernel
theorem dX8_bendOf_31 : decode cX8_bendOf 31 = .ok (.iload 6, 2) := by decide +kernel
theorem dX8_bendOf_33 : decode cX8_bendOf 33 = .ok (.iload 6, 2) := by decide +kernel
theorem dX8_bendOf_35 : decode cX8_bendOf 35 = .ok (.imul, 1) := by decide +kernel
theorem dX8_bendOf_36 : decode cX8_bendOf 36 = .ok (.iload 7, 2) := by decide +kernel
theorem dX8_bendOf_38 : decode cX8_bendOf 38 = .ok (.iload 7, 2) := by decide +kernel
theorem dX8_bendOf_40 : decode cX8_bendOf 40 = .ok (.imul, 1) := by decide +kernel
theorem dX8_bendOf_41 : decode cX8_bendOf 41 = .ok (.iadd, 1) := by decide +kernel
theorem dX8_bendOf_42 : decode cX8_bendOf 42 = .ok (.istore 8, 2) := by decide +kernel
theorem dX8_bendOf_44 : decode cX8_bendOf 44 = .ok (.iload 5, 2) := by decide +kernel
theorem dX8_bendOf_46 : decode cX8_bendOf 46 = .ok (.ifCond .ne 8, 3) := by decide +kernel
theorem dX8_bendOf_49 : decode cX8_bendOf 49 = .ok (.iload 6, 2) := by decide +kernel
theorem dX8_bendOf_51 : decode cX8_bendOf 51 = .ok (.goto 5, 3) := by decide +kernel
theorem dX8_bendOf_54 : decode cX8_bendOf 54 = .ok (.iload 7, 2) := by decide +kernel
theorem dX8_bendOf_56 : decode cX8_bendOf 56 = .ok (.istore 9, 2) := by decide +kernel
theorem dX8_bendOf_58 : decode cX8_bendOf 58 = .ok (.iload 8, 2) := by decide +kernel
theorem dX8_bendOf_60 : decode cX8_bendOf 60 = .ok (.ifCond .eq 36, 3) := by decide +kernel
theorem dX8_bendOf_63 : decode cX8_bendOf 63 = .ok (.iload_n 1, 1) := by decide +kernel
theorem dX8_bendOf_64 : decode cX8_bendOf 64 = .ok (.iconst 2, 1) := by decide +kernel
theorem dX8_bendOf_65 : decode cX8_bendOf 65 = .ok (.if_icmp .ne 33, 3) := by decide +kernel
theorem dX8_bendOf_68 : decode cX8_bendOf 68 = .ok (.iload 8, 2) := by decide +kernel
theorem dX8_bendOf_70 : decode cX8_bendOf 70 = .ok (.aload_n 0, 1) := by decide +kernel
theorem dX8_bendOf_71 : decode cX8_bendOf 71 = .ok (.getfield 7, 3) := by decide +kernel
theorem dX8_bendOf_74 : decode cX8_bendOf 74 = .ok (.bipush 6, 2) := by decide +kernel
theorem dX8_bendOf_76 : decode cX8_bendOf 76 = .ok (.iload_n 2, 1) := by decide +kernel
theorem dX8_bendOf_77 : decode cX8_bendOf 77 = .ok (.imul, 1) := by decide +kernel
theorem dX8_bendOf_78 : decode cX8_bendOf 78 = .ok (.iconst 5, 1) := by decide +kernel
theorem dX8_bendOf_79 : decode cX8_bendOf 79 = .ok (.iadd, 1) := by decide +kernel
theorem dX8_bendOf_80 : decode cX8_bendOf 80 = .ok (.iaload, 1) := by decide +kernel
theorem dX8_bendOf_81 : decode cX8_bendOf 81 = .ok (.aload_n 0, 1) := by decide +kernel
theorem dX8_bendOf_82 : decode cX8_bendOf 82 = .ok (.getfield 7, 3) := by decide +kernel
theorem dX8_bendOf_85 : decode cX8_bendOf 85 = .ok (.bipush 6, 2) := by decide +kernel
theorem dX8_bendOf_87 : decode cX8_bendOf 87 = .ok (.iload_n 2, 1) := by decide +kernel
theorem dX8_bendOf_88 : decode cX8_bendOf 88 = .ok (.imul, 1) := by decide +kernel
theorem dX8_bendOf_89 : decode cX8_bendOf 89 = .ok (.iconst 5, 1) := by decide +kernel
theorem dX8_bendOf_90 : decode cX8_bendOf 90 = .ok (.iadd, 1) := by decide +kernel
theorem dX8_bendOf_91 : decode cX8_bendOf 91 = .ok (.iaload, 1) := by decide +kernel
theorem dX8_bendOf_92 : decode cX8_bendOf 92 = .ok (.imul, 1) := by decide +kernel
theorem dX8_bendOf_93 : decode cX8_bendOf 93 = .ok (.if_icmp .le 5, 3) := by decide +kernel
theorem dX8_bendOf_96 : decode cX8_bendOf 96 = .ok (.iconst 0, 1) := by decide +kernel
theorem dX8_bendOf_97 : decode cX8_bendOf 97 = .ok (.ireturn, 1) := by decide +kernel
theorem dX8_bendOf_98 : decode cX8_bendOf 98 = .ok (.bipush 16, 2) := by decide +kernel
theorem dX8_bendOf_100 : decode cX8_bendOf 100 = .ok (.aload_n 0, 1) := by decide +kernel
theorem dX8_bendOf_101 : decode cX8_bendOf 101 = .ok (.getfield 7, 3) := by decide +kernel
theorem dX8_bendOf_104 : decode cX8_bendOf 104 = .ok (.bipush 6, 2) := by decide +kernel
theorem dX8_bendOf_106 : decode cX8_bendOf 106 = .ok (.iload_n 2, 1) := by decide +kernel
theorem dX8_bendOf_107 : decode cX8_bendOf 107 = .ok (.imul, 1) := by decide +kernel
theorem dX8_bendOf_108 : decode cX8_bendOf 108 = .ok (.iconst 3, 1) := by decide +kernel
theorem dX8_bendOf_109 : decode cX8_bendOf 109 = .ok (.iadd, 1) := by decide +kernel
theorem dX8_bendOf_110 : decode cX8_bendOf 110 = .ok (.iaload, 1) := by decide +kernel
theorem dX8_bendOf_111 : decode cX8_bendOf 111 = .ok (.imul, 1) := by decide +kernel
theorem dX8_bendOf_112 : decode cX8_bendOf 112 = .ok (.iload 9, 2) := by decide +kernel
theorem dX8_bendOf_114 : decode cX8_bendOf 114 = .ok (.imul, 1) := by decide +kernel
theorem dX8_bendOf_115 : decode cX8_bendOf 115 = .ok (.iload 8, 2) := by decide +kernel
theorem dX8_bendOf_117 : decode cX8_bendOf 117 = .ok (.idiv, 1) := by decide +kernel
theorem dX8_bendOf_118 : decode cX8_bendOf 118 = .ok (.istore 10, 2) := by decide +kernel
theorem dX8_bendOf_120 : decode cX8_bendOf 120 = .ok (.iload_n 1, 1) := by decide +kernel
theorem dX8_bendOf_121 : decode cX8_bendOf 121 = .ok (.ifCond .ne 8, 3) := by decide +kernel
theorem dX8_bendOf_124 : decode cX8_bendOf 124 = .ok (.iload 10, 2) := by decide +kernel
theorem dX8_bendOf_126 : decode cX8_bendOf 126 = .ok (.goto 27, 3) := by decide +kernel
theorem dX8_bendOf_129 : decode cX8_bendOf 129 = .ok (.iload 10, 2) := by decide +kernel
theorem dX8_bendOf_131 : decode cX8_bendOf 131 = .ok (.i2l, 1) := by decide +kernel
theorem dX8_bendOf_132 : decode cX8_bendOf 132 = .ok (.iload 8, 2) := by decide +kernel
theorem dX8_bendOf_134 : decode cX8_bendOf 134 = .ok (.i2l, 1) := by decide +kernel
theorem dX8_bendOf_135 : decode cX8_bendOf 135 = .ok (.lmul, 1) := by decide +kernel
theorem dX8_bendOf_136 : decode cX8_bendOf 136 = .ok (.iload 8, 2) := by decide +kernel
theorem dX8_bendOf_138 : decode cX8_bendOf 138 = .ok (.aload_n 0, 1) := by decide +kernel
theorem dX8_bendOf_139 : decode cX8_bendOf 139 = .ok (.getfield 7, 3) := by decide +kernel
theorem dX8_bendOf_142 : decode cX8_bendOf 142 = .ok (.bipush 6, 2) := by decide +kernel
theorem dX8_bendOf_144 : decode cX8_bendOf 144 = .ok (.iload_n 2, 1) := by decide +kernel
theorem dX8_bendOf_145 : decode cX8_bendOf 145 = .ok (.imul, 1) := by decide +kernel
theorem dX8_bendOf_146 : decode cX8_bendOf 146 = .ok (.iconst 4, 1) := by decide +kernel
theorem dX8_bendOf_147 : decode cX8_bendOf 147 = .ok (.iadd, 1) := by decide +kernel
theorem dX8_bendOf_148 : decode cX8_bendOf 148 = .ok (.iaload, 1) := by decide +kernel
theorem dX8_bendOf_149 : decode cX8_bendOf 149 = .ok (.iadd, 1) := by decide +kernel
theorem dX8_bendOf_150 : decode cX8_bendOf 150 = .ok (.i2l, 1) := by decide +kernel
theorem dX8_bendOf_151 : decode cX8_bendOf 151 = .ok (.ldiv, 1) := by decide +kernel
theorem dX8_bendOf_152 : decode cX8_bendOf 152 = .ok (.l2i, 1) := by decide +kernel
theorem dX8_bendOf_153 : decode cX8_bendOf 153 = .ok (.ireturn, 1) := by decide +kernel
theorem dX8_bend_0 : decode cX8_bend 0 = .ok (.iload_n 1, 1) := by decide +kernel
theorem dX8_bend_1 : decode cX8_bend 1 = .ok (.iconst 0, 1) := by decide +kernel
theorem dX8_bend_2 : decode cX8_bend 2 = .ok (.iconst 2, 1) := by decide +kernel
theorem dX8_bend_3 : decode cX8_bend 3 = .ok (.invokestatic 74, 3) := by decide +kernel
theorem dX8_bend_6 : decode cX8_bend 6 = .ok (.ifCond .eq 32, 3) := by decide +kernel
theorem dX8_bend_9 : decode cX8_bend 9 = .ok (.aload_n 0, 1) := by decide +kernel
theorem dX8_bend_10 : decode cX8_bend 10 = .ok (.iload_n 2, 1) := by decide +kernel
theorem dX8_bend_11 : decode cX8_bend 11 = .ok (.invokevirtual 84, 3) := by decide +kernel
theorem dX8_bend_14 : decode cX8_bend 14 = .ok (.ifCond .eq 24, 3) := by decide +kernel
theorem dX8_bend_17 : decode cX8_bend 17 = .ok (.iload_n 3, 1) := by decide +kernel
theorem dX8_bend_18 : decode cX8_bend 18 = .ok (.iload 4, 2) := by decide +kernel
theorem dX8_bend_20 : decode cX8_bend 20 = .ok (.bipush 60, 2) := by decide +kernel
theorem dX8_bend_22 : decode cX8_bend 22 = .ok (.invokestatic 81, 3) := by decide +kernel
theorem dX8_bend_25 : decode cX8_bend 25 = .ok (.ifCond .eq 13, 3) := by decide +kernel
theorem dX8_bend_28 : decode cX8_bend 28 = .ok (.iload 5, 2) := by decide +kernel
theorem dX8_bend_30 : decode cX8_bend 30 = .ok (.iconst 0, 1) := by decide +kernel
theorem dX8_bend_31 : decode cX8_bend 31 = .ok (.iconst 1, 1) := by decide +kernel
theorem dX8_bend_32 : decode cX8_bend 32 = .ok (.invokestatic 74, 3) := by decide +kernel
theorem dX8_bend_35 : decode cX8_bend 35 = .ok (.ifCond .ne 6, 3) := by decide +kernel
theorem dX8_bend_38 : decode cX8_bend 38 = .ok (.ldc 92, 2) := by decide +kernel
theorem dX8_bend_40 : decode cX8_bend 40 = .ok (.ireturn, 1) := by decide +kernel
theorem dX8_bend_41 : decode cX8_bend 41 = .ok (.aload_n 0, 1) := by decide +kernel
theorem dX8_bend_42 : decode cX8_bend 42 = .ok (.dup, 1) := by decide +kernel
theorem dX8_bend_43 : decode cX8_bend 43 = .ok (.getfield 99, 3) := by decide +kernel
theorem dX8_bend_46 : decode cX8_bend 46 = .ok (.iload_n 1, 1) := by decide +kernel
theorem dX8_bend_47 : decode cX8_bend 47 = .ok (.ifCond .ne 7, 3) := by decide +kernel
theorem dX8_bend_50 : decode cX8_bend 50 = .ok (.lconst 1, 1) := by decide +kernel
theorem dX8_bend_51 : decode cX8_bend 51 = .ok (.goto 17, 3) := by decide +kernel
theorem dX8_bend_54 : decode cX8_bend 54 = .ok (.iload_n 1, 1) := by decide +kernel
theorem dX8_bend_55 : decode cX8_bend 55 = .ok (.iconst 1, 1) := by decide +kernel
theorem dX8_bend_56 : decode cX8_bend 56 = .ok (.if_icmp .ne 9, 3) := by decide +kernel
theorem dX8_bend_59 : decode cX8_bend 59 = .ok (.ldc2_w 103, 3) := by decide +kernel
theorem dX8_bend_62 : decode cX8_bend 62 = .ok (.goto 6, 3) := by decide +kernel
theorem dX8_bend_65 : decode cX8_bend 65 = .ok (.ldc2_w 105, 3) := by decide +kernel
theorem dX8_bend_68 : decode cX8_bend 68 = .ok (.ladd, 1) := by decide +kernel
theorem dX8_bend_69 : decode cX8_bend 69 = .ok (.putfield 99, 3) := by decide +kernel
theorem dX8_bend_72 : decode cX8_bend 72 = .ok (.aload_n 0, 1) := by decide +kernel
theorem dX8_bend_73 : decode cX8_bend 73 = .ok (.iload_n 1, 1) := by decide +kernel
theorem dX8_bend_74 : decode cX8_bend 74 = .ok (.iload_n 2, 1) := by decide +kernel
theorem dX8_bend_75 : decode cX8_bend 75 = .ok (.iload_n 3, 1) := by decide +kernel
theorem dX8_bend_76 : decode cX8_bend 76 = .ok (.iload 4, 2) := by decide +kernel
theorem dX8_bend_78 : decode cX8_bend 78 = .ok (.iload 5, 2) := by decide +kernel
theorem dX8_bend_80 : decode cX8_bend 80 = .ok (.invokevirtual 107, 3) := by decide +kernel
theorem dX8_bend_83 : decode cX8_bend 83 = .ok (.ireturn, 1) := by decide +kernel
theorem dX8_fromOf_0 : decode cX8_fromOf 0 = .ok (.iload_n 3, 1) := by decide +kernel
theorem dX8_fromOf_1 : decode cX8_fromOf 1 = .ok (.ifCond .ne 24, 3) := by decide +kernel
theorem dX8_fromOf_4 : decode cX8_fromOf 4 = .ok (.bipush 16, 2) := by decide +kernel
theorem dX8_fromOf_6 : decode cX8_fromOf 6 = .ok (.iload_n 1, 1) := by decide +kernel
theorem dX8_fromOf_7 : decode cX8_fromOf 7 = .ok (.imul, 1) := by decide +kernel
theorem dX8_fromOf_8 : decode cX8_fromOf 8 = .ok (.aload_n 0, 1) := by decide +kernel
theorem dX8_fromOf_9 : decode cX8_fromOf 9 = .ok (.getfield 93, 3) := by decide +kernel
theorem dX8_fromOf_12 : decode cX8_fromOf 12 = .ok (.iload_n 1, 1) := by decide +kernel
theorem dX8_fromOf_13 : decode cX8_fromOf 13 = .ok (.imul, 1) := by decide +kernel
theorem dX8_fromOf_14 : decode cX8_fromOf 14 = .ok (.isub, 1) := by decide +kernel
theorem dX8_fromOf_15 : decode cX8_fromOf 15 = .ok (.aload_n 0, 1) := by decide +kernel
theorem dX8_fromOf_16 : decode cX8_fromOf 16 = .ok (.getfield 96, 3) := by decide +kernel
theorem dX8_fromOf_19 : decode cX8_fromOf 19 = .ok (.iload_n 2, 1) := by decide +kernel
theorem dX8_fromOf_20 : decode cX8_fromOf 20 = .ok (.imul, 1) := by decide +kernel
theorem dX8_fromOf_21 : decode cX8_fromOf 21 = .ok (.isub, 1) := by decide +kernel
theorem dX8_fromOf_22 : decode cX8_fromOf 22 = .ok (.goto 21, 3) := by decide +kernel
theorem dX8_fromOf_25 : decode cX8_fromOf 25 = .ok (.bipush 16, 2) := by decide +kernel
theorem dX8_fromOf_27 : decode cX8_fromOf 27 = .ok (.iload_n 2, 1) := by decide +kernel
theorem dX8_fromOf_28 : decode cX8_fromOf 28 = .ok (.imul, 1) := by decide +kernel
theorem dX8_fromOf_29 : decode cX8_fromOf 29 = .ok (.aload_n 0, 1) := by decide +kernel
theorem dX8_fromOf_30 : decode cX8_fromOf 30 = .ok (.getfield 96, 3) := by decide +kernel
theorem dX8_fromOf_33 : decode cX8_fromOf 33 = .ok (.iload_n 1, 1) := by decide +kernel
theorem dX8_fromOf_34 : decode cX8_fromOf 34 = .ok (.imul, 1) := by decide +kernel
theorem dX8_fromOf_35 : decode cX8_fromOf 35 = .ok (.isub, 1) := by decide +kernel
theorem dX8_fromOf_36 : decode cX8_fromOf 36 = .ok (.aload_n 0, 1) := by decide +kernel
theorem dX8_fromOf_37 : decode cX8_fromOf 37 = .ok (.getfield 93, 3) := by decide +kernel
theorem dX8_fromOf_40 : decode cX8_fromOf 40 = .ok (.iload_n 2, 1) := by decide +kernel
theorem dX8_fromOf_41 : decode cX8_fromOf 41 = .ok (.imul, 1) := by decide +kernel
theorem dX8_fromOf_42 : decode cX8_fromOf 42 = .ok (.iadd, 1) := by decide +kernel
theorem dX8_fromOf_43 : decode cX8_fromOf 43 = .ok (.istore 4, 2) := by decide +kernel
theorem dX8_fromOf_45 : decode cX8_fromOf 45 = .ok (.iconst 0, 1) := by decide +kernel
theorem dX8_fromOf_46 : decode cX8_fromOf 46 = .ok (.istore 5, 2) := by decide +kernel
theorem dX8_fromOf_48 : decode cX8_fromOf 48 = .ok (.iload 5, 2) := by decide +kernel
theorem dX8_fromOf_50 : decode cX8_fromOf 50 = .ok (.aload_n 0, 1) := by decide +kernel
theorem dX8_fromOf_51 : decode cX8_fromOf 51 = .ok (.getfield 78, 3) := by decide +kernel
theorem dX8_fromOf_54 : decode cX8_fromOf 54 = .ok (.if_icmp .ge 33, 3) := by decide +kernel
theorem dX8_fromOf_57 : decode cX8_fromOf 57 = .ok (.iload 4, 2) := by decide +kernel
theorem dX8_fromOf_59 : decode cX8_fromOf 59 = .ok (.aload_n 0, 1) := by decide +kernel
theorem dX8_fromOf_60 : decode cX8_fromOf 60 = .ok (.aload_n 0, 1) := by decide +kernel
theorem dX8_fromOf_61 : decode cX8_fromOf 61 = .ok (.getfield 7, 3) := by decide +kernel
theorem dX8_fromOf_64 : decode cX8_fromOf 64 = .ok (.bipush 6, 2) := by decide +kernel
theorem dX8_fromOf_66 : decode cX8_fromOf 66 = .ok (.iload 5, 2) := by decide +kernel
theorem dX8_fromOf_68 : decode cX8_fromOf 68 = .ok (.imul, 1) := by decide +kernel
theorem dX8_fromOf_69 : decode cX8_fromOf 69 = .ok (.iaload, 1) := by decide +kernel
theorem dX8_fromOf_70 : decode cX8_fromOf 70 = .ok (.iload 5, 2) := by decide +kernel
theorem dX8_fromOf_72 : decode cX8_fromOf 72 = .ok (.iload_n 1, 1) := by decide +kernel
theorem dX8_fromOf_73 : decode cX8_fromOf 73 = .ok (.iload_n 2, 1) := by decide +kernel
theorem dX8_fromOf_74 : decode cX8_fromOf 74 = .ok (.iload_n 3, 1) := by decide +kernel
theorem dX8_fromOf_75 : decode cX8_fromOf 75 = .ok (.invokevirtual 107, 3) := by decide +kernel
theorem dX8_fromOf_78 : decode cX8_fromOf 78 = .ok (.isub, 1) := by decide +kernel
theorem dX8_fromOf_79 : decode cX8_fromOf 79 = .ok (.istore 4, 2) := by decide +kernel
theorem dX8_fromOf_81 : decode cX8_fromOf 81 = .ok (.iinc 5 1, 3) := by decide +kernel
theorem dX8_fromOf_84 : decode cX8_fromOf 84 = .ok (.goto (-36), 3) := by decide +kernel
theorem dX8_fromOf_87 : decode cX8_fromOf 87 = .ok (.iload 4, 2) := by decide +kernel
theorem dX8_fromOf_89 : decode cX8_fromOf 89 = .ok (.ireturn, 1) := by decide +kernel
theorem dX8_from_0 : decode cX8_from 0 = .ok (.iload_n 1, 1) := by decide +kernel
theorem dX8_from_1 : decode cX8_from 1 = .ok (.iload_n 2, 1) := by decide +kernel
theorem dX8_from_2 : decode cX8_from 2 = .ok (.bipush 60, 2) := by decide +kernel
theorem dX8_from_4 : decode cX8_from 4 = .ok (.invokestatic 81, 3) := by decide +kernel
theorem dX8_from_7 : decode cX8_from 7 = .ok (.ifCond .eq 22, 3) := by decide +kernel
theorem dX8_from_10 : decode cX8_from 10 = .ok (.iload_n 3, 1) := by decide +kernel
theorem dX8_from_11 : decode cX8_from 11 = .ok (.iconst 0, 1) := by decide +kernel
theorem dX8_from_12 : decode cX8_from 12 = .ok (.iconst 1, 1) := by decide +kernel
theorem dX8_from_13 : decode cX8_from 13 = .ok (.invokestatic 74, 3) := by decide +kernel
theorem dX8_from_16 : decode cX8_from 16 = .ok (.ifCond .eq 13, 3) := by decide +kernel
theorem dX8_from_19 : decode cX8_from 19 = .ok (.aload_n 0, 1) := by decide +kernel
theorem dX8_from_20 : decode cX8_from 20 = .ok (.iload_n 1, 1) := by decide +kernel
theorem dX8_from_21 : decode cX8_from 21 = .ok (.iload_n 2, 1) := by decide +kernel
theorem dX8_from_22 : decode cX8_from 22 = .ok (.iload_n 3, 1) := by decide +kernel
theorem dX8_from_23 : decode cX8_from 23 = .ok (.invokevirtual 111, 3) := by decide +kernel
theorem dX8_from_26 : decode cX8_from 26 = .ok (.goto 5, 3) := by decide +kernel
theorem dX8_from_29 : decode cX8_from 29 = .ok (.ldc 92, 2) := by decide +kernel
theorem dX8_from_31 : decode cX8_from 31 = .ok (.ireturn, 1) := by decide +kernel
theorem dX8_cellOf_0 : decode cX8_cellOf 0 = .ok (.aload_n 0, 1) := by decide +kernel
theorem dX8_cellOf_1 : decode cX8_cellOf 1 = .ok (.iload_n 1, 1) := by decide +kernel
theorem dX8_cellOf_2 : decode cX8_cellOf 2 = .ok (.iload_n 2, 1) := by decide +kernel
theorem dX8_cellOf_3 : decode cX8_cellOf 3 = .ok (.iload_n 3, 1) := by decide +kernel
theorem dX8_cellOf_4 : decode cX8_cellOf 4 = .ok (.invokevirtual 111, 3) := by decide +kernel
theorem dX8_cellOf_7 : decode cX8_cellOf 7 = .ok (.i2l, 1) := by decide +kernel
theorem dX8_cellOf_8 : decode cX8_cellOf 8 = .ok (.ldc2_w 115, 3) := by decide +kernel
theorem dX8_cellOf_11 : decode cX8_cellOf 11 = .ok (.ladd, 1) := by decide +kernel
theorem dX8_cellOf_12 : decode cX8_cellOf 12 = .ok (.bipush 16, 2) := by decide +kernel
theorem dX8_cellOf_14 : decode cX8_cellOf 14 = .ok (.invokestatic 117, 3) := by decide +kernel
theorem dX8_cellOf_17 : decode cX8_cellOf 17 = .ok (.ireturn, 1) := by decide +kernel
theorem dX8_cell_0 : decode cX8_cell 0 = .ok (.iload_n 1, 1) := by decide +kernel
theorem dX8_cell_1 : decode cX8_cell 1 = .ok (.iload_n 2, 1) := by decide +kernel
theorem dX8_cell_2 : decode cX8_cell 2 = .ok (.bipush 60, 2) := by decide +kernel
theorem dX8_cell_4 : decode cX8_cell 4 = .ok (.invokestatic 81, 3) := by decide +kernel
theorem dX8_cell_7 : decode cX8_cell 7 = .ok (.ifCond .eq 22, 3) := by decide +kernel
theorem dX8_cell_10 : decode cX8_cell 10 = .ok (.iload_n 3, 1) := by decide +kernel
theorem dX8_cell_11 : decode cX8_cell 11 = .ok (.iconst 0, 1) := by decide +kernel
theorem dX8_cell_12 : decode cX8_cell 12 = .ok (.iconst 1, 1) := by decide +kernel
theorem dX8_cell_13 : decode cX8_cell 13 = .ok (.invokestatic 74, 3) := by decide +kernel
theorem dX8_cell_16 : decode cX8_cell 16 = .ok (.ifCond .eq 13, 3) := by decide +kernel
theorem dX8_cell_19 : decode cX8_cell 19 = .ok (.aload_n 0, 1) := by decide +kernel
theorem dX8_cell_20 : decode cX8_cell 20 = .ok (.iload_n 1, 1) := by decide +kernel
theorem dX8_cell_21 : decode cX8_cell 21 = .ok (.iload_n 2, 1) := by decide +kernel
theorem dX8_cell_22 : decode cX8_cell 22 = .ok (.iload_n 3, 1) := by decide +kernel
theorem dX8_cell_23 : decode cX8_cell 23 = .ok (.invokevirtual 121, 3) := by decide +kernel
theorem dX8_cell_26 : decode cX8_cell 26 = .ok (.goto 5, 3) := by decide +kernel
theorem dX8_cell_29 : decode cX8_cell 29 = .ok (.ldc 92, 2) := by decide +kernel
theorem dX8_cell_31 : decode cX8_cell 31 = .ok (.ireturn, 1) := by decide +kernel
theorem dX8_at_0 : decode cX8_at 0 = .ok (.bipush 51, 2) := by decide +kernel
theorem dX8_at_2 : decode cX8_at 2 = .ok (.iload_n 1, 1) := by decide +kernel
theorem dX8_at_3 : decode cX8_at 3 = .ok (.bipush 25, 2) := by decide +kernel
theorem dX8_at_5 : decode cX8_at 5 = .ok (.iadd, 1) := by decide +kernel
theorem dX8_at_6 : decode cX8_at 6 = .ok (.imul, 1) := by decide +kernel
theorem dX8_at_7 : decode cX8_at 7 = .ok (.iload_n 0, 1) := by decide +kernel
theorem dX8_at_8 : decode cX8_at 8 = .ok (.iadd, 1) := by decide +kernel
theorem dX8_at_9 : decode cX8_at 9 = .ok (.bipush 25, 2) := by decide +kernel
theorem dX8_at_11 : decode cX8_at 11 = .ok (.iadd, 1) := by decide +kernel
theorem dX8_at_12 : decode cX8_at 12 = .ok (.ireturn, 1) := by decide +kernel
theorem dX8_findPlane_0 : decode cX8_findPlane 0 = .ok (.bipush (-25), 2) := by decide +kernel
theorem dX8_findPlane_2 : decode cX8_findPlane 2 = .ok (.istore_n 1, 1) := by decide +kernel
theorem dX8_findPlane_3 : decode cX8_findPlane 3 = .ok (.iload_n 1, 1) := by decide +kernel
theorem dX8_findPlane_4 : decode cX8_findPlane 4 = .ok (.bipush 26, 2) := by decide +kernel
theorem dX8_findPlane_6 : decode cX8_findPlane 6 = .ok (.if_icmp .ge 58, 3) := by decide +kernel
theorem dX8_findPlane_9 : decode cX8_findPlane 9 = .ok (.bipush (-25), 2) := by decide +kernel
theorem dX8_findPlane_11 : decode cX8_findPlane 11 = .ok (.istore_n 2, 1) := by decide +kernel
theorem dX8_findPlane_12 : decode cX8_findPlane 12 = .ok (.iload_n 2, 1) := by decide +kernel
theorem dX8_findPlane_13 : decode cX8_findPlane 13 = .ok (.bipush 26, 2) := by decide +kernel
theorem dX8_findPlane_15 : decode cX8_findPlane 15 = .ok (.if_icmp .ge 43, 3) := by decide +kernel
theorem dX8_findPlane_18 : decode cX8_findPlane 18 = .ok (.aload_n 0, 1) := by decide +kernel
theorem dX8_findPlane_19 : decode cX8_findPlane 19 = .ok (.getfield 36, 3) := by decide +kernel
theorem dX8_findPlane_22 : decode cX8_findPlane 22 = .ok (.iload_n 2, 1) := by decide +kernel
theorem dX8_findPlane_23 : decode cX8_findPlane 23 = .ok (.iload_n 1, 1) := by decide +kernel
theorem dX8_findPlane_24 : decode cX8_findPlane 24 = .ok (.invokestatic 124, 3) := by decide +kernel
theorem dX8_findPlane_27 : decode cX8_findPlane 27 = .ok (.aload_n 0, 1) := by decide +kernel
theorem dX8_findPlane_28 : decode cX8_findPlane 28 = .ok (.iload_n 2, 1) := by decide +kernel
theorem dX8_findPlane_29 : decode cX8_findPlane 29 = .ok (.iload_n 1, 1) := by decide +kernel
theorem dX8_findPlane_30 : decode cX8_findPlane 30 = .ok (.iconst 0, 1) := by decide +kernel
theorem dX8_findPlane_31 : decode cX8_findPlane 31 = .ok (.invokevirtual 111, 3) := by decide +kernel
theorem dX8_findPlane_34 : decode cX8_findPlane 34 = .ok (.iastore, 1) := by decide +kernel
theorem dX8_findPlane_35 : decode cX8_findPlane 35 = .ok (.aload_n 0, 1) := by decide +kernel
theorem dX8_findPlane_36 : decode cX8_findPlane 36 = .ok (.getfield 39, 3) := by decide +kernel
theorem dX8_findPlane_39 : decode cX8_findPlane 39 = .ok (.iload_n 2, 1) := by decide +kernel
theorem dX8_findPlane_40 : decode cX8_findPlane 40 = .ok (.iload_n 1, 1) := by decide +kernel
theorem dX8_findPlane_41 : decode cX8_findPlane 41 = .ok (.invokestatic 124, 3) := by decide +kernel
theorem dX8_findPlane_44 : decode cX8_findPlane 44 = .ok (.aload_n 0, 1) := by decide +kernel
theorem dX8_findPlane_45 : decode cX8_findPlane 45 = .ok (.iload_n 2, 1) := by decide +kernel
theorem dX8_findPlane_46 : decode cX8_findPlane 46 = .ok (.iload_n 1, 1) := by decide +kernel
theorem dX8_findPlane_47 : decode cX8_findPlane 47 = .ok (.iconst 1, 1) := by decide +kernel
theorem dX8_findPlane_48 : decode cX8_findPlane 48 = .ok (.invokevirtual 111, 3) := by decide +kernel
theorem dX8_findPlane_51 : decode cX8_findPlane 51 = .ok (.iastore, 1) := by decide +kernel
theorem dX8_findPlane_52 : decode cX8_findPlane 52 = .ok (.iinc 2 1, 3) := by decide +kernel
theorem dX8_findPlane_55 : decode cX8_findPlane 55 = .ok (.goto (-43), 3) := by decide +kernel
theorem dX8_findPlane_58 : decode cX8_findPlane 58 = .ok (.iinc 1 1, 3) := by decide +kernel
theorem dX8_findPlane_61 : decode cX8_findPlane 61 = .ok (.goto (-58), 3) := by decide +kernel
theorem dX8_findPlane_64 : decode cX8_findPlane 64 = .ok (.return_, 1) := by decide +kernel
theorem dX8_findAround_0 : decode cX8_findAround 0 = .ok (.iload_n 2, 1) := by decide +kernel
theorem dX8_findAround_1 : decode cX8_findAround 1 = .ok (.iconst 1, 1) := by decide +kernel
theorem dX8_findAround_2 : decode cX8_findAround 2 = .ok (.isub, 1) := by decide +kernel
theorem dX8_findAround_3 : decode cX8_findAround 3 = .ok (.istore_n 3, 1) := by decide +kernel
theorem dX8_findAround_4 : decode cX8_findAround 4 = .ok (.iload_n 3, 1) := by decide +kernel
theorem dX8_findAround_5 : decode cX8_findAround 5 = .ok (.iload_n 2, 1) := by decide +kernel
theorem dX8_findAround_6 : decode cX8_findAround 6 = .ok (.iconst 2, 1) := by decide +kernel
theorem dX8_findAround_7 : decode cX8_findAround 7 = .ok (.iadd, 1) := by decide +kernel
theorem dX8_findAround_8 : decode cX8_findAround 8 = .ok (.if_icmp .gt 77, 3) := by decide +kernel
theorem dX8_findAround_11 : decode cX8_findAround 11 = .ok (.iload_n 1, 1) := by decide +kernel
theorem dX8_findAround_12 : decode cX8_findAround 12 = .ok (.iconst 1, 1) := by decide +kernel
theorem dX8_findAround_13 : decode cX8_findAround 13 = .ok (.isub, 1) := by decide +kernel
theorem dX8_findAround_14 : decode cX8_findAround 14 = .ok (.istore 4, 2) := by decide +kernel
theorem dX8_findAround_16 : decode cX8_findAround 16 = .ok (.iload 4, 2) := by decide +kernel
theorem dX8_findAround_18 : decode cX8_findAround 18 = .ok (.iload_n 1, 1) := by decide +kernel
theorem dX8_findAround_19 : decode cX8_findAround 19 = .ok (.iconst 2, 1) := by decide +kernel
theorem dX8_findAround_20 : decode cX8_findAround 20 = .ok (.iadd, 1) := by decide +kernel
theorem dX8_findAround_21 : decode cX8_findAround 21 = .ok (.if_icmp .gt 58, 3) := by decide +kernel
theorem dX8_findAround_24 : decode cX8_findAround 24 = .ok (.iload 4, 2) := by decide +kernel
theorem dX8_findAround_26 : decode cX8_findAround 26 = .ok (.iload_n 3, 1) := by decide +kernel
theorem dX8_findAround_27 : decode cX8_findAround 27 = .ok (.bipush 25, 2) := by decide +kernel
theorem dX8_findAround_29 : decode cX8_findAround 29 = .ok (.invokestatic 81, 3) := by decide +kernel
theorem dX8_findAround_32 : decode cX8_findAround 32 = .ok (.ifCond .eq 41, 3) := by decide +kernel
theorem dX8_findAround_35 : decode cX8_findAround 35 = .ok (.aload_n 0, 1) := by decide +kernel
theorem dX8_findAround_36 : decode cX8_findAround 36 = .ok (.getfield 36, 3) := by decide +kernel
theorem dX8_findAround_39 : decode cX8_findAround 39 = .ok (.iload 4, 2) := by decide +kernel
theorem dX8_findAround_41 : decode cX8_findAround 41 = .ok (.iload_n 3, 1) := by decide +kernel
theorem dX8_findAround_42 : decode cX8_findAround 42 = .ok (.invokestatic 124, 3) := by decide +kernel
theorem dX8_findAround_45 : decode cX8_findAround 45 = .ok (.aload_n 0, 1) := by decide +kernel
theorem dX8_findAround_46 : decode cX8_findAround 46 = .ok (.iload 4, 2) := by decide +kernel
theorem dX8_findAround_48 : decode cX8_findAround 48 = .ok (.iload_n 3, 1) := by decide +kernel
theorem dX8_findAround_49 : decode cX8_findAround 49 = .ok (.iconst 0, 1) := by decide +kernel
theorem dX8_findAround_50 : decode cX8_findAround 50 = .ok (.invokevirtual 111, 3) := by decide +kernel
theorem dX8_findAround_53 : decode cX8_findAround 53 = .ok (.iastore, 1) := by decide +kernel
theorem dX8_findAround_54 : decode cX8_findAround 54 = .ok (.aload_n 0, 1) := by decide +kernel
theorem dX8_findAround_55 : decode cX8_findAround 55 = .ok (.getfield 39, 3) := by decide +kernel
theorem dX8_findAround_58 : decode cX8_findAround 58 = .ok (.iload 4, 2) := by decide +kernel
theorem dX8_findAround_60 : decode cX8_findAround 60 = .ok (.iload_n 3, 1) := by decide +kernel
theorem dX8_findAround_61 : decode cX8_findAround 61 = .ok (.invokestatic 124, 3) := by decide +kernel
theorem dX8_findAround_64 : decode cX8_findAround 64 = .ok (.aload_n 0, 1) := by decide +kernel
theorem dX8_findAround_65 : decode cX8_findAround 65 = .ok (.iload 4, 2) := by decide +kernel
theorem dX8_findAround_67 : decode cX8_findAround 67 = .ok (.iload_n 3, 1) := by decide +kernel
theorem dX8_findAround_68 : decode cX8_findAround 68 = .ok (.iconst 1, 1) := by decide +kernel
theorem dX8_findAround_69 : decode cX8_findAround 69 = .ok (.invokevirtual 111, 3) := by decide +kernel
theorem dX8_findAround_72 : decode cX8_findAround 72 = .ok (.iastore, 1) := by decide +kernel
theorem dX8_findAround_73 : decode cX8_findAround 73 = .ok (.iinc 4 1, 3) := by decide +kernel
theorem dX8_findAround_76 : decode cX8_findAround 76 = .ok (.goto (-60), 3) := by decide +kernel
theorem dX8_findAround_79 : decode cX8_findAround 79 = .ok (.iinc 3 1, 3) := by decide +kernel
theorem dX8_findAround_82 : decode cX8_findAround 82 = .ok (.goto (-78), 3) := by decide +kernel
theorem dX8_findAround_85 : decode cX8_findAround 85 = .ok (.return_, 1) := by decide +kernel
theorem dX8_findTold_0 : decode cX8_findTold 0 = .ok (.iconst 0, 1) := by decide +kernel
theorem dX8_findTold_1 : decode cX8_findTold 1 = .ok (.istore_n 1, 1) := by decide +kernel
theorem dX8_findTold_2 : decode cX8_findTold 2 = .ok (.iload_n 1, 1) := by decide +kernel
theorem dX8_findTold_3 : decode cX8_findTold 3 = .ok (.sipush 2401, 3) := by decide +kernel
theorem dX8_findTold_6 : decode cX8_findTold 6 = .ok (.if_icmp .ge 102, 3) := by decide +kernel
theorem dX8_findTold_9 : decode cX8_findTold 9 = .ok (.aload_n 0, 1) := by decide +kernel
theorem dX8_findTold_10 : decode cX8_findTold 10 = .ok (.getfield 33, 3) := by decide +kernel
theorem dX8_findTold_13 : decode cX8_findTold 13 = .ok (.iload_n 1, 1) := by decide +kernel
theorem dX8_findTold_14 : decode cX8_findTold 14 = .ok (.iaload, 1) := by decide +kernel
theorem dX8_findTold_15 : decode cX8_findTold 15 = .ok (.bipush (-9), 2) := by decide +kernel
theorem dX8_findTold_17 : decode cX8_findTold 17 = .ok (.if_icmp .eq 85, 3) := by decide +kernel
theorem dX8_findTold_20 : decode cX8_findTold 20 = .ok (.aload_n 0, 1) := by decide +kernel
theorem dX8_findTold_21 : decode cX8_findTold 21 = .ok (.getfield 36, 3) := by decide +kernel
theorem dX8_findTold_24 : decode cX8_findTold 24 = .ok (.iload_n 1, 1) := by decide +kernel
theorem dX8_findTold_25 : decode cX8_findTold 25 = .ok (.bipush 49, 2) := by decide +kernel
theorem dX8_findTold_27 : decode cX8_findTold 27 = .ok (.irem, 1) := by decide +kernel
theorem dX8_findTold_28 : decode cX8_findTold 28 = .ok (.bipush 24, 2) := by decide +kernel
theorem dX8_findTold_30 : decode cX8_findTold 30 = .ok (.isub, 1) := by decide +kernel
theorem dX8_findTold_31 : decode cX8_findTold 31 = .ok (.iload_n 1, 1) := by decide +kernel
theorem dX8_findTold_32 : decode cX8_findTold 32 = .ok (.bipush 49, 2) := by decide +kernel
theorem dX8_findTold_34 : decode cX8_findTold 34 = .ok (.idiv, 1) := by decide +kernel
theorem dX8_findTold_35 : decode cX8_findTold 35 = .ok (.bipush 24, 2) := by decide +kernel
theorem dX8_findTold_37 : decode cX8_findTold 37 = .ok (.isub, 1) := by decide +kernel
theorem dX8_findTold_38 : decode cX8_findTold 38 = .ok (.invokestatic 124, 3) := by decide +kernel
theorem dX8_findTold_41 : decode cX8_findTold 41 = .ok (.aload_n 0, 1) := by decide +kernel
theorem dX8_findTold_42 : decode cX8_findTold 42 = .ok (.iload_n 1, 1) := by decide +kernel
theorem dX8_findTold_43 : decode cX8_findTold 43 = .ok (.bipush 49, 2) := by decide +kernel
theorem dX8_findTold_45 : decode cX8_findTold 45 = .ok (.irem, 1) := by decide +kernel
theorem dX8_findTold_46 : decode cX8_findTold 46 = .ok (.bipush 24, 2) := by decide +kernel
theorem dX8_findTold_48 : decode cX8_findTold 48 = .ok (.isub, 1) := by decide +kernel
theorem dX8_findTold_49 : decode cX8_findTold 49 = .ok (.iload_n 1, 1) := by decide +kernel
theorem dX8_findTold_50 : decode cX8_findTold 50 = .ok (.bipush 49, 2) := by decide +kernel
theorem dX8_findTold_52 : decode cX8_findTold 52 = .ok (.idiv, 1) := by decide +kernel
theorem dX8_findTold_53 : decode cX8_findTold 53 = .ok (.bipush 24, 2) := by decide +kernel
theorem dX8_findTold_55 : decode cX8_findTold 55 = .ok (.isub, 1) := by decide +kernel
theorem dX8_findTold_56 : decode cX8_findTold 56 = .ok (.iconst 0, 1) := by decide +kernel
theorem dX8_findTold_57 : decode cX8_findTold 57 = .ok (.invokevirtual 111, 3) := by decide +kernel
theorem dX8_findTold_60 : decode cX8_findTold 60 = .ok (.iastore, 1) := by decide +kernel
theorem dX8_findTold_61 : decode cX8_findTold 61 = .ok (.aload_n 0, 1) := by decide +kernel
theorem dX8_findTold_62 : decode cX8_findTold 62 = .ok (.getfield 39, 3) := by decide +kernel
theorem dX8_findTold_65 : decode cX8_findTold 65 = .ok (.iload_n 1, 1) := by decide +kernel
theorem dX8_findTold_66 : decode cX8_findTold 66 = .ok (.bipush 49, 2) := by decide +kernel
theorem dX8_findTold_68 : decode cX8_findTold 68 = .ok (.irem, 1) := by decide +kernel
theorem dX8_findTold_69 : decode cX8_findTold 69 = .ok (.bipush 24, 2) := by decide +kernel
theorem dX8_findTold_71 : decode cX8_findTold 71 = .ok (.isub, 1) := by decide +kernel
theorem dX8_findTold_72 : decode cX8_findTold 72 = .ok (.iload_n 1, 1) := by decide +kernel
theorem dX8_findTold_73 : decode cX8_findTold 73 = .ok (.bipush 49, 2) := by decide +kernel
theorem dX8_findTold_75 : decode cX8_findTold 75 = .ok (.idiv, 1) := by decide +kernel
theorem dX8_findTold_76 : decode cX8_findTold 76 = .ok (.bipush 24, 2) := by decide +kernel
theorem dX8_findTold_78 : decode cX8_findTold 78 = .ok (.isub, 1) := by decide +kernel
theorem dX8_findTold_79 : decode cX8_findTold 79 = .ok (.invokestatic 124, 3) := by decide +kernel
theorem dX8_findTold_82 : decode cX8_findTold 82 = .ok (.aload_n 0, 1) := by decide +kernel
theorem dX8_findTold_83 : decode cX8_findTold 83 = .ok (.iload_n 1, 1) := by decide +kernel
theorem dX8_findTold_84 : decode cX8_findTold 84 = .ok (.bipush 49, 2) := by decide +kernel
theorem dX8_findTold_86 : decode cX8_findTold 86 = .ok (.irem, 1) := by decide +kernel
theorem dX8_findTold_87 : decode cX8_findTold 87 = .ok (.bipush 24, 2) := by decide +kernel
theorem dX8_findTold_89 : decode cX8_findTold 89 = .ok (.isub, 1) := by decide +kernel
theorem dX8_findTold_90 : decode cX8_findTold 90 = .ok (.iload_n 1, 1) := by decide +kernel
theorem dX8_findTold_91 : decode cX8_findTold 91 = .ok (.bipush 49, 2) := by decide +kernel
theorem dX8_findTold_93 : decode cX8_findTold 93 = .ok (.idiv, 1) := by decide +kernel
theorem dX8_findTold_94 : decode cX8_findTold 94 = .ok (.bipush 24, 2) := by decide +kernel
theorem dX8_findTold_96 : decode cX8_findTold 96 = .ok (.isub, 1) := by decide +kernel
theorem dX8_findTold_97 : decode cX8_findTold 97 = .ok (.iconst 1, 1) := by decide +kernel
theorem dX8_findTold_98 : decode cX8_findTold 98 = .ok (.invokevirtual 111, 3) := by decide +kernel
theorem dX8_findTold_101 : decode cX8_findTold 101 = .ok (.iastore, 1) := by decide +kernel
theorem dX8_findTold_102 : decode cX8_findTold 102 = .ok (.iinc 1 1, 3) := by decide +kernel
theorem dX8_findTold_105 : decode cX8_findTold 105 = .ok (.goto (-103), 3) := by decide +kernel
theorem dX8_findTold_108 : decode cX8_findTold 108 = .ok (.return_, 1) := by decide +kernel
theorem dX8_cellX_0 : decode cX8_cellX 0 = .ok (.aload_n 0, 1) := by decide +kernel
theorem dX8_cellX_1 : decode cX8_cellX 1 = .ok (.getfield 36, 3) := by decide +kernel
theorem dX8_cellX_4 : decode cX8_cellX 4 = .ok (.iload_n 1, 1) := by decide +kernel
theorem dX8_cellX_5 : decode cX8_cellX 5 = .ok (.iload_n 2, 1) := by decide +kernel
theorem dX8_cellX_6 : decode cX8_cellX 6 = .ok (.invokestatic 124, 3) := by decide +kernel
theorem dX8_cellX_9 : decode cX8_cellX 9 = .ok (.iaload, 1) := by decide +kernel
theorem dX8_cellX_10 : decode cX8_cellX 10 = .ok (.i2l, 1) := by decide +kernel
theorem dX8_cellX_11 : decode cX8_cellX 11 = .ok (.ldc2_w 115, 3) := by decide +kernel
theorem dX8_cellX_14 : decode cX8_cellX 14 = .ok (.ladd, 1) := by decide +kernel
theorem dX8_cellX_15 : decode cX8_cellX 15 = .ok (.bipush 16, 2) := by decide +kernel
theorem dX8_cellX_17 : decode cX8_cellX 17 = .ok (.invokestatic 117, 3) := by decide +kernel
theorem dX8_cellX_20 : decode cX8_cellX 20 = .ok (.ireturn, 1) := by decide +kernel
theorem dX8_cellY_0 : decode cX8_cellY 0 = .ok (.aload_n 0, 1) := by decide +kernel
theorem dX8_cellY_1 : decode cX8_cellY 1 = .ok (.getfield 39, 3) := by decide +kernel
theorem dX8_cellY_4 : decode cX8_cellY 4 = .ok (.iload_n 1, 1) := by decide +kernel
theorem dX8_cellY_5 : decode cX8_cellY 5 = .ok (.iload_n 2, 1) := by decide +kernel
theorem dX8_cellY_6 : decode cX8_cellY 6 = .ok (.invokestatic 124, 3) := by decide +kernel
theorem dX8_cellY_9 : decode cX8_cellY 9 = .ok (.iaload, 1) := by decide +kernel
theorem dX8_cellY_10 : decode cX8_cellY 10 = .ok (.i2l, 1) := by decide +kernel
theorem dX8_cellY_11 : decode cX8_cellY 11 = .ok (.ldc2_w 115, 3) := by decide +kernel
theorem dX8_cellY_14 : decode cX8_cellY 14 = .ok (.ladd, 1) := by decide +kernel
theorem dX8_cellY_15 : decode cX8_cellY 15 = .ok (.bipush 16, 2) := by decide +kernel
theorem dX8_cellY_17 : decode cX8_cellY 17 = .ok (.invokestatic 117, 3) := by decide +kernel
theorem dX8_cellY_20 : decode cX8_cellY 20 = .ok (.ireturn, 1) := by decide +kernel
theorem dX8_signOf_0 : decode cX8_signOf 0 = .ok (.lload_n 0, 1) := by decide +kernel
theorem dX8_signOf_1 : decode cX8_signOf 1 = .ok (.lconst 0, 1) := by decide +kernel
theorem dX8_signOf_2 : decode cX8_signOf 2 = .ok (.lcmp, 1) := by decide +kernel
theorem dX8_signOf_3 : decode cX8_signOf 3 = .ok (.ifCond .le 7, 3) := by decide +kernel
theorem dX8_signOf_6 : decode cX8_signOf 6 = .ok (.iconst 1, 1) := by decide +kernel
theorem dX8_signOf_7 : decode cX8_signOf 7 = .ok (.goto 14, 3) := by decide +kernel
theorem dX8_signOf_10 : decode cX8_signOf 10 = .ok (.lload_n 0, 1) := by decide +kernel
theorem dX8_signOf_11 : decode cX8_signOf 11 = .ok (.lconst 0, 1) := by decide +kernel
theorem dX8_signOf_12 : decode cX8_signOf 12 = .ok (.lcmp, 1) := by decide +kernel
theorem dX8_signOf_13 : decode cX8_signOf 13 = .ok (.ifCond .ge 7, 3) := by decide +kernel
theorem dX8_signOf_16 : decode cX8_signOf 16 = .ok (.iconst (-1), 1) := by decide +kernel
theorem dX8_signOf_17 : decode cX8_signOf 17 = .ok (.goto 4, 3) := by decide +kernel
theorem dX8_signOf_20 : decode cX8_signOf 20 = .ok (.iconst 0, 1) := by decide +kernel
theorem dX8_signOf_21 : decode cX8_signOf 21 = .ok (.ireturn, 1) := by decide +kernel
theorem dX8_parityOf_0 : decode cX8_parityOf 0 = .ok (.aload_n 0, 1) := by decide +kernel
theorem dX8_parityOf_1 : decode cX8_parityOf 1 = .ok (.getfield 36, 3) := by decide +kernel
theorem dX8_parityOf_4 : decode cX8_parityOf 4 = .ok (.iload_n 1, 1) := by decide +kernel
theorem dX8_parityOf_5 : decode cX8_parityOf 5 = .ok (.iconst 1, 1) := by decide +kernel
theorem dX8_parityOf_6 : decode cX8_parityOf 6 = .ok (.iadd, 1) := by decide +kernel
theorem dX8_parityOf_7 : decode cX8_parityOf 7 = .ok (.iload_n 2, 1) := by decide +kernel
theorem dX8_parityOf_8 : decode cX8_parityOf 8 = .ok (.invokestatic 124, 3) := by decide +kernel
theorem dX8_parityOf_11 : decode cX8_parityOf 11 = .ok (.iaload, 1) := by decide +kernel
theorem dX8_parityOf_12 : decode cX8_parityOf 12 = .ok (.aload_n 0, 1) := by decide +kernel
theorem dX8_parityOf_13 : decode cX8_parityOf 13 = .ok (.getfield 36, 3) := by decide +kernel
theorem dX8_parityOf_16 : decode cX8_parityOf 16 = .ok (.iload_n 1, 1) := by decide +kernel
theorem dX8_parityOf_17 : decode cX8_parityOf 17 = .ok (.iconst 1, 1) := by decide +kernel
theorem dX8_parityOf_18 : decode cX8_parityOf 18 = .ok (.isub, 1) := by decide +kernel
theorem dX8_parityOf_19 : decode cX8_parityOf 19 = .ok (.iload_n 2, 1) := by decide +kernel
theorem dX8_parityOf_20 : decode cX8_parityOf 20 = .ok (.invokestatic 124, 3) := by decide +kernel
theorem dX8_parityOf_23 : decode cX8_parityOf 23 = .ok (.iaload, 1) := by decide +kernel
theorem dX8_parityOf_24 : decode cX8_parityOf 24 = .ok (.isub, 1) := by decide +kernel
theorem dX8_parityOf_25 : decode cX8_parityOf 25 = .ok (.i2l, 1) := by decide +kernel
theorem dX8_parityOf_26 : decode cX8_parityOf 26 = .ok (.lstore_n 3, 1) := by decide +kernel
theorem dX8_parityOf_27 : decode cX8_parityOf 27 = .ok (.aload_n 0, 1) := by decide +kernel
theorem dX8_parityOf_28 : decode cX8_parityOf 28 = .ok (.getfield 39, 3) := by decide +kernel
theorem dX8_parityOf_31 : decode cX8_parityOf 31 = .ok (.iload_n 1, 1) := by decide +kernel
theorem dX8_parityOf_32 : decode cX8_parityOf 32 = .ok (.iconst 1, 1) := by decide +kernel
theorem dX8_parityOf_33 : decode cX8_parityOf 33 = .ok (.iadd, 1) := by decide +kernel
theorem dX8_parityOf_34 : decode cX8_parityOf 34 = .ok (.iload_n 2, 1) := by decide +kernel
theorem dX8_parityOf_35 : decode cX8_parityOf 35 = .ok (.invokestatic 124, 3) := by decide +kernel
theorem dX8_parityOf_38 : decode cX8_parityOf 38 = .ok (.iaload, 1) := by decide +kernel
theorem dX8_parityOf_39 : decode cX8_parityOf 39 = .ok (.aload_n 0, 1) := by decide +kernel
theorem dX8_parityOf_40 : decode cX8_parityOf 40 = .ok (.getfield 39, 3) := by decide +kernel
theorem dX8_parityOf_43 : decode cX8_parityOf 43 = .ok (.iload_n 1, 1) := by decide +kernel
theorem dX8_parityOf_44 : decode cX8_parityOf 44 = .ok (.iconst 1, 1) := by decide +kernel
theorem dX8_parityOf_45 : decode cX8_parityOf 45 = .ok (.isub, 1) := by decide +kernel
theorem dX8_parityOf_46 : decode cX8_parityOf 46 = .ok (.iload_n 2, 1) := by decide +kernel
theorem dX8_parityOf_47 : decode cX8_parityOf 47 = .ok (.invokestatic 124, 3) := by decide +kernel
theorem dX8_parityOf_50 : decode cX8_parityOf 50 = .ok (.iaload, 1) := by decide +kernel
theorem dX8_parityOf_51 : decode cX8_parityOf 51 = .ok (.isub, 1) := by decide +kernel
theorem dX8_parityOf_52 : decode cX8_parityOf 52 = .ok (.i2l, 1) := by decide +kernel
theorem dX8_parityOf_53 : decode cX8_parityOf 53 = .ok (.lstore 5, 2) := by decide +kernel
theorem dX8_parityOf_55 : decode cX8_parityOf 55 = .ok (.aload_n 0, 1) := by decide +kernel
theorem dX8_parityOf_56 : decode cX8_parityOf 56 = .ok (.getfield 36, 3) := by decide +kernel
theorem dX8_parityOf_59 : decode cX8_parityOf 59 = .ok (.iload_n 1, 1) := by decide +kernel
theorem dX8_parityOf_60 : decode cX8_parityOf 60 = .ok (.iload_n 2, 1) := by decide +kernel
theorem dX8_parityOf_61 : decode cX8_parityOf 61 = .ok (.iconst 1, 1) := by decide +kernel
theorem dX8_parityOf_62 : decode cX8_parityOf 62 = .ok (.iadd, 1) := by decide +kernel
theorem dX8_parityOf_63 : decode cX8_parityOf 63 = .ok (.invokestatic 124, 3) := by decide +kernel
theorem dX8_parityOf_66 : decode cX8_parityOf 66 = .ok (.iaload, 1) := by decide +kernel
theorem dX8_parityOf_67 : decode cX8_parityOf 67 = .ok (.aload_n 0, 1) := by decide +kernel
theorem dX8_parityOf_68 : decode cX8_parityOf 68 = .ok (.getfield 36, 3) := by decide +kernel
theorem dX8_parityOf_71 : decode cX8_parityOf 71 = .ok (.iload_n 1, 1) := by decide +kernel
theorem dX8_parityOf_72 : decode cX8_parityOf 72 = .ok (.iload_n 2, 1) := by decide +kernel
theorem dX8_parityOf_73 : decode cX8_parityOf 73 = .ok (.iconst 1, 1) := by decide +kernel
theorem dX8_parityOf_74 : decode cX8_parityOf 74 = .ok (.isub, 1) := by decide +kernel
theorem dX8_parityOf_75 : decode cX8_parityOf 75 = .ok (.invokestatic 124, 3) := by decide +kernel
theorem dX8_parityOf_78 : decode cX8_parityOf 78 = .ok (.iaload, 1) := by decide +kernel
theorem dX8_parityOf_79 : decode cX8_parityOf 79 = .ok (.isub, 1) := by decide +kernel
theorem dX8_parityOf_80 : decode cX8_parityOf 80 = .ok (.i2l, 1) := by decide +kernel
theorem dX8_parityOf_81 : decode cX8_parityOf 81 = .ok (.lstore 7, 2) := by decide +kernel
theorem dX8_parityOf_83 : decode cX8_parityOf 83 = .ok (.aload_n 0, 1) := by decide +kernel
theorem dX8_parityOf_84 : decode cX8_parityOf 84 = .ok (.getfield 39, 3) := by decide +kernel
theorem dX8_parityOf_87 : decode cX8_parityOf 87 = .ok (.iload_n 1, 1) := by decide +kernel
theorem dX8_parityOf_88 : decode cX8_parityOf 88 = .ok (.iload_n 2, 1) := by decide +kernel
theorem dX8_parityOf_89 : decode cX8_parityOf 89 = .ok (.iconst 1, 1) := by decide +kernel
theorem dX8_parityOf_90 : decode cX8_parityOf 90 = .ok (.iadd, 1) := by decide +kernel
theorem dX8_parityOf_91 : decode cX8_parityOf 91 = .ok (.invokestatic 124, 3) := by decide +kernel
theorem dX8_parityOf_94 : decode cX8_parityOf 94 = .ok (.iaload, 1) := by decide +kernel
theorem dX8_parityOf_95 : decode cX8_parityOf 95 = .ok (.aload_n 0, 1) := by decide +kernel
theorem dX8_parityOf_96 : decode cX8_parityOf 96 = .ok (.getfield 39, 3) := by decide +kernel
theorem dX8_parityOf_99 : decode cX8_parityOf 99 = .ok (.iload_n 1, 1) := by decide +kernel
theorem dX8_parityOf_100 : decode cX8_parityOf 100 = .ok (.iload_n 2, 1) := by decide +kernel
theorem dX8_parityOf_101 : decode cX8_parityOf 101 = .ok (.iconst 1, 1) := by decide +kernel
theorem dX8_parityOf_102 : decode cX8_parityOf 102 = .ok (.isub, 1) := by decide +kernel
theorem dX8_parityOf_103 : decode cX8_parityOf 103 = .ok (.invokestatic 124, 3) := by decide +kernel
theorem dX8_parityOf_106 : decode cX8_parityOf 106 = .ok (.iaload, 1) := by decide +kernel
theorem dX8_parityOf_107 : decode cX8_parityOf 107 = .ok (.isub, 1) := by decide +kernel
theorem dX8_parityOf_108 : decode cX8_parityOf 108 = .ok (.i2l, 1) := by decide +kernel
theorem dX8_parityOf_109 : decode cX8_parityOf 109 = .ok (.lstore 9, 2) := by decide +kernel
theorem dX8_parityOf_111 : decode cX8_parityOf 111 = .ok (.lload_n 3, 1) := by decide +kernel
theorem dX8_parityOf_112 : decode cX8_parityOf 112 = .ok (.lload 9, 2) := by decide +kernel
theorem dX8_parityOf_114 : decode cX8_parityOf 114 = .ok (.lmul, 1) := by decide +kernel
theorem dX8_parityOf_115 : decode cX8_parityOf 115 = .ok (.lload 5, 2) := by decide +kernel
theorem dX8_parityOf_117 : decode cX8_parityOf 117 = .ok (.lload 7, 2) := by decide +kernel
theorem dX8_parityOf_119 : decode cX8_parityOf 119 = .ok (.lmul, 1) := by decide +kernel
theorem dX8_parityOf_120 : decode cX8_parityOf 120 = .ok (.lsub, 1) := by decide +kernel
theorem dX8_parityOf_121 : decode cX8_parityOf 121 = .ok (.invokestatic 128, 3) := by decide +kernel
theorem dX8_parityOf_124 : decode cX8_parityOf 124 = .ok (.ireturn, 1) := by decide +kernel
theorem dX8_isPixel_0 : decode cX8_isPixel 0 = .ok (.iload_n 0, 1) := by decide +kernel
theorem dX8_isPixel_1 : decode cX8_isPixel 1 = .ok (.iload_n 1, 1) := by decide +kernel
theorem dX8_isPixel_2 : decode cX8_isPixel 2 = .ok (.bipush 24, 2) := by decide +kernel
theorem dX8_isPixel_4 : decode cX8_isPixel 4 = .ok (.invokestatic 81, 3) := by decide +kernel
theorem dX8_isPixel_7 : decode cX8_isPixel 7 = .ok (.ireturn, 1) := by decide +kernel
theorem dX8_pixel_0 : decode cX8_pixel 0 = .ok (.bipush 49, 2) := by decide +kernel
theorem dX8_pixel_2 : decode cX8_pixel 2 = .ok (.iload_n 1, 1) := by decide +kernel
theorem dX8_pixel_3 : decode cX8_pixel 3 = .ok (.bipush 24, 2) := by decide +kernel
theorem dX8_pixel_5 : decode cX8_pixel 5 = .ok (.iadd, 1) := by decide +kernel
theorem dX8_pixel_6 : decode cX8_pixel 6 = .ok (.imul, 1) := by decide +kernel
theorem dX8_pixel_7 : decode cX8_pixel 7 = .ok (.iload_n 0, 1) := by decide +kernel
theorem dX8_pixel_8 : decode cX8_pixel 8 = .ok (.iadd, 1) := by decide +kernel
theorem dX8_pixel_9 : decode cX8_pixel 9 = .ok (.bipush 24, 2) := by decide +kernel
theorem dX8_pixel_11 : decode cX8_pixel 11 = .ok (.iadd, 1) := by decide +kernel
theorem dX8_pixel_12 : decode cX8_pixel 12 = .ok (.ireturn, 1) := by decide +kernel
theorem dX8_spread_0 : decode cX8_spread 0 = .ok (.iconst 1, 1) := by decide +kernel
theorem dX8_spread_1 : decode cX8_spread 1 = .ok (.istore_n 2, 1) := by decide +kernel
theorem dX8_spread_2 : decode cX8_spread 2 = .ok (.aload_n 0, 1) := by decide +kernel
theorem dX8_spread_3 : decode cX8_spread 3 = .ok (.getfield 49, 3) := by decide +kernel
theorem dX8_spread_6 : decode cX8_spread 6 = .ok (.iconst 0, 1) := by decide +kernel
theorem dX8_spread_7 : decode cX8_spread 7 = .ok (.iload_n 1, 1) := by decide +kernel
theorem dX8_spread_8 : decode cX8_spread 8 = .ok (.iastore, 1) := by decide +kernel
theorem dX8_spread_9 : decode cX8_spread 9 = .ok (.aload_n 0, 1) := by decide +kernel
theorem dX8_spread_10 : decode cX8_spread 10 = .ok (.getfield 46, 3) := by decide +kernel
theorem dX8_spread_13 : decode cX8_spread 13 = .ok (.iload_n 1, 1) := by decide +kernel
theorem dX8_spread_14 : decode cX8_spread 14 = .ok (.aload_n 0, 1) := by decide +kernel
theorem dX8_spread_15 : decode cX8_spread 15 = .ok (.getfield 132, 3) := by decide +kernel
theorem dX8_spread_18 : decode cX8_spread 18 = .ok (.iastore, 1) := by decide +kernel
theorem dX8_spread_19 : decode cX8_spread 19 = .ok (.iconst 0, 1) := by decide +kernel
theorem dX8_spread_20 : decode cX8_spread 20 = .ok (.istore_n 3, 1) := by decide +kernel
theorem dX8_spread_21 : decode cX8_spread 21 = .ok (.iload_n 3, 1) := by decide +kernel
theorem dX8_spread_22 : decode cX8_spread 22 = .ok (.iload_n 2, 1) := by decide +kernel
theorem dX8_spread_23 : decode cX8_spread 23 = .ok (.if_icmp .ge 149, 3) := by decide +kernel
theorem dX8_spread_26 : decode cX8_spread 26 = .ok (.aload_n 0, 1) := by decide +kernel
theorem dX8_spread_27 : decode cX8_spread 27 = .ok (.getfield 49, 3) := by decide +kernel
theorem dX8_spread_30 : decode cX8_spread 30 = .ok (.iload_n 3, 1) := by decide +kernel
theorem dX8_spread_31 : decode cX8_spread 31 = .ok (.iaload, 1) := by decide +kernel
theorem dX8_spread_32 : decode cX8_spread 32 = .ok (.bipush 49, 2) := by decide +kernel
theorem dX8_spread_34 : decode cX8_spread 34 = .ok (.irem, 1) := by decide +kernel
theorem dX8_spread_35 : decode cX8_spread 35 = .ok (.bipush 24, 2) := by decide +kernel
theorem dX8_spread_37 : decode cX8_spread 37 = .ok (.isub, 1) := by decide +kernel
theorem dX8_spread_38 : decode cX8_spread 38 = .ok (.istore 4, 2) := by decide +kernel
theorem dX8_spread_40 : decode cX8_spread 40 = .ok (.aload_n 0, 1) := by decide +kernel
theorem dX8_spread_41 : decode cX8_spread 41 = .ok (.getfield 49, 3) := by decide +kernel
theorem dX8_spread_44 : decode cX8_spread 44 = .ok (.iload_n 3, 1) := by decide +kernel
theorem dX8_spread_45 : decode cX8_spread 45 = .ok (.iaload, 1) := by decide +kernel
theorem dX8_spread_46 : decode cX8_spread 46 = .ok (.bipush 49, 2) := by decide +kernel
theorem dX8_spread_48 : decode cX8_spread 48 = .ok (.idiv, 1) := by decide +kernel
theorem dX8_spread_49 : decode cX8_spread 49 = .ok (.bipush 24, 2) := by decide +kernel
theorem dX8_spread_51 : decode cX8_spread 51 = .ok (.isub, 1) := by decide +kernel
theorem dX8_spread_52 : decode cX8_spread 52 = .ok (.istore 5, 2) := by decide +kernel
theorem dX8_spread_54 : decode cX8_spread 54 = .ok (.iconst 0, 1) := by decide +kernel
theorem dX8_spread_55 : decode cX8_spread 55 = .ok (.istore 6, 2) := by decide +kernel
theorem dX8_spread_57 : decode cX8_spread 57 = .ok (.iload 6, 2) := by decide +kernel
theorem dX8_spread_59 : decode cX8_spread 59 = .ok (.bipush 9, 2) := by decide +kernel
theorem dX8_spread_61 : decode cX8_spread 61 = .ok (.if_icmp .ge 105, 3) := by decide +kernel
theorem dX8_spread_64 : decode cX8_spread 64 = .ok (.iload 4, 2) := by decide +kernel
theorem dX8_spread_66 : decode cX8_spread 66 = .ok (.iload 6, 2) := by decide +kernel
theorem dX8_spread_68 : decode cX8_spread 68 = .ok (.iconst 3, 1) := by decide +kernel
theorem dX8_spread_69 : decode cX8_spread 69 = .ok (.irem, 1) := by decide +kernel
theorem dX8_spread_70 : decode cX8_spread 70 = .ok (.iadd, 1) := by decide +kernel
theorem dX8_spread_71 : decode cX8_spread 71 = .ok (.iconst 1, 1) := by decide +kernel
theorem dX8_spread_72 : decode cX8_spread 72 = .ok (.isub, 1) := by decide +kernel
theorem dX8_spread_73 : decode cX8_spread 73 = .ok (.istore 7, 2) := by decide +kernel
theorem dX8_spread_75 : decode cX8_spread 75 = .ok (.iload 5, 2) := by decide +kernel
theorem dX8_spread_77 : decode cX8_spread 77 = .ok (.iload 6, 2) := by decide +kernel
theorem dX8_spread_79 : decode cX8_spread 79 = .ok (.iconst 3, 1) := by decide +kernel
theorem dX8_spread_80 : decode cX8_spread 80 = .ok (.idiv, 1) := by decide +kernel
theorem dX8_spread_81 : decode cX8_spread 81 = .ok (.iadd, 1) := by decide +kernel
theorem dX8_spread_82 : decode cX8_spread 82 = .ok (.iconst 1, 1) := by decide +kernel
theorem dX8_spread_83 : decode cX8_spread 83 = .ok (.isub, 1) := by decide +kernel
theorem dX8_spread_84 : decode cX8_spread 84 = .ok (.istore 8, 2) := by decide +kernel
theorem dX8_spread_86 : decode cX8_spread 86 = .ok (.iload 7, 2) := by decide +kernel
theorem dX8_spread_88 : decode cX8_spread 88 = .ok (.iload 8, 2) := by decide +kernel
theorem dX8_spread_90 : decode cX8_spread 90 = .ok (.invokestatic 135, 3) := by decide +kernel
theorem dX8_spread_93 : decode cX8_spread 93 = .ok (.ifCond .eq 67, 3) := by decide +kernel
theorem dX8_spread_96 : decode cX8_spread 96 = .ok (.aload_n 0, 1) := by decide +kernel
theorem dX8_spread_97 : decode cX8_spread 97 = .ok (.getfield 42, 3) := by decide +kernel
theorem dX8_spread_100 : decode cX8_spread 100 = .ok (.iload 7, 2) := by decide +kernel
theorem dX8_spread_102 : decode cX8_spread 102 = .ok (.iload 8, 2) := by decide +kernel
theorem dX8_spread_104 : decode cX8_spread 104 = .ok (.invokestatic 138, 3) := by decide +kernel
theorem dX8_spread_107 : decode cX8_spread 107 = .ok (.baload, 1) := by decide +kernel
theorem dX8_spread_108 : decode cX8_spread 108 = .ok (.ifCond .eq 52, 3) := by decide +kernel
theorem dX8_spread_111 : decode cX8_spread 111 = .ok (.aload_n 0, 1) := by decide +kernel
theorem dX8_spread_112 : decode cX8_spread 112 = .ok (.getfield 46, 3) := by decide +kernel
theorem dX8_spread_115 : decode cX8_spread 115 = .ok (.iload 7, 2) := by decide +kernel
theorem dX8_spread_117 : decode cX8_spread 117 = .ok (.iload 8, 2) := by decide +kernel
theorem dX8_spread_119 : decode cX8_spread 119 = .ok (.invokestatic 138, 3) := by decide +kernel
theorem dX8_spread_122 : decode cX8_spread 122 = .ok (.iaload, 1) := by decide +kernel
theorem dX8_spread_123 : decode cX8_spread 123 = .ok (.bipush (-9), 2) := by decide +kernel
theorem dX8_spread_125 : decode cX8_spread 125 = .ok (.if_icmp .ne 35, 3) := by decide +kernel
theorem dX8_spread_128 : decode cX8_spread 128 = .ok (.aload_n 0, 1) := by decide +kernel
theorem dX8_spread_129 : decode cX8_spread 129 = .ok (.getfield 46, 3) := by decide +kernel
theorem dX8_spread_132 : decode cX8_spread 132 = .ok (.iload 7, 2) := by decide +kernel
theorem dX8_spread_134 : decode cX8_spread 134 = .ok (.iload 8, 2) := by decide +kernel
theorem dX8_spread_136 : decode cX8_spread 136 = .ok (.invokestatic 138, 3) := by decide +kernel
theorem dX8_spread_139 : decode cX8_spread 139 = .ok (.aload_n 0, 1) := by decide +kernel
theorem dX8_spread_140 : decode cX8_spread 140 = .ok (.getfield 132, 3) := by decide +kernel
theorem dX8_spread_143 : decode cX8_spread 143 = .ok (.iastore, 1) := by decide +kernel
theorem dX8_spread_144 : decode cX8_spread 144 = .ok (.aload_n 0, 1) := by decide +kernel
theorem dX8_spread_145 : decode cX8_spread 145 = .ok (.getfield 49, 3) := by decide +kernel
theorem dX8_spread_148 : decode cX8_spread 148 = .ok (.iload_n 2, 1) := by decide +kernel
theorem dX8_spread_149 : decode cX8_spread 149 = .ok (.iload 7, 2) := by decide +kernel
theorem dX8_spread_151 : decode cX8_spread 151 = .ok (.iload 8, 2) := by decide +kernel
theorem dX8_spread_153 : decode cX8_spread 153 = .ok (.invokestatic 138, 3) := by decide +kernel
theorem dX8_spread_156 : decode cX8_spread 156 = .ok (.iastore, 1) := by decide +kernel
theorem dX8_spread_157 : decode cX8_spread 157 = .ok (.iinc 2 1, 3) := by decide +kernel
theorem dX8_spread_160 : decode cX8_spread 160 = .ok (.iinc 6 1, 3) := by decide +kernel
theorem dX8_spread_163 : decode cX8_spread 163 = .ok (.goto (-106), 3) := by decide +kernel
theorem dX8_spread_166 : decode cX8_spread 166 = .ok (.iinc 3 1, 3) := by decide +kernel
theorem dX8_spread_169 : decode cX8_spread 169 = .ok (.goto (-148), 3) := by decide +kernel
theorem dX8_spread_172 : decode cX8_spread 172 = .ok (.aload_n 0, 1) := by decide +kernel
theorem dX8_spread_173 : decode cX8_spread 173 = .ok (.getfield 52, 3) := by decide +kernel
theorem dX8_spread_176 : decode cX8_spread 176 = .ok (.aload_n 0, 1) := by decide +kernel
theorem dX8_spread_177 : decode cX8_spread 177 = .ok (.getfield 132, 3) := by decide +kernel
theorem dX8_spread_180 : decode cX8_spread 180 = .ok (.iload_n 1, 1) := by decide +kernel
theorem dX8_spread_181 : decode cX8_spread 181 = .ok (.iastore, 1) := by decide +kernel
theorem dX8_spread_182 : decode cX8_spread 182 = .ok (.aload_n 0, 1) := by decide +kernel
theorem dX8_spread_183 : decode cX8_spread 183 = .ok (.getfield 55, 3) := by decide +kernel
theorem dX8_spread_186 : decode cX8_spread 186 = .ok (.aload_n 0, 1) := by decide +kernel
theorem dX8_spread_187 : decode cX8_spread 187 = .ok (.getfield 132, 3) := by decide +kernel
theorem dX8_spread_190 : decode cX8_spread 190 = .ok (.iload_n 2, 1) := by decide +kernel
theorem dX8_spread_191 : decode cX8_spread 191 = .ok (.iastore, 1) := by decide +kernel
theorem dX8_spread_192 : decode cX8_spread 192 = .ok (.aload_n 0, 1) := by decide +kernel
theorem dX8_spread_193 : decode cX8_spread 193 = .ok (.dup, 1) := by decide +kernel
theorem dX8_spread_194 : decode cX8_spread 194 = .ok (.getfield 132, 3) := by decide +kernel
theorem dX8_spread_197 : decode cX8_spread 197 = .ok (.iconst 1, 1) := by decide +kernel
theorem dX8_spread_198 : decode cX8_spread 198 = .ok (.iadd, 1) := by decide +kernel
theorem dX8_spread_199 : decode cX8_spread 199 = .ok (.putfield 132, 3) := by decide +kernel
theorem dX8_spread_202 : decode cX8_spread 202 = .ok (.return_, 1) := by decide +kernel
theorem dX8_findGroups_0 : decode cX8_findGroups 0 = .ok (.aload_n 0, 1) := by decide +kernel
theorem dX8_findGroups_1 : decode cX8_findGroups 1 = .ok (.iconst 0, 1) := by decide +kernel
theorem dX8_findGroups_2 : decode cX8_findGroups 2 = .ok (.putfield 132, 3) := by decide +kernel
theorem dX8_findGroups_5 : decode cX8_findGroups 5 = .ok (.iconst 0, 1) := by decide +kernel
theorem dX8_findGroups_6 : decode cX8_findGroups 6 = .ok (.istore_n 1, 1) := by decide +kernel
theorem dX8_findGroups_7 : decode cX8_findGroups 7 = .ok (.iload_n 1, 1) := by decide +kernel
theorem dX8_findGroups_8 : decode cX8_findGroups 8 = .ok (.sipush 2401, 3) := by decide +kernel
theorem dX8_findGroups_11 : decode cX8_findGroups 11 = .ok (.if_icmp .ge 17, 3) := by decide +kernel
theorem dX8_findGroups_14 : decode cX8_findGroups 14 = .ok (.aload_n 0, 1) := by decide +kernel
theorem dX8_findGroups_15 : decode cX8_findGroups 15 = .ok (.getfield 46, 3) := by decide +kernel
theorem dX8_findGroups_18 : decode cX8_findGroups 18 = .ok (.iload_n 1, 1) := by decide +kernel
theorem dX8_findGroups_19 : decode cX8_findGroups 19 = .ok (.bipush (-9), 2) := by decide +kernel
theorem dX8_findGroups_21 : decode cX8_findGroups 21 = .ok (.iastore, 1) := by decide +kernel
theorem dX8_findGroups_22 : decode cX8_findGroups 22 = .ok (.iinc 1 1, 3) := by decide +kernel
theorem dX8_findGroups_25 : decode cX8_findGroups 25 = .ok (.goto (-18), 3) := by decide +kernel
theorem dX8_findGroups_28 : decode cX8_findGroups 28 = .ok (.iconst 0, 1) := by decide +kernel
theorem dX8_findGroups_29 : decode cX8_findGroups 29 = .ok (.istore_n 1, 1) := by decide +kernel
theorem dX8_findGroups_30 : decode cX8_findGroups 30 = .ok (.iload_n 1, 1) := by decide +kernel
theorem dX8_findGroups_31 : decode cX8_findGroups 31 = .ok (.sipush 2401, 3) := by decide +kernel
theorem dX8_findGroups_34 : decode cX8_findGroups 34 = .ok (.if_icmp .ge 34, 3) := by decide +kernel
theorem dX8_findGroups_37 : decode cX8_findGroups 37 = .ok (.aload_n 0, 1) := by decide +kernel
theorem dX8_findGroups_38 : decode cX8_findGroups 38 = .ok (.getfield 42, 3) := by decide +kernel
theorem dX8_findGroups_41 : decode cX8_findGroups 41 = .ok (.iload_n 1, 1) := by decide +kernel
theorem dX8_findGroups_42 : decode cX8_findGroups 42 = .ok (.baload, 1) := by decide +kernel
theorem dX8_findGroups_43 : decode cX8_findGroups 43 = .ok (.ifCond .eq 19, 3) := by decide +kernel
theorem dX8_findGroups_46 : decode cX8_findGroups 46 = .ok (.aload_n 0, 1) := by decide +kernel
theorem dX8_findGroups_47 : decode cX8_findGroups 47 = .ok (.getfield 46, 3) := by decide +kernel
theorem dX8_findGroups_50 : decode cX8_findGroups 50 = .ok (.iload_n 1, 1) := by decide +kernel
theorem dX8_findGroups_51 : decode cX8_findGroups 51 = .ok (.iaload, 1) := by decide +kernel
theorem dX8_findGroups_52 : decode cX8_findGroups 52 = .ok (.bipush (-9), 2) := by decide +kernel
theorem dX8_findGroups_54 : decode cX8_findGroups 54 = .ok (.if_icmp .ne 8, 3) := by decide +kernel
theorem dX8_findGroups_57 : decode cX8_findGroups 57 = .ok (.aload_n 0, 1) := by decide +kernel
theorem dX8_findGroups_58 : decode cX8_findGroups 58 = .ok (.iload_n 1, 1) := by decide +kernel
theorem dX8_findGroups_59 : decode cX8_findGroups 59 = .ok (.invokevirtual 141, 3) := by decide +kernel
theorem dX8_findGroups_62 : decode cX8_findGroups 62 = .ok (.iinc 1 1, 3) := by decide +kernel
theorem dX8_findGroups_65 : decode cX8_findGroups 65 = .ok (.goto (-35), 3) := by decide +kernel
theorem dX8_findGroups_68 : decode cX8_findGroups 68 = .ok (.return_, 1) := by decide +kernel
theorem dX8_findPictures_0 : decode cX8_findPictures 0 = .ok (.aload_n 0, 1) := by decide +kernel
theorem dX8_findPictures_1 : decode cX8_findPictures 1 = .ok (.invokevirtual 145, 3) := by decide +kernel
theorem dX8_findPictures_4 : decode cX8_findPictures 4 = .ok (.iconst 0, 1) := by decide +kernel
theorem dX8_findPictures_5 : decode cX8_findPictures 5 = .ok (.istore_n 3, 1) := by decide +kernel
theorem dX8_findPictures_6 : decode cX8_findPictures 6 = .ok (.iconst 0, 1) := by decide +kernel
theorem dX8_findPictures_7 : decode cX8_findPictures 7 = .ok (.istore 4, 2) := by decide +kernel
theorem dX8_findPictures_9 : decode cX8_findPictures 9 = .ok (.iload 4, 2) := by decide +kernel
theorem dX8_findPictures_11 : decode cX8_findPictures 11 = .ok (.sipush 2401, 3) := by decide +kernel
theorem dX8_findPictures_14 : decode cX8_findPictures 14 = .ok (.if_icmp .ge 87, 3) := by decide +kernel
theorem dX8_findPictures_17 : decode cX8_findPictures 17 = .ok (.aload_n 0, 1) := by decide +kernel
theorem dX8_findPictures_18 : decode cX8_findPictures 18 = .ok (.getfield 42, 3) := by decide +kernel
theorem dX8_findPictures_21 : decode cX8_findPictures 21 = .ok (.iload 4, 2) := by decide +kernel
theorem dX8_findPictures_23 : decode cX8_findPictures 23 = .ok (.aload_n 0, 1) := by decide +kernel
theorem dX8_findPictures_24 : decode cX8_findPictures 24 = .ok (.iload 4, 2) := by decide +kernel
theorem dX8_findPictures_26 : decode cX8_findPictures 26 = .ok (.bipush 49, 2) := by decide +kernel
theorem dX8_findPictures_28 : decode cX8_findPictures 28 = .ok (.irem, 1) := by decide +kernel
theorem dX8_findPictures_29 : decode cX8_findPictures 29 = .ok (.bipush 24, 2) := by decide +kernel
theorem dX8_findPictures_31 : decode cX8_findPictures 31 = .ok (.isub, 1) := by decide +kernel
theorem dX8_findPictures_32 : decode cX8_findPictures 32 = .ok (.iload 4, 2) := by decide +kernel
theorem dX8_findPictures_34 : decode cX8_findPictures 34 = .ok (.bipush 49, 2) := by decide +kernel
theorem dX8_findPictures_36 : decode cX8_findPictures 36 = .ok (.idiv, 1) := by decide +kernel
theorem dX8_findPictures_37 : decode cX8_findPictures 37 = .ok (.bipush 24, 2) := by decide +kernel
theorem dX8_findPictures_39 : decode cX8_findPictures 39 = .ok (.isub, 1) := by decide +kernel
theorem dX8_findPictures_40 : decode cX8_findPictures 40 = .ok (.invokevirtual 148, 3) := by decide +kernel
theorem dX8_findPictures_43 : decode cX8_findPictures 43 = .ok (.iload_n 1, 1) := by decide +kernel
theorem dX8_findPictures_44 : decode cX8_findPictures 44 = .ok (.if_icmp .ne 31, 3) := by decide +kernel
theorem dX8_findPictures_47 : decode cX8_findPictures 47 = .ok (.aload_n 0, 1) := by decide +kernel
theorem dX8_findPictures_48 : decode cX8_findPictures 48 = .ok (.iload 4, 2) := by decide +kernel
theorem dX8_findPictures_50 : decode cX8_findPictures 50 = .ok (.bipush 49, 2) := by decide +kernel
theorem dX8_findPictures_52 : decode cX8_findPictures 52 = .ok (.irem, 1) := by decide +kernel
theorem dX8_findPictures_53 : decode cX8_findPictures 53 = .ok (.bipush 24, 2) := by decide +kernel
theorem dX8_findPictures_55 : decode cX8_findPictures 55 = .ok (.isub, 1) := by decide +kernel
theorem dX8_findPictures_56 : decode cX8_findPictures 56 = .ok (.iload 4, 2) := by decide +kernel
theorem dX8_findPictures_58 : decode cX8_findPictures 58 = .ok (.bipush 49, 2) := by decide +kernel
theorem dX8_findPictures_60 : decode cX8_findPictures 60 = .ok (.idiv, 1) := by decide +kernel
theorem dX8_findPictures_61 : decode cX8_findPictures 61 = .ok (.bipush 24, 2) := by decide +kernel
theorem dX8_findPictures_63 : decode cX8_findPictures 63 = .ok (.isub, 1) := by decide +kernel
theorem dX8_findPictures_64 : decode cX8_findPictures 64 = .ok (.invokevirtual 151, 3) := by decide +kernel
theorem dX8_findPictures_67 : decode cX8_findPictures 67 = .ok (.iload_n 2, 1) := by decide +kernel
theorem dX8_findPictures_68 : decode cX8_findPictures 68 = .ok (.if_icmp .ne 7, 3) := by decide +kernel
theorem dX8_findPictures_71 : decode cX8_findPictures 71 = .ok (.iconst 1, 1) := by decide +kernel
theorem dX8_findPictures_72 : decode cX8_findPictures 72 = .ok (.goto 4, 3) := by decide +kernel
theorem dX8_findPictures_75 : decode cX8_findPictures 75 = .ok (.iconst 0, 1) := by decide +kernel
theorem dX8_findPictures_76 : decode cX8_findPictures 76 = .ok (.bastore, 1) := by decide +kernel
theorem dX8_findPictures_77 : decode cX8_findPictures 77 = .ok (.iload_n 3, 1) := by decide +kernel
theorem dX8_findPictures_78 : decode cX8_findPictures 78 = .ok (.aload_n 0, 1) := by decide +kernel
theorem dX8_findPictures_79 : decode cX8_findPictures 79 = .ok (.getfield 42, 3) := by decide +kernel
theorem dX8_findPictures_82 : decode cX8_findPictures 82 = .ok (.iload 4, 2) := by decide +kernel
theorem dX8_findPictures_84 : decode cX8_findPictures 84 = .ok (.baload, 1) := by decide +kernel
theorem dX8_findPictures_85 : decode cX8_findPictures 85 = .ok (.ifCond .eq 7, 3) := by decide +kernel
theorem dX8_findPictures_88 : decode cX8_findPictures 88 = .ok (.iconst 1, 1) := by decide +kernel
theorem dX8_findPictures_89 : decode cX8_findPictures 89 = .ok (.goto 4, 3) := by decide +kernel
theorem dX8_findPictures_92 : decode cX8_findPictures 92 = .ok (.iconst 0, 1) := by decide +kernel
theorem dX8_findPictures_93 : decode cX8_findPictures 93 = .ok (.iadd, 1) := by decide +kernel
theorem dX8_findPictures_94 : decode cX8_findPictures 94 = .ok (.istore_n 3, 1) := by decide +kernel
theorem dX8_findPictures_95 : decode cX8_findPictures 95 = .ok (.iinc 4 1, 3) := by decide +kernel
theorem dX8_findPictures_98 : decode cX8_findPictures 98 = .ok (.goto (-89), 3) := by decide +kernel
theorem dX8_findPictures_101 : decode cX8_findPictures 101 = .ok (.iload_n 3, 1) := by decide +kernel
theorem dX8_findPictures_102 : decode cX8_findPictures 102 = .ok (.ireturn, 1) := by decide +kernel
theorem dX8_pictures_0 : decode cX8_pictures 0 = .ok (.iload_n 1, 1) := by decide +kernel
theorem dX8_pictures_1 : decode cX8_pictures 1 = .ok (.iload_n 2, 1) := by decide +kernel
theorem dX8_pictures_2 : decode cX8_pictures 2 = .ok (.bipush 99, 2) := by decide +kernel
theorem dX8_pictures_4 : decode cX8_pictures 4 = .ok (.invokestatic 81, 3) := by decide +kernel
theorem dX8_pictures_7 : decode cX8_pictures 7 = .ok (.ifCond .eq 12, 3) := by decide +kernel
theorem dX8_pictures_10 : decode cX8_pictures 10 = .ok (.iload_n 3, 1) := by decide +kernel
theorem dX8_pictures_11 : decode cX8_pictures 11 = .ok (.iconst 0, 1) := by decide +kernel
theorem dX8_pictures_12 : decode cX8_pictures 12 = .ok (.iconst 1, 1) := by decide +kernel
theorem dX8_pictures_13 : decode cX8_pictures 13 = .ok (.invokestatic 74, 3) := by decide +kernel
theorem dX8_pictures_16 : decode cX8_pictures 16 = .ok (.ifCond .ne 5, 3) := by decide +kernel
theorem dX8_pictures_19 : decode cX8_pictures 19 = .ok (.iconst (-1), 1) := by decide +kernel
theorem dX8_pictures_20 : decode cX8_pictures 20 = .ok (.ireturn, 1) := by decide +kernel
theorem dX8_pictures_21 : decode cX8_pictures 21 = .ok (.aload_n 0, 1) := by decide +kernel
theorem dX8_pictures_22 : decode cX8_pictures 22 = .ok (.iload_n 1, 1) := by decide +kernel
theorem dX8_pictures_23 : decode cX8_pictures 23 = .ok (.iload_n 2, 1) := by decide +kernel
theorem dX8_pictures_24 : decode cX8_pictures 24 = .ok (.invokevirtual 154, 3) := by decide +kernel
theorem dX8_pictures_27 : decode cX8_pictures 27 = .ok (.istore 4, 2) := by decide +kernel
theorem dX8_pictures_29 : decode cX8_pictures 29 = .ok (.aload_n 0, 1) := by decide +kernel
theorem dX8_pictures_30 : decode cX8_pictures 30 = .ok (.invokevirtual 157, 3) := by decide +kernel
theorem dX8_pictures_33 : decode cX8_pictures 33 = .ok (.iload_n 3, 1) := by decide +kernel
theorem dX8_pictures_34 : decode cX8_pictures 34 = .ok (.ifCond .ne 8, 3) := by decide +kernel
theorem dX8_pictures_37 : decode cX8_pictures 37 = .ok (.iload 4, 2) := by decide +kernel
theorem dX8_pictures_39 : decode cX8_pictures 39 = .ok (.goto 7, 3) := by decide +kernel
theorem dX8_pictures_42 : decode cX8_pictures 42 = .ok (.aload_n 0, 1) := by decide +kernel
theorem dX8_pictures_43 : decode cX8_pictures 43 = .ok (.getfield 132, 3) := by decide +kernel
theorem dX8_pictures_46 : decode cX8_pictures 46 = .ok (.ireturn, 1) := by decide +kernel
theorem dX8_group_0 : decode cX8_group 0 = .ok (.iload_n 1, 1) := by decide +kernel
theorem dX8_group_1 : decode cX8_group 1 = .ok (.iload_n 2, 1) := by decide +kernel
theorem dX8_group_2 : decode cX8_group 2 = .ok (.bipush 99, 2) := by decide +kernel
theorem dX8_group_4 : decode cX8_group 4 = .ok (.invokestatic 81, 3) := by decide +kernel
theorem dX8_group_7 : decode cX8_group 7 = .ok (.ifCond .eq 17, 3) := by decide +kernel
theorem dX8_group_10 : decode cX8_group 10 = .ok (.iload 4, 2) := by decide +kernel
theorem dX8_group_12 : decode cX8_group 12 = .ok (.iconst 0, 1) := by decide +kernel
theorem dX8_group_13 : decode cX8_group 13 = .ok (.iconst 3, 1) := by decide +kernel
theorem dX8_group_14 : decode cX8_group 14 = .ok (.invokestatic 74, 3) := by decide +kernel
theorem dX8_group_17 : decode cX8_group 17 = .ok (.ifCond .eq 7, 3) := by decide +kernel
theorem dX8_group_20 : decode cX8_group 20 = .ok (.iload_n 3, 1) := by decide +kernel
theorem dX8_group_21 : decode cX8_group 21 = .ok (.ifCond .ge 6, 3) := by decide +kernel
theorem dX8_group_24 : decode cX8_group 24 = .ok (.ldc 92, 2) := by decide +kernel
theorem dX8_group_26 : decode cX8_group 26 = .ok (.ireturn, 1) := by decide +kernel
theorem dX8_group_27 : decode cX8_group 27 = .ok (.aload_n 0, 1) := by decide +kernel
theorem dX8_group_28 : decode cX8_group 28 = .ok (.iload_n 1, 1) := by decide +kernel
theorem dX8_group_29 : decode cX8_group 29 = .ok (.iload_n 2, 1) := by decide +kernel
theorem dX8_group_30 : decode cX8_group 30 = .ok (.invokevirtual 154, 3) := by decide +kernel
theorem dX8_group_33 : decode cX8_group 33 = .ok (.istore 5, 2) := by decide +kernel
theorem dX8_group_35 : decode cX8_group 35 = .ok (.aload_n 0, 1) := by decide +kernel
theorem dX8_group_36 : decode cX8_group 36 = .ok (.invokevirtual 157, 3) := by decide +kernel
theorem dX8_group_39 : decode cX8_group 39 = .ok (.iload_n 3, 1) := by decide +kernel
theorem dX8_group_40 : decode cX8_group 40 = .ok (.aload_n 0, 1) := by decide +kernel
theorem dX8_group_41 : decode cX8_group 41 = .ok (.getfield 132, 3) := by decide +kernel
theorem dX8_group_44 : decode cX8_group 44 = .ok (.if_icmp .ge 8, 3) := by decide +kernel
theorem dX8_group_47 : decode cX8_group 47 = .ok (.iload 5, 2) := by decide +kernel
theorem dX8_group_49 : decode cX8_group 49 = .ok (.ifCond .ne 6, 3) := by decide +kernel
theorem dX8_group_52 : decode cX8_group 52 = .ok (.ldc 92, 2) := by decide +kernel
theorem dX8_group_54 : decode cX8_group 54 = .ok (.ireturn, 1) := by decide +kernel
theorem dX8_group_55 : decode cX8_group 55 = .ok (.aload_n 0, 1) := by decide +kernel
theorem dX8_group_56 : decode cX8_group 56 = .ok (.getfield 52, 3) := by decide +kernel
theorem dX8_group_59 : decode cX8_group 59 = .ok (.iload_n 3, 1) := by decide +kernel
theorem dX8_group_60 : decode cX8_group 60 = .ok (.iaload, 1) := by decide +kernel
theorem dX8_group_61 : decode cX8_group 61 = .ok (.bipush 49, 2) := by decide +kernel
theorem dX8_group_63 : decode cX8_group 63 = .ok (.irem, 1) := by decide +kernel
theorem dX8_group_64 : decode cX8_group 64 = .ok (.bipush 24, 2) := by decide +kernel
theorem dX8_group_66 : decode cX8_group 66 = .ok (.isub, 1) := by decide +kernel
theorem dX8_group_67 : decode cX8_group 67 = .ok (.istore 6, 2) := by decide +kernel
theorem dX8_group_69 : decode cX8_group 69 = .ok (.aload_n 0, 1) := by decide +kernel
theorem dX8_group_70 : decode cX8_group 70 = .ok (.getfield 52, 3) := by decide +kernel
theorem dX8_group_73 : decode cX8_group 73 = .ok (.iload_n 3, 1) := by decide +kernel
theorem dX8_group_74 : decode cX8_group 74 = .ok (.iaload, 1) := by decide +kernel
theorem dX8_group_75 : decode cX8_group 75 = .ok (.bipush 49, 2) := by decide +kernel
theorem dX8_group_77 : decode cX8_group 77 = .ok (.idiv, 1) := by decide +kernel
theorem dX8_group_78 : decode cX8_group 78 = .ok (.bipush 24, 2) := by decide +kernel
theorem dX8_group_80 : decode cX8_group 80 = .ok (.isub, 1) := by decide +kernel
theorem dX8_group_81 : decode cX8_group 81 = .ok (.istore 7, 2) := by decide +kernel
theorem dX8_group_83 : decode cX8_group 83 = .ok (.iload 4, 2) := by decide +kernel
theorem dX8_group_85 : decode cX8_group 85 = .ok (.ifCond .ne 8, 3) := by decide +kernel
theorem dX8_group_88 : decode cX8_group 88 = .ok (.iload 6, 2) := by decide +kernel
theorem dX8_group_90 : decode cX8_group 90 = .ok (.goto 37, 3) := by decide +kernel
theorem dX8_group_93 : decode cX8_group 93 = .ok (.iload 4, 2) := by decide +kernel
theorem dX8_group_95 : decode cX8_group 95 = .ok (.iconst 1, 1) := by decide +kernel
theorem dX8_group_96 : decode cX8_group 96 = .ok (.if_icmp .ne 8, 3) := by decide +kernel
theorem dX8_group_99 : decode cX8_group 99 = .ok (.iload 7, 2) := by decide +kernel
theorem dX8_group_101 : decode cX8_group 101 = .ok (.goto 26, 3) := by decide +kernel
theorem dX8_group_104 : decode cX8_group 104 = .ok (.iload 4, 2) := by decide +kernel
theorem dX8_group_106 : decode cX8_group 106 = .ok (.iconst 2, 1) := by decide +kernel
theorem dX8_group_107 : decode cX8_group 107 = .ok (.if_icmp .ne 12, 3) := by decide +kernel
theorem dX8_group_110 : decode cX8_group 110 = .ok (.aload_n 0, 1) := by decide +kernel
theorem dX8_group_111 : decode cX8_group 111 = .ok (.getfield 55, 3) := by decide +kernel
theorem dX8_group_114 : decode cX8_group 114 = .ok (.iload_n 3, 1) := by decide +kernel
theorem dX8_group_115 : decode cX8_group 115 = .ok (.iaload, 1) := by decide +kernel
theorem dX8_group_116 : decode cX8_group 116 = .ok (.goto 11, 3) := by decide +kernel
theorem dX8_group_119 : decode cX8_group 119 = .ok (.aload_n 0, 1) := by decide +kernel
theorem dX8_group_120 : decode cX8_group 120 = .ok (.iload 6, 2) := by decide +kernel
theorem dX8_group_122 : decode cX8_group 122 = .ok (.iload 7, 2) := by decide +kernel
theorem dX8_group_124 : decode cX8_group 124 = .ok (.invokevirtual 160, 3) := by decide +kernel
theorem dX8_group_127 : decode cX8_group 127 = .ok (.ireturn, 1) := by decide +kernel
theorem dX8_parity_0 : decode cX8_parity 0 = .ok (.iload_n 1, 1) := by decide +kernel
theorem dX8_parity_1 : decode cX8_parity 1 = .ok (.iload_n 2, 1) := by decide +kernel
theorem dX8_parity_2 : decode cX8_parity 2 = .ok (.invokestatic 135, 3) := by decide +kernel
theorem dX8_parity_5 : decode cX8_parity 5 = .ok (.ifCond .ne 6, 3) := by decide +kernel
theorem dX8_parity_8 : decode cX8_parity 8 = .ok (.ldc 92, 2) := by decide +kernel
theorem dX8_parity_10 : decode cX8_parity 10 = .ok (.ireturn, 1) := by decide +kernel
theorem dX8_parity_11 : decode cX8_parity 11 = .ok (.aload_n 0, 1) := by decide +kernel
theorem dX8_parity_12 : decode cX8_parity 12 = .ok (.iload_n 1, 1) := by decide +kernel
theorem dX8_parity_13 : decode cX8_parity 13 = .ok (.iload_n 2, 1) := by decide +kernel
theorem dX8_parity_14 : decode cX8_parity 14 = .ok (.invokevirtual 163, 3) := by decide +kernel
theorem dX8_parity_17 : decode cX8_parity 17 = .ok (.aload_n 0, 1) := by decide +kernel
theorem dX8_parity_18 : decode cX8_parity 18 = .ok (.iload_n 1, 1) := by decide +kernel
theorem dX8_parity_19 : decode cX8_parity 19 = .ok (.iload_n 2, 1) := by decide +kernel
theorem dX8_parity_20 : decode cX8_parity 20 = .ok (.invokevirtual 160, 3) := by decide +kernel
theorem dX8_parity_23 : decode cX8_parity 23 = .ok (.ireturn, 1) := by decide +kernel
theorem dX8_critical_0 : decode cX8_critical 0 = .ok (.iload_n 1, 1) := by decide +kernel
theorem dX8_critical_1 : decode cX8_critical 1 = .ok (.iload_n 2, 1) := by decide +kernel
theorem dX8_critical_2 : decode cX8_critical 2 = .ok (.invokestatic 135, 3) := by decide +kernel
theorem dX8_critical_5 : decode cX8_critical 5 = .ok (.ifCond .ne 5, 3) := by decide +kernel
theorem dX8_critical_8 : decode cX8_critical 8 = .ok (.iconst (-1), 1) := by decide +kernel
theorem dX8_critical_9 : decode cX8_critical 9 = .ok (.ireturn, 1) := by decide +kernel
theorem dX8_critical_10 : decode cX8_critical 10 = .ok (.aload_n 0, 1) := by decide +kernel
theorem dX8_critical_11 : decode cX8_critical 11 = .ok (.iload_n 1, 1) := by decide +kernel
theorem dX8_critical_12 : decode cX8_critical 12 = .ok (.iload_n 2, 1) := by decide +kernel
theorem dX8_critical_13 : decode cX8_critical 13 = .ok (.invokevirtual 163, 3) := by decide +kernel
theorem dX8_critical_16 : decode cX8_critical 16 = .ok (.aload_n 0, 1) := by decide +kernel
theorem dX8_critical_17 : decode cX8_critical 17 = .ok (.iload_n 1, 1) := by decide +kernel
theorem dX8_critical_18 : decode cX8_critical 18 = .ok (.iload_n 2, 1) := by decide +kernel
theorem dX8_critical_19 : decode cX8_critical 19 = .ok (.invokevirtual 167, 3) := by decide +kernel
theorem dX8_critical_22 : decode cX8_critical 22 = .ok (.ifCond .eq 7, 3) := by decide +kernel
theorem dX8_critical_25 : decode cX8_critical 25 = .ok (.iconst 1, 1) := by decide +kernel
theorem dX8_critical_26 : decode cX8_critical 26 = .ok (.goto 4, 3) := by decide +kernel
theorem dX8_critical_29 : decode cX8_critical 29 = .ok (.iconst 0, 1) := by decide +kernel
theorem dX8_critical_30 : decode cX8_critical 30 = .ok (.ireturn, 1) := by decide +kernel
theorem dX8_criticalNow_0 : decode cX8_criticalNow 0 = .ok (.aload_n 0, 1) := by decide +kernel
theorem dX8_criticalNow_1 : decode cX8_criticalNow 1 = .ok (.iload_n 1, 1) := by decide +kernel
theorem dX8_criticalNow_2 : decode cX8_criticalNow 2 = .ok (.iload_n 2, 1) := by decide +kernel
theorem dX8_criticalNow_3 : decode cX8_criticalNow 3 = .ok (.invokevirtual 160, 3) := by decide +kernel
theorem dX8_criticalNow_6 : decode cX8_criticalNow 6 = .ok (.istore_n 3, 1) := by decide +kernel
theorem dX8_criticalNow_7 : decode cX8_criticalNow 7 = .ok (.iload_n 1, 1) := by decide +kernel
theorem dX8_criticalNow_8 : decode cX8_criticalNow 8 = .ok (.bipush 24, 2) := by decide +kernel
theorem dX8_criticalNow_10 : decode cX8_criticalNow 10 = .ok (.if_icmp .ge 19, 3) := by decide +kernel
theorem dX8_criticalNow_13 : decode cX8_criticalNow 13 = .ok (.aload_n 0, 1) := by decide +kernel
theorem dX8_criticalNow_14 : decode cX8_criticalNow 14 = .ok (.iload_n 1, 1) := by decide +kernel
theorem dX8_criticalNow_15 : decode cX8_criticalNow 15 = .ok (.iconst 1, 1) := by decide +kernel
theorem dX8_criticalNow_16 : decode cX8_criticalNow 16 = .ok (.iadd, 1) := by decide +kernel
theorem dX8_criticalNow_17 : decode cX8_criticalNow 17 = .ok (.iload_n 2, 1) := by decide +kernel
theorem dX8_criticalNow_18 : decode cX8_criticalNow 18 = .ok (.invokevirtual 160, 3) := by decide +kernel
theorem dX8_criticalNow_21 : decode cX8_criticalNow 21 = .ok (.iload_n 3, 1) := by decide +kernel
theorem dX8_criticalNow_22 : decode cX8_criticalNow 22 = .ok (.if_icmp .eq 7, 3) := by decide +kernel
theorem dX8_criticalNow_25 : decode cX8_criticalNow 25 = .ok (.iconst 1, 1) := by decide +kernel
theorem dX8_criticalNow_26 : decode cX8_criticalNow 26 = .ok (.goto 4, 3) := by decide +kernel
theorem dX8_criticalNow_29 : decode cX8_criticalNow 29 = .ok (.iconst 0, 1) := by decide +kernel
theorem dX8_criticalNow_30 : decode cX8_criticalNow 30 = .ok (.istore 4, 2) := by decide +kernel
theorem dX8_criticalNow_32 : decode cX8_criticalNow 32 = .ok (.iload 4, 2) := by decide +kernel
theorem dX8_criticalNow_34 : decode cX8_criticalNow 34 = .ok (.ifCond .ne 21, 3) := by decide +kernel
theorem dX8_criticalNow_37 : decode cX8_criticalNow 37 = .ok (.iload_n 2, 1) := by decide +kernel
theorem dX8_criticalNow_38 : decode cX8_criticalNow 38 = .ok (.bipush 24, 2) := by decide +kernel
theorem dX8_criticalNow_40 : decode cX8_criticalNow 40 = .ok (.if_icmp .ge 19, 3) := by decide +kernel
theorem dX8_criticalNow_43 : decode cX8_criticalNow 43 = .ok (.aload_n 0, 1) := by decide +kernel
theorem dX8_criticalNow_44 : decode cX8_criticalNow 44 = .ok (.iload_n 1, 1) := by decide +kernel
theorem dX8_criticalNow_45 : decode cX8_criticalNow 45 = .ok (.iload_n 2, 1) := by decide +kernel
theorem dX8_criticalNow_46 : decode cX8_criticalNow 46 = .ok (.iconst 1, 1) := by decide +kernel
theorem dX8_criticalNow_47 : decode cX8_criticalNow 47 = .ok (.iadd, 1) := by decide +kernel
theorem dX8_criticalNow_48 : decode cX8_criticalNow 48 = .ok (.invokevirtual 160, 3) := by decide +kernel
theorem dX8_criticalNow_51 : decode cX8_criticalNow 51 = .ok (.iload_n 3, 1) := by decide +kernel
theorem dX8_criticalNow_52 : decode cX8_criticalNow 52 = .ok (.if_icmp .eq 7, 3) := by decide +kernel
theorem dX8_criticalNow_55 : decode cX8_criticalNow 55 = .ok (.iconst 1, 1) := by decide +kernel
theorem dX8_criticalNow_56 : decode cX8_criticalNow 56 = .ok (.goto 4, 3) := by decide +kernel
theorem dX8_criticalNow_59 : decode cX8_criticalNow 59 = .ok (.iconst 0, 1) := by decide +kernel
theorem dX8_criticalNow_60 : decode cX8_criticalNow 60 = .ok (.ireturn, 1) := by decide +kernel
theorem dX8_rings_0 : decode cX8_rings 0 = .ok (.iload_n 1, 1) := by decide +kernel
theorem dX8_rings_1 : decode cX8_rings 1 = .ok (.iconst 0, 1) := by decide +kernel
theorem dX8_rings_2 : decode cX8_rings 2 = .ok (.iconst 3, 1) := by decide +kernel
theorem dX8_rings_3 : decode cX8_rings 3 = .ok (.invokestatic 74, 3) := by decide +kernel
theorem dX8_rings_6 : decode cX8_rings 6 = .ok (.ifCond .ne 5, 3) := by decide +kernel
theorem dX8_rings_9 : decode cX8_rings 9 = .ok (.iconst (-1), 1) := by decide +kernel
theorem dX8_rings_10 : decode cX8_rings 10 = .ok (.ireturn, 1) := by decide +kernel
theorem dX8_rings_11 : decode cX8_rings 11 = .ok (.aload_n 0, 1) := by decide +kernel
theorem dX8_rings_12 : decode cX8_rings 12 = .ok (.invokevirtual 145, 3) := by decide +kernel
theorem dX8_rings_15 : decode cX8_rings 15 = .ok (.iconst 0, 1) := by decide +kernel
theorem dX8_rings_16 : decode cX8_rings 16 = .ok (.istore_n 2, 1) := by decide +kernel
theorem dX8_rings_17 : decode cX8_rings 17 = .ok (.iconst 0, 1) := by decide +kernel
theorem dX8_rings_18 : decode cX8_rings 18 = .ok (.istore_n 3, 1) := by decide +kernel
theorem dX8_rings_19 : decode cX8_rings 19 = .ok (.iload_n 3, 1) := by decide +kernel
theorem dX8_rings_20 : decode cX8_rings 20 = .ok (.sipush 2401, 3) := by decide +kernel
theorem dX8_rings_23 : decode cX8_rings 23 = .ok (.if_icmp .ge 92, 3) := by decide +kernel
theorem dX8_rings_26 : decode cX8_rings 26 = .ok (.iload_n 3, 1) := by decide +kernel
theorem dX8_rings_27 : decode cX8_rings 27 = .ok (.bipush 49, 2) := by decide +kernel
theorem dX8_rings_29 : decode cX8_rings 29 = .ok (.irem, 1) := by decide +kernel
theorem dX8_rings_30 : decode cX8_rings 30 = .ok (.bipush 24, 2) := by decide +kernel
theorem dX8_rings_32 : decode cX8_rings 32 = .ok (.isub, 1) := by decide +kernel
theorem dX8_rings_33 : decode cX8_rings 33 = .ok (.istore 4, 2) := by decide +kernel
theorem dX8_rings_35 : decode cX8_rings 35 = .ok (.iload_n 3, 1) := by decide +kernel
theorem dX8_rings_36 : decode cX8_rings 36 = .ok (.bipush 49, 2) := by decide +kernel
theorem dX8_rings_38 : decode cX8_rings 38 = .ok (.idiv, 1) := by decide +kernel
theorem dX8_rings_39 : decode cX8_rings 39 = .ok (.bipush 24, 2) := by decide +kernel
theorem dX8_rings_41 : decode cX8_rings 41 = .ok (.isub, 1) := by decide +kernel
theorem dX8_rings_42 : decode cX8_rings 42 = .ok (.istore 5, 2) := by decide +kernel
theorem dX8_rings_44 : decode cX8_rings 44 = .ok (.aload_n 0, 1) := by decide +kernel
theorem dX8_rings_45 : decode cX8_rings 45 = .ok (.getfield 42, 3) := by decide +kernel
theorem dX8_rings_48 : decode cX8_rings 48 = .ok (.iload_n 3, 1) := by decide +kernel
theorem dX8_rings_49 : decode cX8_rings 49 = .ok (.iload_n 1, 1) := by decide +kernel
theorem dX8_rings_50 : decode cX8_rings 50 = .ok (.iconst 2, 1) := by decide +kernel
theorem dX8_rings_51 : decode cX8_rings 51 = .ok (.if_icmp .ge 14, 3) := by decide +kernel
theorem dX8_rings_54 : decode cX8_rings 54 = .ok (.aload_n 0, 1) := by decide +kernel
theorem dX8_rings_55 : decode cX8_rings 55 = .ok (.iload 4, 2) := by decide +kernel
theorem dX8_rings_57 : decode cX8_rings 57 = .ok (.iload 5, 2) := by decide +kernel
theorem dX8_rings_59 : decode cX8_rings 59 = .ok (.invokevirtual 167, 3) := by decide +kernel
theorem dX8_rings_62 : decode cX8_rings 62 = .ok (.goto 29, 3) := by decide +kernel
theorem dX8_rings_65 : decode cX8_rings 65 = .ok (.aload_n 0, 1) := by decide +kernel
theorem dX8_rings_66 : decode cX8_rings 66 = .ok (.iload 4, 2) := by decide +kernel
theorem dX8_rings_68 : decode cX8_rings 68 = .ok (.iload 5, 2) := by decide +kernel
theorem dX8_rings_70 : decode cX8_rings 70 = .ok (.invokevirtual 160, 3) := by decide +kernel
theorem dX8_rings_73 : decode cX8_rings 73 = .ok (.iload_n 1, 1) := by decide +kernel
theorem dX8_rings_74 : decode cX8_rings 74 = .ok (.iconst 2, 1) := by decide +kernel
theorem dX8_rings_75 : decode cX8_rings 75 = .ok (.if_icmp .ne 7, 3) := by decide +kernel
theorem dX8_rings_78 : decode cX8_rings 78 = .ok (.iconst 1, 1) := by decide +kernel
theorem dX8_rings_79 : decode cX8_rings 79 = .ok (.goto 4, 3) := by decide +kernel
theorem dX8_rings_82 : decode cX8_rings 82 = .ok (.iconst (-1), 1) := by decide +kernel
theorem dX8_rings_83 : decode cX8_rings 83 = .ok (.if_icmp .ne 7, 3) := by decide +kernel
theorem dX8_rings_86 : decode cX8_rings 86 = .ok (.iconst 1, 1) := by decide +kernel
theorem dX8_rings_87 : decode cX8_rings 87 = .ok (.goto 4, 3) := by decide +kernel
theorem dX8_rings_90 : decode cX8_rings 90 = .ok (.iconst 0, 1) := by decide +kernel
theorem dX8_rings_91 : decode cX8_rings 91 = .ok (.bastore, 1) := by decide +kernel
theorem dX8_rings_92 : decode cX8_rings 92 = .ok (.iload_n 2, 1) := by decide +kernel
theorem dX8_rings_93 : decode cX8_rings 93 = .ok (.aload_n 0, 1) := by decide +kernel
theorem dX8_rings_94 : decode cX8_rings 94 = .ok (.getfield 42, 3) := by decide +kernel
theorem dX8_rings_97 : decode cX8_rings 97 = .ok (.iload_n 3, 1) := by decide +kernel
theorem dX8_rings_98 : decode cX8_rings 98 = .ok (.baload, 1) := by decide +kernel
theorem dX8_rings_99 : decode cX8_rings 99 = .ok (.ifCond .eq 7, 3) := by decide +kernel
theorem dX8_rings_102 : decode cX8_rings 102 = .ok (.iconst 1, 1) := by decide +kernel
theorem dX8_rings_103 : decode cX8_rings 103 = .ok (.goto 4, 3) := by decide +kernel
theorem dX8_rings_106 : decode cX8_rings 106 = .ok (.iconst 0, 1) := by decide +kernel
theorem dX8_rings_107 : decode cX8_rings 107 = .ok (.iadd, 1) := by decide +kernel
theorem dX8_rings_108 : decode cX8_rings 108 = .ok (.istore_n 2, 1) := by decide +kernel
theorem dX8_rings_109 : decode cX8_rings 109 = .ok (.iinc 3 1, 3) := by decide +kernel
theorem dX8_rings_112 : decode cX8_rings 112 = .ok (.goto (-93), 3) := by decide +kernel
theorem dX8_rings_115 : decode cX8_rings 115 = .ok (.iload_n 1, 1) := by decide +kernel
theorem dX8_rings_116 : decode cX8_rings 116 = .ok (.iconst 1, 1) := by decide +kernel
theorem dX8_rings_117 : decode cX8_rings 117 = .ok (.if_icmp .eq 5, 3) := by decide +kernel
theorem dX8_rings_120 : decode cX8_rings 120 = .ok (.iload_n 2, 1) := by decide +kernel
theorem dX8_rings_121 : decode cX8_rings 121 = .ok (.ireturn, 1) := by decide +kernel
theorem dX8_rings_122 : decode cX8_rings 122 = .ok (.aload_n 0, 1) := by decide +kernel
theorem dX8_rings_123 : decode cX8_rings 123 = .ok (.invokevirtual 157, 3) := by decide +kernel
theorem dX8_rings_126 : decode cX8_rings 126 = .ok (.aload_n 0, 1) := by decide +kernel
theorem dX8_rings_127 : decode cX8_rings 127 = .ok (.getfield 132, 3) := by decide +kernel
theorem dX8_rings_130 : decode cX8_rings 130 = .ok (.ireturn, 1) := by decide +kernel
theorem dX8_brightest_0 : decode cX8_brightest 0 = .ok (.iload_n 1, 1) := by decide +kernel
theorem dX8_brightest_1 : decode cX8_brightest 1 = .ok (.iconst 0, 1) := by decide +kernel
theorem dX8_brightest_2 : decode cX8_brightest 2 = .ok (.iconst 2, 1) := by decide +kernel
theorem dX8_brightest_3 : decode cX8_brightest 3 = .ok (.invokestatic 74, 3) := by decide +kernel
theorem dX8_brightest_6 : decode cX8_brightest 6 = .ok (.ifCond .ne 6, 3) := by decide +kernel
theorem dX8_brightest_9 : decode cX8_brightest 9 = .ok (.ldc 92, 2) := by decide +kernel
theorem dX8_brightest_11 : decode cX8_brightest 11 = .ok (.ireturn, 1) := by decide +kernel
theorem dX8_brightest_12 : decode cX8_brightest 12 = .ok (.aload_n 0, 1) := by decide +kernel
theorem dX8_brightest_13 : decode cX8_brightest 13 = .ok (.invokevirtual 145, 3) := by decide +kernel
theorem dX8_brightest_16 : decode cX8_brightest 16 = .ok (.iconst 0, 1) := by decide +kernel
theorem dX8_brightest_17 : decode cX8_brightest 17 = .ok (.istore_n 2, 1) := by decide +kernel
theorem dX8_brightest_18 : decode cX8_brightest 18 = .ok (.iload_n 2, 1) := by decide +kernel
theorem dX8_brightest_19 : decode cX8_brightest 19 = .ok (.sipush 2401, 3) := by decide +kernel
theorem dX8_brightest_22 : decode cX8_brightest 22 = .ok (.if_icmp .ge 17, 3) := by decide +kernel
theorem dX8_brightest_25 : decode cX8_brightest 25 = .ok (.aload_n 0, 1) := by decide +kernel
theorem dX8_brightest_26 : decode cX8_brightest 26 = .ok (.getfield 46, 3) := by decide +kernel
theorem dX8_brightest_29 : decode cX8_brightest 29 = .ok (.iload_n 2, 1) := by decide +kernel
theorem dX8_brightest_30 : decode cX8_brightest 30 = .ok (.bipush (-9), 2) := by decide +kernel
theorem dX8_brightest_32 : decode cX8_brightest 32 = .ok (.iastore, 1) := by decide +kernel
theorem dX8_brightest_33 : decode cX8_brightest 33 = .ok (.iinc 2 1, 3) := by decide +kernel
theorem dX8_brightest_36 : decode cX8_brightest 36 = .ok (.goto (-18), 3) := by decide +kernel
theorem dX8_brightest_39 : decode cX8_brightest 39 = .ok (.iconst 0, 1) := by decide +kernel
theorem dX8_brightest_40 : decode cX8_brightest 40 = .ok (.istore_n 2, 1) := by decide +kernel
theorem dX8_brightest_41 : decode cX8_brightest 41 = .ok (.iconst 0, 1) := by decide +kernel
theorem dX8_brightest_42 : decode cX8_brightest 42 = .ok (.istore_n 3, 1) := by decide +kernel
theorem dX8_brightest_43 : decode cX8_brightest 43 = .ok (.iconst 0, 1) := by decide +kernel
theorem dX8_brightest_44 : decode cX8_brightest 44 = .ok (.istore 4, 2) := by decide +kernel
theorem dX8_brightest_46 : decode cX8_brightest 46 = .ok (.iload 4, 2) := by decide +kernel
theorem dX8_brightest_48 : decode cX8_brightest 48 = .ok (.sipush 2401, 3) := by decide +kernel
theorem dX8_brightest_51 : decode cX8_brightest 51 = .ok (.if_icmp .ge 200, 3) := by decide +kernel
theorem dX8_brightest_54 : decode cX8_brightest 54 = .ok (.aload_n 0, 1) := by decide +kernel
theorem dX8_brightest_55 : decode cX8_brightest 55 = .ok (.getfield 46, 3) := by decide +kernel
theorem dX8_brightest_58 : decode cX8_brightest 58 = .ok (.iload 4, 2) := by decide +kernel
theorem dX8_brightest_60 : decode cX8_brightest 60 = .ok (.iaload, 1) := by decide +kernel
theorem dX8_brightest_61 : decode cX8_brightest 61 = .ok (.bipush (-9), 2) := by decide +kernel
theorem dX8_brightest_63 : decode cX8_brightest 63 = .ok (.if_icmp .ne 182, 3) := by decide +kernel
theorem dX8_brightest_66 : decode cX8_brightest 66 = .ok (.iconst 0, 1) := by decide +kernel
theorem dX8_brightest_67 : decode cX8_brightest 67 = .ok (.istore 5, 2) := by decide +kernel
theorem dX8_brightest_69 : decode cX8_brightest 69 = .ok (.iload 4, 2) := by decide +kernel
theorem dX8_brightest_71 : decode cX8_brightest 71 = .ok (.istore 6, 2) := by decide +kernel
theorem dX8_brightest_73 : decode cX8_brightest 73 = .ok (.iload 6, 2) := by decide +kernel
theorem dX8_brightest_75 : decode cX8_brightest 75 = .ok (.sipush 2401, 3) := by decide +kernel
theorem dX8_brightest_78 : decode cX8_brightest 78 = .ok (.if_icmp .ge 141, 3) := by decide +kernel
theorem dX8_brightest_81 : decode cX8_brightest 81 = .ok (.aload_n 0, 1) := by decide +kernel
theorem dX8_brightest_82 : decode cX8_brightest 82 = .ok (.iload 6, 2) := by decide +kernel
theorem dX8_brightest_84 : decode cX8_brightest 84 = .ok (.bipush 49, 2) := by decide +kernel
theorem dX8_brightest_86 : decode cX8_brightest 86 = .ok (.irem, 1) := by decide +kernel
theorem dX8_brightest_87 : decode cX8_brightest 87 = .ok (.bipush 24, 2) := by decide +kernel
theorem dX8_brightest_89 : decode cX8_brightest 89 = .ok (.isub, 1) := by decide +kernel
theorem dX8_brightest_90 : decode cX8_brightest 90 = .ok (.iload 6, 2) := by decide +kernel
theorem dX8_brightest_92 : decode cX8_brightest 92 = .ok (.bipush 49, 2) := by decide +kernel
theorem dX8_brightest_94 : decode cX8_brightest 94 = .ok (.idiv, 1) := by decide +kernel
theorem dX8_brightest_95 : decode cX8_brightest 95 = .ok (.bipush 24, 2) := by decide +kernel
theorem dX8_brightest_97 : decode cX8_brightest 97 = .ok (.isub, 1) := by decide +kernel
theorem dX8_brightest_98 : decode cX8_brightest 98 = .ok (.invokevirtual 148, 3) := by decide +kernel
theorem dX8_brightest_101 : decode cX8_brightest 101 = .ok (.aload_n 0, 1) := by decide +kernel
theorem dX8_brightest_102 : decode cX8_brightest 102 = .ok (.iload 4, 2) := by decide +kernel
theorem dX8_brightest_104 : decode cX8_brightest 104 = .ok (.bipush 49, 2) := by decide +kernel
theorem dX8_brightest_106 : decode cX8_brightest 106 = .ok (.irem, 1) := by decide +kernel
theorem dX8_brightest_107 : decode cX8_brightest 107 = .ok (.bipush 24, 2) := by decide +kernel
theorem dX8_brightest_109 : decode cX8_brightest 109 = .ok (.isub, 1) := by decide +kernel
theorem dX8_brightest_110 : decode cX8_brightest 110 = .ok (.iload 4, 2) := by decide +kernel
theorem dX8_brightest_112 : decode cX8_brightest 112 = .ok (.bipush 49, 2) := by decide +kernel
theorem dX8_brightest_114 : decode cX8_brightest 114 = .ok (.idiv, 1) := by decide +kernel
theorem dX8_brightest_115 : decode cX8_brightest 115 = .ok (.bipush 24, 2) := by decide +kernel
theorem dX8_brightest_117 : decode cX8_brightest 117 = .ok (.isub, 1) := by decide +kernel
theorem dX8_brightest_118 : decode cX8_brightest 118 = .ok (.invokevirtual 148, 3) := by decide +kernel
theorem dX8_brightest_121 : decode cX8_brightest 121 = .ok (.if_icmp .ne 50, 3) := by decide +kernel
theorem dX8_brightest_124 : decode cX8_brightest 124 = .ok (.aload_n 0, 1) := by decide +kernel
theorem dX8_brightest_125 : decode cX8_brightest 125 = .ok (.iload 6, 2) := by decide +kernel
theorem dX8_brightest_127 : decode cX8_brightest 127 = .ok (.bipush 49, 2) := by decide +kernel
theorem dX8_brightest_129 : decode cX8_brightest 129 = .ok (.irem, 1) := by decide +kernel
theorem dX8_brightest_130 : decode cX8_brightest 130 = .ok (.bipush 24, 2) := by decide +kernel
theorem dX8_brightest_132 : decode cX8_brightest 132 = .ok (.isub, 1) := by decide +kernel
theorem dX8_brightest_133 : decode cX8_brightest 133 = .ok (.iload 6, 2) := by decide +kernel
theorem dX8_brightest_135 : decode cX8_brightest 135 = .ok (.bipush 49, 2) := by decide +kernel
theorem dX8_brightest_137 : decode cX8_brightest 137 = .ok (.idiv, 1) := by decide +kernel
theorem dX8_brightest_138 : decode cX8_brightest 138 = .ok (.bipush 24, 2) := by decide +kernel
theorem dX8_brightest_140 : decode cX8_brightest 140 = .ok (.isub, 1) := by decide +kernel
theorem dX8_brightest_141 : decode cX8_brightest 141 = .ok (.invokevirtual 151, 3) := by decide +kernel
theorem dX8_brightest_144 : decode cX8_brightest 144 = .ok (.aload_n 0, 1) := by decide +kernel
theorem dX8_brightest_145 : decode cX8_brightest 145 = .ok (.iload 4, 2) := by decide +kernel
theorem dX8_brightest_147 : decode cX8_brightest 147 = .ok (.bipush 49, 2) := by decide +kernel
theorem dX8_brightest_149 : decode cX8_brightest 149 = .ok (.irem, 1) := by decide +kernel
theorem dX8_brightest_150 : decode cX8_brightest 150 = .ok (.bipush 24, 2) := by decide +kernel
theorem dX8_brightest_152 : decode cX8_brightest 152 = .ok (.isub, 1) := by decide +kernel
theorem dX8_brightest_153 : decode cX8_brightest 153 = .ok (.iload 4, 2) := by decide +kernel
theorem dX8_brightest_155 : decode cX8_brightest 155 = .ok (.bipush 49, 2) := by decide +kernel
theorem dX8_brightest_157 : decode cX8_brightest 157 = .ok (.idiv, 1) := by decide +kernel
theorem dX8_brightest_158 : decode cX8_brightest 158 = .ok (.bipush 24, 2) := by decide +kernel
theorem dX8_brightest_160 : decode cX8_brightest 160 = .ok (.isub, 1) := by decide +kernel
theorem dX8_brightest_161 : decode cX8_brightest 161 = .ok (.invokevirtual 151, 3) := by decide +kernel
theorem dX8_brightest_164 : decode cX8_brightest 164 = .ok (.if_icmp .ne 7, 3) := by decide +kernel
theorem dX8_brightest_167 : decode cX8_brightest 167 = .ok (.iconst 1, 1) := by decide +kernel
theorem dX8_brightest_168 : decode cX8_brightest 168 = .ok (.goto 4, 3) := by decide +kernel
theorem dX8_brightest_171 : decode cX8_brightest 171 = .ok (.iconst 0, 1) := by decide +kernel
theorem dX8_brightest_172 : decode cX8_brightest 172 = .ok (.istore 7, 2) := by decide +kernel
theorem dX8_brightest_174 : decode cX8_brightest 174 = .ok (.aload_n 0, 1) := by decide +kernel
theorem dX8_brightest_175 : decode cX8_brightest 175 = .ok (.getfield 46, 3) := by decide +kernel
theorem dX8_brightest_178 : decode cX8_brightest 178 = .ok (.iload 6, 2) := by decide +kernel
theorem dX8_brightest_180 : decode cX8_brightest 180 = .ok (.iload 7, 2) := by decide +kernel
theorem dX8_brightest_182 : decode cX8_brightest 182 = .ok (.ifCond .eq 8, 3) := by decide +kernel
theorem dX8_brightest_185 : decode cX8_brightest 185 = .ok (.iload 4, 2) := by decide +kernel
theorem dX8_brightest_187 : decode cX8_brightest 187 = .ok (.goto 10, 3) := by decide +kernel
theorem dX8_brightest_190 : decode cX8_brightest 190 = .ok (.aload_n 0, 1) := by decide +kernel
theorem dX8_brightest_191 : decode cX8_brightest 191 = .ok (.getfield 46, 3) := by decide +kernel
theorem dX8_brightest_194 : decode cX8_brightest 194 = .ok (.iload 6, 2) := by decide +kernel
theorem dX8_brightest_196 : decode cX8_brightest 196 = .ok (.iaload, 1) := by decide +kernel
theorem dX8_brightest_197 : decode cX8_brightest 197 = .ok (.iastore, 1) := by decide +kernel
theorem dX8_brightest_198 : decode cX8_brightest 198 = .ok (.iload 5, 2) := by decide +kernel
theorem dX8_brightest_200 : decode cX8_brightest 200 = .ok (.iload 7, 2) := by decide +kernel
theorem dX8_brightest_202 : decode cX8_brightest 202 = .ok (.ifCond .eq 7, 3) := by decide +kernel
theorem dX8_brightest_205 : decode cX8_brightest 205 = .ok (.iconst 1, 1) := by decide +kernel
theorem dX8_brightest_206 : decode cX8_brightest 206 = .ok (.goto 4, 3) := by decide +kernel
theorem dX8_brightest_209 : decode cX8_brightest 209 = .ok (.iconst 0, 1) := by decide +kernel
theorem dX8_brightest_210 : decode cX8_brightest 210 = .ok (.iadd, 1) := by decide +kernel
theorem dX8_brightest_211 : decode cX8_brightest 211 = .ok (.istore 5, 2) := by decide +kernel
theorem dX8_brightest_213 : decode cX8_brightest 213 = .ok (.iinc 6 1, 3) := by decide +kernel
theorem dX8_brightest_216 : decode cX8_brightest 216 = .ok (.goto (-143), 3) := by decide +kernel
theorem dX8_brightest_219 : decode cX8_brightest 219 = .ok (.iload 5, 2) := by decide +kernel
theorem dX8_brightest_221 : decode cX8_brightest 221 = .ok (.iload_n 3, 1) := by decide +kernel
theorem dX8_brightest_222 : decode cX8_brightest 222 = .ok (.if_icmp .le 8, 3) := by decide +kernel
theorem dX8_brightest_225 : decode cX8_brightest 225 = .ok (.iload 4, 2) := by decide +kernel
theorem dX8_brightest_227 : decode cX8_brightest 227 = .ok (.goto 4, 3) := by decide +kernel
theorem dX8_brightest_230 : decode cX8_brightest 230 = .ok (.iload_n 2, 1) := by decide +kernel
theorem dX8_brightest_231 : decode cX8_brightest 231 = .ok (.istore_n 2, 1) := by decide +kernel
theorem dX8_brightest_232 : decode cX8_brightest 232 = .ok (.iload 5, 2) := by decide +kernel
theorem dX8_brightest_234 : decode cX8_brightest 234 = .ok (.iload_n 3, 1) := by decide +kernel
theorem dX8_brightest_235 : decode cX8_brightest 235 = .ok (.if_icmp .le 8, 3) := by decide +kernel
theorem dX8_brightest_238 : decode cX8_brightest 238 = .ok (.iload 5, 2) := by decide +kernel
theorem dX8_brightest_240 : decode cX8_brightest 240 = .ok (.goto 4, 3) := by decide +kernel
theorem dX8_brightest_243 : decode cX8_brightest 243 = .ok (.iload_n 3, 1) := by decide +kernel
theorem dX8_brightest_244 : decode cX8_brightest 244 = .ok (.istore_n 3, 1) := by decide +kernel
theorem dX8_brightest_245 : decode cX8_brightest 245 = .ok (.iinc 4 1, 3) := by decide +kernel
theorem dX8_brightest_248 : decode cX8_brightest 248 = .ok (.goto (-202), 3) := by decide +kernel
theorem dX8_brightest_251 : decode cX8_brightest 251 = .ok (.iload_n 1, 1) := by decide +kernel
theorem dX8_brightest_252 : decode cX8_brightest 252 = .ok (.ifCond .ne 7, 3) := by decide +kernel
theorem dX8_brightest_255 : decode cX8_brightest 255 = .ok (.iload_n 3, 1) := by decide +kernel
theorem dX8_brightest_256 : decode cX8_brightest 256 = .ok (.goto 47, 3) := by decide +kernel
theorem dX8_brightest_259 : decode cX8_brightest 259 = .ok (.iload_n 1, 1) := by decide +kernel
theorem dX8_brightest_260 : decode cX8_brightest 260 = .ok (.iconst 1, 1) := by decide +kernel
theorem dX8_brightest_261 : decode cX8_brightest 261 = .ok (.if_icmp .ne 24, 3) := by decide +kernel
theorem dX8_brightest_264 : decode cX8_brightest 264 = .ok (.aload_n 0, 1) := by decide +kernel
theorem dX8_brightest_265 : decode cX8_brightest 265 = .ok (.iload_n 2, 1) := by decide +kernel
theorem dX8_brightest_266 : decode cX8_brightest 266 = .ok (.bipush 49, 2) := by decide +kernel
theorem dX8_brightest_268 : decode cX8_brightest 268 = .ok (.irem, 1) := by decide +kernel
theorem dX8_brightest_269 : decode cX8_brightest 269 = .ok (.bipush 24, 2) := by decide +kernel
theorem dX8_brightest_271 : decode cX8_brightest 271 = .ok (.isub, 1) := by decide +kernel
theorem dX8_brightest_272 : decode cX8_brightest 272 = .ok (.iload_n 2, 1) := by decide +kernel
theorem dX8_brightest_273 : decode cX8_brightest 273 = .ok (.bipush 49, 2) := by decide +kernel
theorem dX8_brightest_275 : decode cX8_brightest 275 = .ok (.idiv, 1) := by decide +kernel
theorem dX8_brightest_276 : decode cX8_brightest 276 = .ok (.bipush 24, 2) := by decide +kernel
theorem dX8_brightest_278 : decode cX8_brightest 278 = .ok (.isub, 1) := by decide +kernel
theorem dX8_brightest_279 : decode cX8_brightest 279 = .ok (.invokevirtual 148, 3) := by decide +kernel
theorem dX8_brightest_282 : decode cX8_brightest 282 = .ok (.goto 21, 3) := by decide +kernel
theorem dX8_brightest_285 : decode cX8_brightest 285 = .ok (.aload_n 0, 1) := by decide +kernel
theorem dX8_brightest_286 : decode cX8_brightest 286 = .ok (.iload_n 2, 1) := by decide +kernel
theorem dX8_brightest_287 : decode cX8_brightest 287 = .ok (.bipush 49, 2) := by decide +kernel
theorem dX8_brightest_289 : decode cX8_brightest 289 = .ok (.irem, 1) := by decide +kernel
theorem dX8_brightest_290 : decode cX8_brightest 290 = .ok (.bipush 24, 2) := by decide +kernel
theorem dX8_brightest_292 : decode cX8_brightest 292 = .ok (.isub, 1) := by decide +kernel
theorem dX8_brightest_293 : decode cX8_brightest 293 = .ok (.iload_n 2, 1) := by decide +kernel
theorem dX8_brightest_294 : decode cX8_brightest 294 = .ok (.bipush 49, 2) := by decide +kernel
theorem dX8_brightest_296 : decode cX8_brightest 296 = .ok (.idiv, 1) := by decide +kernel
theorem dX8_brightest_297 : decode cX8_brightest 297 = .ok (.bipush 24, 2) := by decide +kernel
theorem dX8_brightest_299 : decode cX8_brightest 299 = .ok (.isub, 1) := by decide +kernel
theorem dX8_brightest_300 : decode cX8_brightest 300 = .ok (.invokevirtual 151, 3) := by decide +kernel
theorem dX8_brightest_303 : decode cX8_brightest 303 = .ok (.ireturn, 1) := by decide +kernel
theorem dX8_delay_0 : decode cX8_delay 0 = .ok (.iload_n 1, 1) := by decide +kernel
theorem dX8_delay_1 : decode cX8_delay 1 = .ok (.iload_n 2, 1) := by decide +kernel
theorem dX8_delay_2 : decode cX8_delay 2 = .ok (.invokestatic 135, 3) := by decide +kernel
theorem dX8_delay_5 : decode cX8_delay 5 = .ok (.ifCond .eq 25, 3) := by decide +kernel
theorem dX8_delay_8 : decode cX8_delay 8 = .ok (.iload_n 3, 1) := by decide +kernel
theorem dX8_delay_9 : decode cX8_delay 9 = .ok (.iload 4, 2) := by decide +kernel
theorem dX8_delay_11 : decode cX8_delay 11 = .ok (.invokestatic 135, 3) := by decide +kernel
theorem dX8_delay_14 : decode cX8_delay 14 = .ok (.ifCond .eq 16, 3) := by decide +kernel
theorem dX8_delay_17 : decode cX8_delay 17 = .ok (.iload 5, 2) := by decide +kernel
theorem dX8_delay_19 : decode cX8_delay 19 = .ok (.iload 6, 2) := by decide +kernel
theorem dX8_delay_21 : decode cX8_delay 21 = .ok (.sipush 2000, 3) := by decide +kernel
theorem dX8_delay_24 : decode cX8_delay 24 = .ok (.invokestatic 81, 3) := by decide +kernel
theorem dX8_delay_27 : decode cX8_delay 27 = .ok (.ifCond .ne 7, 3) := by decide +kernel
theorem dX8_delay_30 : decode cX8_delay 30 = .ok (.ldc2_w 170, 3) := by decide +kernel
theorem dX8_delay_33 : decode cX8_delay 33 = .ok (.lreturn, 1) := by decide +kernel
theorem dX8_delay_34 : decode cX8_delay 34 = .ok (.lconst 0, 1) := by decide +kernel
theorem dX8_delay_35 : decode cX8_delay 35 = .ok (.lstore 7, 2) := by decide +kernel
theorem dX8_delay_37 : decode cX8_delay 37 = .ok (.iload_n 3, 1) := by decide +kernel
theorem dX8_delay_38 : decode cX8_delay 38 = .ok (.iload_n 1, 1) := by decide +kernel
theorem dX8_delay_39 : decode cX8_delay 39 = .ok (.if_icmp .le 7, 3) := by decide +kernel
theorem dX8_delay_42 : decode cX8_delay 42 = .ok (.iconst 1, 1) := by decide +kernel
theorem dX8_delay_43 : decode cX8_delay 43 = .ok (.goto 4, 3) := by decide +kernel
theorem dX8_delay_46 : decode cX8_delay 46 = .ok (.iconst (-1), 1) := by decide +kernel
theorem dX8_delay_47 : decode cX8_delay 47 = .ok (.istore 9, 2) := by decide +kernel
theorem dX8_delay_49 : decode cX8_delay 49 = .ok (.iload_n 1, 1) := by decide +kernel
theorem dX8_delay_50 : decode cX8_delay 50 = .ok (.istore 10, 2) := by decide +kernel
theorem dX8_delay_52 : decode cX8_delay 52 = .ok (.iload 10, 2) := by decide +kernel
theorem dX8_delay_54 : decode cX8_delay 54 = .ok (.iload_n 3, 1) := by decide +kernel
theorem dX8_delay_55 : decode cX8_delay 55 = .ok (.if_icmp .eq 52, 3) := by decide +kernel
theorem dX8_delay_58 : decode cX8_delay 58 = .ok (.lload 7, 2) := by decide +kernel
theorem dX8_delay_60 : decode cX8_delay 60 = .ok (.iload 9, 2) := by decide +kernel
theorem dX8_delay_62 : decode cX8_delay 62 = .ok (.i2l, 1) := by decide +kernel
theorem dX8_delay_63 : decode cX8_delay 63 = .ok (.aload_n 0, 1) := by decide +kernel
theorem dX8_delay_64 : decode cX8_delay 64 = .ok (.iload 10, 2) := by decide +kernel
theorem dX8_delay_66 : decode cX8_delay 66 = .ok (.iload_n 2, 1) := by decide +kernel
theorem dX8_delay_67 : decode cX8_delay 67 = .ok (.iconst 0, 1) := by decide +kernel
theorem dX8_delay_68 : decode cX8_delay 68 = .ok (.invokevirtual 111, 3) := by decide +kernel
theorem dX8_delay_71 : decode cX8_delay 71 = .ok (.i2l, 1) := by decide +kernel
theorem dX8_delay_72 : decode cX8_delay 72 = .ok (.aload_n 0, 1) := by decide +kernel
theorem dX8_delay_73 : decode cX8_delay 73 = .ok (.iload 10, 2) := by decide +kernel
theorem dX8_delay_75 : decode cX8_delay 75 = .ok (.iload 9, 2) := by decide +kernel
theorem dX8_delay_77 : decode cX8_delay 77 = .ok (.iadd, 1) := by decide +kernel
theorem dX8_delay_78 : decode cX8_delay 78 = .ok (.iload_n 2, 1) := by decide +kernel
theorem dX8_delay_79 : decode cX8_delay 79 = .ok (.iconst 0, 1) := by decide +kernel
theorem dX8_delay_80 : decode cX8_delay 80 = .ok (.invokevirtual 111, 3) := by decide +kernel
theorem dX8_delay_83 : decode cX8_delay 83 = .ok (.i2l, 1) := by decide +kernel
theorem dX8_delay_84 : decode cX8_delay 84 = .ok (.ladd, 1) := by decide +kernel
theorem dX8_delay_85 : decode cX8_delay 85 = .ok (.ldc2_w 172, 3) := by decide +kernel
theorem dX8_delay_88 : decode cX8_delay 88 = .ok (.iload 5, 2) := by decide +kernel
theorem dX8_delay_90 : decode cX8_delay 90 = .ok (.i2l, 1) := by decide +kernel
theorem dX8_delay_91 : decode cX8_delay 91 = .ok (.lmul, 1) := by decide +kernel
theorem dX8_delay_92 : decode cX8_delay 92 = .ok (.lsub, 1) := by decide +kernel
theorem dX8_delay_93 : decode cX8_delay 93 = .ok (.lmul, 1) := by decide +kernel
theorem dX8_delay_94 : decode cX8_delay 94 = .ok (.ladd, 1) := by decide +kernel
theorem dX8_delay_95 : decode cX8_delay 95 = .ok (.lstore 7, 2) := by decide +kernel
theorem dX8_delay_97 : decode cX8_delay 97 = .ok (.iload 10, 2) := by decide +kernel
theorem dX8_delay_99 : decode cX8_delay 99 = .ok (.iload 9, 2) := by decide +kernel
theorem dX8_delay_101 : decode cX8_delay 101 = .ok (.iadd, 1) := by decide +kernel
theorem dX8_delay_102 : decode cX8_delay 102 = .ok (.istore 10, 2) := by decide +kernel
theorem dX8_delay_104 : decode cX8_delay 104 = .ok (.goto (-52), 3) := by decide +kernel
theorem dX8_delay_107 : decode cX8_delay 107 = .ok (.iload 4, 2) := by decide +kernel
theorem dX8_delay_109 : decode cX8_delay 109 = .ok (.iload_n 2, 1) := by decide +kernel
theorem dX8_delay_110 : decode cX8_delay 110 = .ok (.if_icmp .le 7, 3) := by decide +kernel
theorem dX8_delay_113 : decode cX8_delay 113 = .ok (.iconst 1, 1) := by decide +kernel
theorem dX8_delay_114 : decode cX8_delay 114 = .ok (.goto 4, 3) := by decide +kernel
theorem dX8_delay_117 : decode cX8_delay 117 = .ok (.iconst (-1), 1) := by decide +kernel
theorem dX8_delay_118 : decode cX8_delay 118 = .ok (.istore 9, 2) := by decide +kernel
theorem dX8_delay_120 : decode cX8_delay 120 = .ok (.iload_n 2, 1) := by decide +kernel
theorem dX8_delay_121 : decode cX8_delay 121 = .ok (.istore 10, 2) := by decide +kernel
theorem dX8_delay_123 : decode cX8_delay 123 = .ok (.iload 10, 2) := by decide +kernel
theorem dX8_delay_125 : decode cX8_delay 125 = .ok (.iload 4, 2) := by decide +kernel
theorem dX8_delay_127 : decode cX8_delay 127 = .ok (.if_icmp .eq 52, 3) := by decide +kernel
theorem dX8_delay_130 : decode cX8_delay 130 = .ok (.lload 7, 2) := by decide +kernel
theorem dX8_delay_132 : decode cX8_delay 132 = .ok (.iload 9, 2) := by decide +kernel
theorem dX8_delay_134 : decode cX8_delay 134 = .ok (.i2l, 1) := by decide +kernel
theorem dX8_delay_135 : decode cX8_delay 135 = .ok (.aload_n 0, 1) := by decide +kernel
theorem dX8_delay_136 : decode cX8_delay 136 = .ok (.iload_n 3, 1) := by decide +kernel
theorem dX8_delay_137 : decode cX8_delay 137 = .ok (.iload 10, 2) := by decide +kernel
theorem dX8_delay_139 : decode cX8_delay 139 = .ok (.iconst 1, 1) := by decide +kernel
theorem dX8_delay_140 : decode cX8_delay 140 = .ok (.invokevirtual 111, 3) := by decide +kernel
theorem dX8_delay_143 : decode cX8_delay 143 = .ok (.i2l, 1) := by decide +kernel
theorem dX8_delay_144 : decode cX8_delay 144 = .ok (.aload_n 0, 1) := by decide +kernel
theorem dX8_delay_145 : decode cX8_delay 145 = .ok (.iload_n 3, 1) := by decide +kernel
theorem dX8_delay_146 : decode cX8_delay 146 = .ok (.iload 10, 2) := by decide +kernel
theorem dX8_delay_148 : decode cX8_delay 148 = .ok (.iload 9, 2) := by decide +kernel
theorem dX8_delay_150 : decode cX8_delay 150 = .ok (.iadd, 1) := by decide +kernel
theorem dX8_delay_151 : decode cX8_delay 151 = .ok (.iconst 1, 1) := by decide +kernel
theorem dX8_delay_152 : decode cX8_delay 152 = .ok (.invokevirtual 111, 3) := by decide +kernel
theorem dX8_delay_155 : decode cX8_delay 155 = .ok (.i2l, 1) := by decide +kernel
theorem dX8_delay_156 : decode cX8_delay 156 = .ok (.ladd, 1) := by decide +kernel
theorem dX8_delay_157 : decode cX8_delay 157 = .ok (.ldc2_w 172, 3) := by decide +kernel
theorem dX8_delay_160 : decode cX8_delay 160 = .ok (.iload 6, 2) := by decide +kernel
theorem dX8_delay_162 : decode cX8_delay 162 = .ok (.i2l, 1) := by decide +kernel
theorem dX8_delay_163 : decode cX8_delay 163 = .ok (.lmul, 1) := by decide +kernel
theorem dX8_delay_164 : decode cX8_delay 164 = .ok (.lsub, 1) := by decide +kernel
theorem dX8_delay_165 : decode cX8_delay 165 = .ok (.lmul, 1) := by decide +kernel
theorem dX8_delay_166 : decode cX8_delay 166 = .ok (.ladd, 1) := by decide +kernel
theorem dX8_delay_167 : decode cX8_delay 167 = .ok (.lstore 7, 2) := by decide +kernel
theorem dX8_delay_169 : decode cX8_delay 169 = .ok (.iload 10, 2) := by decide +kernel
theorem dX8_delay_171 : decode cX8_delay 171 = .ok (.iload 9, 2) := by decide +kernel
theorem dX8_delay_173 : decode cX8_delay 173 = .ok (.iadd, 1) := by decide +kernel
theorem dX8_delay_174 : decode cX8_delay 174 = .ok (.istore 10, 2) := by decide +kernel
theorem dX8_delay_176 : decode cX8_delay 176 = .ok (.goto (-53), 3) := by decide +kernel
theorem dX8_delay_179 : decode cX8_delay 179 = .ok (.lload 7, 2) := by decide +kernel
theorem dX8_delay_181 : decode cX8_delay 181 = .ok (.lreturn, 1) := by decide +kernel
theorem dX8_stretch_0 : decode cX8_stretch 0 = .ok (.iload_n 1, 1) := by decide +kernel
theorem dX8_stretch_1 : decode cX8_stretch 1 = .ok (.iconst 1, 1) := by decide +kernel
theorem dX8_stretch_2 : decode cX8_stretch 2 = .ok (.bipush 24, 2) := by decide +kernel
theorem dX8_stretch_4 : decode cX8_stretch 4 = .ok (.invokestatic 74, 3) := by decide +kernel
theorem dX8_stretch_7 : decode cX8_stretch 7 = .ok (.ifCond .ne 6, 3) := by decide +kernel
theorem dX8_stretch_10 : decode cX8_stretch 10 = .ok (.ldc 92, 2) := by decide +kernel
theorem dX8_stretch_12 : decode cX8_stretch 12 = .ok (.ireturn, 1) := by decide +kernel
theorem dX8_stretch_13 : decode cX8_stretch 13 = .ok (.aload_n 0, 1) := by decide +kernel
theorem dX8_stretch_14 : decode cX8_stretch 14 = .ok (.invokevirtual 145, 3) := by decide +kernel
theorem dX8_stretch_17 : decode cX8_stretch 17 = .ok (.lconst 0, 1) := by decide +kernel
theorem dX8_stretch_18 : decode cX8_stretch 18 = .ok (.lstore_n 2, 1) := by decide +kernel
theorem dX8_stretch_19 : decode cX8_stretch 19 = .ok (.iload_n 1, 1) := by decide +kernel
theorem dX8_stretch_20 : decode cX8_stretch 20 = .ok (.ineg, 1) := by decide +kernel
theorem dX8_stretch_21 : decode cX8_stretch 21 = .ok (.istore 4, 2) := by decide +kernel
theorem dX8_stretch_23 : decode cX8_stretch 23 = .ok (.iload 4, 2) := by decide +kernel
theorem dX8_stretch_25 : decode cX8_stretch 25 = .ok (.iload_n 1, 1) := by decide +kernel
theorem dX8_stretch_26 : decode cX8_stretch 26 = .ok (.if_icmp .gt 218, 3) := by decide +kernel
theorem dX8_stretch_29 : decode cX8_stretch 29 = .ok (.iload_n 1, 1) := by decide +kernel
theorem dX8_stretch_30 : decode cX8_stretch 30 = .ok (.ineg, 1) := by decide +kernel
theorem dX8_stretch_31 : decode cX8_stretch 31 = .ok (.istore 5, 2) := by decide +kernel
theorem dX8_stretch_33 : decode cX8_stretch 33 = .ok (.iload 5, 2) := by decide +kernel
theorem dX8_stretch_35 : decode cX8_stretch 35 = .ok (.iload_n 1, 1) := by decide +kernel
theorem dX8_stretch_36 : decode cX8_stretch 36 = .ok (.if_icmp .gt 202, 3) := by decide +kernel
theorem dX8_stretch_39 : decode cX8_stretch 39 = .ok (.iload 5, 2) := by decide +kernel
theorem dX8_stretch_41 : decode cX8_stretch 41 = .ok (.iload_n 1, 1) := by decide +kernel
theorem dX8_stretch_42 : decode cX8_stretch 42 = .ok (.if_icmp .eq 23, 3) := by decide +kernel
theorem dX8_stretch_45 : decode cX8_stretch 45 = .ok (.iload 5, 2) := by decide +kernel
theorem dX8_stretch_47 : decode cX8_stretch 47 = .ok (.iload_n 1, 1) := by decide +kernel
theorem dX8_stretch_48 : decode cX8_stretch 48 = .ok (.ineg, 1) := by decide +kernel
theorem dX8_stretch_49 : decode cX8_stretch 49 = .ok (.if_icmp .eq 16, 3) := by decide +kernel
theorem dX8_stretch_52 : decode cX8_stretch 52 = .ok (.iload 4, 2) := by decide +kernel
theorem dX8_stretch_54 : decode cX8_stretch 54 = .ok (.iload_n 1, 1) := by decide +kernel
theorem dX8_stretch_55 : decode cX8_stretch 55 = .ok (.if_icmp .eq 10, 3) := by decide +kernel
theorem dX8_stretch_58 : decode cX8_stretch 58 = .ok (.iload 4, 2) := by decide +kernel
theorem dX8_stretch_60 : decode cX8_stretch 60 = .ok (.iload_n 1, 1) := by decide +kernel
theorem dX8_stretch_61 : decode cX8_stretch 61 = .ok (.ineg, 1) := by decide +kernel
theorem dX8_stretch_62 : decode cX8_stretch 62 = .ok (.if_icmp .ne 170, 3) := by decide +kernel
theorem dX8_stretch_65 : decode cX8_stretch 65 = .ok (.aload_n 0, 1) := by decide +kernel
theorem dX8_stretch_66 : decode cX8_stretch 66 = .ok (.getfield 36, 3) := by decide +kernel
theorem dX8_stretch_69 : decode cX8_stretch 69 = .ok (.iload 5, 2) := by decide +kernel
theorem dX8_stretch_71 : decode cX8_stretch 71 = .ok (.iconst 1, 1) := by decide +kernel
theorem dX8_stretch_72 : decode cX8_stretch 72 = .ok (.iadd, 1) := by decide +kernel
theorem dX8_stretch_73 : decode cX8_stretch 73 = .ok (.iload 4, 2) := by decide +kernel
theorem dX8_stretch_75 : decode cX8_stretch 75 = .ok (.invokestatic 124, 3) := by decide +kernel
theorem dX8_stretch_78 : decode cX8_stretch 78 = .ok (.iaload, 1) := by decide +kernel
theorem dX8_stretch_79 : decode cX8_stretch 79 = .ok (.aload_n 0, 1) := by decide +kernel
theorem dX8_stretch_80 : decode cX8_stretch 80 = .ok (.getfield 36, 3) := by decide +kernel
theorem dX8_stretch_83 : decode cX8_stretch 83 = .ok (.iload 5, 2) := by decide +kernel
theorem dX8_stretch_85 : decode cX8_stretch 85 = .ok (.iconst 1, 1) := by decide +kernel
theorem dX8_stretch_86 : decode cX8_stretch 86 = .ok (.isub, 1) := by decide +kernel
theorem dX8_stretch_87 : decode cX8_stretch 87 = .ok (.iload 4, 2) := by decide +kernel
theorem dX8_stretch_89 : decode cX8_stretch 89 = .ok (.invokestatic 124, 3) := by decide +kernel
theorem dX8_stretch_92 : decode cX8_stretch 92 = .ok (.iaload, 1) := by decide +kernel
theorem dX8_stretch_93 : decode cX8_stretch 93 = .ok (.isub, 1) := by decide +kernel
theorem dX8_stretch_94 : decode cX8_stretch 94 = .ok (.i2l, 1) := by decide +kernel
theorem dX8_stretch_95 : decode cX8_stretch 95 = .ok (.lstore 6, 2) := by decide +kernel
theorem dX8_stretch_97 : decode cX8_stretch 97 = .ok (.aload_n 0, 1) := by decide +kernel
theorem dX8_stretch_98 : decode cX8_stretch 98 = .ok (.getfield 39, 3) := by decide +kernel
theorem dX8_stretch_101 : decode cX8_stretch 101 = .ok (.iload 5, 2) := by decide +kernel
theorem dX8_stretch_103 : decode cX8_stretch 103 = .ok (.iconst 1, 1) := by decide +kernel
theorem dX8_stretch_104 : decode cX8_stretch 104 = .ok (.iadd, 1) := by decide +kernel
theorem dX8_stretch_105 : decode cX8_stretch 105 = .ok (.iload 4, 2) := by decide +kernel
theorem dX8_stretch_107 : decode cX8_stretch 107 = .ok (.invokestatic 124, 3) := by decide +kernel
theorem dX8_stretch_110 : decode cX8_stretch 110 = .ok (.iaload, 1) := by decide +kernel
theorem dX8_stretch_111 : decode cX8_stretch 111 = .ok (.aload_n 0, 1) := by decide +kernel
theorem dX8_stretch_112 : decode cX8_stretch 112 = .ok (.getfield 39, 3) := by decide +kernel
theorem dX8_stretch_115 : decode cX8_stretch 115 = .ok (.iload 5, 2) := by decide +kernel
theorem dX8_stretch_117 : decode cX8_stretch 117 = .ok (.iconst 1, 1) := by decide +kernel
theorem dX8_stretch_118 : decode cX8_stretch 118 = .ok (.isub, 1) := by decide +kernel
theorem dX8_stretch_119 : decode cX8_stretch 119 = .ok (.iload 4, 2) := by decide +kernel
theorem dX8_stretch_121 : decode cX8_stretch 121 = .ok (.invokestatic 124, 3) := by decide +kernel
theorem dX8_stretch_124 : decode cX8_stretch 124 = .ok (.iaload, 1) := by decide +kernel
theorem dX8_stretch_125 : decode cX8_stretch 125 = .ok (.isub, 1) := by decide +kernel
theorem dX8_stretch_126 : decode cX8_stretch 126 = .ok (.i2l, 1) := by decide +kernel
theorem dX8_stretch_127 : decode cX8_stretch 127 = .ok (.lstore 8, 2) := by decide +kernel
theorem dX8_stretch_129 : decode cX8_stretch 129 = .ok (.aload_n 0, 1) := by decide +kernel
theorem dX8_stretch_130 : decode cX8_stretch 130 = .ok (.getfield 36, 3) := by decide +kernel
theorem dX8_stretch_133 : decode cX8_stretch 133 = .ok (.iload 5, 2) := by decide +kernel
theorem dX8_stretch_135 : decode cX8_stretch 135 = .ok (.iload 4, 2) := by decide +kernel
theorem dX8_stretch_137 : decode cX8_stretch 137 = .ok (.iconst 1, 1) := by decide +kernel
theorem dX8_stretch_138 : decode cX8_stretch 138 = .ok (.iadd, 1) := by decide +kernel
theorem dX8_stretch_139 : decode cX8_stretch 139 = .ok (.invokestatic 124, 3) := by decide +kernel
theorem dX8_stretch_142 : decode cX8_stretch 142 = .ok (.iaload, 1) := by decide +kernel
theorem dX8_stretch_143 : decode cX8_stretch 143 = .ok (.aload_n 0, 1) := by decide +kernel
theorem dX8_stretch_144 : decode cX8_stretch 144 = .ok (.getfield 36, 3) := by decide +kernel
theorem dX8_stretch_147 : decode cX8_stretch 147 = .ok (.iload 5, 2) := by decide +kernel
theorem dX8_stretch_149 : decode cX8_stretch 149 = .ok (.iload 4, 2) := by decide +kernel
theorem dX8_stretch_151 : decode cX8_stretch 151 = .ok (.iconst 1, 1) := by decide +kernel
theorem dX8_stretch_152 : decode cX8_stretch 152 = .ok (.isub, 1) := by decide +kernel
theorem dX8_stretch_153 : decode cX8_stretch 153 = .ok (.invokestatic 124, 3) := by decide +kernel
theorem dX8_stretch_156 : decode cX8_stretch 156 = .ok (.iaload, 1) := by decide +kernel
theorem dX8_stretch_157 : decode cX8_stretch 157 = .ok (.isub, 1) := by decide +kernel
theorem dX8_stretch_158 : decode cX8_stretch 158 = .ok (.i2l, 1) := by decide +kernel
theorem dX8_stretch_159 : decode cX8_stretch 159 = .ok (.lstore 10, 2) := by decide +kernel
theorem dX8_stretch_161 : decode cX8_stretch 161 = .ok (.aload_n 0, 1) := by decide +kernel
theorem dX8_stretch_162 : decode cX8_stretch 162 = .ok (.getfield 39, 3) := by decide +kernel
theorem dX8_stretch_165 : decode cX8_stretch 165 = .ok (.iload 5, 2) := by decide +kernel
theorem dX8_stretch_167 : decode cX8_stretch 167 = .ok (.iload 4, 2) := by decide +kernel
theorem dX8_stretch_169 : decode cX8_stretch 169 = .ok (.iconst 1, 1) := by decide +kernel
theorem dX8_stretch_170 : decode cX8_stretch 170 = .ok (.iadd, 1) := by decide +kernel
theorem dX8_stretch_171 : decode cX8_stretch 171 = .ok (.invokestatic 124, 3) := by decide +kernel
theorem dX8_stretch_174 : decode cX8_stretch 174 = .ok (.iaload, 1) := by decide +kernel
theorem dX8_stretch_175 : decode cX8_stretch 175 = .ok (.aload_n 0, 1) := by decide +kernel
theorem dX8_stretch_176 : decode cX8_stretch 176 = .ok (.getfield 39, 3) := by decide +kernel
theorem dX8_stretch_179 : decode cX8_stretch 179 = .ok (.iload 5, 2) := by decide +kernel
theorem dX8_stretch_181 : decode cX8_stretch 181 = .ok (.iload 4, 2) := by decide +kernel
theorem dX8_stretch_183 : decode cX8_stretch 183 = .ok (.iconst 1, 1) := by decide +kernel
theorem dX8_stretch_184 : decode cX8_stretch 184 = .ok (.isub, 1) := by decide +kernel
theorem dX8_stretch_185 : decode cX8_stretch 185 = .ok (.invokestatic 124, 3) := by decide +kernel
theorem dX8_stretch_188 : decode cX8_stretch 188 = .ok (.iaload, 1) := by decide +kernel
theorem dX8_stretch_189 : decode cX8_stretch 189 = .ok (.isub, 1) := by decide +kernel
theorem dX8_stretch_190 : decode cX8_stretch 190 = .ok (.i2l, 1) := by decide +kernel
theorem dX8_stretch_191 : decode cX8_stretch 191 = .ok (.lstore 12, 2) := by decide +kernel
theorem dX8_stretch_193 : decode cX8_stretch 193 = .ok (.lload_n 2, 1) := by decide +kernel
theorem dX8_stretch_194 : decode cX8_stretch 194 = .ok (.ldc2_w 172, 3) := by decide +kernel
theorem dX8_stretch_197 : decode cX8_stretch 197 = .ok (.lload 8, 2) := by decide +kernel
theorem dX8_stretch_199 : decode cX8_stretch 199 = .ok (.lload 10, 2) := by decide +kernel
theorem dX8_stretch_201 : decode cX8_stretch 201 = .ok (.ladd, 1) := by decide +kernel
theorem dX8_stretch_202 : decode cX8_stretch 202 = .ok (.lmul, 1) := by decide +kernel
theorem dX8_stretch_203 : decode cX8_stretch 203 = .ok (.iload 5, 2) := by decide +kernel
theorem dX8_stretch_205 : decode cX8_stretch 205 = .ok (.i2l, 1) := by decide +kernel
theorem dX8_stretch_206 : decode cX8_stretch 206 = .ok (.lmul, 1) := by decide +kernel
theorem dX8_stretch_207 : decode cX8_stretch 207 = .ok (.iload 4, 2) := by decide +kernel
theorem dX8_stretch_209 : decode cX8_stretch 209 = .ok (.i2l, 1) := by decide +kernel
theorem dX8_stretch_210 : decode cX8_stretch 210 = .ok (.lmul, 1) := by decide +kernel
theorem dX8_stretch_211 : decode cX8_stretch 211 = .ok (.lload 6, 2) := by decide +kernel
theorem dX8_stretch_213 : decode cX8_stretch 213 = .ok (.lload 12, 2) := by decide +kernel
theorem dX8_stretch_215 : decode cX8_stretch 215 = .ok (.lsub, 1) := by decide +kernel
theorem dX8_stretch_216 : decode cX8_stretch 216 = .ok (.iload 5, 2) := by decide +kernel
theorem dX8_stretch_218 : decode cX8_stretch 218 = .ok (.iload 5, 2) := by decide +kernel
theorem dX8_stretch_220 : decode cX8_stretch 220 = .ok (.imul, 1) := by decide +kernel
theorem dX8_stretch_221 : decode cX8_stretch 221 = .ok (.iload 4, 2) := by decide +kernel
theorem dX8_stretch_223 : decode cX8_stretch 223 = .ok (.iload 4, 2) := by decide +kernel
theorem dX8_stretch_225 : decode cX8_stretch 225 = .ok (.imul, 1) := by decide +kernel
theorem dX8_stretch_226 : decode cX8_stretch 226 = .ok (.isub, 1) := by decide +kernel
theorem dX8_stretch_227 : decode cX8_stretch 227 = .ok (.i2l, 1) := by decide +kernel
theorem dX8_stretch_228 : decode cX8_stretch 228 = .ok (.lmul, 1) := by decide +kernel
theorem dX8_stretch_229 : decode cX8_stretch 229 = .ok (.lsub, 1) := by decide +kernel
theorem dX8_stretch_230 : decode cX8_stretch 230 = .ok (.ladd, 1) := by decide +kernel
theorem dX8_stretch_231 : decode cX8_stretch 231 = .ok (.lstore_n 2, 1) := by decide +kernel
theorem dX8_stretch_232 : decode cX8_stretch 232 = .ok (.iinc 5 1, 3) := by decide +kernel
theorem dX8_stretch_235 : decode cX8_stretch 235 = .ok (.goto (-202), 3) := by decide +kernel
theorem dX8_stretch_238 : decode cX8_stretch 238 = .ok (.iinc 4 1, 3) := by decide +kernel
theorem dX8_stretch_241 : decode cX8_stretch 241 = .ok (.goto (-218), 3) := by decide +kernel
theorem dX8_stretch_244 : decode cX8_stretch 244 = .ok (.lload_n 2, 1) := by decide +kernel
theorem dX8_stretch_245 : decode cX8_stretch 245 = .ok (.sipush 128, 3) := by decide +kernel
theorem dX8_stretch_248 : decode cX8_stretch 248 = .ok (.invokestatic 117, 3) := by decide +kernel
theorem dX8_stretch_251 : decode cX8_stretch 251 = .ok (.ireturn, 1) := by decide +kernel
theorem dX8_type_0 : decode cX8_type 0 = .ok (.iload_n 3, 1) := by decide +kernel
theorem dX8_type_1 : decode cX8_type 1 = .ok (.iconst 1, 1) := by decide +kernel
theorem dX8_type_2 : decode cX8_type 2 = .ok (.bipush 8, 2) := by decide +kernel
theorem dX8_type_4 : decode cX8_type 4 = .ok (.invokestatic 74, 3) := by decide +kernel
theorem dX8_type_7 : decode cX8_type 7 = .ok (.ifCond .ne 5, 3) := by decide +kernel
theorem dX8_type_10 : decode cX8_type 10 = .ok (.iconst (-1), 1) := by decide +kernel
theorem dX8_type_11 : decode cX8_type 11 = .ok (.ireturn, 1) := by decide +kernel
theorem dX8_type_12 : decode cX8_type 12 = .ok (.aload_n 0, 1) := by decide +kernel
theorem dX8_type_13 : decode cX8_type 13 = .ok (.getfield 174, 3) := by decide +kernel
theorem dX8_type_16 : decode cX8_type 16 = .ok (.iload_n 3, 1) := by decide +kernel
theorem dX8_type_17 : decode cX8_type 17 = .ok (.iadd, 1) := by decide +kernel
theorem dX8_type_18 : decode cX8_type 18 = .ok (.sipush 200, 3) := by decide +kernel
theorem dX8_type_21 : decode cX8_type 21 = .ok (.if_icmp .le 6, 3) := by decide +kernel
theorem dX8_type_24 : decode cX8_type 24 = .ok (.bipush (-3), 2) := by decide +kernel
theorem dX8_type_26 : decode cX8_type 26 = .ok (.ireturn, 1) := by decide +kernel
theorem dX8_type_27 : decode cX8_type 27 = .ok (.iload_n 3, 1) := by decide +kernel
theorem dX8_type_28 : decode cX8_type 28 = .ok (.iconst 1, 1) := by decide +kernel
theorem dX8_type_29 : decode cX8_type 29 = .ok (.isub, 1) := by decide +kernel
theorem dX8_type_30 : decode cX8_type 30 = .ok (.istore 4, 2) := by decide +kernel
theorem dX8_type_32 : decode cX8_type 32 = .ok (.iload 4, 2) := by decide +kernel
theorem dX8_type_34 : decode cX8_type 34 = .ok (.ifCond .lt 41, 3) := by decide +kernel
theorem dX8_type_37 : decode cX8_type 37 = .ok (.aload_n 0, 1) := by decide +kernel
theorem dX8_type_38 : decode cX8_type 38 = .ok (.getfield 13, 3) := by decide +kernel
theorem dX8_type_41 : decode cX8_type 41 = .ok (.aload_n 0, 1) := by decide +kernel
theorem dX8_type_42 : decode cX8_type 42 = .ok (.getfield 174, 3) := by decide +kernel
theorem dX8_type_45 : decode cX8_type 45 = .ok (.lload_n 1, 1) := by decide +kernel
theorem dX8_type_46 : decode cX8_type 46 = .ok (.bipush 8, 2) := by decide +kernel
theorem dX8_type_48 : decode cX8_type 48 = .ok (.iload 4, 2) := by decide +kernel
theorem dX8_type_50 : decode cX8_type 50 = .ok (.imul, 1) := by decide +kernel
theorem dX8_type_51 : decode cX8_type 51 = .ok (.lshr, 1) := by decide +kernel
theorem dX8_type_52 : decode cX8_type 52 = .ok (.ldc2_w 177, 3) := by decide +kernel
theorem dX8_type_55 : decode cX8_type 55 = .ok (.land, 1) := by decide +kernel
theorem dX8_type_56 : decode cX8_type 56 = .ok (.l2i, 1) := by decide +kernel
theorem dX8_type_57 : decode cX8_type 57 = .ok (.i2b, 1) := by decide +kernel
theorem dX8_type_58 : decode cX8_type 58 = .ok (.bastore, 1) := by decide +kernel
theorem dX8_type_59 : decode cX8_type 59 = .ok (.aload_n 0, 1) := by decide +kernel
theorem dX8_type_60 : decode cX8_type 60 = .ok (.dup, 1) := by decide +kernel
theorem dX8_type_61 : decode cX8_type 61 = .ok (.getfield 174, 3) := by decide +kernel
theorem dX8_type_64 : decode cX8_type 64 = .ok (.iconst 1, 1) := by decide +kernel
theorem dX8_type_65 : decode cX8_type 65 = .ok (.iadd, 1) := by decide +kernel
theorem dX8_type_66 : decode cX8_type 66 = .ok (.putfield 174, 3) := by decide +kernel
theorem dX8_type_69 : decode cX8_type 69 = .ok (.iinc 4 (-1), 3) := by decide +kernel
theorem dX8_type_72 : decode cX8_type 72 = .ok (.goto (-40), 3) := by decide +kernel
theorem dX8_type_75 : decode cX8_type 75 = .ok (.aload_n 0, 1) := by decide +kernel
theorem dX8_type_76 : decode cX8_type 76 = .ok (.getfield 174, 3) := by decide +kernel
theorem dX8_type_79 : decode cX8_type 79 = .ok (.ireturn, 1) := by decide +kernel
theorem dX8_clear_0 : decode cX8_clear 0 = .ok (.aload_n 0, 1) := by decide +kernel
theorem dX8_clear_1 : decode cX8_clear 1 = .ok (.getfield 174, 3) := by decide +kernel
theorem dX8_clear_4 : decode cX8_clear 4 = .ok (.istore_n 1, 1) := by decide +kernel
theorem dX8_clear_5 : decode cX8_clear 5 = .ok (.aload_n 0, 1) := by decide +kernel
theorem dX8_clear_6 : decode cX8_clear 6 = .ok (.iconst 0, 1) := by decide +kernel
theorem dX8_clear_7 : decode cX8_clear 7 = .ok (.putfield 174, 3) := by decide +kernel
theorem dX8_clear_10 : decode cX8_clear 10 = .ok (.iload_n 1, 1) := by decide +kernel
theorem dX8_clear_11 : decode cX8_clear 11 = .ok (.ireturn, 1) := by decide +kernel
theorem dX8_here_0 : decode cX8_here 0 = .ok (.aload_n 0, 1) := by decide +kernel
theorem dX8_here_1 : decode cX8_here 1 = .ok (.getfield 179, 3) := by decide +kernel
theorem dX8_here_4 : decode cX8_here 4 = .ok (.aload_n 0, 1) := by decide +kernel
theorem dX8_here_5 : decode cX8_here 5 = .ok (.getfield 174, 3) := by decide +kernel
theorem dX8_here_8 : decode cX8_here 8 = .ok (.if_icmp .ge 15, 3) := by decide +kernel
theorem dX8_here_11 : decode cX8_here 11 = .ok (.aload_n 0, 1) := by decide +kernel
theorem dX8_here_12 : decode cX8_here 12 = .ok (.getfield 13, 3) := by decide +kernel
theorem dX8_here_15 : decode cX8_here 15 = .ok (.aload_n 0, 1) := by decide +kernel
theorem dX8_here_16 : decode cX8_here 16 = .ok (.getfield 179, 3) := by decide +kernel
theorem dX8_here_19 : decode cX8_here 19 = .ok (.baload, 1) := by decide +kernel
theorem dX8_here_20 : decode cX8_here 20 = .ok (.goto 4, 3) := by decide +kernel
theorem dX8_here_23 : decode cX8_here 23 = .ok (.iconst (-1), 1) := by decide +kernel
theorem dX8_here_24 : decode cX8_here 24 = .ok (.ireturn, 1) := by decide +kernel
theorem dX8_isDigit_0 : decode cX8_isDigit 0 = .ok (.aload_n 0, 1) := by decide +kernel
theorem dX8_isDigit_1 : decode cX8_isDigit 1 = .ok (.invokevirtual 182, 3) := by decide +kernel
theorem dX8_isDigit_4 : decode cX8_isDigit 4 = .ok (.bipush 48, 2) := by decide +kernel
theorem dX8_isDigit_6 : decode cX8_isDigit 6 = .ok (.bipush 57, 2) := by decide +kernel
theorem dX8_isDigit_8 : decode cX8_isDigit 8 = .ok (.invokestatic 74, 3) := by decide +kernel
theorem dX8_isDigit_11 : decode cX8_isDigit 11 = .ok (.ireturn, 1) := by decide +kernel
theorem dX8_sign_0 : decode cX8_sign 0 = .ok (.aload_n 0, 1) := by decide +kernel
theorem dX8_sign_1 : decode cX8_sign 1 = .ok (.getfield 186, 3) := by decide +kernel
theorem dX8_sign_4 : decode cX8_sign 4 = .ok (.bipush (-9), 2) := by decide +kernel
theorem dX8_sign_6 : decode cX8_sign 6 = .ok (.if_icmp .ne 34, 3) := by decide +kernel
theorem dX8_sign_9 : decode cX8_sign 9 = .ok (.aload_n 0, 1) := by decide +kernel
theorem dX8_sign_10 : decode cX8_sign 10 = .ok (.aload_n 0, 1) := by decide +kernel
theorem dX8_sign_11 : decode cX8_sign 11 = .ok (.invokevirtual 182, 3) := by decide +kernel
theorem dX8_sign_14 : decode cX8_sign 14 = .ok (.iload_n 1, 1) := by decide +kernel
theorem dX8_sign_15 : decode cX8_sign 15 = .ok (.if_icmp .ne 8, 3) := by decide +kernel
theorem dX8_sign_18 : decode cX8_sign 18 = .ok (.bipush (-9), 2) := by decide +kernel
theorem dX8_sign_20 : decode cX8_sign 20 = .ok (.goto 7, 3) := by decide +kernel
theorem dX8_sign_23 : decode cX8_sign 23 = .ok (.aload_n 0, 1) := by decide +kernel
theorem dX8_sign_24 : decode cX8_sign 24 = .ok (.getfield 179, 3) := by decide +kernel
theorem dX8_sign_27 : decode cX8_sign 27 = .ok (.putfield 186, 3) := by decide +kernel
theorem dX8_sign_30 : decode cX8_sign 30 = .ok (.aload_n 0, 1) := by decide +kernel
theorem dX8_sign_31 : decode cX8_sign 31 = .ok (.dup, 1) := by decide +kernel
theorem dX8_sign_32 : decode cX8_sign 32 = .ok (.getfield 179, 3) := by decide +kernel
theorem dX8_sign_35 : decode cX8_sign 35 = .ok (.iconst 1, 1) := by decide +kernel
theorem dX8_sign_36 : decode cX8_sign 36 = .ok (.iadd, 1) := by decide +kernel
theorem dX8_sign_37 : decode cX8_sign 37 = .ok (.putfield 179, 3) := by decide +kernel
theorem dX8_sign_40 : decode cX8_sign 40 = .ok (.return_, 1) := by decide +kernel
theorem dX8_number_0 : decode cX8_number 0 = .ok (.aload_n 0, 1) := by decide +kernel
theorem dX8_number_1 : decode cX8_number 1 = .ok (.getfield 186, 3) := by decide +kernel
theorem dX8_number_4 : decode cX8_number 4 = .ok (.bipush (-9), 2) := by decide +kernel
theorem dX8_number_6 : decode cX8_number 6 = .ok (.if_icmp .eq 5, 3) := by decide +kernel
theorem dX8_number_9 : decode cX8_number 9 = .ok (.iconst 0, 1) := by decide +kernel
theorem dX8_number_10 : decode cX8_number 10 = .ok (.ireturn, 1) := by decide +kernel
theorem dX8_number_11 : decode cX8_number 11 = .ok (.iload_n 2, 1) := by decide +kernel
theorem dX8_number_12 : decode cX8_number 12 = .ok (.ifCond .eq 16, 3) := by decide +kernel
theorem dX8_number_15 : decode cX8_number 15 = .ok (.aload_n 0, 1) := by decide +kernel
theorem dX8_number_16 : decode cX8_number 16 = .ok (.invokevirtual 182, 3) := by decide +kernel
theorem dX8_number_19 : decode cX8_number 19 = .ok (.bipush 45, 2) := by decide +kernel
theorem dX8_number_21 : decode cX8_number 21 = .ok (.if_icmp .ne 7, 3) := by decide +kernel
theorem dX8_number_24 : decode cX8_number 24 = .ok (.iconst 1, 1) := by decide +kernel
theorem dX8_number_25 : decode cX8_number 25 = .ok (.goto 4, 3) := by decide +kernel
theorem dX8_number_28 : decode cX8_number 28 = .ok (.iconst 0, 1) := by decide +kernel
theorem dX8_number_29 : decode cX8_number 29 = .ok (.istore_n 3, 1) := by decide +kernel
theorem dX8_number_30 : decode cX8_number 30 = .ok (.aload_n 0, 1) := by decide +kernel
theorem dX8_number_31 : decode cX8_number 31 = .ok (.dup, 1) := by decide +kernel
theorem dX8_number_32 : decode cX8_number 32 = .ok (.getfield 179, 3) := by decide +kernel
theorem dX8_number_35 : decode cX8_number 35 = .ok (.iload_n 3, 1) := by decide +kernel
theorem dX8_number_36 : decode cX8_number 36 = .ok (.ifCond .eq 7, 3) := by decide +kernel
theorem dX8_number_39 : decode cX8_number 39 = .ok (.iconst 1, 1) := by decide +kernel
theorem dX8_number_40 : decode cX8_number 40 = .ok (.goto 4, 3) := by decide +kernel
theorem dX8_number_43 : decode cX8_number 43 = .ok (.iconst 0, 1) := by decide +kernel
theorem dX8_number_44 : decode cX8_number 44 = .ok (.iadd, 1) := by decide +kernel
theorem dX8_number_45 : decode cX8_number 45 = .ok (.putfield 179, 3) := by decide +kernel
theorem dX8_number_48 : decode cX8_number 48 = .ok (.aload_n 0, 1) := by decide +kernel
theorem dX8_number_49 : decode cX8_number 49 = .ok (.invokevirtual 189, 3) := by decide +kernel
theorem dX8_number_52 : decode cX8_number 52 = .ok (.ifCond .eq 16, 3) := by decide +kernel
theorem dX8_number_55 : decode cX8_number 55 = .ok (.iload_n 3, 1) := by decide +kernel
theorem dX8_number_56 : decode cX8_number 56 = .ok (.ifCond .eq 22, 3) := by decide +kernel
theorem dX8_number_59 : decode cX8_number 59 = .ok (.aload_n 0, 1) := by decide +kernel
theorem dX8_number_60 : decode cX8_number 60 = .ok (.invokevirtual 182, 3) := by decide +kernel
theorem dX8_number_63 : decode cX8_number 63 = .ok (.bipush 48, 2) := by decide +kernel
theorem dX8_number_65 : decode cX8_number 65 = .ok (.if_icmp .ne 13, 3) := by decide +kernel
theorem dX8_number_68 : decode cX8_number 68 = .ok (.aload_n 0, 1) := by decide +kernel
theorem dX8_number_69 : decode cX8_number 69 = .ok (.aload_n 0, 1) := by decide +kernel
theorem dX8_number_70 : decode cX8_number 70 = .ok (.getfield 179, 3) := by decide +kernel
theorem dX8_number_73 : decode cX8_number 73 = .ok (.putfield 186, 3) := by decide +kernel
theorem dX8_number_76 : decode cX8_number 76 = .ok (.iconst 0, 1) := by decide +kernel
theorem dX8_number_77 : decode cX8_number 77 = .ok (.ireturn, 1) := by decide +kernel
theorem dX8_number_78 : decode cX8_number 78 = .ok (.aload_n 0, 1) := by decide +kernel
theorem dX8_number_79 : decode cX8_number 79 = .ok (.invokevirtual 182, 3) := by decide +kernel
theorem dX8_number_82 : decode cX8_number 82 = .ok (.bipush 48, 2) := by decide +kernel
theorem dX8_number_84 : decode cX8_number 84 = .ok (.if_icmp .ne 7, 3) := by decide +kernel
theorem dX8_number_87 : decode cX8_number 87 = .ok (.iconst 1, 1) := by decide +kernel
theorem dX8_number_88 : decode cX8_number 88 = .ok (.goto 4, 3) := by decide +kernel
theorem dX8_number_91 : decode cX8_number 91 = .ok (.iconst 0, 1) := by decide +kernel
theorem dX8_number_92 : decode cX8_number 92 = .ok (.istore 4, 2) := by decide +kernel
theorem dX8_number_94 : decode cX8_number 94 = .ok (.iconst 0, 1) := by decide +kernel
theorem dX8_number_95 : decode cX8_number 95 = .ok (.istore 5, 2) := by decide +kernel
theorem dX8_number_97 : decode cX8_number 97 = .ok (.iconst 1, 1) := by decide +kernel
theorem dX8_number_98 : decode cX8_number 98 = .ok (.istore 6, 2) := by decide +kernel
theorem dX8_number_100 : decode cX8_number 100 = .ok (.iload 6, 2) := by decide +kernel
theorem dX8_number_102 : decode cX8_number 102 = .ok (.ifCond .eq 78, 3) := by decide +kernel
theorem dX8_number_105 : decode cX8_number 105 = .ok (.bipush 10, 2) := by decide +kernel
theorem dX8_number_107 : decode cX8_number 107 = .ok (.iload 5, 2) := by decide +kernel
theorem dX8_number_109 : decode cX8_number 109 = .ok (.imul, 1) := by decide +kernel
theorem dX8_number_110 : decode cX8_number 110 = .ok (.aload_n 0, 1) := by decide +kernel
theorem dX8_number_111 : decode cX8_number 111 = .ok (.invokevirtual 182, 3) := by decide +kernel
theorem dX8_number_114 : decode cX8_number 114 = .ok (.iadd, 1) := by decide +kernel
theorem dX8_number_115 : decode cX8_number 115 = .ok (.bipush 48, 2) := by decide +kernel
theorem dX8_number_117 : decode cX8_number 117 = .ok (.isub, 1) := by decide +kernel
theorem dX8_number_118 : decode cX8_number 118 = .ok (.istore 5, 2) := by decide +kernel
theorem dX8_number_120 : decode cX8_number 120 = .ok (.aload_n 0, 1) := by decide +kernel
theorem dX8_number_121 : decode cX8_number 121 = .ok (.iload 5, 2) := by decide +kernel
theorem dX8_number_123 : decode cX8_number 123 = .ok (.iload_n 1, 1) := by decide +kernel
theorem dX8_number_124 : decode cX8_number 124 = .ok (.if_icmp .le 10, 3) := by decide +kernel
theorem dX8_number_127 : decode cX8_number 127 = .ok (.aload_n 0, 1) := by decide +kernel
theorem dX8_number_128 : decode cX8_number 128 = .ok (.getfield 179, 3) := by decide +kernel
theorem dX8_number_131 : decode cX8_number 131 = .ok (.goto 5, 3) := by decide +kernel
theorem dX8_number_134 : decode cX8_number 134 = .ok (.bipush (-9), 2) := by decide +kernel
theorem dX8_number_136 : decode cX8_number 136 = .ok (.putfield 186, 3) := by decide +kernel
theorem dX8_number_139 : decode cX8_number 139 = .ok (.aload_n 0, 1) := by decide +kernel
theorem dX8_number_140 : decode cX8_number 140 = .ok (.dup, 1) := by decide +kernel
theorem dX8_number_141 : decode cX8_number 141 = .ok (.getfield 179, 3) := by decide +kernel
theorem dX8_number_144 : decode cX8_number 144 = .ok (.iconst 1, 1) := by decide +kernel
theorem dX8_number_145 : decode cX8_number 145 = .ok (.iadd, 1) := by decide +kernel
theorem dX8_number_146 : decode cX8_number 146 = .ok (.putfield 179, 3) := by decide +kernel
theorem dX8_number_149 : decode cX8_number 149 = .ok (.aload_n 0, 1) := by decide +kernel
theorem dX8_number_150 : decode cX8_number 150 = .ok (.getfield 186, 3) := by decide +kernel
theorem dX8_number_153 : decode cX8_number 153 = .ok (.bipush (-9), 2) := by decide +kernel
theorem dX8_number_155 : decode cX8_number 155 = .ok (.if_icmp .ne 19, 3) := by decide +kernel
theorem dX8_number_158 : decode cX8_number 158 = .ok (.iload 4, 2) := by decide +kernel
theorem dX8_number_160 : decode cX8_number 160 = .ok (.ifCond .ne 14, 3) := by decide +kernel
theorem dX8_number_163 : decode cX8_number 163 = .ok (.aload_n 0, 1) := by decide +kernel
theorem dX8_number_164 : decode cX8_number 164 = .ok (.invokevirtual 189, 3) := by decide +kernel
theorem dX8_number_167 : decode cX8_number 167 = .ok (.ifCond .eq 7, 3) := by decide +kernel
theorem dX8_number_170 : decode cX8_number 170 = .ok (.iconst 1, 1) := by decide +kernel
theorem dX8_number_171 : decode cX8_number 171 = .ok (.goto 4, 3) := by decide +kernel
theorem dX8_number_174 : decode cX8_number 174 = .ok (.iconst 0, 1) := by decide +kernel
theorem dX8_number_175 : decode cX8_number 175 = .ok (.istore 6, 2) := by decide +kernel
theorem dX8_number_177 : decode cX8_number 177 = .ok (.goto (-77), 3) := by decide +kernel
theorem dX8_number_180 : decode cX8_number 180 = .ok (.iload_n 3, 1) := by decide +kernel
theorem dX8_number_181 : decode cX8_number 181 = .ok (.ifCond .eq 9, 3) := by decide +kernel
theorem dX8_number_184 : decode cX8_number 184 = .ok (.iload 5, 2) := by decide +kernel
theorem dX8_number_186 : decode cX8_number 186 = .ok (.ineg, 1) := by decide +kernel
theorem dX8_number_187 : decode cX8_number 187 = .ok (.goto 5, 3) := by decide +kernel
theorem dX8_number_190 : decode cX8_number 190 = .ok (.iload 5, 2) := by decide +kernel
theorem dX8_number_192 : decode cX8_number 192 = .ok (.ireturn, 1) := by decide +kernel
theorem dX8_item_0 : decode cX8_item 0 = .ok (.bipush 48, 2) := by decide +kernel
theorem dX8_item_2 : decode cX8_item 2 = .ok (.bipush 6, 2) := by decide +kernel
theorem dX8_item_4 : decode cX8_item 4 = .ok (.iload_n 1, 1) := by decide +kernel
theorem dX8_item_5 : decode cX8_item 5 = .ok (.imul, 1) := by decide +kernel
theorem dX8_item_6 : decode cX8_item 6 = .ok (.iadd, 1) := by decide +kernel
theorem dX8_item_7 : decode cX8_item 7 = .ok (.istore_n 2, 1) := by decide +kernel
theorem dX8_item_8 : decode cX8_item 8 = .ok (.aload_n 0, 1) := by decide +kernel
theorem dX8_item_9 : decode cX8_item 9 = .ok (.invokevirtual 182, 3) := by decide +kernel
theorem dX8_item_12 : decode cX8_item 12 = .ok (.istore_n 3, 1) := by decide +kernel
theorem dX8_item_13 : decode cX8_item 13 = .ok (.iload_n 1, 1) := by decide +kernel
theorem dX8_item_14 : decode cX8_item 14 = .ok (.bipush 8, 2) := by decide +kernel
theorem dX8_item_16 : decode cX8_item 16 = .ok (.if_icmp .eq 21, 3) := by decide +kernel
theorem dX8_item_19 : decode cX8_item 19 = .ok (.iload_n 3, 1) := by decide +kernel
theorem dX8_item_20 : decode cX8_item 20 = .ok (.bipush 112, 2) := by decide +kernel
theorem dX8_item_22 : decode cX8_item 22 = .ok (.if_icmp .eq 24, 3) := by decide +kernel
theorem dX8_item_25 : decode cX8_item 25 = .ok (.iload_n 3, 1) := by decide +kernel
theorem dX8_item_26 : decode cX8_item 26 = .ok (.bipush 115, 2) := by decide +kernel
theorem dX8_item_28 : decode cX8_item 28 = .ok (.if_icmp .eq 18, 3) := by decide +kernel
theorem dX8_item_31 : decode cX8_item 31 = .ok (.iload_n 3, 1) := by decide +kernel
theorem dX8_item_32 : decode cX8_item 32 = .ok (.bipush 99, 2) := by decide +kernel
theorem dX8_item_34 : decode cX8_item 34 = .ok (.if_icmp .eq 12, 3) := by decide +kernel
theorem dX8_item_37 : decode cX8_item 37 = .ok (.aload_n 0, 1) := by decide +kernel
theorem dX8_item_38 : decode cX8_item 38 = .ok (.aload_n 0, 1) := by decide +kernel
theorem dX8_item_39 : decode cX8_item 39 = .ok (.getfield 179, 3) := by decide +kernel
theorem dX8_item_42 : decode cX8_item 42 = .ok (.putfield 186, 3) := by decide +kernel
theorem dX8_item_45 : decode cX8_item 45 = .ok (.return_, 1) := by decide +kernel
theorem dX8_item_46 : decode cX8_item 46 = .ok (.aload_n 0, 1) := by decide +kernel
theorem dX8_item_47 : decode cX8_item 47 = .ok (.dup, 1) := by decide +kernel
theorem dX8_item_48 : decode cX8_item 48 = .ok (.getfield 179, 3) := by decide +kernel
theorem dX8_item_51 : decode cX8_item 51 = .ok (.iconst 1, 1) := by decide +kernel
theorem dX8_item_52 : decode cX8_item 52 = .ok (.iadd, 1) := by decide +kernel
theorem dX8_item_53 : decode cX8_item 53 = .ok (.putfield 179, 3) := by decide +kernel
theorem dX8_item_56 : decode cX8_item 56 = .ok (.aload_n 0, 1) := by decide +kernel
theorem dX8_item_57 : decode cX8_item 57 = .ok (.getfield 7, 3) := by decide +kernel
theorem dX8_item_60 : decode cX8_item 60 = .ok (.iload_n 2, 1) := by decide +kernel
theorem dX8_item_61 : decode cX8_item 61 = .ok (.iload_n 3, 1) := by decide +kernel
theorem dX8_item_62 : decode cX8_item 62 = .ok (.bipush 112, 2) := by decide +kernel
theorem dX8_item_64 : decode cX8_item 64 = .ok (.if_icmp .ne 7, 3) := by decide +kernel
theorem dX8_item_67 : decode cX8_item 67 = .ok (.iconst 0, 1) := by decide +kernel
theorem dX8_item_68 : decode cX8_item 68 = .ok (.goto 14, 3) := by decide +kernel
theorem dX8_item_71 : decode cX8_item 71 = .ok (.iload_n 3, 1) := by decide +kernel
theorem dX8_item_72 : decode cX8_item 72 = .ok (.bipush 115, 2) := by decide +kernel
theorem dX8_item_74 : decode cX8_item 74 = .ok (.if_icmp .ne 7, 3) := by decide +kernel
theorem dX8_item_77 : decode cX8_item 77 = .ok (.iconst 1, 1) := by decide +kernel
theorem dX8_item_78 : decode cX8_item 78 = .ok (.goto 4, 3) := by decide +kernel
theorem dX8_item_81 : decode cX8_item 81 = .ok (.iconst 2, 1) := by decide +kernel
