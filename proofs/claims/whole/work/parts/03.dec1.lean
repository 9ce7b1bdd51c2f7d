theorem dX4_changePlaces_21 : decode cX4_changePlaces 21 = .ok (.iload_n 2, 1) := by decide +kernel
theorem dX4_changePlaces_22 : decode cX4_changePlaces 22 = .ok (.invokevirtual 81, 3) := by decide +kernel
theorem dX4_changePlaces_25 : decode cX4_changePlaces 25 = .ok (.ifCond .eq 5, 3) := by decide +kernel
theorem dX4_changePlaces_28 : decode cX4_changePlaces 28 = .ok (.iconst 1, 1) := by decide +kernel
theorem dX4_changePlaces_29 : decode cX4_changePlaces 29 = .ok (.ireturn, 1) := by decide +kernel
theorem dX4_changePlaces_30 : decode cX4_changePlaces 30 = .ok (.aload_n 0, 1) := by decide +kernel
theorem dX4_changePlaces_31 : decode cX4_changePlaces 31 = .ok (.iload_n 1, 1) := by decide +kernel
theorem dX4_changePlaces_32 : decode cX4_changePlaces 32 = .ok (.invokevirtual 90, 3) := by decide +kernel
theorem dX4_changePlaces_35 : decode cX4_changePlaces 35 = .ok (.aload_n 0, 1) := by decide +kernel
theorem dX4_changePlaces_36 : decode cX4_changePlaces 36 = .ok (.iload_n 2, 1) := by decide +kernel
theorem dX4_changePlaces_37 : decode cX4_changePlaces 37 = .ok (.invokevirtual 81, 3) := by decide +kernel
theorem dX4_changePlaces_40 : decode cX4_changePlaces 40 = .ok (.pop, 1) := by decide +kernel
theorem dX4_changePlaces_41 : decode cX4_changePlaces 41 = .ok (.iconst 0, 1) := by decide +kernel
theorem dX4_changePlaces_42 : decode cX4_changePlaces 42 = .ok (.ireturn, 1) := by decide +kernel
theorem dX4_exchange_0 : decode cX4_exchange 0 = .ok (.aload_n 0, 1) := by decide +kernel
theorem dX4_exchange_1 : decode cX4_exchange 1 = .ok (.getfield 9, 3) := by decide +kernel
theorem dX4_exchange_4 : decode cX4_exchange 4 = .ok (.iload_n 1, 1) := by decide +kernel
theorem dX4_exchange_5 : decode cX4_exchange 5 = .ok (.iaload, 1) := by decide +kernel
theorem dX4_exchange_6 : decode cX4_exchange 6 = .ok (.istore_n 2, 1) := by decide +kernel
theorem dX4_exchange_7 : decode cX4_exchange 7 = .ok (.aload_n 0, 1) := by decide +kernel
theorem dX4_exchange_8 : decode cX4_exchange 8 = .ok (.getfield 9, 3) := by decide +kernel
theorem dX4_exchange_11 : decode cX4_exchange 11 = .ok (.iload_n 1, 1) := by decide +kernel
theorem dX4_exchange_12 : decode cX4_exchange 12 = .ok (.aload_n 0, 1) := by decide +kernel
theorem dX4_exchange_13 : decode cX4_exchange 13 = .ok (.getfield 9, 3) := by decide +kernel
theorem dX4_exchange_16 : decode cX4_exchange 16 = .ok (.iload_n 1, 1) := by decide +kernel
theorem dX4_exchange_17 : decode cX4_exchange 17 = .ok (.iconst 1, 1) := by decide +kernel
theorem dX4_exchange_18 : decode cX4_exchange 18 = .ok (.iadd, 1) := by decide +kernel
theorem dX4_exchange_19 : decode cX4_exchange 19 = .ok (.iaload, 1) := by decide +kernel
theorem dX4_exchange_20 : decode cX4_exchange 20 = .ok (.iastore, 1) := by decide +kernel
theorem dX4_exchange_21 : decode cX4_exchange 21 = .ok (.aload_n 0, 1) := by decide +kernel
theorem dX4_exchange_22 : decode cX4_exchange 22 = .ok (.getfield 9, 3) := by decide +kernel
theorem dX4_exchange_25 : decode cX4_exchange 25 = .ok (.iload_n 1, 1) := by decide +kernel
theorem dX4_exchange_26 : decode cX4_exchange 26 = .ok (.iconst 1, 1) := by decide +kernel
theorem dX4_exchange_27 : decode cX4_exchange 27 = .ok (.iadd, 1) := by decide +kernel
theorem dX4_exchange_28 : decode cX4_exchange 28 = .ok (.iload_n 2, 1) := by decide +kernel
theorem dX4_exchange_29 : decode cX4_exchange 29 = .ok (.iastore, 1) := by decide +kernel
theorem dX4_exchange_30 : decode cX4_exchange 30 = .ok (.return_, 1) := by decide +kernel
theorem dX4_replay_0 : decode cX4_replay 0 = .ok (.aload_n 0, 1) := by decide +kernel
theorem dX4_replay_1 : decode cX4_replay 1 = .ok (.invokevirtual 37, 3) := by decide +kernel
theorem dX4_replay_4 : decode cX4_replay 4 = .ok (.iconst 0, 1) := by decide +kernel
theorem dX4_replay_5 : decode cX4_replay 5 = .ok (.istore_n 2, 1) := by decide +kernel
theorem dX4_replay_6 : decode cX4_replay 6 = .ok (.iload_n 2, 1) := by decide +kernel
theorem dX4_replay_7 : decode cX4_replay 7 = .ok (.iload_n 1, 1) := by decide +kernel
theorem dX4_replay_8 : decode cX4_replay 8 = .ok (.if_icmp .ge 30, 3) := by decide +kernel
theorem dX4_replay_11 : decode cX4_replay 11 = .ok (.iload_n 2, 1) := by decide +kernel
theorem dX4_replay_12 : decode cX4_replay 12 = .ok (.bipush 20, 2) := by decide +kernel
theorem dX4_replay_14 : decode cX4_replay 14 = .ok (.if_icmp .ge 24, 3) := by decide +kernel
theorem dX4_replay_17 : decode cX4_replay 17 = .ok (.aload_n 0, 1) := by decide +kernel
theorem dX4_replay_18 : decode cX4_replay 18 = .ok (.aload_n 0, 1) := by decide +kernel
theorem dX4_replay_19 : decode cX4_replay 19 = .ok (.getfield 9, 3) := by decide +kernel
theorem dX4_replay_22 : decode cX4_replay 22 = .ok (.iload_n 2, 1) := by decide +kernel
theorem dX4_replay_23 : decode cX4_replay 23 = .ok (.iaload, 1) := by decide +kernel
theorem dX4_replay_24 : decode cX4_replay 24 = .ok (.invokevirtual 71, 3) := by decide +kernel
theorem dX4_replay_27 : decode cX4_replay 27 = .ok (.ifCond .ne 5, 3) := by decide +kernel
theorem dX4_replay_30 : decode cX4_replay 30 = .ok (.iconst 0, 1) := by decide +kernel
theorem dX4_replay_31 : decode cX4_replay 31 = .ok (.ireturn, 1) := by decide +kernel
theorem dX4_replay_32 : decode cX4_replay 32 = .ok (.iinc 2 1, 3) := by decide +kernel
theorem dX4_replay_35 : decode cX4_replay 35 = .ok (.goto (-29), 3) := by decide +kernel
theorem dX4_replay_38 : decode cX4_replay 38 = .ok (.iconst 1, 1) := by decide +kernel
theorem dX4_replay_39 : decode cX4_replay 39 = .ok (.ireturn, 1) := by decide +kernel
theorem dX5_init_0 : decode cX5_init 0 = .ok (.aload_n 0, 1) := by decide +kernel
theorem dX5_init_1 : decode cX5_init 1 = .ok (.invokespecial 3, 3) := by decide +kernel
theorem dX5_init_4 : decode cX5_init 4 = .ok (.aload_n 0, 1) := by decide +kernel
theorem dX5_init_5 : decode cX5_init 5 = .ok (.bipush 6, 2) := by decide +kernel
theorem dX5_init_7 : decode cX5_init 7 = .ok (.newarray .int, 2) := by decide +kernel
theorem dX5_init_9 : decode cX5_init 9 = .ok (.putfield 9, 3) := by decide +kernel
theorem dX5_init_12 : decode cX5_init 12 = .ok (.aload_n 0, 1) := by decide +kernel
theorem dX5_init_13 : decode cX5_init 13 = .ok (.bipush 6, 2) := by decide +kernel
theorem dX5_init_15 : decode cX5_init 15 = .ok (.newarray .int, 2) := by decide +kernel
theorem dX5_init_17 : decode cX5_init 17 = .ok (.putfield 15, 3) := by decide +kernel
theorem dX5_init_20 : decode cX5_init 20 = .ok (.aload_n 0, 1) := by decide +kernel
theorem dX5_init_21 : decode cX5_init 21 = .ok (.bipush 6, 2) := by decide +kernel
theorem dX5_init_23 : decode cX5_init 23 = .ok (.newarray .boolean, 2) := by decide +kernel
theorem dX5_init_25 : decode cX5_init 25 = .ok (.putfield 18, 3) := by decide +kernel
theorem dX5_init_28 : decode cX5_init 28 = .ok (.return_, 1) := by decide +kernel
theorem dX5_put_0 : decode cX5_put 0 = .ok (.aload_n 0, 1) := by decide +kernel
theorem dX5_put_1 : decode cX5_put 1 = .ok (.getfield 22, 3) := by decide +kernel
theorem dX5_put_4 : decode cX5_put 4 = .ok (.bipush 6, 2) := by decide +kernel
theorem dX5_put_6 : decode cX5_put 6 = .ok (.if_icmp .lt 5, 3) := by decide +kernel
theorem dX5_put_9 : decode cX5_put 9 = .ok (.iconst 0, 1) := by decide +kernel
theorem dX5_put_10 : decode cX5_put 10 = .ok (.ireturn, 1) := by decide +kernel
theorem dX5_put_11 : decode cX5_put 11 = .ok (.aload_n 0, 1) := by decide +kernel
theorem dX5_put_12 : decode cX5_put 12 = .ok (.getfield 9, 3) := by decide +kernel
theorem dX5_put_15 : decode cX5_put 15 = .ok (.aload_n 0, 1) := by decide +kernel
theorem dX5_put_16 : decode cX5_put 16 = .ok (.getfield 22, 3) := by decide +kernel
theorem dX5_put_19 : decode cX5_put 19 = .ok (.iload_n 1, 1) := by decide +kernel
theorem dX5_put_20 : decode cX5_put 20 = .ok (.iastore, 1) := by decide +kernel
theorem dX5_put_21 : decode cX5_put 21 = .ok (.aload_n 0, 1) := by decide +kernel
theorem dX5_put_22 : decode cX5_put 22 = .ok (.getfield 15, 3) := by decide +kernel
theorem dX5_put_25 : decode cX5_put 25 = .ok (.aload_n 0, 1) := by decide +kernel
theorem dX5_put_26 : decode cX5_put 26 = .ok (.getfield 22, 3) := by decide +kernel
theorem dX5_put_29 : decode cX5_put 29 = .ok (.iload_n 2, 1) := by decide +kernel
theorem dX5_put_30 : decode cX5_put 30 = .ok (.iastore, 1) := by decide +kernel
theorem dX5_put_31 : decode cX5_put 31 = .ok (.aload_n 0, 1) := by decide +kernel
theorem dX5_put_32 : decode cX5_put 32 = .ok (.getfield 18, 3) := by decide +kernel
theorem dX5_put_35 : decode cX5_put 35 = .ok (.aload_n 0, 1) := by decide +kernel
theorem dX5_put_36 : decode cX5_put 36 = .ok (.getfield 22, 3) := by decide +kernel
theorem dX5_put_39 : decode cX5_put 39 = .ok (.iload_n 3, 1) := by decide +kernel
theorem dX5_put_40 : decode cX5_put 40 = .ok (.bastore, 1) := by decide +kernel
theorem dX5_put_41 : decode cX5_put 41 = .ok (.aload_n 0, 1) := by decide +kernel
theorem dX5_put_42 : decode cX5_put 42 = .ok (.dup, 1) := by decide +kernel
theorem dX5_put_43 : decode cX5_put 43 = .ok (.getfield 22, 3) := by decide +kernel
theorem dX5_put_46 : decode cX5_put 46 = .ok (.iconst 1, 1) := by decide +kernel
theorem dX5_put_47 : decode cX5_put 47 = .ok (.iadd, 1) := by decide +kernel
theorem dX5_put_48 : decode cX5_put 48 = .ok (.putfield 22, 3) := by decide +kernel
theorem dX5_put_51 : decode cX5_put 51 = .ok (.iconst 1, 1) := by decide +kernel
theorem dX5_put_52 : decode cX5_put 52 = .ok (.ireturn, 1) := by decide +kernel
theorem dX5_fits_0 : decode cX5_fits 0 = .ok (.aload_n 1, 1) := by decide +kernel
theorem dX5_fits_1 : decode cX5_fits 1 = .ok (.iload_n 2, 1) := by decide +kernel
theorem dX5_fits_2 : decode cX5_fits 2 = .ok (.invokevirtual 26, 3) := by decide +kernel
theorem dX5_fits_5 : decode cX5_fits 5 = .ok (.ifCond .ne 5, 3) := by decide +kernel
theorem dX5_fits_8 : decode cX5_fits 8 = .ok (.iconst 0, 1) := by decide +kernel
theorem dX5_fits_9 : decode cX5_fits 9 = .ok (.ireturn, 1) := by decide +kernel
theorem dX5_fits_10 : decode cX5_fits 10 = .ok (.iconst 0, 1) := by decide +kernel
theorem dX5_fits_11 : decode cX5_fits 11 = .ok (.istore_n 3, 1) := by decide +kernel
theorem dX5_fits_12 : decode cX5_fits 12 = .ok (.iload_n 3, 1) := by decide +kernel
theorem dX5_fits_13 : decode cX5_fits 13 = .ok (.aload_n 0, 1) := by decide +kernel
theorem dX5_fits_14 : decode cX5_fits 14 = .ok (.getfield 22, 3) := by decide +kernel
theorem dX5_fits_17 : decode cX5_fits 17 = .ok (.if_icmp .ge 58, 3) := by decide +kernel
theorem dX5_fits_20 : decode cX5_fits 20 = .ok (.aload_n 1, 1) := by decide +kernel
theorem dX5_fits_21 : decode cX5_fits 21 = .ok (.aload_n 0, 1) := by decide +kernel
theorem dX5_fits_22 : decode cX5_fits 22 = .ok (.getfield 9, 3) := by decide +kernel
theorem dX5_fits_25 : decode cX5_fits 25 = .ok (.iload_n 3, 1) := by decide +kernel
theorem dX5_fits_26 : decode cX5_fits 26 = .ok (.iaload, 1) := by decide +kernel
theorem dX5_fits_27 : decode cX5_fits 27 = .ok (.aload_n 1, 1) := by decide +kernel
theorem dX5_fits_28 : decode cX5_fits 28 = .ok (.getfield 32, 3) := by decide +kernel
theorem dX5_fits_31 : decode cX5_fits 31 = .ok (.iload_n 2, 1) := by decide +kernel
theorem dX5_fits_32 : decode cX5_fits 32 = .ok (.bipush 15, 2) := by decide +kernel
theorem dX5_fits_34 : decode cX5_fits 34 = .ok (.invokestatic 33, 3) := by decide +kernel
theorem dX5_fits_37 : decode cX5_fits 37 = .ok (.istore 4, 2) := by decide +kernel
theorem dX5_fits_39 : decode cX5_fits 39 = .ok (.iload 4, 2) := by decide +kernel
theorem dX5_fits_41 : decode cX5_fits 41 = .ok (.invokestatic 39, 3) := by decide +kernel
theorem dX5_fits_44 : decode cX5_fits 44 = .ok (.aload_n 0, 1) := by decide +kernel
theorem dX5_fits_45 : decode cX5_fits 45 = .ok (.getfield 15, 3) := by decide +kernel
theorem dX5_fits_48 : decode cX5_fits 48 = .ok (.iload_n 3, 1) := by decide +kernel
theorem dX5_fits_49 : decode cX5_fits 49 = .ok (.iaload, 1) := by decide +kernel
theorem dX5_fits_50 : decode cX5_fits 50 = .ok (.if_icmp .ne 7, 3) := by decide +kernel
theorem dX5_fits_53 : decode cX5_fits 53 = .ok (.iconst 1, 1) := by decide +kernel
theorem dX5_fits_54 : decode cX5_fits 54 = .ok (.goto 4, 3) := by decide +kernel
theorem dX5_fits_57 : decode cX5_fits 57 = .ok (.iconst 0, 1) := by decide +kernel
theorem dX5_fits_58 : decode cX5_fits 58 = .ok (.aload_n 0, 1) := by decide +kernel
theorem dX5_fits_59 : decode cX5_fits 59 = .ok (.getfield 18, 3) := by decide +kernel
theorem dX5_fits_62 : decode cX5_fits 62 = .ok (.iload_n 3, 1) := by decide +kernel
theorem dX5_fits_63 : decode cX5_fits 63 = .ok (.baload, 1) := by decide +kernel
theorem dX5_fits_64 : decode cX5_fits 64 = .ok (.if_icmp .eq 5, 3) := by decide +kernel
theorem dX5_fits_67 : decode cX5_fits 67 = .ok (.iconst 0, 1) := by decide +kernel
theorem dX5_fits_68 : decode cX5_fits 68 = .ok (.ireturn, 1) := by decide +kernel
theorem dX5_fits_69 : decode cX5_fits 69 = .ok (.iinc 3 1, 3) := by decide +kernel
theorem dX5_fits_72 : decode cX5_fits 72 = .ok (.goto (-60), 3) := by decide +kernel
theorem dX5_fits_75 : decode cX5_fits 75 = .ok (.iconst 1, 1) := by decide +kernel
theorem dX5_fits_76 : decode cX5_fits 76 = .ok (.ireturn, 1) := by decide +kernel
theorem dX5_fittingCount_0 : decode cX5_fittingCount 0 = .ok (.iconst 0, 1) := by decide +kernel
theorem dX5_fittingCount_1 : decode cX5_fittingCount 1 = .ok (.istore_n 2, 1) := by decide +kernel
theorem dX5_fittingCount_2 : decode cX5_fittingCount 2 = .ok (.iconst 0, 1) := by decide +kernel
theorem dX5_fittingCount_3 : decode cX5_fittingCount 3 = .ok (.istore_n 3, 1) := by decide +kernel
theorem dX5_fittingCount_4 : decode cX5_fittingCount 4 = .ok (.iload_n 3, 1) := by decide +kernel
theorem dX5_fittingCount_5 : decode cX5_fittingCount 5 = .ok (.aload_n 1, 1) := by decide +kernel
theorem dX5_fittingCount_6 : decode cX5_fittingCount 6 = .ok (.getfield 32, 3) := by decide +kernel
theorem dX5_fittingCount_9 : decode cX5_fittingCount 9 = .ok (.if_icmp .ge 21, 3) := by decide +kernel
theorem dX5_fittingCount_12 : decode cX5_fittingCount 12 = .ok (.aload_n 0, 1) := by decide +kernel
theorem dX5_fittingCount_13 : decode cX5_fittingCount 13 = .ok (.aload_n 1, 1) := by decide +kernel
theorem dX5_fittingCount_14 : decode cX5_fittingCount 14 = .ok (.iload_n 3, 1) := by decide +kernel
theorem dX5_fittingCount_15 : decode cX5_fittingCount 15 = .ok (.invokevirtual 43, 3) := by decide +kernel
theorem dX5_fittingCount_18 : decode cX5_fittingCount 18 = .ok (.ifCond .eq 6, 3) := by decide +kernel
theorem dX5_fittingCount_21 : decode cX5_fittingCount 21 = .ok (.iinc 2 1, 3) := by decide +kernel
theorem dX5_fittingCount_24 : decode cX5_fittingCount 24 = .ok (.iinc 3 1, 3) := by decide +kernel
theorem dX5_fittingCount_27 : decode cX5_fittingCount 27 = .ok (.goto (-23), 3) := by decide +kernel
theorem dX5_fittingCount_30 : decode cX5_fittingCount 30 = .ok (.iload_n 2, 1) := by decide +kernel
theorem dX5_fittingCount_31 : decode cX5_fittingCount 31 = .ok (.ireturn, 1) := by decide +kernel
theorem dX5_leastFitting_0 : decode cX5_leastFitting 0 = .ok (.iconst 0, 1) := by decide +kernel
theorem dX5_leastFitting_1 : decode cX5_leastFitting 1 = .ok (.istore_n 2, 1) := by decide +kernel
theorem dX5_leastFitting_2 : decode cX5_leastFitting 2 = .ok (.iload_n 2, 1) := by decide +kernel
theorem dX5_leastFitting_3 : decode cX5_leastFitting 3 = .ok (.aload_n 1, 1) := by decide +kernel
theorem dX5_leastFitting_4 : decode cX5_leastFitting 4 = .ok (.getfield 32, 3) := by decide +kernel
theorem dX5_leastFitting_7 : decode cX5_leastFitting 7 = .ok (.if_icmp .ge 20, 3) := by decide +kernel
theorem dX5_leastFitting_10 : decode cX5_leastFitting 10 = .ok (.aload_n 0, 1) := by decide +kernel
theorem dX5_leastFitting_11 : decode cX5_leastFitting 11 = .ok (.aload_n 1, 1) := by decide +kernel
theorem dX5_leastFitting_12 : decode cX5_leastFitting 12 = .ok (.iload_n 2, 1) := by decide +kernel
theorem dX5_leastFitting_13 : decode cX5_leastFitting 13 = .ok (.invokevirtual 43, 3) := by decide +kernel
theorem dX5_leastFitting_16 : decode cX5_leastFitting 16 = .ok (.ifCond .eq 5, 3) := by decide +kernel
theorem dX5_leastFitting_19 : decode cX5_leastFitting 19 = .ok (.iload_n 2, 1) := by decide +kernel
theorem dX5_leastFitting_20 : decode cX5_leastFitting 20 = .ok (.ireturn, 1) := by decide +kernel
theorem dX5_leastFitting_21 : decode cX5_leastFitting 21 = .ok (.iinc 2 1, 3) := by decide +kernel
theorem dX5_leastFitting_24 : decode cX5_leastFitting 24 = .ok (.goto (-22), 3) := by decide +kernel
theorem dX5_leastFitting_27 : decode cX5_leastFitting 27 = .ok (.bipush (-9), 2) := by decide +kernel
theorem dX5_leastFitting_29 : decode cX5_leastFitting 29 = .ok (.ireturn, 1) := by decide +kernel
theorem dX6_init_0 : decode cX6_init 0 = .ok (.aload_n 0, 1) := by decide +kernel
theorem dX6_init_1 : decode cX6_init 1 = .ok (.invokespecial 3, 3) := by decide +kernel
theorem dX6_init_4 : decode cX6_init 4 = .ok (.aload_n 0, 1) := by decide +kernel
theorem dX6_init_5 : decode cX6_init 5 = .ok (.bipush 64, 2) := by decide +kernel
theorem dX6_init_7 : decode cX6_init 7 = .ok (.newarray .int, 2) := by decide +kernel
theorem dX6_init_9 : decode cX6_init 9 = .ok (.putfield 9, 3) := by decide +kernel
theorem dX6_init_12 : decode cX6_init 12 = .ok (.return_, 1) := by decide +kernel
theorem dX6_put_0 : decode cX6_put 0 = .ok (.aload_n 0, 1) := by decide +kernel
theorem dX6_put_1 : decode cX6_put 1 = .ok (.getfield 15, 3) := by decide +kernel
theorem dX6_put_4 : decode cX6_put 4 = .ok (.bipush 64, 2) := by decide +kernel
theorem dX6_put_6 : decode cX6_put 6 = .ok (.if_icmp .lt 5, 3) := by decide +kernel
theorem dX6_put_9 : decode cX6_put 9 = .ok (.iconst 0, 1) := by decide +kernel
theorem dX6_put_10 : decode cX6_put 10 = .ok (.ireturn, 1) := by decide +kernel
theorem dX6_put_11 : decode cX6_put 11 = .ok (.aload_n 0, 1) := by decide +kernel
theorem dX6_put_12 : decode cX6_put 12 = .ok (.getfield 9, 3) := by decide +kernel
theorem dX6_put_15 : decode cX6_put 15 = .ok (.aload_n 0, 1) := by decide +kernel
theorem dX6_put_16 : decode cX6_put 16 = .ok (.getfield 15, 3) := by decide +kernel
theorem dX6_put_19 : decode cX6_put 19 = .ok (.iload_n 1, 1) := by decide +kernel
theorem dX6_put_20 : decode cX6_put 20 = .ok (.iastore, 1) := by decide +kernel
theorem dX6_put_21 : decode cX6_put 21 = .ok (.aload_n 0, 1) := by decide +kernel
theorem dX6_put_22 : decode cX6_put 22 = .ok (.dup, 1) := by decide +kernel
theorem dX6_put_23 : decode cX6_put 23 = .ok (.getfield 15, 3) := by decide +kernel
theorem dX6_put_26 : decode cX6_put 26 = .ok (.iconst 1, 1) := by decide +kernel
theorem dX6_put_27 : decode cX6_put 27 = .ok (.iadd, 1) := by decide +kernel
theorem dX6_put_28 : decode cX6_put 28 = .ok (.putfield 15, 3) := by decide +kernel
theorem dX6_put_31 : decode cX6_put 31 = .ok (.iconst 1, 1) := by decide +kernel
theorem dX6_put_32 : decode cX6_put 32 = .ok (.ireturn, 1) := by decide +kernel
theorem dX6_tell_0 : decode cX6_tell 0 = .ok (.aload_n 1, 1) := by decide +kernel
theorem dX6_tell_1 : decode cX6_tell 1 = .ok (.invokevirtual 19, 3) := by decide +kernel
theorem dX6_tell_4 : decode cX6_tell 4 = .ok (.aload_n 0, 1) := by decide +kernel
theorem dX6_tell_5 : decode cX6_tell 5 = .ok (.getfield 15, 3) := by decide +kernel
theorem dX6_tell_8 : decode cX6_tell 8 = .ok (.ifCond .eq 14, 3) := by decide +kernel
theorem dX6_tell_11 : decode cX6_tell 11 = .ok (.aload_n 0, 1) := by decide +kernel
theorem dX6_tell_12 : decode cX6_tell 12 = .ok (.getfield 9, 3) := by decide +kernel
theorem dX6_tell_15 : decode cX6_tell 15 = .ok (.iconst 0, 1) := by decide +kernel
theorem dX6_tell_16 : decode cX6_tell 16 = .ok (.iaload, 1) := by decide +kernel
theorem dX6_tell_17 : decode cX6_tell 17 = .ok (.bipush 84, 2) := by decide +kernel
theorem dX6_tell_19 : decode cX6_tell 19 = .ok (.if_icmp .eq 5, 3) := by decide +kernel
theorem dX6_tell_22 : decode cX6_tell 22 = .ok (.iconst 0, 1) := by decide +kernel
theorem dX6_tell_23 : decode cX6_tell 23 = .ok (.ireturn, 1) := by decide +kernel
theorem dX6_tell_24 : decode cX6_tell 24 = .ok (.iconst 1, 1) := by decide +kernel
theorem dX6_tell_25 : decode cX6_tell 25 = .ok (.istore_n 2, 1) := by decide +kernel
theorem dX6_tell_26 : decode cX6_tell 26 = .ok (.iload_n 2, 1) := by decide +kernel
theorem dX6_tell_27 : decode cX6_tell 27 = .ok (.aload_n 0, 1) := by decide +kernel
theorem dX6_tell_28 : decode cX6_tell 28 = .ok (.getfield 15, 3) := by decide +kernel
theorem dX6_tell_31 : decode cX6_tell 31 = .ok (.if_icmp .ge 24, 3) := by decide +kernel
theorem dX6_tell_34 : decode cX6_tell 34 = .ok (.aload_n 0, 1) := by decide +kernel
theorem dX6_tell_35 : decode cX6_tell 35 = .ok (.iload_n 2, 1) := by decide +kernel
theorem dX6_tell_36 : decode cX6_tell 36 = .ok (.aload_n 1, 1) := by decide +kernel
theorem dX6_tell_37 : decode cX6_tell 37 = .ok (.invokevirtual 24, 3) := by decide +kernel
theorem dX6_tell_40 : decode cX6_tell 40 = .ok (.istore_n 3, 1) := by decide +kernel
theorem dX6_tell_41 : decode cX6_tell 41 = .ok (.iload_n 3, 1) := by decide +kernel
theorem dX6_tell_42 : decode cX6_tell 42 = .ok (.bipush (-9), 2) := by decide +kernel
theorem dX6_tell_44 : decode cX6_tell 44 = .ok (.if_icmp .eq 5, 3) := by decide +kernel
theorem dX6_tell_47 : decode cX6_tell 47 = .ok (.iload_n 3, 1) := by decide +kernel
theorem dX6_tell_48 : decode cX6_tell 48 = .ok (.ireturn, 1) := by decide +kernel
theorem dX6_tell_49 : decode cX6_tell 49 = .ok (.iinc 2 3, 3) := by decide +kernel
theorem dX6_tell_52 : decode cX6_tell 52 = .ok (.goto (-26), 3) := by decide +kernel
theorem dX6_tell_55 : decode cX6_tell 55 = .ok (.bipush (-9), 2) := by decide +kernel
theorem dX6_tell_57 : decode cX6_tell 57 = .ok (.ireturn, 1) := by decide +kernel
theorem dX6_tellStep_0 : decode cX6_tellStep 0 = .ok (.aload_n 0, 1) := by decide +kernel
theorem dX6_tellStep_1 : decode cX6_tellStep 1 = .ok (.getfield 9, 3) := by decide +kernel
theorem dX6_tellStep_4 : decode cX6_tellStep 4 = .ok (.iload_n 1, 1) := by decide +kernel
theorem dX6_tellStep_5 : decode cX6_tellStep 5 = .ok (.iaload, 1) := by decide +kernel
theorem dX6_tellStep_6 : decode cX6_tellStep 6 = .ok (.bipush 48, 2) := by decide +kernel
theorem dX6_tellStep_8 : decode cX6_tellStep 8 = .ok (.isub, 1) := by decide +kernel
theorem dX6_tellStep_9 : decode cX6_tellStep 9 = .ok (.istore_n 3, 1) := by decide +kernel
theorem dX6_tellStep_10 : decode cX6_tellStep 10 = .ok (.aload_n 2, 1) := by decide +kernel
theorem dX6_tellStep_11 : decode cX6_tellStep 11 = .ok (.getfield 28, 3) := by decide +kernel
theorem dX6_tellStep_14 : decode cX6_tellStep 14 = .ok (.bipush 20, 2) := by decide +kernel
theorem dX6_tellStep_16 : decode cX6_tellStep 16 = .ok (.if_icmp .ge 14, 3) := by decide +kernel
theorem dX6_tellStep_19 : decode cX6_tellStep 19 = .ok (.aload_n 2, 1) := by decide +kernel
theorem dX6_tellStep_20 : decode cX6_tellStep 20 = .ok (.getfield 31, 3) := by decide +kernel
theorem dX6_tellStep_23 : decode cX6_tellStep 23 = .ok (.iload_n 3, 1) := by decide +kernel
theorem dX6_tellStep_24 : decode cX6_tellStep 24 = .ok (.invokevirtual 35, 3) := by decide +kernel
theorem dX6_tellStep_27 : decode cX6_tellStep 27 = .ok (.ifCond .ne 5, 3) := by decide +kernel
theorem dX6_tellStep_30 : decode cX6_tellStep 30 = .ok (.iload_n 1, 1) := by decide +kernel
theorem dX6_tellStep_31 : decode cX6_tellStep 31 = .ok (.ireturn, 1) := by decide +kernel
theorem dX6_tellStep_32 : decode cX6_tellStep 32 = .ok (.iload_n 1, 1) := by decide +kernel
theorem dX6_tellStep_33 : decode cX6_tellStep 33 = .ok (.iconst 1, 1) := by decide +kernel
theorem dX6_tellStep_34 : decode cX6_tellStep 34 = .ok (.iadd, 1) := by decide +kernel
theorem dX6_tellStep_35 : decode cX6_tellStep 35 = .ok (.aload_n 0, 1) := by decide +kernel
theorem dX6_tellStep_36 : decode cX6_tellStep 36 = .ok (.getfield 15, 3) := by decide +kernel
theorem dX6_tellStep_39 : decode cX6_tellStep 39 = .ok (.if_icmp .lt 8, 3) := by decide +kernel
theorem dX6_tellStep_42 : decode cX6_tellStep 42 = .ok (.aload_n 0, 1) := by decide +kernel
theorem dX6_tellStep_43 : decode cX6_tellStep 43 = .ok (.getfield 15, 3) := by decide +kernel
theorem dX6_tellStep_46 : decode cX6_tellStep 46 = .ok (.ireturn, 1) := by decide +kernel
theorem dX6_tellStep_47 : decode cX6_tellStep 47 = .ok (.aload_n 0, 1) := by decide +kernel
theorem dX6_tellStep_48 : decode cX6_tellStep 48 = .ok (.getfield 9, 3) := by decide +kernel
theorem dX6_tellStep_51 : decode cX6_tellStep 51 = .ok (.iload_n 1, 1) := by decide +kernel
theorem dX6_tellStep_52 : decode cX6_tellStep 52 = .ok (.iconst 1, 1) := by decide +kernel
theorem dX6_tellStep_53 : decode cX6_tellStep 53 = .ok (.iadd, 1) := by decide +kernel
theorem dX6_tellStep_54 : decode cX6_tellStep 54 = .ok (.iaload, 1) := by decide +kernel
theorem dX6_tellStep_55 : decode cX6_tellStep 55 = .ok (.istore 4, 2) := by decide +kernel
theorem dX6_tellStep_57 : decode cX6_tellStep 57 = .ok (.aload_n 2, 1) := by decide +kernel
theorem dX6_tellStep_58 : decode cX6_tellStep 58 = .ok (.getfield 31, 3) := by decide +kernel
theorem dX6_tellStep_61 : decode cX6_tellStep 61 = .ok (.iload_n 3, 1) := by decide +kernel
theorem dX6_tellStep_62 : decode cX6_tellStep 62 = .ok (.iload 4, 2) := by decide +kernel
theorem dX6_tellStep_64 : decode cX6_tellStep 64 = .ok (.invokevirtual 41, 3) := by decide +kernel
theorem dX6_tellStep_67 : decode cX6_tellStep 67 = .ok (.ifCond .ne 7, 3) := by decide +kernel
theorem dX6_tellStep_70 : decode cX6_tellStep 70 = .ok (.iload_n 1, 1) := by decide +kernel
theorem dX6_tellStep_71 : decode cX6_tellStep 71 = .ok (.iconst 1, 1) := by decide +kernel
theorem dX6_tellStep_72 : decode cX6_tellStep 72 = .ok (.iadd, 1) := by decide +kernel
theorem dX6_tellStep_73 : decode cX6_tellStep 73 = .ok (.ireturn, 1) := by decide +kernel
theorem dX6_tellStep_74 : decode cX6_tellStep 74 = .ok (.iload_n 1, 1) := by decide +kernel
theorem dX6_tellStep_75 : decode cX6_tellStep 75 = .ok (.iconst 2, 1) := by decide +kernel
theorem dX6_tellStep_76 : decode cX6_tellStep 76 = .ok (.iadd, 1) := by decide +kernel
theorem dX6_tellStep_77 : decode cX6_tellStep 77 = .ok (.aload_n 0, 1) := by decide +kernel
theorem dX6_tellStep_78 : decode cX6_tellStep 78 = .ok (.getfield 15, 3) := by decide +kernel
theorem dX6_tellStep_81 : decode cX6_tellStep 81 = .ok (.if_icmp .lt 8, 3) := by decide +kernel
theorem dX6_tellStep_84 : decode cX6_tellStep 84 = .ok (.aload_n 0, 1) := by decide +kernel
theorem dX6_tellStep_85 : decode cX6_tellStep 85 = .ok (.getfield 15, 3) := by decide +kernel
theorem dX6_tellStep_88 : decode cX6_tellStep 88 = .ok (.ireturn, 1) := by decide +kernel
theorem dX6_tellStep_89 : decode cX6_tellStep 89 = .ok (.aload_n 0, 1) := by decide +kernel
theorem dX6_tellStep_90 : decode cX6_tellStep 90 = .ok (.getfield 9, 3) := by decide +kernel
theorem dX6_tellStep_93 : decode cX6_tellStep 93 = .ok (.iload_n 1, 1) := by decide +kernel
theorem dX6_tellStep_94 : decode cX6_tellStep 94 = .ok (.iconst 2, 1) := by decide +kernel
theorem dX6_tellStep_95 : decode cX6_tellStep 95 = .ok (.iadd, 1) := by decide +kernel
theorem dX6_tellStep_96 : decode cX6_tellStep 96 = .ok (.iaload, 1) := by decide +kernel
theorem dX6_tellStep_97 : decode cX6_tellStep 97 = .ok (.iload 4, 2) := by decide +kernel
theorem dX6_tellStep_99 : decode cX6_tellStep 99 = .ok (.invokestatic 45, 3) := by decide +kernel
theorem dX6_tellStep_102 : decode cX6_tellStep 102 = .ok (.isub, 1) := by decide +kernel
theorem dX6_tellStep_103 : decode cX6_tellStep 103 = .ok (.istore 5, 2) := by decide +kernel
theorem dX6_tellStep_105 : decode cX6_tellStep 105 = .ok (.iload 5, 2) := by decide +kernel
theorem dX6_tellStep_107 : decode cX6_tellStep 107 = .ok (.invokestatic 49, 3) := by decide +kernel
theorem dX6_tellStep_110 : decode cX6_tellStep 110 = .ok (.ifCond .eq 18, 3) := by decide +kernel
theorem dX6_tellStep_113 : decode cX6_tellStep 113 = .ok (.aload_n 2, 1) := by decide +kernel
theorem dX6_tellStep_114 : decode cX6_tellStep 114 = .ok (.iload_n 3, 1) := by decide +kernel
theorem dX6_tellStep_115 : decode cX6_tellStep 115 = .ok (.iload 4, 2) := by decide +kernel
theorem dX6_tellStep_117 : decode cX6_tellStep 117 = .ok (.iload 5, 2) := by decide +kernel
theorem dX6_tellStep_119 : decode cX6_tellStep 119 = .ok (.invokestatic 52, 3) := by decide +kernel
theorem dX6_tellStep_122 : decode cX6_tellStep 122 = .ok (.invokevirtual 56, 3) := by decide +kernel
theorem dX6_tellStep_125 : decode cX6_tellStep 125 = .ok (.ifCond .ne 7, 3) := by decide +kernel
theorem dX6_tellStep_128 : decode cX6_tellStep 128 = .ok (.iload_n 1, 1) := by decide +kernel
theorem dX6_tellStep_129 : decode cX6_tellStep 129 = .ok (.iconst 2, 1) := by decide +kernel
theorem dX6_tellStep_130 : decode cX6_tellStep 130 = .ok (.iadd, 1) := by decide +kernel
theorem dX6_tellStep_131 : decode cX6_tellStep 131 = .ok (.ireturn, 1) := by decide +kernel
theorem dX6_tellStep_132 : decode cX6_tellStep 132 = .ok (.bipush (-9), 2) := by decide +kernel
theorem dX6_tellStep_134 : decode cX6_tellStep 134 = .ok (.ireturn, 1) := by decide +kernel
theorem dX6_firstLetter_0 : decode cX6_firstLetter 0 = .ok (.iload_n 0, 1) := by decide +kernel
theorem dX6_firstLetter_1 : decode cX6_firstLetter 1 = .ok (.bipush 102, 2) := by decide +kernel
theorem dX6_firstLetter_3 : decode cX6_firstLetter 3 = .ok (.if_icmp .eq 9, 3) := by decide +kernel
theorem dX6_firstLetter_6 : decode cX6_firstLetter 6 = .ok (.iload_n 0, 1) := by decide +kernel
theorem dX6_firstLetter_7 : decode cX6_firstLetter 7 = .ok (.bipush 106, 2) := by decide +kernel
theorem dX6_firstLetter_9 : decode cX6_firstLetter 9 = .ok (.if_icmp .ne 6, 3) := by decide +kernel
theorem dX6_firstLetter_12 : decode cX6_firstLetter 12 = .ok (.bipush 48, 2) := by decide +kernel
theorem dX6_firstLetter_14 : decode cX6_firstLetter 14 = .ok (.ireturn, 1) := by decide +kernel
theorem dX6_firstLetter_15 : decode cX6_firstLetter 15 = .ok (.iload_n 0, 1) := by decide +kernel
theorem dX6_firstLetter_16 : decode cX6_firstLetter 16 = .ok (.bipush 114, 2) := by decide +kernel
theorem dX6_firstLetter_18 : decode cX6_firstLetter 18 = .ok (.if_icmp .eq 9, 3) := by decide +kernel
theorem dX6_firstLetter_21 : decode cX6_firstLetter 21 = .ok (.iload_n 0, 1) := by decide +kernel
theorem dX6_firstLetter_22 : decode cX6_firstLetter 22 = .ok (.bipush 119, 2) := by decide +kernel
theorem dX6_firstLetter_24 : decode cX6_firstLetter 24 = .ok (.if_icmp .ne 8, 3) := by decide +kernel
theorem dX6_firstLetter_27 : decode cX6_firstLetter 27 = .ok (.bipush 97, 2) := by decide +kernel
theorem dX6_firstLetter_29 : decode cX6_firstLetter 29 = .ok (.goto 5, 3) := by decide +kernel
theorem dX6_firstLetter_32 : decode cX6_firstLetter 32 = .ok (.bipush 65, 2) := by decide +kernel
theorem dX6_firstLetter_34 : decode cX6_firstLetter 34 = .ok (.ireturn, 1) := by decide +kernel
theorem dX7_init_0 : decode cX7_init 0 = .ok (.aload_n 0, 1) := by decide +kernel
theorem dX7_init_1 : decode cX7_init 1 = .ok (.invokespecial 3, 3) := by decide +kernel
theorem dX7_init_4 : decode cX7_init 4 = .ok (.aload_n 0, 1) := by decide +kernel
theorem dX7_init_5 : decode cX7_init 5 = .ok (.iconst 4, 1) := by decide +kernel
theorem dX7_init_6 : decode cX7_init 6 = .ok (.newarray .int, 2) := by decide +kernel
theorem dX7_init_8 : decode cX7_init 8 = .ok (.putfield 9, 3) := by decide +kernel
theorem dX7_init_11 : decode cX7_init 11 = .ok (.aload_n 0, 1) := by decide +kernel
theorem dX7_init_12 : decode cX7_init 12 = .ok (.iconst 4, 1) := by decide +kernel
theorem dX7_init_13 : decode cX7_init 13 = .ok (.newarray .int, 2) := by decide +kernel
theorem dX7_init_15 : decode cX7_init 15 = .ok (.putfield 15, 3) := by decide +kernel
theorem dX7_init_18 : decode cX7_init 18 = .ok (.aload_n 0, 1) := by decide +kernel
theorem dX7_init_19 : decode cX7_init 19 = .ok (.invokevirtual 18, 3) := by decide +kernel
theorem dX7_init_22 : decode cX7_init 22 = .ok (.return_, 1) := by decide +kernel
theorem dX7_begin_0 : decode cX7_begin 0 = .ok (.aload_n 0, 1) := by decide +kernel
theorem dX7_begin_1 : decode cX7_begin 1 = .ok (.iconst 1, 1) := by decide +kernel
theorem dX7_begin_2 : decode cX7_begin 2 = .ok (.putfield 21, 3) := by decide +kernel
theorem dX7_begin_5 : decode cX7_begin 5 = .ok (.aload_n 0, 1) := by decide +kernel
theorem dX7_begin_6 : decode cX7_begin 6 = .ok (.iconst 0, 1) := by decide +kernel
theorem dX7_begin_7 : decode cX7_begin 7 = .ok (.putfield 25, 3) := by decide +kernel
theorem dX7_begin_10 : decode cX7_begin 10 = .ok (.aload_n 0, 1) := by decide +kernel
theorem dX7_begin_11 : decode cX7_begin 11 = .ok (.getfield 9, 3) := by decide +kernel
theorem dX7_begin_14 : decode cX7_begin 14 = .ok (.iconst 0, 1) := by decide +kernel
theorem dX7_begin_15 : decode cX7_begin 15 = .ok (.invokestatic 28, 3) := by decide +kernel
theorem dX7_begin_18 : decode cX7_begin 18 = .ok (.aload_n 0, 1) := by decide +kernel
theorem dX7_begin_19 : decode cX7_begin 19 = .ok (.getfield 15, 3) := by decide +kernel
theorem dX7_begin_22 : decode cX7_begin 22 = .ok (.iconst 0, 1) := by decide +kernel
theorem dX7_begin_23 : decode cX7_begin 23 = .ok (.invokestatic 28, 3) := by decide +kernel
theorem dX7_begin_26 : decode cX7_begin 26 = .ok (.return_, 1) := by decide +kernel
theorem dX7_lives_0 : decode cX7_lives 0 = .ok (.iload_n 1, 1) := by decide +kernel
theorem dX7_lives_1 : decode cX7_lives 1 = .ok (.ifCond .lt 31, 3) := by decide +kernel
theorem dX7_lives_4 : decode cX7_lives 4 = .ok (.iload_n 1, 1) := by decide +kernel
theorem dX7_lives_5 : decode cX7_lives 5 = .ok (.iconst 4, 1) := by decide +kernel
theorem dX7_lives_6 : decode cX7_lives 6 = .ok (.if_icmp .ge 26, 3) := by decide +kernel
theorem dX7_lives_9 : decode cX7_lives 9 = .ok (.aload_n 0, 1) := by decide +kernel
theorem dX7_lives_10 : decode cX7_lives 10 = .ok (.getfield 21, 3) := by decide +kernel
theorem dX7_lives_13 : decode cX7_lives 13 = .ok (.aload_n 0, 1) := by decide +kernel
theorem dX7_lives_14 : decode cX7_lives 14 = .ok (.getfield 25, 3) := by decide +kernel
theorem dX7_lives_17 : decode cX7_lives 17 = .ok (.iconst (-1), 1) := by decide +kernel
theorem dX7_lives_18 : decode cX7_lives 18 = .ok (.ixor, 1) := by decide +kernel
theorem dX7_lives_19 : decode cX7_lives 19 = .ok (.iand, 1) := by decide +kernel
theorem dX7_lives_20 : decode cX7_lives 20 = .ok (.iload_n 1, 1) := by decide +kernel
theorem dX7_lives_21 : decode cX7_lives 21 = .ok (.ishr, 1) := by decide +kernel
theorem dX7_lives_22 : decode cX7_lives 22 = .ok (.iconst 1, 1) := by decide +kernel
theorem dX7_lives_23 : decode cX7_lives 23 = .ok (.iand, 1) := by decide +kernel
theorem dX7_lives_24 : decode cX7_lives 24 = .ok (.iconst 1, 1) := by decide +kernel
theorem dX7_lives_25 : decode cX7_lives 25 = .ok (.if_icmp .ne 7, 3) := by decide +kernel
theorem dX7_lives_28 : decode cX7_lives 28 = .ok (.iconst 1, 1) := by decide +kernel
theorem dX7_lives_29 : decode cX7_lives 29 = .ok (.goto 4, 3) := by decide +kernel
theorem dX7_lives_32 : decode cX7_lives 32 = .ok (.iconst 0, 1) := by decide +kernel
theorem dX7_lives_33 : decode cX7_lives 33 = .ok (.ireturn, 1) := by decide +kernel
theorem dX7_choices_0 : decode cX7_choices 0 = .ok (.aload_n 0, 1) := by decide +kernel
theorem dX7_choices_1 : decode cX7_choices 1 = .ok (.iload_n 1, 1) := by decide +kernel
theorem dX7_choices_2 : decode cX7_choices 2 = .ok (.invokevirtual 34, 3) := by decide +kernel
theorem dX7_choices_5 : decode cX7_choices 5 = .ok (.ifCond .ne 5, 3) := by decide +kernel
theorem dX7_choices_8 : decode cX7_choices 8 = .ok (.iconst 0, 1) := by decide +kernel
theorem dX7_choices_9 : decode cX7_choices 9 = .ok (.ireturn, 1) := by decide +kernel
theorem dX7_choices_10 : decode cX7_choices 10 = .ok (.iload_n 2, 1) := by decide +kernel
theorem dX7_choices_11 : decode cX7_choices 11 = .ok (.tableswitch 153 102 119 #[137, 153, 153, 153, 147, 153, 85, 153, 153, 153, 153, 153, 131, 100, 153, 117, 153, 134], 85) := by decide +kernel
theorem dX7_choices_96 : decode cX7_choices 96 = .ok (.bipush 15, 2) := by decide +kernel
theorem dX7_choices_98 : decode cX7_choices 98 = .ok (.aload_n 0, 1) := by decide +kernel
theorem dX7_choices_99 : decode cX7_choices 99 = .ok (.invokevirtual 38, 3) := by decide +kernel
theorem dX7_choices_102 : decode cX7_choices 102 = .ok (.aload_n 0, 1) := by decide +kernel
theorem dX7_choices_103 : decode cX7_choices 103 = .ok (.invokevirtual 42, 3) := by decide +kernel
theorem dX7_choices_106 : decode cX7_choices 106 = .ok (.ior, 1) := by decide +kernel
theorem dX7_choices_107 : decode cX7_choices 107 = .ok (.iconst (-1), 1) := by decide +kernel
theorem dX7_choices_108 : decode cX7_choices 108 = .ok (.ixor, 1) := by decide +kernel
theorem dX7_choices_109 : decode cX7_choices 109 = .ok (.iand, 1) := by decide +kernel
theorem dX7_choices_110 : decode cX7_choices 110 = .ok (.ireturn, 1) := by decide +kernel
theorem dX7_choices_111 : decode cX7_choices 111 = .ok (.bipush 15, 2) := by decide +kernel
theorem dX7_choices_113 : decode cX7_choices 113 = .ok (.aload_n 0, 1) := by decide +kernel
theorem dX7_choices_114 : decode cX7_choices 114 = .ok (.invokevirtual 38, 3) := by decide +kernel
theorem dX7_choices_117 : decode cX7_choices 117 = .ok (.aload_n 0, 1) := by decide +kernel
theorem dX7_choices_118 : decode cX7_choices 118 = .ok (.getfield 15, 3) := by decide +kernel
theorem dX7_choices_121 : decode cX7_choices 121 = .ok (.iload_n 1, 1) := by decide +kernel
theorem dX7_choices_122 : decode cX7_choices 122 = .ok (.iaload, 1) := by decide +kernel
theorem dX7_choices_123 : decode cX7_choices 123 = .ok (.ior, 1) := by decide +kernel
theorem dX7_choices_124 : decode cX7_choices 124 = .ok (.iconst (-1), 1) := by decide +kernel
theorem dX7_choices_125 : decode cX7_choices 125 = .ok (.ixor, 1) := by decide +kernel
theorem dX7_choices_126 : decode cX7_choices 126 = .ok (.iand, 1) := by decide +kernel
theorem dX7_choices_127 : decode cX7_choices 127 = .ok (.ireturn, 1) := by decide +kernel
theorem dX7_choices_128 : decode cX7_choices 128 = .ok (.aload_n 0, 1) := by decide +kernel
theorem dX7_choices_129 : decode cX7_choices 129 = .ok (.getfield 9, 3) := by decide +kernel
theorem dX7_choices_132 : decode cX7_choices 132 = .ok (.iload_n 1, 1) := by decide +kernel
theorem dX7_choices_133 : decode cX7_choices 133 = .ok (.iaload, 1) := by decide +kernel
theorem dX7_choices_134 : decode cX7_choices 134 = .ok (.aload_n 0, 1) := by decide +kernel
theorem dX7_choices_135 : decode cX7_choices 135 = .ok (.getfield 15, 3) := by decide +kernel
theorem dX7_choices_138 : decode cX7_choices 138 = .ok (.iload_n 1, 1) := by decide +kernel
theorem dX7_choices_139 : decode cX7_choices 139 = .ok (.iaload, 1) := by decide +kernel
theorem dX7_choices_140 : decode cX7_choices 140 = .ok (.ior, 1) := by decide +kernel
theorem dX7_choices_141 : decode cX7_choices 141 = .ok (.ireturn, 1) := by decide +kernel
theorem dX7_choices_142 : decode cX7_choices 142 = .ok (.bipush 15, 2) := by decide +kernel
theorem dX7_choices_144 : decode cX7_choices 144 = .ok (.ireturn, 1) := by decide +kernel
theorem dX7_choices_145 : decode cX7_choices 145 = .ok (.bipush 15, 2) := by decide +kernel
theorem dX7_choices_147 : decode cX7_choices 147 = .ok (.ireturn, 1) := by decide +kernel
theorem dX7_choices_148 : decode cX7_choices 148 = .ok (.bipush 15, 2) := by decide +kernel
theorem dX7_choices_150 : decode cX7_choices 150 = .ok (.aload_n 0, 1) := by decide +kernel
theorem dX7_choices_151 : decode cX7_choices 151 = .ok (.getfield 21, 3) := by decide +kernel
theorem dX7_choices_154 : decode cX7_choices 154 = .ok (.iconst (-1), 1) := by decide +kernel
theorem dX7_choices_155 : decode cX7_choices 155 = .ok (.ixor, 1) := by decide +kernel
theorem dX7_choices_156 : decode cX7_choices 156 = .ok (.iand, 1) := by decide +kernel
theorem dX7_choices_157 : decode cX7_choices 157 = .ok (.ireturn, 1) := by decide +kernel
theorem dX7_choices_158 : decode cX7_choices 158 = .ok (.aload_n 0, 1) := by decide +kernel
theorem dX7_choices_159 : decode cX7_choices 159 = .ok (.iload_n 1, 1) := by decide +kernel
theorem dX7_choices_160 : decode cX7_choices 160 = .ok (.invokevirtual 45, 3) := by decide +kernel
theorem dX7_choices_163 : decode cX7_choices 163 = .ok (.ireturn, 1) := by decide +kernel
theorem dX7_choices_164 : decode cX7_choices 164 = .ok (.iconst 0, 1) := by decide +kernel
theorem dX7_choices_165 : decode cX7_choices 165 = .ok (.ireturn, 1) := by decide +kernel
theorem dX7_allToWrite_0 : decode cX7_allToWrite 0 = .ok (.aload_n 0, 1) := by decide +kernel
theorem dX7_allToWrite_1 : decode cX7_allToWrite 1 = .ok (.getfield 9, 3) := by decide +kernel
theorem dX7_allToWrite_4 : decode cX7_allToWrite 4 = .ok (.iconst 0, 1) := by decide +kernel
theorem dX7_allToWrite_5 : decode cX7_allToWrite 5 = .ok (.iaload, 1) := by decide +kernel
theorem dX7_allToWrite_6 : decode cX7_allToWrite 6 = .ok (.aload_n 0, 1) := by decide +kernel
theorem dX7_allToWrite_7 : decode cX7_allToWrite 7 = .ok (.getfield 9, 3) := by decide +kernel
theorem dX7_allToWrite_10 : decode cX7_allToWrite 10 = .ok (.iconst 1, 1) := by decide +kernel
theorem dX7_allToWrite_11 : decode cX7_allToWrite 11 = .ok (.iaload, 1) := by decide +kernel
theorem dX7_allToWrite_12 : decode cX7_allToWrite 12 = .ok (.ior, 1) := by decide +kernel
theorem dX7_allToWrite_13 : decode cX7_allToWrite 13 = .ok (.aload_n 0, 1) := by decide +kernel
theorem dX7_allToWrite_14 : decode cX7_allToWrite 14 = .ok (.getfield 9, 3) := by decide +kernel
theorem dX7_allToWrite_17 : decode cX7_allToWrite 17 = .ok (.iconst 2, 1) := by decide +kernel
theorem dX7_allToWrite_18 : decode cX7_allToWrite 18 = .ok (.iaload, 1) := by decide +kernel
theorem dX7_allToWrite_19 : decode cX7_allToWrite 19 = .ok (.ior, 1) := by decide +kernel
theorem dX7_allToWrite_20 : decode cX7_allToWrite 20 = .ok (.aload_n 0, 1) := by decide +kernel
theorem dX7_allToWrite_21 : decode cX7_allToWrite 21 = .ok (.getfield 9, 3) := by decide +kernel
theorem dX7_allToWrite_24 : decode cX7_allToWrite 24 = .ok (.iconst 3, 1) := by decide +kernel
theorem dX7_allToWrite_25 : decode cX7_allToWrite 25 = .ok (.iaload, 1) := by decide +kernel
theorem dX7_allToWrite_26 : decode cX7_allToWrite 26 = .ok (.ior, 1) := by decide +kernel
theorem dX7_allToWrite_27 : decode cX7_allToWrite 27 = .ok (.ireturn, 1) := by decide +kernel
theorem dX7_allToRead_0 : decode cX7_allToRead 0 = .ok (.aload_n 0, 1) := by decide +kernel
theorem dX7_allToRead_1 : decode cX7_allToRead 1 = .ok (.getfield 15, 3) := by decide +kernel
theorem dX7_allToRead_4 : decode cX7_allToRead 4 = .ok (.iconst 0, 1) := by decide +kernel
theorem dX7_allToRead_5 : decode cX7_allToRead 5 = .ok (.iaload, 1) := by decide +kernel
theorem dX7_allToRead_6 : decode cX7_allToRead 6 = .ok (.aload_n 0, 1) := by decide +kernel
theorem dX7_allToRead_7 : decode cX7_allToRead 7 = .ok (.getfield 15, 3) := by decide +kernel
theorem dX7_allToRead_10 : decode cX7_allToRead 10 = .ok (.iconst 1, 1) := by decide +kernel
theorem dX7_allToRead_11 : decode cX7_allToRead 11 = .ok (.iaload, 1) := by decide +kernel
theorem dX7_allToRead_12 : decode cX7_allToRead 12 = .ok (.ior, 1) := by decide +kernel
theorem dX7_allToRead_13 : decode cX7_allToRead 13 = .ok (.aload_n 0, 1) := by decide +kernel
theorem dX7_allToRead_14 : decode cX7_allToRead 14 = .ok (.getfield 15, 3) := by decide +kernel
theorem dX7_allToRead_17 : decode cX7_allToRead 17 = .ok (.iconst 2, 1) := by decide +kernel
theorem dX7_allToRead_18 : decode cX7_allToRead 18 = .ok (.iaload, 1) := by decide +kernel
theorem dX7_allToRead_19 : decode cX7_allToRead 19 = .ok (.ior, 1) := by decide +kernel
theorem dX7_allToRead_20 : decode cX7_allToRead 20 = .ok (.aload_n 0, 1) := by decide +kernel
theorem dX7_allToRead_21 : decode cX7_allToRead 21 = .ok (.getfield 15, 3) := by decide +kernel
theorem dX7_allToRead_24 : decode cX7_allToRead 24 = .ok (.iconst 3, 1) := by decide +kernel
theorem dX7_allToRead_25 : decode cX7_allToRead 25 = .ok (.iaload, 1) := by decide +kernel
theorem dX7_allToRead_26 : decode cX7_allToRead 26 = .ok (.ior, 1) := by decide +kernel
theorem dX7_allToRead_27 : decode cX7_allToRead 27 = .ok (.ireturn, 1) := by decide +kernel
theorem dX7_awaitable_0 : decode cX7_awaitable 0 = .ok (.aload_n 0, 1) := by decide +kernel
theorem dX7_awaitable_1 : decode cX7_awaitable 1 = .ok (.getfield 21, 3) := by decide +kernel
theorem dX7_awaitable_4 : decode cX7_awaitable 4 = .ok (.aload_n 0, 1) := by decide +kernel
theorem dX7_awaitable_5 : decode cX7_awaitable 5 = .ok (.getfield 25, 3) := by decide +kernel
theorem dX7_awaitable_8 : decode cX7_awaitable 8 = .ok (.iconst (-1), 1) := by decide +kernel
theorem dX7_awaitable_9 : decode cX7_awaitable 9 = .ok (.ixor, 1) := by decide +kernel
theorem dX7_awaitable_10 : decode cX7_awaitable 10 = .ok (.iand, 1) := by decide +kernel
theorem dX7_awaitable_11 : decode cX7_awaitable 11 = .ok (.iconst 1, 1) := by decide +kernel
theorem dX7_awaitable_12 : decode cX7_awaitable 12 = .ok (.iload_n 1, 1) := by decide +kernel
theorem dX7_awaitable_13 : decode cX7_awaitable 13 = .ok (.ishl, 1) := by decide +kernel
theorem dX7_awaitable_14 : decode cX7_awaitable 14 = .ok (.iconst (-1), 1) := by decide +kernel
theorem dX7_awaitable_15 : decode cX7_awaitable 15 = .ok (.ixor, 1) := by decide +kernel
theorem dX7_awaitable_16 : decode cX7_awaitable 16 = .ok (.iand, 1) := by decide +kernel
theorem dX7_awaitable_17 : decode cX7_awaitable 17 = .ok (.istore_n 2, 1) := by decide +kernel
theorem dX7_awaitable_18 : decode cX7_awaitable 18 = .ok (.iconst 0, 1) := by decide +kernel
theorem dX7_awaitable_19 : decode cX7_awaitable 19 = .ok (.istore_n 3, 1) := by decide +kernel
theorem dX7_awaitable_20 : decode cX7_awaitable 20 = .ok (.iload_n 3, 1) := by decide +kernel
theorem dX7_awaitable_21 : decode cX7_awaitable 21 = .ok (.iconst 4, 1) := by decide +kernel
theorem dX7_awaitable_22 : decode cX7_awaitable 22 = .ok (.if_icmp .ge 33, 3) := by decide +kernel
theorem dX7_awaitable_25 : decode cX7_awaitable 25 = .ok (.aload_n 0, 1) := by decide +kernel
theorem dX7_awaitable_26 : decode cX7_awaitable 26 = .ok (.getfield 9, 3) := by decide +kernel
theorem dX7_awaitable_29 : decode cX7_awaitable 29 = .ok (.iload_n 3, 1) := by decide +kernel
theorem dX7_awaitable_30 : decode cX7_awaitable 30 = .ok (.iaload, 1) := by decide +kernel
theorem dX7_awaitable_31 : decode cX7_awaitable 31 = .ok (.aload_n 0, 1) := by decide +kernel
theorem dX7_awaitable_32 : decode cX7_awaitable 32 = .ok (.getfield 15, 3) := by decide +kernel
theorem dX7_awaitable_35 : decode cX7_awaitable 35 = .ok (.iload_n 3, 1) := by decide +kernel
theorem dX7_awaitable_36 : decode cX7_awaitable 36 = .ok (.iaload, 1) := by decide +kernel
theorem dX7_awaitable_37 : decode cX7_awaitable 37 = .ok (.ior, 1) := by decide +kernel
theorem dX7_awaitable_38 : decode cX7_awaitable 38 = .ok (.ifCond .eq 11, 3) := by decide +kernel
theorem dX7_awaitable_41 : decode cX7_awaitable 41 = .ok (.iload_n 2, 1) := by decide +kernel
theorem dX7_awaitable_42 : decode cX7_awaitable 42 = .ok (.iconst 1, 1) := by decide +kernel
theorem dX7_awaitable_43 : decode cX7_awaitable 43 = .ok (.iload_n 3, 1) := by decide +kernel
theorem dX7_awaitable_44 : decode cX7_awaitable 44 = .ok (.ishl, 1) := by decide +kernel
theorem dX7_awaitable_45 : decode cX7_awaitable 45 = .ok (.iconst (-1), 1) := by decide +kernel
theorem dX7_awaitable_46 : decode cX7_awaitable 46 = .ok (.ixor, 1) := by decide +kernel
theorem dX7_awaitable_47 : decode cX7_awaitable 47 = .ok (.iand, 1) := by decide +kernel
theorem dX7_awaitable_48 : decode cX7_awaitable 48 = .ok (.istore_n 2, 1) := by decide +kernel
theorem dX7_awaitable_49 : decode cX7_awaitable 49 = .ok (.iinc 3 1, 3) := by decide +kernel
theorem dX7_awaitable_52 : decode cX7_awaitable 52 = .ok (.goto (-32), 3) := by decide +kernel
theorem dX7_awaitable_55 : decode cX7_awaitable 55 = .ok (.iload_n 2, 1) := by decide +kernel
theorem dX7_awaitable_56 : decode cX7_awaitable 56 = .ok (.ireturn, 1) := by decide +kernel
theorem dX7_go_0 : decode cX7_go 0 = .ok (.iconst 1, 1) := by decide +kernel
theorem dX7_go_1 : decode cX7_go 1 = .ok (.iload_n 3, 1) := by decide +kernel
theorem dX7_go_2 : decode cX7_go 2 = .ok (.ishl, 1) := by decide +kernel
theorem dX7_go_3 : decode cX7_go 3 = .ok (.istore 4, 2) := by decide +kernel
theorem dX7_go_5 : decode cX7_go 5 = .ok (.iload_n 2, 1) := by decide +kernel
theorem dX7_go_6 : decode cX7_go 6 = .ok (.lookupswitch 135 #[(102, 107), (106, 121), (108, 50), (115, 64), (117, 78)], 50) := by decide +kernel
theorem dX7_go_56 : decode cX7_go 56 = .ok (.aload_n 0, 1) := by decide +kernel
theorem dX7_go_57 : decode cX7_go 57 = .ok (.getfield 9, 3) := by decide +kernel
theorem dX7_go_60 : decode cX7_go 60 = .ok (.iload_n 1, 1) := by decide +kernel
theorem dX7_go_61 : decode cX7_go 61 = .ok (.dup2, 1) := by decide +kernel
theorem dX7_go_62 : decode cX7_go 62 = .ok (.iaload, 1) := by decide +kernel
theorem dX7_go_63 : decode cX7_go 63 = .ok (.iload 4, 2) := by decide +kernel
theorem dX7_go_65 : decode cX7_go 65 = .ok (.ior, 1) := by decide +kernel
theorem dX7_go_66 : decode cX7_go 66 = .ok (.iastore, 1) := by decide +kernel
theorem dX7_go_67 : decode cX7_go 67 = .ok (.goto 74, 3) := by decide +kernel
theorem dX7_go_70 : decode cX7_go 70 = .ok (.aload_n 0, 1) := by decide +kernel
theorem dX7_go_71 : decode cX7_go 71 = .ok (.getfield 15, 3) := by decide +kernel
theorem dX7_go_74 : decode cX7_go 74 = .ok (.iload_n 1, 1) := by decide +kernel
theorem dX7_go_75 : decode cX7_go 75 = .ok (.dup2, 1) := by decide +kernel
theorem dX7_go_76 : decode cX7_go 76 = .ok (.iaload, 1) := by decide +kernel
theorem dX7_go_77 : decode cX7_go 77 = .ok (.iload 4, 2) := by decide +kernel
theorem dX7_go_79 : decode cX7_go 79 = .ok (.ior, 1) := by decide +kernel
theorem dX7_go_80 : decode cX7_go 80 = .ok (.iastore, 1) := by decide +kernel
theorem dX7_go_81 : decode cX7_go 81 = .ok (.goto 60, 3) := by decide +kernel
theorem dX7_go_84 : decode cX7_go 84 = .ok (.aload_n 0, 1) := by decide +kernel
theorem dX7_go_85 : decode cX7_go 85 = .ok (.getfield 9, 3) := by decide +kernel
theorem dX7_go_88 : decode cX7_go 88 = .ok (.iload_n 1, 1) := by decide +kernel
theorem dX7_go_89 : decode cX7_go 89 = .ok (.dup2, 1) := by decide +kernel
theorem dX7_go_90 : decode cX7_go 90 = .ok (.iaload, 1) := by decide +kernel
theorem dX7_go_91 : decode cX7_go 91 = .ok (.iload 4, 2) := by decide +kernel
theorem dX7_go_93 : decode cX7_go 93 = .ok (.iconst (-1), 1) := by decide +kernel
theorem dX7_go_94 : decode cX7_go 94 = .ok (.ixor, 1) := by decide +kernel
theorem dX7_go_95 : decode cX7_go 95 = .ok (.iand, 1) := by decide +kernel
theorem dX7_go_96 : decode cX7_go 96 = .ok (.iastore, 1) := by decide +kernel
theorem dX7_go_97 : decode cX7_go 97 = .ok (.aload_n 0, 1) := by decide +kernel
theorem dX7_go_98 : decode cX7_go 98 = .ok (.getfield 15, 3) := by decide +kernel
theorem dX7_go_101 : decode cX7_go 101 = .ok (.iload_n 1, 1) := by decide +kernel
theorem dX7_go_102 : decode cX7_go 102 = .ok (.dup2, 1) := by decide +kernel
theorem dX7_go_103 : decode cX7_go 103 = .ok (.iaload, 1) := by decide +kernel
theorem dX7_go_104 : decode cX7_go 104 = .ok (.iload 4, 2) := by decide +kernel
theorem dX7_go_106 : decode cX7_go 106 = .ok (.iconst (-1), 1) := by decide +kernel
theorem dX7_go_107 : decode cX7_go 107 = .ok (.ixor, 1) := by decide +kernel
theorem dX7_go_108 : decode cX7_go 108 = .ok (.iand, 1) := by decide +kernel
theorem dX7_go_109 : decode cX7_go 109 = .ok (.iastore, 1) := by decide +kernel
theorem dX7_go_110 : decode cX7_go 110 = .ok (.goto 31, 3) := by decide +kernel
theorem dX7_go_113 : decode cX7_go 113 = .ok (.aload_n 0, 1) := by decide +kernel
theorem dX7_go_114 : decode cX7_go 114 = .ok (.dup, 1) := by decide +kernel
theorem dX7_go_115 : decode cX7_go 115 = .ok (.getfield 21, 3) := by decide +kernel
theorem dX7_go_118 : decode cX7_go 118 = .ok (.iload 4, 2) := by decide +kernel
theorem dX7_go_120 : decode cX7_go 120 = .ok (.ior, 1) := by decide +kernel
theorem dX7_go_121 : decode cX7_go 121 = .ok (.putfield 21, 3) := by decide +kernel
theorem dX7_go_124 : decode cX7_go 124 = .ok (.goto 17, 3) := by decide +kernel
theorem dX7_go_127 : decode cX7_go 127 = .ok (.aload_n 0, 1) := by decide +kernel
theorem dX7_go_128 : decode cX7_go 128 = .ok (.dup, 1) := by decide +kernel
theorem dX7_go_129 : decode cX7_go 129 = .ok (.getfield 25, 3) := by decide +kernel
theorem dX7_go_132 : decode cX7_go 132 = .ok (.iload 4, 2) := by decide +kernel
theorem dX7_go_134 : decode cX7_go 134 = .ok (.ior, 1) := by decide +kernel
theorem dX7_go_135 : decode cX7_go 135 = .ok (.putfield 25, 3) := by decide +kernel
theorem dX7_go_138 : decode cX7_go 138 = .ok (.goto 3, 3) := by decide +kernel
theorem dX7_go_141 : decode cX7_go 141 = .ok (.return_, 1) := by decide +kernel
theorem dX8_init_0 : decode cX8_init 0 = .ok (.aload_n 0, 1) := by decide +kernel
theorem dX8_init_1 : decode cX8_init 1 = .ok (.invokespecial 1, 3) := by decide +kernel
theorem dX8_init_4 : decode cX8_init 4 = .ok (.aload_n 0, 1) := by decide +kernel
theorem dX8_init_5 : decode cX8_init 5 = .ok (.new 7, 3) := by decide +kernel
theorem dX8_init_8 : decode cX8_init 8 = .ok (.dup, 1) := by decide +kernel
theorem dX8_init_9 : decode cX8_init 9 = .ok (.invokespecial 9, 3) := by decide +kernel
theorem dX8_init_12 : decode cX8_init 12 = .ok (.putfield 10, 3) := by decide +kernel
theorem dX8_init_15 : decode cX8_init 15 = .ok (.aload_n 0, 1) := by decide +kernel
theorem dX8_init_16 : decode cX8_init 16 = .ok (.new 16, 3) := by decide +kernel
theorem dX8_init_19 : decode cX8_init 19 = .ok (.dup, 1) := by decide +kernel
theorem dX8_init_20 : decode cX8_init 20 = .ok (.invokespecial 18, 3) := by decide +kernel
theorem dX8_init_23 : decode cX8_init 23 = .ok (.putfield 19, 3) := by decide +kernel
theorem dX8_init_26 : decode cX8_init 26 = .ok (.aload_n 0, 1) := by decide +kernel
theorem dX8_init_27 : decode cX8_init 27 = .ok (.new 16, 3) := by decide +kernel
theorem dX8_init_30 : decode cX8_init 30 = .ok (.dup, 1) := by decide +kernel
theorem dX8_init_31 : decode cX8_init 31 = .ok (.invokespecial 18, 3) := by decide +kernel
theorem dX8_init_34 : decode cX8_init 34 = .ok (.putfield 23, 3) := by decide +kernel
theorem dX8_init_37 : decode cX8_init 37 = .ok (.aload_n 0, 1) := by decide +kernel
theorem dX8_init_38 : decode cX8_init 38 = .ok (.iconst 2, 1) := by decide +kernel
theorem dX8_init_39 : decode cX8_init 39 = .ok (.anewarray 16, 3) := by decide +kernel
theorem dX8_init_42 : decode cX8_init 42 = .ok (.putfield 26, 3) := by decide +kernel
theorem dX8_init_45 : decode cX8_init 45 = .ok (.iconst 0, 1) := by decide +kernel
theorem dX8_init_46 : decode cX8_init 46 = .ok (.istore_n 1, 1) := by decide +kernel
theorem dX8_init_47 : decode cX8_init 47 = .ok (.iload_n 1, 1) := by decide +kernel
theorem dX8_init_48 : decode cX8_init 48 = .ok (.iconst 2, 1) := by decide +kernel
theorem dX8_init_49 : decode cX8_init 49 = .ok (.if_icmp .ge 22, 3) := by decide +kernel
theorem dX8_init_52 : decode cX8_init 52 = .ok (.aload_n 0, 1) := by decide +kernel
theorem dX8_init_53 : decode cX8_init 53 = .ok (.getfield 26, 3) := by decide +kernel
theorem dX8_init_56 : decode cX8_init 56 = .ok (.iload_n 1, 1) := by decide +kernel
theorem dX8_init_57 : decode cX8_init 57 = .ok (.new 16, 3) := by decide +kernel
theorem dX8_init_60 : decode cX8_init 60 = .ok (.dup, 1) := by decide +kernel
theorem dX8_init_61 : decode cX8_init 61 = .ok (.invokespecial 18, 3) := by decide +kernel
theorem dX8_init_64 : decode cX8_init 64 = .ok (.aastore, 1) := by decide +kernel
theorem dX8_init_65 : decode cX8_init 65 = .ok (.iinc 1 1, 3) := by decide +kernel
theorem dX8_init_68 : decode cX8_init 68 = .ok (.goto (-21), 3) := by decide +kernel
theorem dX8_init_71 : decode cX8_init 71 = .ok (.aload_n 0, 1) := by decide +kernel
theorem dX8_init_72 : decode cX8_init 72 = .ok (.iconst 2, 1) := by decide +kernel
theorem dX8_init_73 : decode cX8_init 73 = .ok (.newarray .boolean, 2) := by decide +kernel
theorem dX8_init_75 : decode cX8_init 75 = .ok (.putfield 30, 3) := by decide +kernel
theorem dX8_init_78 : decode cX8_init 78 = .ok (.aload_n 0, 1) := by decide +kernel
theorem dX8_init_79 : decode cX8_init 79 = .ok (.new 34, 3) := by decide +kernel
theorem dX8_init_82 : decode cX8_init 82 = .ok (.dup, 1) := by decide +kernel
theorem dX8_init_83 : decode cX8_init 83 = .ok (.invokespecial 36, 3) := by decide +kernel
theorem dX8_init_86 : decode cX8_init 86 = .ok (.putfield 37, 3) := by decide +kernel
theorem dX8_init_89 : decode cX8_init 89 = .ok (.aload_n 0, 1) := by decide +kernel
theorem dX8_init_90 : decode cX8_init 90 = .ok (.new 41, 3) := by decide +kernel
theorem dX8_init_93 : decode cX8_init 93 = .ok (.dup, 1) := by decide +kernel
theorem dX8_init_94 : decode cX8_init 94 = .ok (.invokespecial 43, 3) := by decide +kernel
theorem dX8_init_97 : decode cX8_init 97 = .ok (.putfield 44, 3) := by decide +kernel
theorem dX8_init_100 : decode cX8_init 100 = .ok (.aload_n 0, 1) := by decide +kernel
theorem dX8_init_101 : decode cX8_init 101 = .ok (.new 48, 3) := by decide +kernel
theorem dX8_init_104 : decode cX8_init 104 = .ok (.dup, 1) := by decide +kernel
theorem dX8_init_105 : decode cX8_init 105 = .ok (.invokespecial 50, 3) := by decide +kernel
theorem dX8_init_108 : decode cX8_init 108 = .ok (.putfield 51, 3) := by decide +kernel
theorem dX8_init_111 : decode cX8_init 111 = .ok (.aload_n 0, 1) := by decide +kernel
theorem dX8_init_112 : decode cX8_init 112 = .ok (.new 55, 3) := by decide +kernel
theorem dX8_init_115 : decode cX8_init 115 = .ok (.dup, 1) := by decide +kernel
theorem dX8_init_116 : decode cX8_init 116 = .ok (.invokespecial 57, 3) := by decide +kernel
theorem dX8_init_119 : decode cX8_init 119 = .ok (.putfield 58, 3) := by decide +kernel
theorem dX8_init_122 : decode cX8_init 122 = .ok (.aload_n 0, 1) := by decide +kernel
theorem dX8_init_123 : decode cX8_init 123 = .ok (.lconst 0, 1) := by decide +kernel
theorem dX8_init_124 : decode cX8_init 124 = .ok (.putfield 62, 3) := by decide +kernel
theorem dX8_init_127 : decode cX8_init 127 = .ok (.return_, 1) := by decide +kernel
theorem dX8_write_0 : decode cX8_write 0 = .ok (.iload_n 1, 1) := by decide +kernel
theorem dX8_write_1 : decode cX8_write 1 = .ok (.ifCond .lt 10, 3) := by decide +kernel
theorem dX8_write_4 : decode cX8_write 4 = .ok (.iload_n 1, 1) := by decide +kernel
theorem dX8_write_5 : decode cX8_write 5 = .ok (.sipush 255, 3) := by decide +kernel
theorem dX8_write_8 : decode cX8_write 8 = .ok (.if_icmp .le 6, 3) := by decide +kernel
theorem dX8_write_11 : decode cX8_write 11 = .ok (.bipush (-2), 2) := by decide +kernel
theorem dX8_write_13 : decode cX8_write 13 = .ok (.ireturn, 1) := by decide +kernel
theorem dX8_write_14 : decode cX8_write 14 = .ok (.aload_n 0, 1) := by decide +kernel
theorem dX8_write_15 : decode cX8_write 15 = .ok (.getfield 10, 3) := by decide +kernel
theorem dX8_write_18 : decode cX8_write 18 = .ok (.iload_n 1, 1) := by decide +kernel
theorem dX8_write_19 : decode cX8_write 19 = .ok (.invokevirtual 66, 3) := by decide +kernel
theorem dX8_write_22 : decode cX8_write 22 = .ok (.ifCond .eq 13, 3) := by decide +kernel
theorem dX8_write_25 : decode cX8_write 25 = .ok (.aload_n 0, 1) := by decide +kernel
theorem dX8_write_26 : decode cX8_write 26 = .ok (.getfield 10, 3) := by decide +kernel
theorem dX8_write_29 : decode cX8_write 29 = .ok (.getfield 70, 3) := by decide +kernel
theorem dX8_write_32 : decode cX8_write 32 = .ok (.goto 5, 3) := by decide +kernel
theorem dX8_write_35 : decode cX8_write 35 = .ok (.bipush (-4), 2) := by decide +kernel
theorem dX8_write_37 : decode cX8_write 37 = .ok (.ireturn, 1) := by decide +kernel
theorem dX8_wipe_0 : decode cX8_wipe 0 = .ok (.aload_n 0, 1) := by decide +kernel
theorem dX8_wipe_1 : decode cX8_wipe 1 = .ok (.getfield 10, 3) := by decide +kernel
theorem dX8_wipe_4 : decode cX8_wipe 4 = .ok (.getfield 70, 3) := by decide +kernel
theorem dX8_wipe_7 : decode cX8_wipe 7 = .ok (.istore_n 1, 1) := by decide +kernel
theorem dX8_wipe_8 : decode cX8_wipe 8 = .ok (.aload_n 0, 1) := by decide +kernel
theorem dX8_wipe_9 : decode cX8_wipe 9 = .ok (.getfield 10, 3) := by decide +kernel
theorem dX8_wipe_12 : decode cX8_wipe 12 = .ok (.iconst 0, 1) := by decide +kernel
theorem dX8_wipe_13 : decode cX8_wipe 13 = .ok (.putfield 70, 3) := by decide +kernel
theorem dX8_wipe_16 : decode cX8_wipe 16 = .ok (.iload_n 1, 1) := by decide +kernel
theorem dX8_wipe_17 : decode cX8_wipe 17 = .ok (.ireturn, 1) := by decide +kernel
theorem dX8_fault_0 : decode cX8_fault 0 = .ok (.aload_n 0, 1) := by decide +kernel
theorem dX8_fault_1 : decode cX8_fault 1 = .ok (.getfield 10, 3) := by decide +kernel
theorem dX8_fault_4 : decode cX8_fault 4 = .ok (.aload_n 0, 1) := by decide +kernel
theorem dX8_fault_5 : decode cX8_fault 5 = .ok (.getfield 23, 3) := by decide +kernel
theorem dX8_fault_8 : decode cX8_fault 8 = .ok (.invokevirtual 74, 3) := by decide +kernel
theorem dX8_fault_11 : decode cX8_fault 11 = .ok (.ireturn, 1) := by decide +kernel
theorem dX8_trace_0 : decode cX8_trace 0 = .ok (.aload_n 0, 1) := by decide +kernel
theorem dX8_trace_1 : decode cX8_trace 1 = .ok (.getfield 10, 3) := by decide +kernel
theorem dX8_trace_4 : decode cX8_trace 4 = .ok (.aload_n 0, 1) := by decide +kernel
theorem dX8_trace_5 : decode cX8_trace 5 = .ok (.getfield 23, 3) := by decide +kernel
theorem dX8_trace_8 : decode cX8_trace 8 = .ok (.invokevirtual 74, 3) := by decide +kernel
theorem dX8_trace_11 : decode cX8_trace 11 = .ok (.bipush (-9), 2) := by decide +kernel
theorem dX8_trace_13 : decode cX8_trace 13 = .ok (.if_icmp .eq 6, 3) := by decide +kernel
theorem dX8_trace_16 : decode cX8_trace 16 = .ok (.bipush (-3), 2) := by decide +kernel
theorem dX8_trace_18 : decode cX8_trace 18 = .ok (.ireturn, 1) := by decide +kernel
theorem dX8_trace_19 : decode cX8_trace 19 = .ok (.aload_n 0, 1) := by decide +kernel
theorem dX8_trace_20 : decode cX8_trace 20 = .ok (.getfield 19, 3) := by decide +kernel
theorem dX8_trace_23 : decode cX8_trace 23 = .ok (.aload_n 0, 1) := by decide +kernel
theorem dX8_trace_24 : decode cX8_trace 24 = .ok (.getfield 23, 3) := by decide +kernel
theorem dX8_trace_27 : decode cX8_trace 27 = .ok (.invokevirtual 78, 3) := by decide +kernel
theorem dX8_trace_30 : decode cX8_trace 30 = .ok (.aload_n 0, 1) := by decide +kernel
theorem dX8_trace_31 : decode cX8_trace 31 = .ok (.getfield 37, 3) := by decide +kernel
theorem dX8_trace_34 : decode cX8_trace 34 = .ok (.iconst 0, 1) := by decide +kernel
theorem dX8_trace_35 : decode cX8_trace 35 = .ok (.putfield 82, 3) := by decide +kernel
theorem dX8_trace_38 : decode cX8_trace 38 = .ok (.iconst 0, 1) := by decide +kernel
theorem dX8_trace_39 : decode cX8_trace 39 = .ok (.istore_n 1, 1) := by decide +kernel
theorem dX8_trace_40 : decode cX8_trace 40 = .ok (.iload_n 1, 1) := by decide +kernel
theorem dX8_trace_41 : decode cX8_trace 41 = .ok (.iconst 2, 1) := by decide +kernel
theorem dX8_trace_42 : decode cX8_trace 42 = .ok (.if_icmp .ge 16, 3) := by decide +kernel
theorem dX8_trace_45 : decode cX8_trace 45 = .ok (.aload_n 0, 1) := by decide +kernel
theorem dX8_trace_46 : decode cX8_trace 46 = .ok (.getfield 30, 3) := by decide +kernel
theorem dX8_trace_49 : decode cX8_trace 49 = .ok (.iload_n 1, 1) := by decide +kernel
theorem dX8_trace_50 : decode cX8_trace 50 = .ok (.iconst 0, 1) := by decide +kernel
theorem dX8_trace_51 : decode cX8_trace 51 = .ok (.bastore, 1) := by decide +kernel
theorem dX8_trace_52 : decode cX8_trace 52 = .ok (.iinc 1 1, 3) := by decide +kernel
theorem dX8_trace_55 : decode cX8_trace 55 = .ok (.goto (-15), 3) := by decide +kernel
theorem dX8_trace_58 : decode cX8_trace 58 = .ok (.aload_n 0, 1) := by decide +kernel
theorem dX8_trace_59 : decode cX8_trace 59 = .ok (.getfield 19, 3) := by decide +kernel
theorem dX8_trace_62 : decode cX8_trace 62 = .ok (.getfield 85, 3) := by decide +kernel
theorem dX8_trace_65 : decode cX8_trace 65 = .ok (.ireturn, 1) := by decide +kernel
theorem dX8_step_0 : decode cX8_step 0 = .ok (.aload_n 0, 1) := by decide +kernel
theorem dX8_step_1 : decode cX8_step 1 = .ok (.getfield 19, 3) := by decide +kernel
theorem dX8_step_4 : decode cX8_step 4 = .ok (.iload_n 1, 1) := by decide +kernel
theorem dX8_step_5 : decode cX8_step 5 = .ok (.invokevirtual 86, 3) := by decide +kernel
theorem dX8_step_8 : decode cX8_step 8 = .ok (.ifCond .ne 5, 3) := by decide +kernel
theorem dX8_step_11 : decode cX8_step 11 = .ok (.iconst (-1), 1) := by decide +kernel
theorem dX8_step_12 : decode cX8_step 12 = .ok (.ireturn, 1) := by decide +kernel
theorem dX8_step_13 : decode cX8_step 13 = .ok (.iload_n 2, 1) := by decide +kernel
theorem dX8_step_14 : decode cX8_step 14 = .ok (.tableswitch 81 0 4 #[34, 43, 52, 61, 71], 34) := by decide +kernel
theorem dX8_step_48 : decode cX8_step 48 = .ok (.aload_n 0, 1) := by decide +kernel
theorem dX8_step_49 : decode cX8_step 49 = .ok (.getfield 19, 3) := by decide +kernel
theorem dX8_step_52 : decode cX8_step 52 = .ok (.iload_n 1, 1) := by decide +kernel
theorem dX8_step_53 : decode cX8_step 53 = .ok (.invokevirtual 89, 3) := by decide +kernel
theorem dX8_step_56 : decode cX8_step 56 = .ok (.ireturn, 1) := by decide +kernel
theorem dX8_step_57 : decode cX8_step 57 = .ok (.aload_n 0, 1) := by decide +kernel
theorem dX8_step_58 : decode cX8_step 58 = .ok (.getfield 19, 3) := by decide +kernel
theorem dX8_step_61 : decode cX8_step 61 = .ok (.iload_n 1, 1) := by decide +kernel
theorem dX8_step_62 : decode cX8_step 62 = .ok (.invokevirtual 93, 3) := by decide +kernel
theorem dX8_step_65 : decode cX8_step 65 = .ok (.ireturn, 1) := by decide +kernel
theorem dX8_step_66 : decode cX8_step 66 = .ok (.aload_n 0, 1) := by decide +kernel
theorem dX8_step_67 : decode cX8_step 67 = .ok (.getfield 19, 3) := by decide +kernel
theorem dX8_step_70 : decode cX8_step 70 = .ok (.iload_n 1, 1) := by decide +kernel
theorem dX8_step_71 : decode cX8_step 71 = .ok (.invokevirtual 96, 3) := by decide +kernel
theorem dX8_step_74 : decode cX8_step 74 = .ok (.ireturn, 1) := by decide +kernel
theorem dX8_step_75 : decode cX8_step 75 = .ok (.aload_n 0, 1) := by decide +kernel
theorem dX8_step_76 : decode cX8_step 76 = .ok (.getfield 19, 3) := by decide +kernel
theorem dX8_step_79 : decode cX8_step 79 = .ok (.getfield 99, 3) := by decide +kernel
theorem dX8_step_82 : decode cX8_step 82 = .ok (.iload_n 1, 1) := by decide +kernel
theorem dX8_step_83 : decode cX8_step 83 = .ok (.iaload, 1) := by decide +kernel
theorem dX8_step_84 : decode cX8_step 84 = .ok (.ireturn, 1) := by decide +kernel
theorem dX8_step_85 : decode cX8_step 85 = .ok (.aload_n 0, 1) := by decide +kernel
theorem dX8_step_86 : decode cX8_step 86 = .ok (.getfield 19, 3) := by decide +kernel
theorem dX8_step_89 : decode cX8_step 89 = .ok (.getfield 103, 3) := by decide +kernel
theorem dX8_step_92 : decode cX8_step 92 = .ok (.iload_n 1, 1) := by decide +kernel
theorem dX8_step_93 : decode cX8_step 93 = .ok (.iaload, 1) := by decide +kernel
theorem dX8_step_94 : decode cX8_step 94 = .ok (.ireturn, 1) := by decide +kernel
theorem dX8_step_95 : decode cX8_step 95 = .ok (.bipush (-2), 2) := by decide +kernel
theorem dX8_step_97 : decode cX8_step 97 = .ok (.ireturn, 1) := by decide +kernel
theorem dX8_drop_0 : decode cX8_drop 0 = .ok (.aload_n 0, 1) := by decide +kernel
theorem dX8_drop_1 : decode cX8_drop 1 = .ok (.getfield 19, 3) := by decide +kernel
theorem dX8_drop_4 : decode cX8_drop 4 = .ok (.iload_n 1, 1) := by decide +kernel
theorem dX8_drop_5 : decode cX8_drop 5 = .ok (.invokevirtual 86, 3) := by decide +kernel
theorem dX8_drop_8 : decode cX8_drop 8 = .ok (.ifCond .ne 5, 3) := by decide +kernel
theorem dX8_drop_11 : decode cX8_drop 11 = .ok (.iconst (-1), 1) := by decide +kernel
theorem dX8_drop_12 : decode cX8_drop 12 = .ok (.ireturn, 1) := by decide +kernel
theorem dX8_drop_13 : decode cX8_drop 13 = .ok (.aload_n 0, 1) := by decide +kernel
theorem dX8_drop_14 : decode cX8_drop 14 = .ok (.getfield 19, 3) := by decide +kernel
theorem dX8_drop_17 : decode cX8_drop 17 = .ok (.getfield 106, 3) := by decide +kernel
theorem dX8_drop_20 : decode cX8_drop 20 = .ok (.iload_n 1, 1) := by decide +kernel
theorem dX8_drop_21 : decode cX8_drop 21 = .ok (.iaload, 1) := by decide +kernel
theorem dX8_drop_22 : decode cX8_drop 22 = .ok (.istore_n 2, 1) := by decide +kernel
theorem dX8_drop_23 : decode cX8_drop 23 = .ok (.aload_n 0, 1) := by decide +kernel
theorem dX8_drop_24 : decode cX8_drop 24 = .ok (.getfield 19, 3) := by decide +kernel
theorem dX8_drop_27 : decode cX8_drop 27 = .ok (.iload_n 1, 1) := by decide +kernel
theorem dX8_drop_28 : decode cX8_drop 28 = .ok (.invokevirtual 109, 3) := by decide +kernel
theorem dX8_drop_31 : decode cX8_drop 31 = .ok (.ifCond .ne 6, 3) := by decide +kernel
theorem dX8_drop_34 : decode cX8_drop 34 = .ok (.bipush (-3), 2) := by decide +kernel
theorem dX8_drop_36 : decode cX8_drop 36 = .ok (.ireturn, 1) := by decide +kernel
theorem dX8_drop_37 : decode cX8_drop 37 = .ok (.aload_n 0, 1) := by decide +kernel
theorem dX8_drop_38 : decode cX8_drop 38 = .ok (.getfield 37, 3) := by decide +kernel
theorem dX8_drop_41 : decode cX8_drop 41 = .ok (.iload_n 1, 1) := by decide +kernel
theorem dX8_drop_42 : decode cX8_drop 42 = .ok (.iload_n 2, 1) := by decide +kernel
theorem dX8_drop_43 : decode cX8_drop 43 = .ok (.invokevirtual 112, 3) := by decide +kernel
theorem dX8_drop_46 : decode cX8_drop 46 = .ok (.aload_n 0, 1) := by decide +kernel
theorem dX8_drop_47 : decode cX8_drop 47 = .ok (.getfield 19, 3) := by decide +kernel
theorem dX8_drop_50 : decode cX8_drop 50 = .ok (.getfield 85, 3) := by decide +kernel
theorem dX8_drop_53 : decode cX8_drop 53 = .ok (.ireturn, 1) := by decide +kernel
theorem dX8_swap_0 : decode cX8_swap 0 = .ok (.aload_n 0, 1) := by decide +kernel
theorem dX8_swap_1 : decode cX8_swap 1 = .ok (.getfield 19, 3) := by decide +kernel
theorem dX8_swap_4 : decode cX8_swap 4 = .ok (.iload_n 1, 1) := by decide +kernel
theorem dX8_swap_5 : decode cX8_swap 5 = .ok (.invokevirtual 116, 3) := by decide +kernel
theorem dX8_swap_8 : decode cX8_swap 8 = .ok (.ifCond .ne 5, 3) := by decide +kernel
theorem dX8_swap_11 : decode cX8_swap 11 = .ok (.iconst (-1), 1) := by decide +kernel
theorem dX8_swap_12 : decode cX8_swap 12 = .ok (.ireturn, 1) := by decide +kernel
theorem dX8_swap_13 : decode cX8_swap 13 = .ok (.aload_n 0, 1) := by decide +kernel
theorem dX8_swap_14 : decode cX8_swap 14 = .ok (.getfield 19, 3) := by decide +kernel
theorem dX8_swap_17 : decode cX8_swap 17 = .ok (.iload_n 1, 1) := by decide +kernel
theorem dX8_swap_18 : decode cX8_swap 18 = .ok (.invokevirtual 89, 3) := by decide +kernel
theorem dX8_swap_21 : decode cX8_swap 21 = .ok (.istore_n 2, 1) := by decide +kernel
theorem dX8_swap_22 : decode cX8_swap 22 = .ok (.aload_n 0, 1) := by decide +kernel
theorem dX8_swap_23 : decode cX8_swap 23 = .ok (.getfield 19, 3) := by decide +kernel
theorem dX8_swap_26 : decode cX8_swap 26 = .ok (.iload_n 1, 1) := by decide +kernel
theorem dX8_swap_27 : decode cX8_swap 27 = .ok (.invokevirtual 119, 3) := by decide +kernel
theorem dX8_swap_30 : decode cX8_swap 30 = .ok (.ifCond .ne 6, 3) := by decide +kernel
theorem dX8_swap_33 : decode cX8_swap 33 = .ok (.bipush (-3), 2) := by decide +kernel
theorem dX8_swap_35 : decode cX8_swap 35 = .ok (.ireturn, 1) := by decide +kernel
theorem dX8_swap_36 : decode cX8_swap 36 = .ok (.aload_n 0, 1) := by decide +kernel
theorem dX8_swap_37 : decode cX8_swap 37 = .ok (.getfield 37, 3) := by decide +kernel
theorem dX8_swap_40 : decode cX8_swap 40 = .ok (.iload_n 1, 1) := by decide +kernel
theorem dX8_swap_41 : decode cX8_swap 41 = .ok (.iconst (-1), 1) := by decide +kernel
theorem dX8_swap_42 : decode cX8_swap 42 = .ok (.invokevirtual 112, 3) := by decide +kernel
theorem dX8_swap_45 : decode cX8_swap 45 = .ok (.iload_n 2, 1) := by decide +kernel
theorem dX8_swap_46 : decode cX8_swap 46 = .ok (.ireturn, 1) := by decide +kernel
theorem dX8_undo_0 : decode cX8_undo 0 = .ok (.aload_n 0, 1) := by decide +kernel
theorem dX8_undo_1 : decode cX8_undo 1 = .ok (.getfield 37, 3) := by decide +kernel
theorem dX8_undo_4 : decode cX8_undo 4 = .ok (.getfield 82, 3) := by decide +kernel
theorem dX8_undo_7 : decode cX8_undo 7 = .ok (.ifCond .ne 6, 3) := by decide +kernel
theorem dX8_undo_10 : decode cX8_undo 10 = .ok (.bipush (-3), 2) := by decide +kernel
theorem dX8_undo_12 : decode cX8_undo 12 = .ok (.ireturn, 1) := by decide +kernel
theorem dX8_undo_13 : decode cX8_undo 13 = .ok (.aload_n 0, 1) := by decide +kernel
theorem dX8_undo_14 : decode cX8_undo 14 = .ok (.getfield 37, 3) := by decide +kernel
theorem dX8_undo_17 : decode cX8_undo 17 = .ok (.aload_n 0, 1) := by decide +kernel
theorem dX8_undo_18 : decode cX8_undo 18 = .ok (.getfield 19, 3) := by decide +kernel
theorem dX8_undo_21 : decode cX8_undo 21 = .ok (.invokevirtual 122, 3) := by decide +kernel
theorem dX8_undo_24 : decode cX8_undo 24 = .ok (.aload_n 0, 1) := by decide +kernel
theorem dX8_undo_25 : decode cX8_undo 25 = .ok (.getfield 37, 3) := by decide +kernel
theorem dX8_undo_28 : decode cX8_undo 28 = .ok (.getfield 82, 3) := by decide +kernel
theorem dX8_undo_31 : decode cX8_undo 31 = .ok (.ireturn, 1) := by decide +kernel
theorem dX8_cell_0 : decode cX8_cell 0 = .ok (.iload_n 1, 1) := by decide +kernel
theorem dX8_cell_1 : decode cX8_cell 1 = .ok (.invokestatic 125, 3) := by decide +kernel
theorem dX8_cell_4 : decode cX8_cell 4 = .ok (.ifCond .ne 5, 3) := by decide +kernel
theorem dX8_cell_7 : decode cX8_cell 7 = .ok (.iconst (-1), 1) := by decide +kernel
theorem dX8_cell_8 : decode cX8_cell 8 = .ok (.ireturn, 1) := by decide +kernel
theorem dX8_cell_9 : decode cX8_cell 9 = .ok (.iload_n 2, 1) := by decide +kernel
theorem dX8_cell_10 : decode cX8_cell 10 = .ok (.ifCond .lt 14, 3) := by decide +kernel
theorem dX8_cell_13 : decode cX8_cell 13 = .ok (.iload_n 2, 1) := by decide +kernel
theorem dX8_cell_14 : decode cX8_cell 14 = .ok (.aload_n 0, 1) := by decide +kernel
theorem dX8_cell_15 : decode cX8_cell 15 = .ok (.getfield 19, 3) := by decide +kernel
theorem dX8_cell_18 : decode cX8_cell 18 = .ok (.getfield 85, 3) := by decide +kernel
theorem dX8_cell_21 : decode cX8_cell 21 = .ok (.if_icmp .le 6, 3) := by decide +kernel
theorem dX8_cell_24 : decode cX8_cell 24 = .ok (.bipush (-2), 2) := by decide +kernel
theorem dX8_cell_26 : decode cX8_cell 26 = .ok (.ireturn, 1) := by decide +kernel
theorem dX8_cell_27 : decode cX8_cell 27 = .ok (.aload_n 0, 1) := by decide +kernel
theorem dX8_cell_28 : decode cX8_cell 28 = .ok (.getfield 19, 3) := by decide +kernel
theorem dX8_cell_31 : decode cX8_cell 31 = .ok (.iload_n 1, 1) := by decide +kernel
theorem dX8_cell_32 : decode cX8_cell 32 = .ok (.iload_n 2, 1) := by decide +kernel
theorem dX8_cell_33 : decode cX8_cell 33 = .ok (.bipush (-9), 2) := by decide +kernel
theorem dX8_cell_35 : decode cX8_cell 35 = .ok (.bipush 15, 2) := by decide +kernel
theorem dX8_cell_37 : decode cX8_cell 37 = .ok (.invokestatic 128, 3) := by decide +kernel
theorem dX8_cell_40 : decode cX8_cell 40 = .ok (.istore 4, 2) := by decide +kernel
theorem dX8_cell_42 : decode cX8_cell 42 = .ok (.iload_n 3, 1) := by decide +kernel
theorem dX8_cell_43 : decode cX8_cell 43 = .ok (.tableswitch 71 0 4 #[33, 39, 45, 51, 61], 33) := by decide +kernel
theorem dX8_cell_76 : decode cX8_cell 76 = .ok (.iload 4, 2) := by decide +kernel
theorem dX8_cell_78 : decode cX8_cell 78 = .ok (.invokestatic 134, 3) := by decide +kernel
theorem dX8_cell_81 : decode cX8_cell 81 = .ok (.ireturn, 1) := by decide +kernel
theorem dX8_cell_82 : decode cX8_cell 82 = .ok (.iload 4, 2) := by decide +kernel
theorem dX8_cell_84 : decode cX8_cell 84 = .ok (.invokestatic 137, 3) := by decide +kernel
theorem dX8_cell_87 : decode cX8_cell 87 = .ok (.ireturn, 1) := by decide +kernel
theorem dX8_cell_88 : decode cX8_cell 88 = .ok (.iload 4, 2) := by decide +kernel
theorem dX8_cell_90 : decode cX8_cell 90 = .ok (.invokestatic 140, 3) := by decide +kernel
theorem dX8_cell_93 : decode cX8_cell 93 = .ok (.ireturn, 1) := by decide +kernel
theorem dX8_cell_94 : decode cX8_cell 94 = .ok (.aload_n 0, 1) := by decide +kernel
theorem dX8_cell_95 : decode cX8_cell 95 = .ok (.getfield 19, 3) := by decide +kernel
theorem dX8_cell_98 : decode cX8_cell 98 = .ok (.iload_n 1, 1) := by decide +kernel
theorem dX8_cell_99 : decode cX8_cell 99 = .ok (.iload_n 2, 1) := by decide +kernel
theorem dX8_cell_100 : decode cX8_cell 100 = .ok (.invokestatic 143, 3) := by decide +kernel
theorem dX8_cell_103 : decode cX8_cell 103 = .ok (.ireturn, 1) := by decide +kernel
theorem dX8_cell_104 : decode cX8_cell 104 = .ok (.aload_n 0, 1) := by decide +kernel
theorem dX8_cell_105 : decode cX8_cell 105 = .ok (.getfield 19, 3) := by decide +kernel
theorem dX8_cell_108 : decode cX8_cell 108 = .ok (.iload_n 1, 1) := by decide +kernel
theorem dX8_cell_109 : decode cX8_cell 109 = .ok (.iload_n 2, 1) := by decide +kernel
theorem dX8_cell_110 : decode cX8_cell 110 = .ok (.invokestatic 147, 3) := by decide +kernel
theorem dX8_cell_113 : decode cX8_cell 113 = .ok (.ireturn, 1) := by decide +kernel
theorem dX8_cell_114 : decode cX8_cell 114 = .ok (.bipush (-2), 2) := by decide +kernel
theorem dX8_cell_116 : decode cX8_cell 116 = .ok (.ireturn, 1) := by decide +kernel
theorem dX8_ahead_0 : decode cX8_ahead 0 = .ok (.aload_n 0, 1) := by decide +kernel
theorem dX8_ahead_1 : decode cX8_ahead 1 = .ok (.getfield 19, 3) := by decide +kernel
theorem dX8_ahead_4 : decode cX8_ahead 4 = .ok (.iload_n 1, 1) := by decide +kernel
theorem dX8_ahead_5 : decode cX8_ahead 5 = .ok (.invokevirtual 86, 3) := by decide +kernel
theorem dX8_ahead_8 : decode cX8_ahead 8 = .ok (.ifCond .eq 14, 3) := by decide +kernel
theorem dX8_ahead_11 : decode cX8_ahead 11 = .ok (.aload_n 0, 1) := by decide +kernel
theorem dX8_ahead_12 : decode cX8_ahead 12 = .ok (.getfield 19, 3) := by decide +kernel
theorem dX8_ahead_15 : decode cX8_ahead 15 = .ok (.iload_n 2, 1) := by decide +kernel
theorem dX8_ahead_16 : decode cX8_ahead 16 = .ok (.invokevirtual 86, 3) := by decide +kernel
theorem dX8_ahead_19 : decode cX8_ahead 19 = .ok (.ifCond .ne 5, 3) := by decide +kernel
theorem dX8_ahead_22 : decode cX8_ahead 22 = .ok (.iconst (-1), 1) := by decide +kernel
theorem dX8_ahead_23 : decode cX8_ahead 23 = .ok (.ireturn, 1) := by decide +kernel
theorem dX8_ahead_24 : decode cX8_ahead 24 = .ok (.aload_n 0, 1) := by decide +kernel
theorem dX8_ahead_25 : decode cX8_ahead 25 = .ok (.getfield 19, 3) := by decide +kernel
theorem dX8_ahead_28 : decode cX8_ahead 28 = .ok (.iload_n 1, 1) := by decide +kernel
theorem dX8_ahead_29 : decode cX8_ahead 29 = .ok (.iload_n 2, 1) := by decide +kernel
theorem dX8_ahead_30 : decode cX8_ahead 30 = .ok (.invokevirtual 150, 3) := by decide +kernel
theorem dX8_ahead_33 : decode cX8_ahead 33 = .ok (.ifCond .eq 7, 3) := by decide +kernel
theorem dX8_ahead_36 : decode cX8_ahead 36 = .ok (.iconst 1, 1) := by decide +kernel
theorem dX8_ahead_37 : decode cX8_ahead 37 = .ok (.goto 4, 3) := by decide +kernel
theorem dX8_ahead_40 : decode cX8_ahead 40 = .ok (.iconst 0, 1) := by decide +kernel
theorem dX8_ahead_41 : decode cX8_ahead 41 = .ok (.ireturn, 1) := by decide +kernel
theorem dX8_meetings_0 : decode cX8_meetings 0 = .ok (.iload_n 1, 1) := by decide +kernel
theorem dX8_meetings_1 : decode cX8_meetings 1 = .ok (.invokestatic 125, 3) := by decide +kernel
theorem dX8_meetings_4 : decode cX8_meetings 4 = .ok (.ifCond .ne 5, 3) := by decide +kernel
theorem dX8_meetings_7 : decode cX8_meetings 7 = .ok (.iconst (-1), 1) := by decide +kernel
theorem dX8_meetings_8 : decode cX8_meetings 8 = .ok (.ireturn, 1) := by decide +kernel
theorem dX8_meetings_9 : decode cX8_meetings 9 = .ok (.iload_n 2, 1) := by decide +kernel
theorem dX8_meetings_10 : decode cX8_meetings 10 = .ok (.lookupswitch 44 #[(0, 26), (1, 35)], 26) := by decide +kernel
theorem dX8_meetings_36 : decode cX8_meetings 36 = .ok (.aload_n 0, 1) := by decide +kernel
theorem dX8_meetings_37 : decode cX8_meetings 37 = .ok (.getfield 19, 3) := by decide +kernel
theorem dX8_meetings_40 : decode cX8_meetings 40 = .ok (.iload_n 1, 1) := by decide +kernel
theorem dX8_meetings_41 : decode cX8_meetings 41 = .ok (.invokestatic 154, 3) := by decide +kernel
theorem dX8_meetings_44 : decode cX8_meetings 44 = .ok (.ireturn, 1) := by decide +kernel
theorem dX8_meetings_45 : decode cX8_meetings 45 = .ok (.aload_n 0, 1) := by decide +kernel
theorem dX8_meetings_46 : decode cX8_meetings 46 = .ok (.getfield 19, 3) := by decide +kernel
theorem dX8_meetings_49 : decode cX8_meetings 49 = .ok (.iload_n 1, 1) := by decide +kernel
theorem dX8_meetings_50 : decode cX8_meetings 50 = .ok (.invokestatic 158, 3) := by decide +kernel
theorem dX8_meetings_53 : decode cX8_meetings 53 = .ok (.ireturn, 1) := by decide +kernel
theorem dX8_meetings_54 : decode cX8_meetings 54 = .ok (.bipush (-2), 2) := by decide +kernel
theorem dX8_meetings_56 : decode cX8_meetings 56 = .ok (.ireturn, 1) := by decide +kernel
theorem dX8_edges_0 : decode cX8_edges 0 = .ok (.iload_n 1, 1) := by decide +kernel
theorem dX8_edges_1 : decode cX8_edges 1 = .ok (.ifCond .lt 9, 3) := by decide +kernel
theorem dX8_edges_4 : decode cX8_edges 4 = .ok (.iload_n 1, 1) := by decide +kernel
theorem dX8_edges_5 : decode cX8_edges 5 = .ok (.bipush 16, 2) := by decide +kernel
theorem dX8_edges_7 : decode cX8_edges 7 = .ok (.if_icmp .le 6, 3) := by decide +kernel
theorem dX8_edges_10 : decode cX8_edges 10 = .ok (.bipush (-2), 2) := by decide +kernel
theorem dX8_edges_12 : decode cX8_edges 12 = .ok (.ireturn, 1) := by decide +kernel
theorem dX8_edges_13 : decode cX8_edges 13 = .ok (.aload_n 0, 1) := by decide +kernel
theorem dX8_edges_14 : decode cX8_edges 14 = .ok (.getfield 51, 3) := by decide +kernel
theorem dX8_edges_17 : decode cX8_edges 17 = .ok (.aload_n 0, 1) := by decide +kernel
theorem dX8_edges_18 : decode cX8_edges 18 = .ok (.getfield 19, 3) := by decide +kernel
theorem dX8_edges_21 : decode cX8_edges 21 = .ok (.invokevirtual 161, 3) := by decide +kernel
theorem dX8_edges_24 : decode cX8_edges 24 = .ok (.iload_n 1, 1) := by decide +kernel
theorem dX8_edges_25 : decode cX8_edges 25 = .ok (.ifCond .ne 13, 3) := by decide +kernel
theorem dX8_edges_28 : decode cX8_edges 28 = .ok (.aload_n 0, 1) := by decide +kernel
theorem dX8_edges_29 : decode cX8_edges 29 = .ok (.getfield 51, 3) := by decide +kernel
theorem dX8_edges_32 : decode cX8_edges 32 = .ok (.getfield 164, 3) := by decide +kernel
theorem dX8_edges_35 : decode cX8_edges 35 = .ok (.goto 20, 3) := by decide +kernel
theorem dX8_edges_38 : decode cX8_edges 38 = .ok (.aload_n 0, 1) := by decide +kernel
theorem dX8_edges_39 : decode cX8_edges 39 = .ok (.getfield 51, 3) := by decide +kernel
theorem dX8_edges_42 : decode cX8_edges 42 = .ok (.iload_n 1, 1) := by decide +kernel
theorem dX8_edges_43 : decode cX8_edges 43 = .ok (.iconst 1, 1) := by decide +kernel
theorem dX8_edges_44 : decode cX8_edges 44 = .ok (.isub, 1) := by decide +kernel
theorem dX8_edges_45 : decode cX8_edges 45 = .ok (.iconst 4, 1) := by decide +kernel
theorem dX8_edges_46 : decode cX8_edges 46 = .ok (.idiv, 1) := by decide +kernel
theorem dX8_edges_47 : decode cX8_edges 47 = .ok (.iload_n 1, 1) := by decide +kernel
theorem dX8_edges_48 : decode cX8_edges 48 = .ok (.iconst 1, 1) := by decide +kernel
theorem dX8_edges_49 : decode cX8_edges 49 = .ok (.isub, 1) := by decide +kernel
theorem dX8_edges_50 : decode cX8_edges 50 = .ok (.iconst 4, 1) := by decide +kernel
theorem dX8_edges_51 : decode cX8_edges 51 = .ok (.irem, 1) := by decide +kernel
theorem dX8_edges_52 : decode cX8_edges 52 = .ok (.invokevirtual 165, 3) := by decide +kernel
theorem dX8_edges_55 : decode cX8_edges 55 = .ok (.ireturn, 1) := by decide +kernel
theorem dX8_rings_0 : decode cX8_rings 0 = .ok (.iload_n 1, 1) := by decide +kernel
theorem dX8_rings_1 : decode cX8_rings 1 = .ok (.iconst 2, 1) := by decide +kernel
theorem dX8_rings_2 : decode cX8_rings 2 = .ok (.if_icmp .lt 17, 3) := by decide +kernel
theorem dX8_rings_5 : decode cX8_rings 5 = .ok (.iload_n 1, 1) := by decide +kernel
theorem dX8_rings_6 : decode cX8_rings 6 = .ok (.iconst 4, 1) := by decide +kernel
theorem dX8_rings_7 : decode cX8_rings 7 = .ok (.if_icmp .gt 12, 3) := by decide +kernel
theorem dX8_rings_10 : decode cX8_rings 10 = .ok (.iload_n 2, 1) := by decide +kernel
theorem dX8_rings_11 : decode cX8_rings 11 = .ok (.ifCond .lt 8, 3) := by decide +kernel
theorem dX8_rings_14 : decode cX8_rings 14 = .ok (.iload_n 2, 1) := by decide +kernel
theorem dX8_rings_15 : decode cX8_rings 15 = .ok (.iconst 4, 1) := by decide +kernel
theorem dX8_rings_16 : decode cX8_rings 16 = .ok (.if_icmp .lt 6, 3) := by decide +kernel
theorem dX8_rings_19 : decode cX8_rings 19 = .ok (.bipush (-2), 2) := by decide +kernel
theorem dX8_rings_21 : decode cX8_rings 21 = .ok (.ireturn, 1) := by decide +kernel
theorem dX8_rings_22 : decode cX8_rings 22 = .ok (.aload_n 0, 1) := by decide +kernel
theorem dX8_rings_23 : decode cX8_rings 23 = .ok (.getfield 51, 3) := by decide +kernel
theorem dX8_rings_26 : decode cX8_rings 26 = .ok (.aload_n 0, 1) := by decide +kernel
theorem dX8_rings_27 : decode cX8_rings 27 = .ok (.getfield 19, 3) := by decide +kernel
theorem dX8_rings_30 : decode cX8_rings 30 = .ok (.invokevirtual 169, 3) := by decide +kernel
theorem dX8_rings_33 : decode cX8_rings 33 = .ok (.aload_n 0, 1) := by decide +kernel
theorem dX8_rings_34 : decode cX8_rings 34 = .ok (.getfield 51, 3) := by decide +kernel
theorem dX8_rings_37 : decode cX8_rings 37 = .ok (.getfield 172, 3) := by decide +kernel
theorem dX8_rings_40 : decode cX8_rings 40 = .ok (.iload_n 1, 1) := by decide +kernel
theorem dX8_rings_41 : decode cX8_rings 41 = .ok (.iconst 4, 1) := by decide +kernel
theorem dX8_rings_42 : decode cX8_rings 42 = .ok (.imul, 1) := by decide +kernel
theorem dX8_rings_43 : decode cX8_rings 43 = .ok (.iload_n 2, 1) := by decide +kernel
theorem dX8_rings_44 : decode cX8_rings 44 = .ok (.iadd, 1) := by decide +kernel
theorem dX8_rings_45 : decode cX8_rings 45 = .ok (.iaload, 1) := by decide +kernel
theorem dX8_rings_46 : decode cX8_rings 46 = .ok (.ireturn, 1) := by decide +kernel
theorem dX8_first_0 : decode cX8_first 0 = .ok (.aload_n 0, 1) := by decide +kernel
theorem dX8_first_1 : decode cX8_first 1 = .ok (.getfield 51, 3) := by decide +kernel
theorem dX8_first_4 : decode cX8_first 4 = .ok (.aload_n 0, 1) := by decide +kernel
theorem dX8_first_5 : decode cX8_first 5 = .ok (.getfield 19, 3) := by decide +kernel
theorem dX8_first_8 : decode cX8_first 8 = .ok (.invokevirtual 169, 3) := by decide +kernel
theorem dX8_first_11 : decode cX8_first 11 = .ok (.aload_n 0, 1) := by decide +kernel
theorem dX8_first_12 : decode cX8_first 12 = .ok (.getfield 51, 3) := by decide +kernel
theorem dX8_first_15 : decode cX8_first 15 = .ok (.getfield 175, 3) := by decide +kernel
theorem dX8_first_18 : decode cX8_first 18 = .ok (.ireturn, 1) := by decide +kernel
theorem dX8_judge_0 : decode cX8_judge 0 = .ok (.iload_n 1, 1) := by decide +kernel
theorem dX8_judge_1 : decode cX8_judge 1 = .ok (.iconst 1, 1) := by decide +kernel
theorem dX8_judge_2 : decode cX8_judge 2 = .ok (.if_icmp .lt 24, 3) := by decide +kernel
theorem dX8_judge_5 : decode cX8_judge 5 = .ok (.iload_n 1, 1) := by decide +kernel
theorem dX8_judge_6 : decode cX8_judge 6 = .ok (.iconst 4, 1) := by decide +kernel
theorem dX8_judge_7 : decode cX8_judge 7 = .ok (.if_icmp .gt 19, 3) := by decide +kernel
theorem dX8_judge_10 : decode cX8_judge 10 = .ok (.lload_n 2, 1) := by decide +kernel
theorem dX8_judge_11 : decode cX8_judge 11 = .ok (.lconst 0, 1) := by decide +kernel
theorem dX8_judge_12 : decode cX8_judge 12 = .ok (.lcmp, 1) := by decide +kernel
theorem dX8_judge_13 : decode cX8_judge 13 = .ok (.ifCond .lt 13, 3) := by decide +kernel
theorem dX8_judge_16 : decode cX8_judge 16 = .ok (.lload_n 2, 1) := by decide +kernel
theorem dX8_judge_17 : decode cX8_judge 17 = .ok (.getstatic 178, 3) := by decide +kernel
theorem dX8_judge_20 : decode cX8_judge 20 = .ok (.iload_n 1, 1) := by decide +kernel
theorem dX8_judge_21 : decode cX8_judge 21 = .ok (.laload, 1) := by decide +kernel
theorem dX8_judge_22 : decode cX8_judge 22 = .ok (.lcmp, 1) := by decide +kernel
theorem dX8_judge_23 : decode cX8_judge 23 = .ok (.ifCond .lt 6, 3) := by decide +kernel
theorem dX8_judge_26 : decode cX8_judge 26 = .ok (.bipush (-2), 2) := by decide +kernel
theorem dX8_judge_28 : decode cX8_judge 28 = .ok (.ireturn, 1) := by decide +kernel
theorem dX8_judge_29 : decode cX8_judge 29 = .ok (.aload_n 0, 1) := by decide +kernel
theorem dX8_judge_30 : decode cX8_judge 30 = .ok (.getfield 23, 3) := by decide +kernel
theorem dX8_judge_33 : decode cX8_judge 33 = .ok (.aload_n 0, 1) := by decide +kernel
theorem dX8_judge_34 : decode cX8_judge 34 = .ok (.getfield 19, 3) := by decide +kernel
theorem dX8_judge_37 : decode cX8_judge 37 = .ok (.invokevirtual 78, 3) := by decide +kernel
theorem dX8_judge_40 : decode cX8_judge 40 = .ok (.iconst 0, 1) := by decide +kernel
theorem dX8_judge_41 : decode cX8_judge 41 = .ok (.istore 4, 2) := by decide +kernel
theorem dX8_judge_43 : decode cX8_judge 43 = .ok (.iload 4, 2) := by decide +kernel
theorem dX8_judge_45 : decode cX8_judge 45 = .ok (.iload_n 1, 1) := by decide +kernel
theorem dX8_judge_46 : decode cX8_judge 46 = .ok (.if_icmp .ge 42, 3) := by decide +kernel
theorem dX8_judge_49 : decode cX8_judge 49 = .ok (.lload_n 2, 1) := by decide +kernel
theorem dX8_judge_50 : decode cX8_judge 50 = .ok (.getstatic 178, 3) := by decide +kernel
theorem dX8_judge_53 : decode cX8_judge 53 = .ok (.iload_n 1, 1) := by decide +kernel
theorem dX8_judge_54 : decode cX8_judge 54 = .ok (.iconst 1, 1) := by decide +kernel
theorem dX8_judge_55 : decode cX8_judge 55 = .ok (.isub, 1) := by decide +kernel
theorem dX8_judge_56 : decode cX8_judge 56 = .ok (.iload 4, 2) := by decide +kernel
theorem dX8_judge_58 : decode cX8_judge 58 = .ok (.isub, 1) := by decide +kernel
theorem dX8_judge_59 : decode cX8_judge 59 = .ok (.laload, 1) := by decide +kernel
theorem dX8_judge_60 : decode cX8_judge 60 = .ok (.ldiv, 1) := by decide +kernel
theorem dX8_judge_61 : decode cX8_judge 61 = .ok (.getstatic 178, 3) := by decide +kernel
theorem dX8_judge_64 : decode cX8_judge 64 = .ok (.iconst 1, 1) := by decide +kernel
theorem dX8_judge_65 : decode cX8_judge 65 = .ok (.laload, 1) := by decide +kernel
theorem dX8_judge_66 : decode cX8_judge 66 = .ok (.lrem, 1) := by decide +kernel
theorem dX8_judge_67 : decode cX8_judge 67 = .ok (.l2i, 1) := by decide +kernel
theorem dX8_judge_68 : decode cX8_judge 68 = .ok (.istore 5, 2) := by decide +kernel
theorem dX8_judge_70 : decode cX8_judge 70 = .ok (.aload_n 0, 1) := by decide +kernel
theorem dX8_judge_71 : decode cX8_judge 71 = .ok (.iload 5, 2) := by decide +kernel
theorem dX8_judge_73 : decode cX8_judge 73 = .ok (.invokevirtual 182, 3) := by decide +kernel
theorem dX8_judge_76 : decode cX8_judge 76 = .ok (.ifCond .ne 6, 3) := by decide +kernel
theorem dX8_judge_79 : decode cX8_judge 79 = .ok (.iload 4, 2) := by decide +kernel
theorem dX8_judge_81 : decode cX8_judge 81 = .ok (.ireturn, 1) := by decide +kernel
theorem dX8_judge_82 : decode cX8_judge 82 = .ok (.iinc 4 1, 3) := by decide +kernel
theorem dX8_judge_85 : decode cX8_judge 85 = .ok (.goto (-42), 3) := by decide +kernel
theorem dX8_judge_88 : decode cX8_judge 88 = .ok (.bipush (-9), 2) := by decide +kernel
theorem dX8_judge_90 : decode cX8_judge 90 = .ok (.ireturn, 1) := by decide +kernel
theorem dX8_see_0 : decode cX8_see 0 = .ok (.iload_n 1, 1) := by decide +kernel
theorem dX8_see_1 : decode cX8_see 1 = .ok (.invokestatic 125, 3) := by decide +kernel
theorem dX8_see_4 : decode cX8_see 4 = .ok (.ifCond .ne 5, 3) := by decide +kernel
theorem dX8_see_7 : decode cX8_see 7 = .ok (.iconst (-1), 1) := by decide +kernel
theorem dX8_see_8 : decode cX8_see 8 = .ok (.ireturn, 1) := by decide +kernel
theorem dX8_see_9 : decode cX8_see 9 = .ok (.iload_n 2, 1) := by decide +kernel
theorem dX8_see_10 : decode cX8_see 10 = .ok (.ifCond .lt 17, 3) := by decide +kernel
theorem dX8_see_13 : decode cX8_see 13 = .ok (.iload_n 2, 1) := by decide +kernel
theorem dX8_see_14 : decode cX8_see 14 = .ok (.iconst 3, 1) := by decide +kernel
theorem dX8_see_15 : decode cX8_see 15 = .ok (.if_icmp .gt 12, 3) := by decide +kernel
theorem dX8_see_18 : decode cX8_see 18 = .ok (.iload_n 3, 1) := by decide +kernel
theorem dX8_see_19 : decode cX8_see 19 = .ok (.ifCond .lt 8, 3) := by decide +kernel
theorem dX8_see_22 : decode cX8_see 22 = .ok (.iload_n 3, 1) := by decide +kernel
theorem dX8_see_23 : decode cX8_see 23 = .ok (.iconst 1, 1) := by decide +kernel
theorem dX8_see_24 : decode cX8_see 24 = .ok (.if_icmp .le 6, 3) := by decide +kernel
theorem dX8_see_27 : decode cX8_see 27 = .ok (.bipush (-2), 2) := by decide +kernel
theorem dX8_see_29 : decode cX8_see 29 = .ok (.ireturn, 1) := by decide +kernel
theorem dX8_see_30 : decode cX8_see 30 = .ok (.aload_n 0, 1) := by decide +kernel
theorem dX8_see_31 : decode cX8_see 31 = .ok (.getfield 44, 3) := by decide +kernel
theorem dX8_see_34 : decode cX8_see 34 = .ok (.iload_n 1, 1) := by decide +kernel
theorem dX8_see_35 : decode cX8_see 35 = .ok (.iload_n 2, 1) := by decide +kernel
theorem dX8_see_36 : decode cX8_see 36 = .ok (.iload_n 3, 1) := by decide +kernel
theorem dX8_see_37 : decode cX8_see 37 = .ok (.iconst 1, 1) := by decide +kernel
theorem dX8_see_38 : decode cX8_see 38 = .ok (.if_icmp .ne 7, 3) := by decide +kernel
theorem dX8_see_41 : decode cX8_see 41 = .ok (.iconst 1, 1) := by decide +kernel
theorem dX8_see_42 : decode cX8_see 42 = .ok (.goto 4, 3) := by decide +kernel
theorem dX8_see_45 : decode cX8_see 45 = .ok (.iconst 0, 1) := by decide +kernel
theorem dX8_see_46 : decode cX8_see 46 = .ok (.invokevirtual 185, 3) := by decide +kernel
theorem dX8_see_49 : decode cX8_see 49 = .ok (.ifCond .eq 13, 3) := by decide +kernel
theorem dX8_see_52 : decode cX8_see 52 = .ok (.aload_n 0, 1) := by decide +kernel
theorem dX8_see_53 : decode cX8_see 53 = .ok (.getfield 44, 3) := by decide +kernel
theorem dX8_see_56 : decode cX8_see 56 = .ok (.getfield 188, 3) := by decide +kernel
theorem dX8_see_59 : decode cX8_see 59 = .ok (.goto 5, 3) := by decide +kernel
theorem dX8_see_62 : decode cX8_see 62 = .ok (.bipush (-4), 2) := by decide +kernel
theorem dX8_see_64 : decode cX8_see 64 = .ok (.ireturn, 1) := by decide +kernel
theorem dX8_unsee_0 : decode cX8_unsee 0 = .ok (.aload_n 0, 1) := by decide +kernel
theorem dX8_unsee_1 : decode cX8_unsee 1 = .ok (.getfield 44, 3) := by decide +kernel
theorem dX8_unsee_4 : decode cX8_unsee 4 = .ok (.getfield 188, 3) := by decide +kernel
theorem dX8_unsee_7 : decode cX8_unsee 7 = .ok (.istore_n 1, 1) := by decide +kernel
theorem dX8_unsee_8 : decode cX8_unsee 8 = .ok (.aload_n 0, 1) := by decide +kernel
theorem dX8_unsee_9 : decode cX8_unsee 9 = .ok (.getfield 44, 3) := by decide +kernel
theorem dX8_unsee_12 : decode cX8_unsee 12 = .ok (.iconst 0, 1) := by decide +kernel
theorem dX8_unsee_13 : decode cX8_unsee 13 = .ok (.putfield 188, 3) := by decide +kernel
theorem dX8_unsee_16 : decode cX8_unsee 16 = .ok (.iload_n 1, 1) := by decide +kernel
theorem dX8_unsee_17 : decode cX8_unsee 17 = .ok (.ireturn, 1) := by decide +kernel
theorem dX8_which_0 : decode cX8_which 0 = .ok (.iload_n 1, 1) := by decide +kernel
theorem dX8_which_1 : decode cX8_which 1 = .ok (.lookupswitch 51 #[(0, 27), (1, 39)], 27) := by decide +kernel
theorem dX8_which_28 : decode cX8_which 28 = .ok (.aload_n 0, 1) := by decide +kernel
theorem dX8_which_29 : decode cX8_which 29 = .ok (.getfield 44, 3) := by decide +kernel
theorem dX8_which_32 : decode cX8_which 32 = .ok (.aload_n 0, 1) := by decide +kernel
theorem dX8_which_33 : decode cX8_which 33 = .ok (.getfield 19, 3) := by decide +kernel
theorem dX8_which_36 : decode cX8_which 36 = .ok (.invokevirtual 189, 3) := by decide +kernel
theorem dX8_which_39 : decode cX8_which 39 = .ok (.ireturn, 1) := by decide +kernel
theorem dX8_which_40 : decode cX8_which 40 = .ok (.aload_n 0, 1) := by decide +kernel
theorem dX8_which_41 : decode cX8_which 41 = .ok (.getfield 44, 3) := by decide +kernel
theorem dX8_which_44 : decode cX8_which 44 = .ok (.aload_n 0, 1) := by decide +kernel
theorem dX8_which_45 : decode cX8_which 45 = .ok (.getfield 19, 3) := by decide +kernel
theorem dX8_which_48 : decode cX8_which 48 = .ok (.invokevirtual 192, 3) := by decide +kernel
theorem dX8_which_51 : decode cX8_which 51 = .ok (.ireturn, 1) := by decide +kernel
theorem dX8_which_52 : decode cX8_which 52 = .ok (.bipush (-2), 2) := by decide +kernel
theorem dX8_which_54 : decode cX8_which 54 = .ok (.ireturn, 1) := by decide +kernel
theorem dX8_share_0 : decode cX8_share 0 = .ok (.iload_n 1, 1) := by decide +kernel
theorem dX8_share_1 : decode cX8_share 1 = .ok (.invokestatic 125, 3) := by decide +kernel
theorem dX8_share_4 : decode cX8_share 4 = .ok (.ifCond .ne 5, 3) := by decide +kernel
theorem dX8_share_7 : decode cX8_share 7 = .ok (.iconst (-1), 1) := by decide +kernel
theorem dX8_share_8 : decode cX8_share 8 = .ok (.ireturn, 1) := by decide +kernel
theorem dX8_share_9 : decode cX8_share 9 = .ok (.iconst 1, 1) := by decide +kernel
theorem dX8_share_10 : decode cX8_share 10 = .ok (.iload_n 1, 1) := by decide +kernel
theorem dX8_share_11 : decode cX8_share 11 = .ok (.ishl, 1) := by decide +kernel
theorem dX8_share_12 : decode cX8_share 12 = .ok (.istore_n 3, 1) := by decide +kernel
theorem dX8_share_13 : decode cX8_share 13 = .ok (.iconst 0, 1) := by decide +kernel
theorem dX8_share_14 : decode cX8_share 14 = .ok (.istore 4, 2) := by decide +kernel
theorem dX8_share_16 : decode cX8_share 16 = .ok (.iconst 0, 1) := by decide +kernel
theorem dX8_share_17 : decode cX8_share 17 = .ok (.istore 5, 2) := by decide +kernel
theorem dX8_share_19 : decode cX8_share 19 = .ok (.iload 5, 2) := by decide +kernel
theorem dX8_share_21 : decode cX8_share 21 = .ok (.bipush 15, 2) := by decide +kernel
theorem dX8_share_23 : decode cX8_share 23 = .ok (.if_icmp .gt 58, 3) := by decide +kernel
theorem dX8_share_26 : decode cX8_share 26 = .ok (.iload 5, 2) := by decide +kernel
theorem dX8_share_28 : decode cX8_share 28 = .ok (.iload_n 3, 1) := by decide +kernel
theorem dX8_share_29 : decode cX8_share 29 = .ok (.iand, 1) := by decide +kernel
theorem dX8_share_30 : decode cX8_share 30 = .ok (.ifCond .ne 45, 3) := by decide +kernel
theorem dX8_share_33 : decode cX8_share 33 = .ok (.aload_n 0, 1) := by decide +kernel
theorem dX8_share_34 : decode cX8_share 34 = .ok (.getfield 19, 3) := by decide +kernel
theorem dX8_share_37 : decode cX8_share 37 = .ok (.iload 5, 2) := by decide +kernel
theorem dX8_share_39 : decode cX8_share 39 = .ok (.invokestatic 195, 3) := by decide +kernel
theorem dX8_share_42 : decode cX8_share 42 = .ok (.aload_n 0, 1) := by decide +kernel
theorem dX8_share_43 : decode cX8_share 43 = .ok (.getfield 19, 3) := by decide +kernel
theorem dX8_share_46 : decode cX8_share 46 = .ok (.iload 5, 2) := by decide +kernel
theorem dX8_share_48 : decode cX8_share 48 = .ok (.iload_n 3, 1) := by decide +kernel
theorem dX8_share_49 : decode cX8_share 49 = .ok (.ior, 1) := by decide +kernel
theorem dX8_share_50 : decode cX8_share 50 = .ok (.invokestatic 195, 3) := by decide +kernel
theorem dX8_share_53 : decode cX8_share 53 = .ok (.isub, 1) := by decide +kernel
theorem dX8_share_54 : decode cX8_share 54 = .ok (.istore 6, 2) := by decide +kernel
theorem dX8_share_56 : decode cX8_share 56 = .ok (.iload 4, 2) := by decide +kernel
theorem dX8_share_58 : decode cX8_share 58 = .ok (.getstatic 198, 3) := by decide +kernel
theorem dX8_share_61 : decode cX8_share 61 = .ok (.iload 5, 2) := by decide +kernel
theorem dX8_share_63 : decode cX8_share 63 = .ok (.invokestatic 201, 3) := by decide +kernel
theorem dX8_share_66 : decode cX8_share 66 = .ok (.iconst 3, 1) := by decide +kernel
theorem dX8_share_67 : decode cX8_share 67 = .ok (.iand, 1) := by decide +kernel
theorem dX8_share_68 : decode cX8_share 68 = .ok (.iaload, 1) := by decide +kernel
theorem dX8_share_69 : decode cX8_share 69 = .ok (.iload 6, 2) := by decide +kernel
theorem dX8_share_71 : decode cX8_share 71 = .ok (.imul, 1) := by decide +kernel
theorem dX8_share_72 : decode cX8_share 72 = .ok (.iadd, 1) := by decide +kernel
theorem dX8_share_73 : decode cX8_share 73 = .ok (.istore 4, 2) := by decide +kernel
theorem dX8_share_75 : decode cX8_share 75 = .ok (.iinc 5 1, 3) := by decide +kernel
theorem dX8_share_78 : decode cX8_share 78 = .ok (.goto (-59), 3) := by decide +kernel
theorem dX8_share_81 : decode cX8_share 81 = .ok (.iload 4, 2) := by decide +kernel
theorem dX8_share_83 : decode cX8_share 83 = .ok (.i2l, 1) := by decide +kernel
theorem dX8_share_84 : decode cX8_share 84 = .ok (.ldc2_w 206, 3) := by decide +kernel
theorem dX8_share_87 : decode cX8_share 87 = .ok (.iload_n 2, 1) := by decide +kernel
theorem dX8_share_88 : decode cX8_share 88 = .ok (.invokestatic 208, 3) := by decide +kernel
theorem dX8_share_91 : decode cX8_share 91 = .ok (.ireturn, 1) := by decide +kernel
theorem dX8_lost_0 : decode cX8_lost 0 = .ok (.iload_n 1, 1) := by decide +kernel
theorem dX8_lost_1 : decode cX8_lost 1 = .ok (.invokestatic 125, 3) := by decide +kernel
theorem dX8_lost_4 : decode cX8_lost 4 = .ok (.ifCond .ne 5, 3) := by decide +kernel
theorem dX8_lost_7 : decode cX8_lost 7 = .ok (.iconst (-1), 1) := by decide +kernel
theorem dX8_lost_8 : decode cX8_lost 8 = .ok (.ireturn, 1) := by decide +kernel
theorem dX8_lost_9 : decode cX8_lost 9 = .ok (.iload_n 2, 1) := by decide +kernel
theorem dX8_lost_10 : decode cX8_lost 10 = .ok (.ifCond .lt 9, 3) := by decide +kernel
theorem dX8_lost_13 : decode cX8_lost 13 = .ok (.iload_n 2, 1) := by decide +kernel
theorem dX8_lost_14 : decode cX8_lost 14 = .ok (.bipush 10, 2) := by decide +kernel
theorem dX8_lost_16 : decode cX8_lost 16 = .ok (.if_icmp .le 6, 3) := by decide +kernel
theorem dX8_lost_19 : decode cX8_lost 19 = .ok (.bipush (-2), 2) := by decide +kernel
theorem dX8_lost_21 : decode cX8_lost 21 = .ok (.ireturn, 1) := by decide +kernel
theorem dX8_lost_22 : decode cX8_lost 22 = .ok (.aload_n 0, 1) := by decide +kernel
theorem dX8_lost_23 : decode cX8_lost 23 = .ok (.getfield 19, 3) := by decide +kernel
theorem dX8_lost_26 : decode cX8_lost 26 = .ok (.iload_n 1, 1) := by decide +kernel
theorem dX8_lost_27 : decode cX8_lost 27 = .ok (.aload_n 0, 1) := by decide +kernel
theorem dX8_lost_28 : decode cX8_lost 28 = .ok (.getfield 19, 3) := by decide +kernel
theorem dX8_lost_31 : decode cX8_lost 31 = .ok (.getfield 85, 3) := by decide +kernel
theorem dX8_lost_34 : decode cX8_lost 34 = .ok (.invokestatic 147, 3) := by decide +kernel
theorem dX8_lost_37 : decode cX8_lost 37 = .ok (.bipush 9, 2) := by decide +kernel
theorem dX8_lost_39 : decode cX8_lost 39 = .ok (.if_icmp .le 6, 3) := by decide +kernel
theorem dX8_lost_42 : decode cX8_lost 42 = .ok (.bipush (-4), 2) := by decide +kernel
theorem dX8_lost_44 : decode cX8_lost 44 = .ok (.ireturn, 1) := by decide +kernel
theorem dX8_lost_45 : decode cX8_lost 45 = .ok (.aload_n 0, 1) := by decide +kernel
theorem dX8_lost_46 : decode cX8_lost 46 = .ok (.getfield 58, 3) := by decide +kernel
theorem dX8_lost_49 : decode cX8_lost 49 = .ok (.aload_n 0, 1) := by decide +kernel
theorem dX8_lost_50 : decode cX8_lost 50 = .ok (.getfield 19, 3) := by decide +kernel
theorem dX8_lost_53 : decode cX8_lost 53 = .ok (.iload_n 1, 1) := by decide +kernel
theorem dX8_lost_54 : decode cX8_lost 54 = .ok (.iload_n 2, 1) := by decide +kernel
theorem dX8_lost_55 : decode cX8_lost 55 = .ok (.invokevirtual 212, 3) := by decide +kernel
theorem dX8_lost_58 : decode cX8_lost 58 = .ok (.aload_n 0, 1) := by decide +kernel
theorem dX8_lost_59 : decode cX8_lost 59 = .ok (.getfield 58, 3) := by decide +kernel
theorem dX8_lost_62 : decode cX8_lost 62 = .ok (.invokevirtual 216, 3) := by decide +kernel
theorem dX8_lost_65 : decode cX8_lost 65 = .ok (.aload_n 0, 1) := by decide +kernel
theorem dX8_lost_66 : decode cX8_lost 66 = .ok (.getfield 58, 3) := by decide +kernel
theorem dX8_lost_69 : decode cX8_lost 69 = .ok (.getfield 220, 3) := by decide +kernel
theorem dX8_lost_72 : decode cX8_lost 72 = .ok (.iload_n 3, 1) := by decide +kernel
theorem dX8_lost_73 : decode cX8_lost 73 = .ok (.invokestatic 208, 3) := by decide +kernel
theorem dX8_lost_76 : decode cX8_lost 76 = .ok (.ireturn, 1) := by decide +kernel
theorem dX8_seed_0 : decode cX8_seed 0 = .ok (.aload_n 0, 1) := by decide +kernel
theorem dX8_seed_1 : decode cX8_seed 1 = .ok (.getfield 62, 3) := by decide +kernel
theorem dX8_seed_4 : decode cX8_seed 4 = .ok (.lstore_n 3, 1) := by decide +kernel
theorem dX8_seed_5 : decode cX8_seed 5 = .ok (.aload_n 0, 1) := by decide +kernel
theorem dX8_seed_6 : decode cX8_seed 6 = .ok (.lload_n 1, 1) := by decide +kernel
theorem dX8_seed_7 : decode cX8_seed 7 = .ok (.putfield 62, 3) := by decide +kernel
theorem dX8_seed_10 : decode cX8_seed 10 = .ok (.lload_n 3, 1) := by decide +kernel
theorem dX8_seed_11 : decode cX8_seed 11 = .ok (.lreturn, 1) := by decide +kernel
theorem dX8_drawn_0 : decode cX8_drawn 0 = .ok (.iload_n 1, 1) := by decide +kernel
theorem dX8_drawn_1 : decode cX8_drawn 1 = .ok (.iconst 1, 1) := by decide +kernel
theorem dX8_drawn_2 : decode cX8_drawn 2 = .ok (.if_icmp .lt 9, 3) := by decide +kernel
theorem dX8_drawn_5 : decode cX8_drawn 5 = .ok (.iload_n 1, 1) := by decide +kernel
theorem dX8_drawn_6 : decode cX8_drawn 6 = .ok (.bipush 20, 2) := by decide +kernel
theorem dX8_drawn_8 : decode cX8_drawn 8 = .ok (.if_icmp .le 6, 3) := by decide +kernel
theorem dX8_drawn_11 : decode cX8_drawn 11 = .ok (.bipush (-2), 2) := by decide +kernel
theorem dX8_drawn_13 : decode cX8_drawn 13 = .ok (.ireturn, 1) := by decide +kernel
theorem dX8_drawn_14 : decode cX8_drawn 14 = .ok (.aload_n 0, 1) := by decide +kernel
theorem dX8_drawn_15 : decode cX8_drawn 15 = .ok (.getfield 23, 3) := by decide +kernel
theorem dX8_drawn_18 : decode cX8_drawn 18 = .ok (.aload_n 0, 1) := by decide +kernel
theorem dX8_drawn_19 : decode cX8_drawn 19 = .ok (.getfield 19, 3) := by decide +kernel
theorem dX8_drawn_22 : decode cX8_drawn 22 = .ok (.invokevirtual 78, 3) := by decide +kernel
theorem dX8_drawn_25 : decode cX8_drawn 25 = .ok (.aload_n 0, 1) := by decide +kernel
theorem dX8_drawn_26 : decode cX8_drawn 26 = .ok (.invokevirtual 223, 3) := by decide +kernel
theorem dX8_drawn_29 : decode cX8_drawn 29 = .ok (.istore_n 2, 1) := by decide +kernel
theorem dX8_drawn_30 : decode cX8_drawn 30 = .ok (.iconst 0, 1) := by decide +kernel
theorem dX8_drawn_31 : decode cX8_drawn 31 = .ok (.istore_n 3, 1) := by decide +kernel
theorem dX8_drawn_32 : decode cX8_drawn 32 = .ok (.iconst 0, 1) := by decide +kernel
theorem dX8_drawn_33 : decode cX8_drawn 33 = .ok (.istore 4, 2) := by decide +kernel
theorem dX8_drawn_35 : decode cX8_drawn 35 = .ok (.iload 4, 2) := by decide +kernel
theorem dX8_drawn_37 : decode cX8_drawn 37 = .ok (.iload_n 1, 1) := by decide +kernel
theorem dX8_drawn_38 : decode cX8_drawn 38 = .ok (.if_icmp .ge 69, 3) := by decide +kernel
theorem dX8_drawn_41 : decode cX8_drawn 41 = .ok (.aload_n 0, 1) := by decide +kernel
theorem dX8_drawn_42 : decode cX8_drawn 42 = .ok (.aload_n 0, 1) := by decide +kernel
theorem dX8_drawn_43 : decode cX8_drawn 43 = .ok (.getfield 62, 3) := by decide +kernel
theorem dX8_drawn_46 : decode cX8_drawn 46 = .ok (.ldc2_w 227, 3) := by decide +kernel
theorem dX8_drawn_49 : decode cX8_drawn 49 = .ok (.lmul, 1) := by decide +kernel
theorem dX8_drawn_50 : decode cX8_drawn 50 = .ok (.ldc2_w 229, 3) := by decide +kernel
theorem dX8_drawn_53 : decode cX8_drawn 53 = .ok (.ladd, 1) := by decide +kernel
theorem dX8_drawn_54 : decode cX8_drawn 54 = .ok (.putfield 62, 3) := by decide +kernel
theorem dX8_drawn_57 : decode cX8_drawn 57 = .ok (.aload_n 0, 1) := by decide +kernel
theorem dX8_drawn_58 : decode cX8_drawn 58 = .ok (.getfield 62, 3) := by decide +kernel
theorem dX8_drawn_61 : decode cX8_drawn 61 = .ok (.bipush 33, 2) := by decide +kernel
theorem dX8_drawn_63 : decode cX8_drawn 63 = .ok (.lushr, 1) := by decide +kernel
theorem dX8_drawn_64 : decode cX8_drawn 64 = .ok (.iconst 1, 1) := by decide +kernel
theorem dX8_drawn_65 : decode cX8_drawn 65 = .ok (.aload_n 0, 1) := by decide +kernel
theorem dX8_drawn_66 : decode cX8_drawn 66 = .ok (.getfield 23, 3) := by decide +kernel
theorem dX8_drawn_69 : decode cX8_drawn 69 = .ok (.getfield 85, 3) := by decide +kernel
theorem dX8_drawn_72 : decode cX8_drawn 72 = .ok (.invokestatic 231, 3) := by decide +kernel
theorem dX8_drawn_75 : decode cX8_drawn 75 = .ok (.i2l, 1) := by decide +kernel
theorem dX8_drawn_76 : decode cX8_drawn 76 = .ok (.lrem, 1) := by decide +kernel
theorem dX8_drawn_77 : decode cX8_drawn 77 = .ok (.l2i, 1) := by decide +kernel
theorem dX8_drawn_78 : decode cX8_drawn 78 = .ok (.istore 5, 2) := by decide +kernel
theorem dX8_drawn_80 : decode cX8_drawn 80 = .ok (.aload_n 0, 1) := by decide +kernel
theorem dX8_drawn_81 : decode cX8_drawn 81 = .ok (.getfield 23, 3) := by decide +kernel
theorem dX8_drawn_84 : decode cX8_drawn 84 = .ok (.iload 5, 2) := by decide +kernel
theorem dX8_drawn_86 : decode cX8_drawn 86 = .ok (.invokevirtual 109, 3) := by decide +kernel
theorem dX8_drawn_89 : decode cX8_drawn 89 = .ok (.ifCond .eq 8, 3) := by decide +kernel
theorem dX8_drawn_92 : decode cX8_drawn 92 = .ok (.aload_n 0, 1) := by decide +kernel
theorem dX8_drawn_93 : decode cX8_drawn 93 = .ok (.invokevirtual 223, 3) := by decide +kernel
theorem dX8_drawn_96 : decode cX8_drawn 96 = .ok (.istore_n 2, 1) := by decide +kernel
theorem dX8_drawn_97 : decode cX8_drawn 97 = .ok (.iload_n 3, 1) := by decide +kernel
theorem dX8_drawn_98 : decode cX8_drawn 98 = .ok (.iload_n 2, 1) := by decide +kernel
theorem dX8_drawn_99 : decode cX8_drawn 99 = .ok (.iadd, 1) := by decide +kernel
theorem dX8_drawn_100 : decode cX8_drawn 100 = .ok (.istore_n 3, 1) := by decide +kernel
theorem dX8_drawn_101 : decode cX8_drawn 101 = .ok (.iinc 4 1, 3) := by decide +kernel
theorem dX8_drawn_104 : decode cX8_drawn 104 = .ok (.goto (-69), 3) := by decide +kernel
theorem dX8_drawn_107 : decode cX8_drawn 107 = .ok (.iload_n 3, 1) := by decide +kernel
theorem dX8_drawn_108 : decode cX8_drawn 108 = .ok (.ireturn, 1) := by decide +kernel
theorem dX8_keep_0 : decode cX8_keep 0 = .ok (.iload_n 1, 1) := by decide +kernel
theorem dX8_keep_1 : decode cX8_keep 1 = .ok (.ifCond .lt 8, 3) := by decide +kernel
theorem dX8_keep_4 : decode cX8_keep 4 = .ok (.iload_n 1, 1) := by decide +kernel
theorem dX8_keep_5 : decode cX8_keep 5 = .ok (.iconst 2, 1) := by decide +kernel
theorem dX8_keep_6 : decode cX8_keep 6 = .ok (.if_icmp .lt 5, 3) := by decide +kernel
theorem dX8_keep_9 : decode cX8_keep 9 = .ok (.iconst (-1), 1) := by decide +kernel
theorem dX8_keep_10 : decode cX8_keep 10 = .ok (.ireturn, 1) := by decide +kernel
theorem dX8_keep_11 : decode cX8_keep 11 = .ok (.aload_n 0, 1) := by decide +kernel
theorem dX8_keep_12 : decode cX8_keep 12 = .ok (.getfield 26, 3) := by decide +kernel
theorem dX8_keep_15 : decode cX8_keep 15 = .ok (.iload_n 1, 1) := by decide +kernel
theorem dX8_keep_16 : decode cX8_keep 16 = .ok (.aaload, 1) := by decide +kernel
theorem dX8_keep_17 : decode cX8_keep 17 = .ok (.aload_n 0, 1) := by decide +kernel
theorem dX8_keep_18 : decode cX8_keep 18 = .ok (.getfield 19, 3) := by decide +kernel
theorem dX8_keep_21 : decode cX8_keep 21 = .ok (.invokevirtual 78, 3) := by decide +kernel
theorem dX8_keep_24 : decode cX8_keep 24 = .ok (.aload_n 0, 1) := by decide +kernel
theorem dX8_keep_25 : decode cX8_keep 25 = .ok (.getfield 30, 3) := by decide +kernel
theorem dX8_keep_28 : decode cX8_keep 28 = .ok (.iload_n 1, 1) := by decide +kernel
theorem dX8_keep_29 : decode cX8_keep 29 = .ok (.iconst 1, 1) := by decide +kernel
theorem dX8_keep_30 : decode cX8_keep 30 = .ok (.bastore, 1) := by decide +kernel
theorem dX8_keep_31 : decode cX8_keep 31 = .ok (.aload_n 0, 1) := by decide +kernel
theorem dX8_keep_32 : decode cX8_keep 32 = .ok (.getfield 19, 3) := by decide +kernel
theorem dX8_keep_35 : decode cX8_keep 35 = .ok (.getfield 85, 3) := by decide +kernel
theorem dX8_keep_38 : decode cX8_keep 38 = .ok (.ireturn, 1) := by decide +kernel
theorem dX8_again_0 : decode cX8_again 0 = .ok (.iload_n 1, 1) := by decide +kernel
theorem dX8_again_1 : decode cX8_again 1 = .ok (.ifCond .lt 8, 3) := by decide +kernel
theorem dX8_again_4 : decode cX8_again 4 = .ok (.iload_n 1, 1) := by decide +kernel
theorem dX8_again_5 : decode cX8_again 5 = .ok (.iconst 2, 1) := by decide +kernel
theorem dX8_again_6 : decode cX8_again 6 = .ok (.if_icmp .lt 5, 3) := by decide +kernel
theorem dX8_again_9 : decode cX8_again 9 = .ok (.iconst (-1), 1) := by decide +kernel
theorem dX8_again_10 : decode cX8_again 10 = .ok (.ireturn, 1) := by decide +kernel
theorem dX8_again_11 : decode cX8_again 11 = .ok (.aload_n 0, 1) := by decide +kernel
theorem dX8_again_12 : decode cX8_again 12 = .ok (.getfield 30, 3) := by decide +kernel
theorem dX8_again_15 : decode cX8_again 15 = .ok (.iload_n 1, 1) := by decide +kernel
theorem dX8_again_16 : decode cX8_again 16 = .ok (.baload, 1) := by decide +kernel
theorem dX8_again_17 : decode cX8_again 17 = .ok (.ifCond .ne 6, 3) := by decide +kernel
theorem dX8_again_20 : decode cX8_again 20 = .ok (.bipush (-3), 2) := by decide +kernel
theorem dX8_again_22 : decode cX8_again 22 = .ok (.ireturn, 1) := by decide +kernel
theorem dX8_again_23 : decode cX8_again 23 = .ok (.aload_n 0, 1) := by decide +kernel
theorem dX8_again_24 : decode cX8_again 24 = .ok (.getfield 19, 3) := by decide +kernel
theorem dX8_again_27 : decode cX8_again 27 = .ok (.aload_n 0, 1) := by decide +kernel
theorem dX8_again_28 : decode cX8_again 28 = .ok (.getfield 26, 3) := by decide +kernel
theorem dX8_again_31 : decode cX8_again 31 = .ok (.iload_n 1, 1) := by decide +kernel
theorem dX8_again_32 : decode cX8_again 32 = .ok (.aaload, 1) := by decide +kernel
theorem dX8_again_33 : decode cX8_again 33 = .ok (.invokevirtual 78, 3) := by decide +kernel
theorem dX8_again_36 : decode cX8_again 36 = .ok (.aload_n 0, 1) := by decide +kernel
theorem dX8_again_37 : decode cX8_again 37 = .ok (.getfield 37, 3) := by decide +kernel
theorem dX8_again_40 : decode cX8_again 40 = .ok (.iconst 0, 1) := by decide +kernel
theorem dX8_again_41 : decode cX8_again 41 = .ok (.putfield 82, 3) := by decide +kernel
theorem dX8_again_44 : decode cX8_again 44 = .ok (.aload_n 0, 1) := by decide +kernel
theorem dX8_again_45 : decode cX8_again 45 = .ok (.getfield 19, 3) := by decide +kernel
theorem dX8_again_48 : decode cX8_again 48 = .ok (.getfield 85, 3) := by decide +kernel
theorem dX8_again_51 : decode cX8_again 51 = .ok (.ireturn, 1) := by decide +kernel
theorem dX8_count_0 : decode cX8_count 0 = .ok (.iload_n 1, 1) := by decide +kernel
theorem dX8_count_1 : decode cX8_count 1 = .ok (.tableswitch 145 0 8 #[51, 59, 67, 78, 89, 111, 121, 129, 137], 51) := by decide +kernel
theorem dX8_count_52 : decode cX8_count 52 = .ok (.aload_n 0, 1) := by decide +kernel
theorem dX8_count_53 : decode cX8_count 53 = .ok (.getfield 10, 3) := by decide +kernel
theorem dX8_count_56 : decode cX8_count 56 = .ok (.getfield 70, 3) := by decide +kernel
theorem dX8_count_59 : decode cX8_count 59 = .ok (.ireturn, 1) := by decide +kernel
theorem dX8_count_60 : decode cX8_count 60 = .ok (.aload_n 0, 1) := by decide +kernel
theorem dX8_count_61 : decode cX8_count 61 = .ok (.getfield 19, 3) := by decide +kernel
theorem dX8_count_64 : decode cX8_count 64 = .ok (.getfield 85, 3) := by decide +kernel
theorem dX8_count_67 : decode cX8_count 67 = .ok (.ireturn, 1) := by decide +kernel
theorem dX8_count_68 : decode cX8_count 68 = .ok (.aload_n 0, 1) := by decide +kernel
theorem dX8_count_69 : decode cX8_count 69 = .ok (.getfield 19, 3) := by decide +kernel
theorem dX8_count_72 : decode cX8_count 72 = .ok (.getfield 236, 3) := by decide +kernel
theorem dX8_count_75 : decode cX8_count 75 = .ok (.getfield 240, 3) := by decide +kernel
theorem dX8_count_78 : decode cX8_count 78 = .ok (.ireturn, 1) := by decide +kernel
theorem dX8_count_79 : decode cX8_count 79 = .ok (.aload_n 0, 1) := by decide +kernel
theorem dX8_count_80 : decode cX8_count 80 = .ok (.getfield 19, 3) := by decide +kernel
theorem dX8_count_83 : decode cX8_count 83 = .ok (.getfield 236, 3) := by decide +kernel
theorem dX8_count_86 : decode cX8_count 86 = .ok (.getfield 245, 3) := by decide +kernel
theorem dX8_count_89 : decode cX8_count 89 = .ok (.ireturn, 1) := by decide +kernel
theorem dX8_count_90 : decode cX8_count 90 = .ok (.aload_n 0, 1) := by decide +kernel
theorem dX8_count_91 : decode cX8_count 91 = .ok (.getfield 19, 3) := by decide +kernel
theorem dX8_count_94 : decode cX8_count 94 = .ok (.getfield 236, 3) := by decide +kernel
theorem dX8_count_97 : decode cX8_count 97 = .ok (.invokevirtual 248, 3) := by decide +kernel
theorem dX8_count_100 : decode cX8_count 100 = .ok (.aload_n 0, 1) := by decide +kernel
theorem dX8_count_101 : decode cX8_count 101 = .ok (.getfield 19, 3) := by decide +kernel
theorem dX8_count_104 : decode cX8_count 104 = .ok (.getfield 236, 3) := by decide +kernel
theorem dX8_count_107 : decode cX8_count 107 = .ok (.invokevirtual 251, 3) := by decide +kernel
theorem dX8_count_110 : decode cX8_count 110 = .ok (.ior, 1) := by decide +kernel
theorem dX8_count_111 : decode cX8_count 111 = .ok (.ireturn, 1) := by decide +kernel
theorem dX8_count_112 : decode cX8_count 112 = .ok (.aload_n 0, 1) := by decide +kernel
theorem dX8_count_113 : decode cX8_count 113 = .ok (.getfield 19, 3) := by decide +kernel
theorem dX8_count_116 : decode cX8_count 116 = .ok (.bipush 15, 2) := by decide +kernel
theorem dX8_count_118 : decode cX8_count 118 = .ok (.invokestatic 254, 3) := by decide +kernel
theorem dX8_count_121 : decode cX8_count 121 = .ok (.ireturn, 1) := by decide +kernel
theorem dX8_count_122 : decode cX8_count 122 = .ok (.aload_n 0, 1) := by decide +kernel
theorem dX8_count_123 : decode cX8_count 123 = .ok (.getfield 19, 3) := by decide +kernel
theorem dX8_count_126 : decode cX8_count 126 = .ok (.invokestatic 257, 3) := by decide +kernel
theorem dX8_count_129 : decode cX8_count 129 = .ok (.ireturn, 1) := by decide +kernel
theorem dX8_count_130 : decode cX8_count 130 = .ok (.aload_n 0, 1) := by decide +kernel
theorem dX8_count_131 : decode cX8_count 131 = .ok (.getfield 37, 3) := by decide +kernel
theorem dX8_count_134 : decode cX8_count 134 = .ok (.getfield 82, 3) := by decide +kernel
theorem dX8_count_137 : decode cX8_count 137 = .ok (.ireturn, 1) := by decide +kernel
theorem dX8_count_138 : decode cX8_count 138 = .ok (.aload_n 0, 1) := by decide +kernel
theorem dX8_count_139 : decode cX8_count 139 = .ok (.getfield 44, 3) := by decide +kernel
theorem dX8_count_142 : decode cX8_count 142 = .ok (.getfield 188, 3) := by decide +kernel
theorem dX8_count_145 : decode cX8_count 145 = .ok (.ireturn, 1) := by decide +kernel
theorem dX8_count_146 : decode cX8_count 146 = .ok (.bipush (-2), 2) := by decide +kernel
theorem dX8_count_148 : decode cX8_count 148 = .ok (.ireturn, 1) := by decide +kernel
theorem dX8_isOneOfFour_0 : decode cX8_isOneOfFour 0 = .ok (.iload_n 0, 1) := by decide +kernel
theorem dX8_isOneOfFour_1 : decode cX8_isOneOfFour 1 = .ok (.ifCond .lt 12, 3) := by decide +kernel
theorem dX8_isOneOfFour_4 : decode cX8_isOneOfFour 4 = .ok (.iload_n 0, 1) := by decide +kernel
theorem dX8_isOneOfFour_5 : decode cX8_isOneOfFour 5 = .ok (.iconst 4, 1) := by decide +kernel
theorem dX8_isOneOfFour_6 : decode cX8_isOneOfFour 6 = .ok (.if_icmp .ge 7, 3) := by decide +kernel
theorem dX8_isOneOfFour_9 : decode cX8_isOneOfFour 9 = .ok (.iconst 1, 1) := by decide +kernel
theorem dX8_isOneOfFour_10 : decode cX8_isOneOfFour 10 = .ok (.goto 4, 3) := by decide +kernel
theorem dX8_isOneOfFour_13 : decode cX8_isOneOfFour 13 = .ok (.iconst 0, 1) := by decide +kernel
theorem dX8_isOneOfFour_14 : decode cX8_isOneOfFour 14 = .ok (.ireturn, 1) := by decide +kernel
theorem dX8_fraction_0 : decode cX8_fraction 0 = .ok (.lload_n 2, 1) := by decide +kernel
theorem dX8_fraction_1 : decode cX8_fraction 1 = .ok (.lstore 5, 2) := by decide +kernel
theorem dX8_fraction_3 : decode cX8_fraction 3 = .ok (.lload_n 0, 1) := by decide +kernel
theorem dX8_fraction_4 : decode cX8_fraction 4 = .ok (.lstore 7, 2) := by decide +kernel
theorem dX8_fraction_6 : decode cX8_fraction 6 = .ok (.iconst 0, 1) := by decide +kernel
theorem dX8_fraction_7 : decode cX8_fraction 7 = .ok (.istore 9, 2) := by decide +kernel
theorem dX8_fraction_9 : decode cX8_fraction 9 = .ok (.iload 9, 2) := by decide +kernel
theorem dX8_fraction_11 : decode cX8_fraction 11 = .ok (.bipush 100, 2) := by decide +kernel
theorem dX8_fraction_13 : decode cX8_fraction 13 = .ok (.if_icmp .ge 31, 3) := by decide +kernel
theorem dX8_fraction_16 : decode cX8_fraction 16 = .ok (.lload 7, 2) := by decide +kernel
theorem dX8_fraction_18 : decode cX8_fraction 18 = .ok (.lconst 0, 1) := by decide +kernel
theorem dX8_fraction_19 : decode cX8_fraction 19 = .ok (.lcmp, 1) := by decide +kernel
theorem dX8_fraction_20 : decode cX8_fraction 20 = .ok (.ifCond .eq 24, 3) := by decide +kernel
theorem dX8_fraction_23 : decode cX8_fraction 23 = .ok (.lload 5, 2) := by decide +kernel
theorem dX8_fraction_25 : decode cX8_fraction 25 = .ok (.lload 7, 2) := by decide +kernel
theorem dX8_fraction_27 : decode cX8_fraction 27 = .ok (.lrem, 1) := by decide +kernel
theorem dX8_fraction_28 : decode cX8_fraction 28 = .ok (.lstore 10, 2) := by decide +kernel
theorem dX8_fraction_30 : decode cX8_fraction 30 = .ok (.lload 7, 2) := by decide +kernel
theorem dX8_fraction_32 : decode cX8_fraction 32 = .ok (.lstore 5, 2) := by decide +kernel
theorem dX8_fraction_34 : decode cX8_fraction 34 = .ok (.lload 10, 2) := by decide +kernel
theorem dX8_fraction_36 : decode cX8_fraction 36 = .ok (.lstore 7, 2) := by decide +kernel
theorem dX8_fraction_38 : decode cX8_fraction 38 = .ok (.iinc 9 1, 3) := by decide +kernel
theorem dX8_fraction_41 : decode cX8_fraction 41 = .ok (.goto (-32), 3) := by decide +kernel
theorem dX8_fraction_44 : decode cX8_fraction 44 = .ok (.lload 5, 2) := by decide +kernel
theorem dX8_fraction_46 : decode cX8_fraction 46 = .ok (.lconst 0, 1) := by decide +kernel
theorem dX8_fraction_47 : decode cX8_fraction 47 = .ok (.lcmp, 1) := by decide +kernel
theorem dX8_fraction_48 : decode cX8_fraction 48 = .ok (.ifCond .ne 14, 3) := by decide +kernel
theorem dX8_fraction_51 : decode cX8_fraction 51 = .ok (.iload 4, 2) := by decide +kernel
theorem dX8_fraction_53 : decode cX8_fraction 53 = .ok (.ifCond .eq 7, 3) := by decide +kernel
theorem dX8_fraction_56 : decode cX8_fraction 56 = .ok (.iconst 0, 1) := by decide +kernel
theorem dX8_fraction_57 : decode cX8_fraction 57 = .ok (.goto 4, 3) := by decide +kernel
theorem dX8_fraction_60 : decode cX8_fraction 60 = .ok (.iconst 1, 1) := by decide +kernel
theorem dX8_fraction_61 : decode cX8_fraction 61 = .ok (.ireturn, 1) := by decide +kernel
theorem dX8_fraction_62 : decode cX8_fraction 62 = .ok (.iload 4, 2) := by decide +kernel
theorem dX8_fraction_64 : decode cX8_fraction 64 = .ok (.ifCond .eq 7, 3) := by decide +kernel
theorem dX8_fraction_67 : decode cX8_fraction 67 = .ok (.lload_n 0, 1) := by decide +kernel
theorem dX8_fraction_68 : decode cX8_fraction 68 = .ok (.goto 4, 3) := by decide +kernel
theorem dX8_fraction_71 : decode cX8_fraction 71 = .ok (.lload_n 2, 1) := by decide +kernel
theorem dX8_fraction_72 : decode cX8_fraction 72 = .ok (.lload 5, 2) := by decide +kernel
theorem dX8_fraction_74 : decode cX8_fraction 74 = .ok (.ldiv, 1) := by decide +kernel
theorem dX8_fraction_75 : decode cX8_fraction 75 = .ok (.l2i, 1) := by decide +kernel
theorem dX8_fraction_76 : decode cX8_fraction 76 = .ok (.ireturn, 1) := by decide +kernel
theorem dX8_faultsOfTrial_0 : decode cX8_faultsOfTrial 0 = .ok (.aload_n 0, 1) := by decide +kernel
theorem dX8_faultsOfTrial_1 : decode cX8_faultsOfTrial 1 = .ok (.getfield 51, 3) := by decide +kernel
theorem dX8_faultsOfTrial_4 : decode cX8_faultsOfTrial 4 = .ok (.aload_n 0, 1) := by decide +kernel
theorem dX8_faultsOfTrial_5 : decode cX8_faultsOfTrial 5 = .ok (.getfield 23, 3) := by decide +kernel
theorem dX8_faultsOfTrial_8 : decode cX8_faultsOfTrial 8 = .ok (.invokevirtual 169, 3) := by decide +kernel
theorem dX8_faultsOfTrial_11 : decode cX8_faultsOfTrial 11 = .ok (.aload_n 0, 1) := by decide +kernel
theorem dX8_faultsOfTrial_12 : decode cX8_faultsOfTrial 12 = .ok (.getfield 23, 3) := by decide +kernel
theorem dX8_faultsOfTrial_15 : decode cX8_faultsOfTrial 15 = .ok (.bipush 15, 2) := by decide +kernel
theorem dX8_faultsOfTrial_17 : decode cX8_faultsOfTrial 17 = .ok (.invokestatic 195, 3) := by decide +kernel
theorem dX8_faultsOfTrial_20 : decode cX8_faultsOfTrial 20 = .ok (.aload_n 0, 1) := by decide +kernel
theorem dX8_faultsOfTrial_21 : decode cX8_faultsOfTrial 21 = .ok (.getfield 51, 3) := by decide +kernel
theorem dX8_faultsOfTrial_24 : decode cX8_faultsOfTrial 24 = .ok (.invokevirtual 260, 3) := by decide +kernel
theorem dX8_faultsOfTrial_27 : decode cX8_faultsOfTrial 27 = .ok (.iadd, 1) := by decide +kernel
theorem dX8_faultsOfTrial_28 : decode cX8_faultsOfTrial 28 = .ok (.ireturn, 1) := by decide +kernel
theorem dX8_canBe_0 : decode cX8_canBe 0 = .ok (.iload_n 1, 1) := by decide +kernel
theorem dX8_canBe_1 : decode cX8_canBe 1 = .ok (.bipush 10, 2) := by decide +kernel
theorem dX8_canBe_3 : decode cX8_canBe 3 = .ok (.idiv, 1) := by decide +kernel
theorem dX8_canBe_4 : decode cX8_canBe 4 = .ok (.bipush 100, 2) := by decide +kernel
theorem dX8_canBe_6 : decode cX8_canBe 6 = .ok (.irem, 1) := by decide +kernel
theorem dX8_canBe_7 : decode cX8_canBe 7 = .ok (.istore_n 2, 1) := by decide +kernel
theorem dX8_canBe_8 : decode cX8_canBe 8 = .ok (.iload_n 1, 1) := by decide +kernel
theorem dX8_canBe_9 : decode cX8_canBe 9 = .ok (.bipush 10, 2) := by decide +kernel
theorem dX8_canBe_11 : decode cX8_canBe 11 = .ok (.irem, 1) := by decide +kernel
theorem dX8_canBe_12 : decode cX8_canBe 12 = .ok (.istore_n 3, 1) := by decide +kernel
theorem dX8_canBe_13 : decode cX8_canBe 13 = .ok (.iload_n 1, 1) := by decide +kernel
theorem dX8_canBe_14 : decode cX8_canBe 14 = .ok (.sipush 1000, 3) := by decide +kernel
theorem dX8_canBe_17 : decode cX8_canBe 17 = .ok (.idiv, 1) := by decide +kernel
theorem dX8_canBe_18 : decode cX8_canBe 18 = .ok (.tableswitch 152 1 6 #[38, 59, 80, 88, 96, 114], 38) := by decide +kernel
theorem dX8_canBe_56 : decode cX8_canBe 56 = .ok (.iload_n 3, 1) := by decide +kernel
theorem dX8_canBe_57 : decode cX8_canBe 57 = .ok (.ifCond .ne 18, 3) := by decide +kernel
theorem dX8_canBe_60 : decode cX8_canBe 60 = .ok (.aload_n 0, 1) := by decide +kernel
theorem dX8_canBe_61 : decode cX8_canBe 61 = .ok (.getfield 23, 3) := by decide +kernel
theorem dX8_canBe_64 : decode cX8_canBe 64 = .ok (.iload_n 2, 1) := by decide +kernel
theorem dX8_canBe_65 : decode cX8_canBe 65 = .ok (.invokevirtual 109, 3) := by decide +kernel
theorem dX8_canBe_68 : decode cX8_canBe 68 = .ok (.ifCond .eq 7, 3) := by decide +kernel
theorem dX8_canBe_71 : decode cX8_canBe 71 = .ok (.iconst 1, 1) := by decide +kernel
theorem dX8_canBe_72 : decode cX8_canBe 72 = .ok (.goto 4, 3) := by decide +kernel
theorem dX8_canBe_75 : decode cX8_canBe 75 = .ok (.iconst 0, 1) := by decide +kernel
theorem dX8_canBe_76 : decode cX8_canBe 76 = .ok (.ireturn, 1) := by decide +kernel
theorem dX8_canBe_77 : decode cX8_canBe 77 = .ok (.iload_n 3, 1) := by decide +kernel
theorem dX8_canBe_78 : decode cX8_canBe 78 = .ok (.ifCond .ne 18, 3) := by decide +kernel
theorem dX8_canBe_81 : decode cX8_canBe 81 = .ok (.aload_n 0, 1) := by decide +kernel
theorem dX8_canBe_82 : decode cX8_canBe 82 = .ok (.getfield 23, 3) := by decide +kernel
theorem dX8_canBe_85 : decode cX8_canBe 85 = .ok (.iload_n 2, 1) := by decide +kernel
theorem dX8_canBe_86 : decode cX8_canBe 86 = .ok (.invokevirtual 119, 3) := by decide +kernel
theorem dX8_canBe_89 : decode cX8_canBe 89 = .ok (.ifCond .eq 7, 3) := by decide +kernel
theorem dX8_canBe_92 : decode cX8_canBe 92 = .ok (.iconst 1, 1) := by decide +kernel
theorem dX8_canBe_93 : decode cX8_canBe 93 = .ok (.goto 4, 3) := by decide +kernel
theorem dX8_canBe_96 : decode cX8_canBe 96 = .ok (.iconst 0, 1) := by decide +kernel
theorem dX8_canBe_97 : decode cX8_canBe 97 = .ok (.ireturn, 1) := by decide +kernel
theorem dX8_canBe_98 : decode cX8_canBe 98 = .ok (.aload_n 0, 1) := by decide +kernel
theorem dX8_canBe_99 : decode cX8_canBe 99 = .ok (.iload_n 2, 1) := by decide +kernel
theorem dX8_canBe_100 : decode cX8_canBe 100 = .ok (.iconst 0, 1) := by decide +kernel
theorem dX8_canBe_101 : decode cX8_canBe 101 = .ok (.iload_n 3, 1) := by decide +kernel
theorem dX8_canBe_102 : decode cX8_canBe 102 = .ok (.invokevirtual 263, 3) := by decide +kernel
theorem dX8_canBe_105 : decode cX8_canBe 105 = .ok (.ireturn, 1) := by decide +kernel
theorem dX8_canBe_106 : decode cX8_canBe 106 = .ok (.aload_n 0, 1) := by decide +kernel
theorem dX8_canBe_107 : decode cX8_canBe 107 = .ok (.iload_n 2, 1) := by decide +kernel
theorem dX8_canBe_108 : decode cX8_canBe 108 = .ok (.iconst 1, 1) := by decide +kernel
theorem dX8_canBe_109 : decode cX8_canBe 109 = .ok (.iload_n 3, 1) := by decide +kernel
theorem dX8_canBe_110 : decode cX8_canBe 110 = .ok (.invokevirtual 263, 3) := by decide +kernel
theorem dX8_canBe_113 : decode cX8_canBe 113 = .ok (.ireturn, 1) := by decide +kernel
theorem dX8_canBe_114 : decode cX8_canBe 114 = .ok (.iload_n 2, 1) := by decide +kernel
theorem dX8_canBe_115 : decode cX8_canBe 115 = .ok (.ifCond .ne 15, 3) := by decide +kernel
theorem dX8_canBe_118 : decode cX8_canBe 118 = .ok (.aload_n 0, 1) := by decide +kernel
theorem dX8_canBe_119 : decode cX8_canBe 119 = .ok (.iload_n 3, 1) := by decide +kernel
theorem dX8_canBe_120 : decode cX8_canBe 120 = .ok (.invokevirtual 267, 3) := by decide +kernel
theorem dX8_canBe_123 : decode cX8_canBe 123 = .ok (.ifCond .eq 7, 3) := by decide +kernel
theorem dX8_canBe_126 : decode cX8_canBe 126 = .ok (.iconst 1, 1) := by decide +kernel
theorem dX8_canBe_127 : decode cX8_canBe 127 = .ok (.goto 4, 3) := by decide +kernel
theorem dX8_canBe_130 : decode cX8_canBe 130 = .ok (.iconst 0, 1) := by decide +kernel
theorem dX8_canBe_131 : decode cX8_canBe 131 = .ok (.ireturn, 1) := by decide +kernel
theorem dX8_canBe_132 : decode cX8_canBe 132 = .ok (.aload_n 0, 1) := by decide +kernel
theorem dX8_canBe_133 : decode cX8_canBe 133 = .ok (.getfield 23, 3) := by decide +kernel
theorem dX8_canBe_136 : decode cX8_canBe 136 = .ok (.iload_n 2, 1) := by decide +kernel
theorem dX8_canBe_137 : decode cX8_canBe 137 = .ok (.invokevirtual 86, 3) := by decide +kernel
theorem dX8_canBe_140 : decode cX8_canBe 140 = .ok (.ifCond .eq 28, 3) := by decide +kernel
theorem dX8_canBe_143 : decode cX8_canBe 143 = .ok (.iload_n 3, 1) := by decide +kernel
theorem dX8_canBe_144 : decode cX8_canBe 144 = .ok (.iconst 4, 1) := by decide +kernel
theorem dX8_canBe_145 : decode cX8_canBe 145 = .ok (.if_icmp .ge 23, 3) := by decide +kernel
theorem dX8_canBe_148 : decode cX8_canBe 148 = .ok (.aload_n 0, 1) := by decide +kernel
theorem dX8_canBe_149 : decode cX8_canBe 149 = .ok (.getfield 23, 3) := by decide +kernel
theorem dX8_canBe_152 : decode cX8_canBe 152 = .ok (.iload_n 2, 1) := by decide +kernel
theorem dX8_canBe_153 : decode cX8_canBe 153 = .ok (.invokevirtual 270, 3) := by decide +kernel
theorem dX8_canBe_156 : decode cX8_canBe 156 = .ok (.iload_n 3, 1) := by decide +kernel
theorem dX8_canBe_157 : decode cX8_canBe 157 = .ok (.ishr, 1) := by decide +kernel
theorem dX8_canBe_158 : decode cX8_canBe 158 = .ok (.iconst 1, 1) := by decide +kernel
theorem dX8_canBe_159 : decode cX8_canBe 159 = .ok (.iand, 1) := by decide +kernel
theorem dX8_canBe_160 : decode cX8_canBe 160 = .ok (.iconst 1, 1) := by decide +kernel
