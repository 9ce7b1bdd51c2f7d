theorem dX0_init_0 : decode cX0_init 0 = .ok (.aload_n 0, 1) := by decide +kernel
theorem dX0_init_1 : decode cX0_init 1 = .ok (.invokespecial 3, 3) := by decide +kernel
theorem dX0_init_4 : decode cX0_init 4 = .ok (.aload_n 0, 1) := by decide +kernel
theorem dX0_init_5 : decode cX0_init 5 = .ok (.bipush 14, 2) := by decide +kernel
theorem dX0_init_7 : decode cX0_init 7 = .ok (.newarray .int, 2) := by decide +kernel
theorem dX0_init_9 : decode cX0_init 9 = .ok (.putfield 9, 3) := by decide +kernel
theorem dX0_init_12 : decode cX0_init 12 = .ok (.aload_n 0, 1) := by decide +kernel
theorem dX0_init_13 : decode cX0_init 13 = .ok (.bipush 14, 2) := by decide +kernel
theorem dX0_init_15 : decode cX0_init 15 = .ok (.newarray .int, 2) := by decide +kernel
theorem dX0_init_17 : decode cX0_init 17 = .ok (.putfield 15, 3) := by decide +kernel
theorem dX0_init_20 : decode cX0_init 20 = .ok (.return_, 1) := by decide +kernel
theorem dX0_push_0 : decode cX0_push 0 = .ok (.aload_n 0, 1) := by decide +kernel
theorem dX0_push_1 : decode cX0_push 1 = .ok (.getfield 18, 3) := by decide +kernel
theorem dX0_push_4 : decode cX0_push 4 = .ok (.bipush 14, 2) := by decide +kernel
theorem dX0_push_6 : decode cX0_push 6 = .ok (.if_icmp .lt 51, 3) := by decide +kernel
theorem dX0_push_9 : decode cX0_push 9 = .ok (.iconst 1, 1) := by decide +kernel
theorem dX0_push_10 : decode cX0_push 10 = .ok (.istore_n 3, 1) := by decide +kernel
theorem dX0_push_11 : decode cX0_push 11 = .ok (.iload_n 3, 1) := by decide +kernel
theorem dX0_push_12 : decode cX0_push 12 = .ok (.bipush 14, 2) := by decide +kernel
theorem dX0_push_14 : decode cX0_push 14 = .ok (.if_icmp .ge 37, 3) := by decide +kernel
theorem dX0_push_17 : decode cX0_push 17 = .ok (.aload_n 0, 1) := by decide +kernel
theorem dX0_push_18 : decode cX0_push 18 = .ok (.getfield 9, 3) := by decide +kernel
theorem dX0_push_21 : decode cX0_push 21 = .ok (.iload_n 3, 1) := by decide +kernel
theorem dX0_push_22 : decode cX0_push 22 = .ok (.iconst 1, 1) := by decide +kernel
theorem dX0_push_23 : decode cX0_push 23 = .ok (.isub, 1) := by decide +kernel
theorem dX0_push_24 : decode cX0_push 24 = .ok (.aload_n 0, 1) := by decide +kernel
theorem dX0_push_25 : decode cX0_push 25 = .ok (.getfield 9, 3) := by decide +kernel
theorem dX0_push_28 : decode cX0_push 28 = .ok (.iload_n 3, 1) := by decide +kernel
theorem dX0_push_29 : decode cX0_push 29 = .ok (.iaload, 1) := by decide +kernel
theorem dX0_push_30 : decode cX0_push 30 = .ok (.iastore, 1) := by decide +kernel
theorem dX0_push_31 : decode cX0_push 31 = .ok (.aload_n 0, 1) := by decide +kernel
theorem dX0_push_32 : decode cX0_push 32 = .ok (.getfield 15, 3) := by decide +kernel
theorem dX0_push_35 : decode cX0_push 35 = .ok (.iload_n 3, 1) := by decide +kernel
theorem dX0_push_36 : decode cX0_push 36 = .ok (.iconst 1, 1) := by decide +kernel
theorem dX0_push_37 : decode cX0_push 37 = .ok (.isub, 1) := by decide +kernel
theorem dX0_push_38 : decode cX0_push 38 = .ok (.aload_n 0, 1) := by decide +kernel
theorem dX0_push_39 : decode cX0_push 39 = .ok (.getfield 15, 3) := by decide +kernel
theorem dX0_push_42 : decode cX0_push 42 = .ok (.iload_n 3, 1) := by decide +kernel
theorem dX0_push_43 : decode cX0_push 43 = .ok (.iaload, 1) := by decide +kernel
theorem dX0_push_44 : decode cX0_push 44 = .ok (.iastore, 1) := by decide +kernel
theorem dX0_push_45 : decode cX0_push 45 = .ok (.iinc 3 1, 3) := by decide +kernel
theorem dX0_push_48 : decode cX0_push 48 = .ok (.goto (-37), 3) := by decide +kernel
theorem dX0_push_51 : decode cX0_push 51 = .ok (.aload_n 0, 1) := by decide +kernel
theorem dX0_push_52 : decode cX0_push 52 = .ok (.bipush 13, 2) := by decide +kernel
theorem dX0_push_54 : decode cX0_push 54 = .ok (.putfield 18, 3) := by decide +kernel
theorem dX0_push_57 : decode cX0_push 57 = .ok (.aload_n 0, 1) := by decide +kernel
theorem dX0_push_58 : decode cX0_push 58 = .ok (.getfield 9, 3) := by decide +kernel
theorem dX0_push_61 : decode cX0_push 61 = .ok (.aload_n 0, 1) := by decide +kernel
theorem dX0_push_62 : decode cX0_push 62 = .ok (.getfield 18, 3) := by decide +kernel
theorem dX0_push_65 : decode cX0_push 65 = .ok (.iload_n 1, 1) := by decide +kernel
theorem dX0_push_66 : decode cX0_push 66 = .ok (.iastore, 1) := by decide +kernel
theorem dX0_push_67 : decode cX0_push 67 = .ok (.aload_n 0, 1) := by decide +kernel
theorem dX0_push_68 : decode cX0_push 68 = .ok (.getfield 15, 3) := by decide +kernel
theorem dX0_push_71 : decode cX0_push 71 = .ok (.aload_n 0, 1) := by decide +kernel
theorem dX0_push_72 : decode cX0_push 72 = .ok (.getfield 18, 3) := by decide +kernel
theorem dX0_push_75 : decode cX0_push 75 = .ok (.iload_n 2, 1) := by decide +kernel
theorem dX0_push_76 : decode cX0_push 76 = .ok (.iastore, 1) := by decide +kernel
theorem dX0_push_77 : decode cX0_push 77 = .ok (.aload_n 0, 1) := by decide +kernel
theorem dX0_push_78 : decode cX0_push 78 = .ok (.dup, 1) := by decide +kernel
theorem dX0_push_79 : decode cX0_push 79 = .ok (.getfield 18, 3) := by decide +kernel
theorem dX0_push_82 : decode cX0_push 82 = .ok (.iconst 1, 1) := by decide +kernel
theorem dX0_push_83 : decode cX0_push 83 = .ok (.iadd, 1) := by decide +kernel
theorem dX0_push_84 : decode cX0_push 84 = .ok (.putfield 18, 3) := by decide +kernel
theorem dX0_push_87 : decode cX0_push 87 = .ok (.return_, 1) := by decide +kernel
theorem dX0_takeBack_0 : decode cX0_takeBack 0 = .ok (.aload_n 0, 1) := by decide +kernel
theorem dX0_takeBack_1 : decode cX0_takeBack 1 = .ok (.getfield 18, 3) := by decide +kernel
theorem dX0_takeBack_4 : decode cX0_takeBack 4 = .ok (.ifCond .ne 4, 3) := by decide +kernel
theorem dX0_takeBack_7 : decode cX0_takeBack 7 = .ok (.return_, 1) := by decide +kernel
theorem dX0_takeBack_8 : decode cX0_takeBack 8 = .ok (.aload_n 0, 1) := by decide +kernel
theorem dX0_takeBack_9 : decode cX0_takeBack 9 = .ok (.dup, 1) := by decide +kernel
theorem dX0_takeBack_10 : decode cX0_takeBack 10 = .ok (.getfield 18, 3) := by decide +kernel
theorem dX0_takeBack_13 : decode cX0_takeBack 13 = .ok (.iconst 1, 1) := by decide +kernel
theorem dX0_takeBack_14 : decode cX0_takeBack 14 = .ok (.isub, 1) := by decide +kernel
theorem dX0_takeBack_15 : decode cX0_takeBack 15 = .ok (.putfield 18, 3) := by decide +kernel
theorem dX0_takeBack_18 : decode cX0_takeBack 18 = .ok (.aload_n 0, 1) := by decide +kernel
theorem dX0_takeBack_19 : decode cX0_takeBack 19 = .ok (.getfield 15, 3) := by decide +kernel
theorem dX0_takeBack_22 : decode cX0_takeBack 22 = .ok (.aload_n 0, 1) := by decide +kernel
theorem dX0_takeBack_23 : decode cX0_takeBack 23 = .ok (.getfield 18, 3) := by decide +kernel
theorem dX0_takeBack_26 : decode cX0_takeBack 26 = .ok (.iaload, 1) := by decide +kernel
theorem dX0_takeBack_27 : decode cX0_takeBack 27 = .ok (.iconst (-1), 1) := by decide +kernel
theorem dX0_takeBack_28 : decode cX0_takeBack 28 = .ok (.if_icmp .eq 28, 3) := by decide +kernel
theorem dX0_takeBack_31 : decode cX0_takeBack 31 = .ok (.aload_n 1, 1) := by decide +kernel
theorem dX0_takeBack_32 : decode cX0_takeBack 32 = .ok (.aload_n 0, 1) := by decide +kernel
theorem dX0_takeBack_33 : decode cX0_takeBack 33 = .ok (.getfield 9, 3) := by decide +kernel
theorem dX0_takeBack_36 : decode cX0_takeBack 36 = .ok (.aload_n 0, 1) := by decide +kernel
theorem dX0_takeBack_37 : decode cX0_takeBack 37 = .ok (.getfield 18, 3) := by decide +kernel
theorem dX0_takeBack_40 : decode cX0_takeBack 40 = .ok (.iaload, 1) := by decide +kernel
theorem dX0_takeBack_41 : decode cX0_takeBack 41 = .ok (.aload_n 0, 1) := by decide +kernel
theorem dX0_takeBack_42 : decode cX0_takeBack 42 = .ok (.getfield 15, 3) := by decide +kernel
theorem dX0_takeBack_45 : decode cX0_takeBack 45 = .ok (.aload_n 0, 1) := by decide +kernel
theorem dX0_takeBack_46 : decode cX0_takeBack 46 = .ok (.getfield 18, 3) := by decide +kernel
theorem dX0_takeBack_49 : decode cX0_takeBack 49 = .ok (.iaload, 1) := by decide +kernel
theorem dX0_takeBack_50 : decode cX0_takeBack 50 = .ok (.invokevirtual 22, 3) := by decide +kernel
theorem dX0_takeBack_53 : decode cX0_takeBack 53 = .ok (.goto 17, 3) := by decide +kernel
theorem dX0_takeBack_56 : decode cX0_takeBack 56 = .ok (.aload_n 1, 1) := by decide +kernel
theorem dX0_takeBack_57 : decode cX0_takeBack 57 = .ok (.aload_n 0, 1) := by decide +kernel
theorem dX0_takeBack_58 : decode cX0_takeBack 58 = .ok (.getfield 9, 3) := by decide +kernel
theorem dX0_takeBack_61 : decode cX0_takeBack 61 = .ok (.aload_n 0, 1) := by decide +kernel
theorem dX0_takeBack_62 : decode cX0_takeBack 62 = .ok (.getfield 18, 3) := by decide +kernel
theorem dX0_takeBack_65 : decode cX0_takeBack 65 = .ok (.iaload, 1) := by decide +kernel
theorem dX0_takeBack_66 : decode cX0_takeBack 66 = .ok (.invokevirtual 28, 3) := by decide +kernel
theorem dX0_takeBack_69 : decode cX0_takeBack 69 = .ok (.pop, 1) := by decide +kernel
theorem dX0_takeBack_70 : decode cX0_takeBack 70 = .ok (.return_, 1) := by decide +kernel
theorem dX1_stateOf_0 : decode cX1_stateOf 0 = .ok (.iload_n 0, 1) := by decide +kernel
theorem dX1_stateOf_1 : decode cX1_stateOf 1 = .ok (.iconst 4, 1) := by decide +kernel
theorem dX1_stateOf_2 : decode cX1_stateOf 2 = .ok (.ishr, 1) := by decide +kernel
theorem dX1_stateOf_3 : decode cX1_stateOf 3 = .ok (.ireturn, 1) := by decide +kernel
theorem dX1_candidatesOf_0 : decode cX1_candidatesOf 0 = .ok (.iload_n 0, 1) := by decide +kernel
theorem dX1_candidatesOf_1 : decode cX1_candidatesOf 1 = .ok (.invokestatic 11, 3) := by decide +kernel
theorem dX1_candidatesOf_4 : decode cX1_candidatesOf 4 = .ok (.iconst 2, 1) := by decide +kernel
theorem dX1_candidatesOf_5 : decode cX1_candidatesOf 5 = .ok (.if_icmp .lt 10, 3) := by decide +kernel
theorem dX1_candidatesOf_8 : decode cX1_candidatesOf 8 = .ok (.iload_n 0, 1) := by decide +kernel
theorem dX1_candidatesOf_9 : decode cX1_candidatesOf 9 = .ok (.bipush 15, 2) := by decide +kernel
theorem dX1_candidatesOf_11 : decode cX1_candidatesOf 11 = .ok (.iand, 1) := by decide +kernel
theorem dX1_candidatesOf_12 : decode cX1_candidatesOf 12 = .ok (.goto 5, 3) := by decide +kernel
theorem dX1_candidatesOf_15 : decode cX1_candidatesOf 15 = .ok (.bipush 15, 2) := by decide +kernel
theorem dX1_candidatesOf_17 : decode cX1_candidatesOf 17 = .ok (.ireturn, 1) := by decide +kernel
theorem dX1_ownerOf_0 : decode cX1_ownerOf 0 = .ok (.iload_n 0, 1) := by decide +kernel
theorem dX1_ownerOf_1 : decode cX1_ownerOf 1 = .ok (.invokestatic 11, 3) := by decide +kernel
theorem dX1_ownerOf_4 : decode cX1_ownerOf 4 = .ok (.iconst 1, 1) := by decide +kernel
theorem dX1_ownerOf_5 : decode cX1_ownerOf 5 = .ok (.if_icmp .ne 9, 3) := by decide +kernel
theorem dX1_ownerOf_8 : decode cX1_ownerOf 8 = .ok (.iload_n 0, 1) := by decide +kernel
theorem dX1_ownerOf_9 : decode cX1_ownerOf 9 = .ok (.iconst 3, 1) := by decide +kernel
theorem dX1_ownerOf_10 : decode cX1_ownerOf 10 = .ok (.iand, 1) := by decide +kernel
theorem dX1_ownerOf_11 : decode cX1_ownerOf 11 = .ok (.goto 5, 3) := by decide +kernel
theorem dX1_ownerOf_14 : decode cX1_ownerOf 14 = .ok (.bipush (-9), 2) := by decide +kernel
theorem dX1_ownerOf_16 : decode cX1_ownerOf 16 = .ok (.ireturn, 1) := by decide +kernel
theorem dX1_touch_0 : decode cX1_touch 0 = .ok (.iload_n 0, 1) := by decide +kernel
theorem dX1_touch_1 : decode cX1_touch 1 = .ok (.invokestatic 11, 3) := by decide +kernel
theorem dX1_touch_4 : decode cX1_touch 4 = .ok (.istore 4, 2) := by decide +kernel
theorem dX1_touch_6 : decode cX1_touch 6 = .ok (.aload_n 1, 1) := by decide +kernel
theorem dX1_touch_7 : decode cX1_touch 7 = .ok (.iload_n 2, 1) := by decide +kernel
theorem dX1_touch_8 : decode cX1_touch 8 = .ok (.invokevirtual 15, 3) := by decide +kernel
theorem dX1_touch_11 : decode cX1_touch 11 = .ok (.istore 5, 2) := by decide +kernel
theorem dX1_touch_13 : decode cX1_touch 13 = .ok (.iload 4, 2) := by decide +kernel
theorem dX1_touch_15 : decode cX1_touch 15 = .ok (.ifCond .ne 9, 3) := by decide +kernel
theorem dX1_touch_18 : decode cX1_touch 18 = .ok (.bipush 16, 2) := by decide +kernel
theorem dX1_touch_20 : decode cX1_touch 20 = .ok (.iload 5, 2) := by decide +kernel
theorem dX1_touch_22 : decode cX1_touch 22 = .ok (.ior, 1) := by decide +kernel
theorem dX1_touch_23 : decode cX1_touch 23 = .ok (.ireturn, 1) := by decide +kernel
theorem dX1_touch_24 : decode cX1_touch 24 = .ok (.iload 4, 2) := by decide +kernel
theorem dX1_touch_26 : decode cX1_touch 26 = .ok (.iconst 1, 1) := by decide +kernel
theorem dX1_touch_27 : decode cX1_touch 27 = .ok (.if_icmp .ne 13, 3) := by decide +kernel
theorem dX1_touch_30 : decode cX1_touch 30 = .ok (.iload_n 0, 1) := by decide +kernel
theorem dX1_touch_31 : decode cX1_touch 31 = .ok (.iconst 3, 1) := by decide +kernel
theorem dX1_touch_32 : decode cX1_touch 32 = .ok (.iand, 1) := by decide +kernel
theorem dX1_touch_33 : decode cX1_touch 33 = .ok (.iload 5, 2) := by decide +kernel
theorem dX1_touch_35 : decode cX1_touch 35 = .ok (.if_icmp .ne 5, 3) := by decide +kernel
theorem dX1_touch_38 : decode cX1_touch 38 = .ok (.iload_n 0, 1) := by decide +kernel
theorem dX1_touch_39 : decode cX1_touch 39 = .ok (.ireturn, 1) := by decide +kernel
theorem dX1_touch_40 : decode cX1_touch 40 = .ok (.iload 4, 2) := by decide +kernel
theorem dX1_touch_42 : decode cX1_touch 42 = .ok (.iconst 1, 1) := by decide +kernel
theorem dX1_touch_43 : decode cX1_touch 43 = .ok (.if_icmp .ne 8, 3) := by decide +kernel
theorem dX1_touch_46 : decode cX1_touch 46 = .ok (.bipush 15, 2) := by decide +kernel
theorem dX1_touch_48 : decode cX1_touch 48 = .ok (.goto 7, 3) := by decide +kernel
theorem dX1_touch_51 : decode cX1_touch 51 = .ok (.iload_n 0, 1) := by decide +kernel
theorem dX1_touch_52 : decode cX1_touch 52 = .ok (.bipush 15, 2) := by decide +kernel
theorem dX1_touch_54 : decode cX1_touch 54 = .ok (.iand, 1) := by decide +kernel
theorem dX1_touch_55 : decode cX1_touch 55 = .ok (.istore 6, 2) := by decide +kernel
theorem dX1_touch_57 : decode cX1_touch 57 = .ok (.iload 4, 2) := by decide +kernel
theorem dX1_touch_59 : decode cX1_touch 59 = .ok (.iconst 3, 1) := by decide +kernel
theorem dX1_touch_60 : decode cX1_touch 60 = .ok (.if_icmp .eq 11, 3) := by decide +kernel
theorem dX1_touch_63 : decode cX1_touch 63 = .ok (.aload_n 1, 1) := by decide +kernel
theorem dX1_touch_64 : decode cX1_touch 64 = .ok (.iload_n 2, 1) := by decide +kernel
theorem dX1_touch_65 : decode cX1_touch 65 = .ok (.invokevirtual 20, 3) := by decide +kernel
theorem dX1_touch_68 : decode cX1_touch 68 = .ok (.ifCond .eq 7, 3) := by decide +kernel
theorem dX1_touch_71 : decode cX1_touch 71 = .ok (.iconst 3, 1) := by decide +kernel
theorem dX1_touch_72 : decode cX1_touch 72 = .ok (.goto 4, 3) := by decide +kernel
theorem dX1_touch_75 : decode cX1_touch 75 = .ok (.iconst 2, 1) := by decide +kernel
theorem dX1_touch_76 : decode cX1_touch 76 = .ok (.istore 7, 2) := by decide +kernel
theorem dX1_touch_78 : decode cX1_touch 78 = .ok (.iload 7, 2) := by decide +kernel
theorem dX1_touch_80 : decode cX1_touch 80 = .ok (.iconst 4, 1) := by decide +kernel
theorem dX1_touch_81 : decode cX1_touch 81 = .ok (.ishl, 1) := by decide +kernel
theorem dX1_touch_82 : decode cX1_touch 82 = .ok (.iload 6, 2) := by decide +kernel
theorem dX1_touch_84 : decode cX1_touch 84 = .ok (.aload_n 1, 1) := by decide +kernel
theorem dX1_touch_85 : decode cX1_touch 85 = .ok (.getfield 24, 3) := by decide +kernel
theorem dX1_touch_88 : decode cX1_touch 88 = .ok (.iload_n 2, 1) := by decide +kernel
theorem dX1_touch_89 : decode cX1_touch 89 = .ok (.iaload, 1) := by decide +kernel
theorem dX1_touch_90 : decode cX1_touch 90 = .ok (.iand, 1) := by decide +kernel
theorem dX1_touch_91 : decode cX1_touch 91 = .ok (.iload_n 3, 1) := by decide +kernel
theorem dX1_touch_92 : decode cX1_touch 92 = .ok (.iand, 1) := by decide +kernel
theorem dX1_touch_93 : decode cX1_touch 93 = .ok (.ior, 1) := by decide +kernel
theorem dX1_touch_94 : decode cX1_touch 94 = .ok (.ireturn, 1) := by decide +kernel
theorem dX1_watch_0 : decode cX1_watch 0 = .ok (.iconst 0, 1) := by decide +kernel
theorem dX1_watch_1 : decode cX1_watch 1 = .ok (.istore 5, 2) := by decide +kernel
theorem dX1_watch_3 : decode cX1_watch 3 = .ok (.iconst 0, 1) := by decide +kernel
theorem dX1_watch_4 : decode cX1_watch 4 = .ok (.istore 6, 2) := by decide +kernel
theorem dX1_watch_6 : decode cX1_watch 6 = .ok (.iload 6, 2) := by decide +kernel
theorem dX1_watch_8 : decode cX1_watch 8 = .ok (.iload_n 2, 1) := by decide +kernel
theorem dX1_watch_9 : decode cX1_watch 9 = .ok (.if_icmp .ge 46, 3) := by decide +kernel
theorem dX1_watch_12 : decode cX1_watch 12 = .ok (.iload 6, 2) := by decide +kernel
theorem dX1_watch_14 : decode cX1_watch 14 = .ok (.aload_n 0, 1) := by decide +kernel
theorem dX1_watch_15 : decode cX1_watch 15 = .ok (.getfield 28, 3) := by decide +kernel
theorem dX1_watch_18 : decode cX1_watch 18 = .ok (.if_icmp .ge 37, 3) := by decide +kernel
theorem dX1_watch_21 : decode cX1_watch 21 = .ok (.iload 6, 2) := by decide +kernel
theorem dX1_watch_23 : decode cX1_watch 23 = .ok (.iload_n 3, 1) := by decide +kernel
theorem dX1_watch_24 : decode cX1_watch 24 = .ok (.if_icmp .eq 25, 3) := by decide +kernel
theorem dX1_watch_27 : decode cX1_watch 27 = .ok (.aload_n 0, 1) := by decide +kernel
theorem dX1_watch_28 : decode cX1_watch 28 = .ok (.iload 6, 2) := by decide +kernel
theorem dX1_watch_30 : decode cX1_watch 30 = .ok (.iload_n 1, 1) := by decide +kernel
theorem dX1_watch_31 : decode cX1_watch 31 = .ok (.invokevirtual 32, 3) := by decide +kernel
theorem dX1_watch_34 : decode cX1_watch 34 = .ok (.ifCond .eq 15, 3) := by decide +kernel
theorem dX1_watch_37 : decode cX1_watch 37 = .ok (.iload 5, 2) := by decide +kernel
theorem dX1_watch_39 : decode cX1_watch 39 = .ok (.aload_n 0, 1) := by decide +kernel
theorem dX1_watch_40 : decode cX1_watch 40 = .ok (.iload 6, 2) := by decide +kernel
theorem dX1_watch_42 : decode cX1_watch 42 = .ok (.iload 4, 2) := by decide +kernel
theorem dX1_watch_44 : decode cX1_watch 44 = .ok (.invokestatic 36, 3) := by decide +kernel
theorem dX1_watch_47 : decode cX1_watch 47 = .ok (.istore 5, 2) := by decide +kernel
theorem dX1_watch_49 : decode cX1_watch 49 = .ok (.iinc 6 1, 3) := by decide +kernel
theorem dX1_watch_52 : decode cX1_watch 52 = .ok (.goto (-46), 3) := by decide +kernel
theorem dX1_watch_55 : decode cX1_watch 55 = .ok (.iload 5, 2) := by decide +kernel
theorem dX1_watch_57 : decode cX1_watch 57 = .ok (.ireturn, 1) := by decide +kernel
theorem dX1_flaggedBy_0 : decode cX1_flaggedBy 0 = .ok (.iconst 0, 1) := by decide +kernel
theorem dX1_flaggedBy_1 : decode cX1_flaggedBy 1 = .ok (.istore_n 3, 1) := by decide +kernel
theorem dX1_flaggedBy_2 : decode cX1_flaggedBy 2 = .ok (.iconst 0, 1) := by decide +kernel
theorem dX1_flaggedBy_3 : decode cX1_flaggedBy 3 = .ok (.istore 4, 2) := by decide +kernel
theorem dX1_flaggedBy_5 : decode cX1_flaggedBy 5 = .ok (.iload 4, 2) := by decide +kernel
theorem dX1_flaggedBy_7 : decode cX1_flaggedBy 7 = .ok (.iload_n 2, 1) := by decide +kernel
theorem dX1_flaggedBy_8 : decode cX1_flaggedBy 8 = .ok (.if_icmp .ge 47, 3) := by decide +kernel
theorem dX1_flaggedBy_11 : decode cX1_flaggedBy 11 = .ok (.iload 4, 2) := by decide +kernel
theorem dX1_flaggedBy_13 : decode cX1_flaggedBy 13 = .ok (.aload_n 0, 1) := by decide +kernel
theorem dX1_flaggedBy_14 : decode cX1_flaggedBy 14 = .ok (.getfield 28, 3) := by decide +kernel
theorem dX1_flaggedBy_17 : decode cX1_flaggedBy 17 = .ok (.if_icmp .ge 38, 3) := by decide +kernel
theorem dX1_flaggedBy_20 : decode cX1_flaggedBy 20 = .ok (.aload_n 0, 1) := by decide +kernel
theorem dX1_flaggedBy_21 : decode cX1_flaggedBy 21 = .ok (.iload 4, 2) := by decide +kernel
theorem dX1_flaggedBy_23 : decode cX1_flaggedBy 23 = .ok (.iload_n 1, 1) := by decide +kernel
theorem dX1_flaggedBy_24 : decode cX1_flaggedBy 24 = .ok (.invokevirtual 32, 3) := by decide +kernel
theorem dX1_flaggedBy_27 : decode cX1_flaggedBy 27 = .ok (.ifCond .eq 13, 3) := by decide +kernel
theorem dX1_flaggedBy_30 : decode cX1_flaggedBy 30 = .ok (.iload_n 3, 1) := by decide +kernel
theorem dX1_flaggedBy_31 : decode cX1_flaggedBy 31 = .ok (.aload_n 0, 1) := by decide +kernel
theorem dX1_flaggedBy_32 : decode cX1_flaggedBy 32 = .ok (.iload 4, 2) := by decide +kernel
theorem dX1_flaggedBy_34 : decode cX1_flaggedBy 34 = .ok (.bipush 15, 2) := by decide +kernel
theorem dX1_flaggedBy_36 : decode cX1_flaggedBy 36 = .ok (.invokestatic 36, 3) := by decide +kernel
theorem dX1_flaggedBy_39 : decode cX1_flaggedBy 39 = .ok (.istore_n 3, 1) := by decide +kernel
theorem dX1_flaggedBy_40 : decode cX1_flaggedBy 40 = .ok (.iload_n 3, 1) := by decide +kernel
theorem dX1_flaggedBy_41 : decode cX1_flaggedBy 41 = .ok (.bipush 48, 2) := by decide +kernel
theorem dX1_flaggedBy_43 : decode cX1_flaggedBy 43 = .ok (.if_icmp .ne 6, 3) := by decide +kernel
theorem dX1_flaggedBy_46 : decode cX1_flaggedBy 46 = .ok (.iload 4, 2) := by decide +kernel
theorem dX1_flaggedBy_48 : decode cX1_flaggedBy 48 = .ok (.ireturn, 1) := by decide +kernel
theorem dX1_flaggedBy_49 : decode cX1_flaggedBy 49 = .ok (.iinc 4 1, 3) := by decide +kernel
theorem dX1_flaggedBy_52 : decode cX1_flaggedBy 52 = .ok (.goto (-47), 3) := by decide +kernel
theorem dX1_flaggedBy_55 : decode cX1_flaggedBy 55 = .ok (.bipush (-9), 2) := by decide +kernel
theorem dX1_flaggedBy_57 : decode cX1_flaggedBy 57 = .ok (.ireturn, 1) := by decide +kernel
theorem dX1_flaggedBits_0 : decode cX1_flaggedBits 0 = .ok (.iconst 0, 1) := by decide +kernel
theorem dX1_flaggedBits_1 : decode cX1_flaggedBits 1 = .ok (.istore_n 2, 1) := by decide +kernel
theorem dX1_flaggedBits_2 : decode cX1_flaggedBits 2 = .ok (.iconst 0, 1) := by decide +kernel
theorem dX1_flaggedBits_3 : decode cX1_flaggedBits 3 = .ok (.istore_n 3, 1) := by decide +kernel
theorem dX1_flaggedBits_4 : decode cX1_flaggedBits 4 = .ok (.iload_n 3, 1) := by decide +kernel
theorem dX1_flaggedBits_5 : decode cX1_flaggedBits 5 = .ok (.iconst 4, 1) := by decide +kernel
theorem dX1_flaggedBits_6 : decode cX1_flaggedBits 6 = .ok (.if_icmp .ge 32, 3) := by decide +kernel
theorem dX1_flaggedBits_9 : decode cX1_flaggedBits 9 = .ok (.aload_n 0, 1) := by decide +kernel
theorem dX1_flaggedBits_10 : decode cX1_flaggedBits 10 = .ok (.iload_n 3, 1) := by decide +kernel
theorem dX1_flaggedBits_11 : decode cX1_flaggedBits 11 = .ok (.aload_n 0, 1) := by decide +kernel
theorem dX1_flaggedBits_12 : decode cX1_flaggedBits 12 = .ok (.getfield 28, 3) := by decide +kernel
theorem dX1_flaggedBits_15 : decode cX1_flaggedBits 15 = .ok (.bipush (-9), 2) := by decide +kernel
theorem dX1_flaggedBits_17 : decode cX1_flaggedBits 17 = .ok (.iload_n 1, 1) := by decide +kernel
theorem dX1_flaggedBits_18 : decode cX1_flaggedBits 18 = .ok (.invokestatic 40, 3) := by decide +kernel
theorem dX1_flaggedBits_21 : decode cX1_flaggedBits 21 = .ok (.bipush 48, 2) := by decide +kernel
theorem dX1_flaggedBits_23 : decode cX1_flaggedBits 23 = .ok (.if_icmp .ne 9, 3) := by decide +kernel
theorem dX1_flaggedBits_26 : decode cX1_flaggedBits 26 = .ok (.iload_n 2, 1) := by decide +kernel
theorem dX1_flaggedBits_27 : decode cX1_flaggedBits 27 = .ok (.iconst 1, 1) := by decide +kernel
theorem dX1_flaggedBits_28 : decode cX1_flaggedBits 28 = .ok (.iload_n 3, 1) := by decide +kernel
theorem dX1_flaggedBits_29 : decode cX1_flaggedBits 29 = .ok (.ishl, 1) := by decide +kernel
theorem dX1_flaggedBits_30 : decode cX1_flaggedBits 30 = .ok (.ior, 1) := by decide +kernel
theorem dX1_flaggedBits_31 : decode cX1_flaggedBits 31 = .ok (.istore_n 2, 1) := by decide +kernel
theorem dX1_flaggedBits_32 : decode cX1_flaggedBits 32 = .ok (.iinc 3 1, 3) := by decide +kernel
theorem dX1_flaggedBits_35 : decode cX1_flaggedBits 35 = .ok (.goto (-31), 3) := by decide +kernel
theorem dX1_flaggedBits_38 : decode cX1_flaggedBits 38 = .ok (.iload_n 2, 1) := by decide +kernel
theorem dX1_flaggedBits_39 : decode cX1_flaggedBits 39 = .ok (.ireturn, 1) := by decide +kernel
theorem dX1_flaggedCount_0 : decode cX1_flaggedCount 0 = .ok (.aload_n 0, 1) := by decide +kernel
theorem dX1_flaggedCount_1 : decode cX1_flaggedCount 1 = .ok (.iload_n 1, 1) := by decide +kernel
theorem dX1_flaggedCount_2 : decode cX1_flaggedCount 2 = .ok (.invokestatic 44, 3) := by decide +kernel
theorem dX1_flaggedCount_5 : decode cX1_flaggedCount 5 = .ok (.invokestatic 48, 3) := by decide +kernel
theorem dX1_flaggedCount_8 : decode cX1_flaggedCount 8 = .ok (.ireturn, 1) := by decide +kernel
theorem dX1_touches_0 : decode cX1_touches 0 = .ok (.iconst 0, 1) := by decide +kernel
theorem dX1_touches_1 : decode cX1_touches 1 = .ok (.istore_n 3, 1) := by decide +kernel
theorem dX1_touches_2 : decode cX1_touches 2 = .ok (.iconst 0, 1) := by decide +kernel
theorem dX1_touches_3 : decode cX1_touches 3 = .ok (.istore 4, 2) := by decide +kernel
theorem dX1_touches_5 : decode cX1_touches 5 = .ok (.iload 4, 2) := by decide +kernel
theorem dX1_touches_7 : decode cX1_touches 7 = .ok (.iload_n 2, 1) := by decide +kernel
theorem dX1_touches_8 : decode cX1_touches 8 = .ok (.if_icmp .ge 31, 3) := by decide +kernel
theorem dX1_touches_11 : decode cX1_touches 11 = .ok (.iload 4, 2) := by decide +kernel
theorem dX1_touches_13 : decode cX1_touches 13 = .ok (.aload_n 0, 1) := by decide +kernel
theorem dX1_touches_14 : decode cX1_touches 14 = .ok (.getfield 28, 3) := by decide +kernel
theorem dX1_touches_17 : decode cX1_touches 17 = .ok (.if_icmp .ge 22, 3) := by decide +kernel
theorem dX1_touches_20 : decode cX1_touches 20 = .ok (.aload_n 0, 1) := by decide +kernel
theorem dX1_touches_21 : decode cX1_touches 21 = .ok (.iload 4, 2) := by decide +kernel
theorem dX1_touches_23 : decode cX1_touches 23 = .ok (.iload_n 1, 1) := by decide +kernel
theorem dX1_touches_24 : decode cX1_touches 24 = .ok (.invokevirtual 32, 3) := by decide +kernel
theorem dX1_touches_27 : decode cX1_touches 27 = .ok (.ifCond .eq 6, 3) := by decide +kernel
theorem dX1_touches_30 : decode cX1_touches 30 = .ok (.iinc 3 1, 3) := by decide +kernel
theorem dX1_touches_33 : decode cX1_touches 33 = .ok (.iinc 4 1, 3) := by decide +kernel
theorem dX1_touches_36 : decode cX1_touches 36 = .ok (.goto (-31), 3) := by decide +kernel
theorem dX1_touches_39 : decode cX1_touches 39 = .ok (.iload_n 3, 1) := by decide +kernel
theorem dX1_touches_40 : decode cX1_touches 40 = .ok (.ireturn, 1) := by decide +kernel
theorem dX1_meet_0 : decode cX1_meet 0 = .ok (.aload_n 0, 1) := by decide +kernel
theorem dX1_meet_1 : decode cX1_meet 1 = .ok (.iload_n 2, 1) := by decide +kernel
theorem dX1_meet_2 : decode cX1_meet 2 = .ok (.iload_n 1, 1) := by decide +kernel
theorem dX1_meet_3 : decode cX1_meet 3 = .ok (.invokevirtual 32, 3) := by decide +kernel
theorem dX1_meet_6 : decode cX1_meet 6 = .ok (.ifCond .eq 70, 3) := by decide +kernel
theorem dX1_meet_9 : decode cX1_meet 9 = .ok (.aload_n 0, 1) := by decide +kernel
theorem dX1_meet_10 : decode cX1_meet 10 = .ok (.iload_n 3, 1) := by decide +kernel
theorem dX1_meet_11 : decode cX1_meet 11 = .ok (.iload_n 1, 1) := by decide +kernel
theorem dX1_meet_12 : decode cX1_meet 12 = .ok (.invokevirtual 32, 3) := by decide +kernel
theorem dX1_meet_15 : decode cX1_meet 15 = .ok (.ifCond .eq 61, 3) := by decide +kernel
theorem dX1_meet_18 : decode cX1_meet 18 = .ok (.aload_n 0, 1) := by decide +kernel
theorem dX1_meet_19 : decode cX1_meet 19 = .ok (.iload_n 2, 1) := by decide +kernel
theorem dX1_meet_20 : decode cX1_meet 20 = .ok (.invokevirtual 15, 3) := by decide +kernel
theorem dX1_meet_23 : decode cX1_meet 23 = .ok (.aload_n 0, 1) := by decide +kernel
theorem dX1_meet_24 : decode cX1_meet 24 = .ok (.iload_n 3, 1) := by decide +kernel
theorem dX1_meet_25 : decode cX1_meet 25 = .ok (.invokevirtual 15, 3) := by decide +kernel
theorem dX1_meet_28 : decode cX1_meet 28 = .ok (.if_icmp .eq 48, 3) := by decide +kernel
theorem dX1_meet_31 : decode cX1_meet 31 = .ok (.aload_n 0, 1) := by decide +kernel
theorem dX1_meet_32 : decode cX1_meet 32 = .ok (.iload_n 2, 1) := by decide +kernel
theorem dX1_meet_33 : decode cX1_meet 33 = .ok (.invokevirtual 20, 3) := by decide +kernel
theorem dX1_meet_36 : decode cX1_meet 36 = .ok (.ifCond .ne 11, 3) := by decide +kernel
theorem dX1_meet_39 : decode cX1_meet 39 = .ok (.aload_n 0, 1) := by decide +kernel
theorem dX1_meet_40 : decode cX1_meet 40 = .ok (.iload_n 3, 1) := by decide +kernel
theorem dX1_meet_41 : decode cX1_meet 41 = .ok (.invokevirtual 20, 3) := by decide +kernel
theorem dX1_meet_44 : decode cX1_meet 44 = .ok (.ifCond .eq 32, 3) := by decide +kernel
theorem dX1_meet_47 : decode cX1_meet 47 = .ok (.aload_n 0, 1) := by decide +kernel
theorem dX1_meet_48 : decode cX1_meet 48 = .ok (.iload_n 2, 1) := by decide +kernel
theorem dX1_meet_49 : decode cX1_meet 49 = .ok (.iload_n 3, 1) := by decide +kernel
theorem dX1_meet_50 : decode cX1_meet 50 = .ok (.invokevirtual 53, 3) := by decide +kernel
theorem dX1_meet_53 : decode cX1_meet 53 = .ok (.ifCond .ne 23, 3) := by decide +kernel
theorem dX1_meet_56 : decode cX1_meet 56 = .ok (.aload_n 0, 1) := by decide +kernel
theorem dX1_meet_57 : decode cX1_meet 57 = .ok (.getfield 24, 3) := by decide +kernel
theorem dX1_meet_60 : decode cX1_meet 60 = .ok (.iload_n 2, 1) := by decide +kernel
theorem dX1_meet_61 : decode cX1_meet 61 = .ok (.iaload, 1) := by decide +kernel
theorem dX1_meet_62 : decode cX1_meet 62 = .ok (.aload_n 0, 1) := by decide +kernel
theorem dX1_meet_63 : decode cX1_meet 63 = .ok (.getfield 24, 3) := by decide +kernel
theorem dX1_meet_66 : decode cX1_meet 66 = .ok (.iload_n 3, 1) := by decide +kernel
theorem dX1_meet_67 : decode cX1_meet 67 = .ok (.iaload, 1) := by decide +kernel
theorem dX1_meet_68 : decode cX1_meet 68 = .ok (.iand, 1) := by decide +kernel
theorem dX1_meet_69 : decode cX1_meet 69 = .ok (.ifCond .ne 7, 3) := by decide +kernel
theorem dX1_meet_72 : decode cX1_meet 72 = .ok (.iconst 1, 1) := by decide +kernel
theorem dX1_meet_73 : decode cX1_meet 73 = .ok (.goto 4, 3) := by decide +kernel
theorem dX1_meet_76 : decode cX1_meet 76 = .ok (.iconst 0, 1) := by decide +kernel
theorem dX1_meet_77 : decode cX1_meet 77 = .ok (.ireturn, 1) := by decide +kernel
theorem dX1_meetingCount_0 : decode cX1_meetingCount 0 = .ok (.iconst 0, 1) := by decide +kernel
theorem dX1_meetingCount_1 : decode cX1_meetingCount 1 = .ok (.istore_n 2, 1) := by decide +kernel
theorem dX1_meetingCount_2 : decode cX1_meetingCount 2 = .ok (.iconst 0, 1) := by decide +kernel
theorem dX1_meetingCount_3 : decode cX1_meetingCount 3 = .ok (.istore_n 3, 1) := by decide +kernel
theorem dX1_meetingCount_4 : decode cX1_meetingCount 4 = .ok (.iload_n 3, 1) := by decide +kernel
theorem dX1_meetingCount_5 : decode cX1_meetingCount 5 = .ok (.aload_n 0, 1) := by decide +kernel
theorem dX1_meetingCount_6 : decode cX1_meetingCount 6 = .ok (.getfield 28, 3) := by decide +kernel
theorem dX1_meetingCount_9 : decode cX1_meetingCount 9 = .ok (.if_icmp .ge 43, 3) := by decide +kernel
theorem dX1_meetingCount_12 : decode cX1_meetingCount 12 = .ok (.iload_n 3, 1) := by decide +kernel
theorem dX1_meetingCount_13 : decode cX1_meetingCount 13 = .ok (.iconst 1, 1) := by decide +kernel
theorem dX1_meetingCount_14 : decode cX1_meetingCount 14 = .ok (.iadd, 1) := by decide +kernel
theorem dX1_meetingCount_15 : decode cX1_meetingCount 15 = .ok (.istore 4, 2) := by decide +kernel
theorem dX1_meetingCount_17 : decode cX1_meetingCount 17 = .ok (.iload 4, 2) := by decide +kernel
theorem dX1_meetingCount_19 : decode cX1_meetingCount 19 = .ok (.aload_n 0, 1) := by decide +kernel
theorem dX1_meetingCount_20 : decode cX1_meetingCount 20 = .ok (.getfield 28, 3) := by decide +kernel
theorem dX1_meetingCount_23 : decode cX1_meetingCount 23 = .ok (.if_icmp .ge 23, 3) := by decide +kernel
theorem dX1_meetingCount_26 : decode cX1_meetingCount 26 = .ok (.aload_n 0, 1) := by decide +kernel
theorem dX1_meetingCount_27 : decode cX1_meetingCount 27 = .ok (.iload_n 1, 1) := by decide +kernel
theorem dX1_meetingCount_28 : decode cX1_meetingCount 28 = .ok (.iload_n 3, 1) := by decide +kernel
theorem dX1_meetingCount_29 : decode cX1_meetingCount 29 = .ok (.iload 4, 2) := by decide +kernel
theorem dX1_meetingCount_31 : decode cX1_meetingCount 31 = .ok (.invokestatic 56, 3) := by decide +kernel
theorem dX1_meetingCount_34 : decode cX1_meetingCount 34 = .ok (.ifCond .eq 6, 3) := by decide +kernel
theorem dX1_meetingCount_37 : decode cX1_meetingCount 37 = .ok (.iinc 2 1, 3) := by decide +kernel
theorem dX1_meetingCount_40 : decode cX1_meetingCount 40 = .ok (.iinc 4 1, 3) := by decide +kernel
theorem dX1_meetingCount_43 : decode cX1_meetingCount 43 = .ok (.goto (-26), 3) := by decide +kernel
theorem dX1_meetingCount_46 : decode cX1_meetingCount 46 = .ok (.iinc 3 1, 3) := by decide +kernel
theorem dX1_meetingCount_49 : decode cX1_meetingCount 49 = .ok (.goto (-45), 3) := by decide +kernel
theorem dX1_meetingCount_52 : decode cX1_meetingCount 52 = .ok (.iload_n 2, 1) := by decide +kernel
theorem dX1_meetingCount_53 : decode cX1_meetingCount 53 = .ok (.ireturn, 1) := by decide +kernel
theorem dX1_leastMeeting_0 : decode cX1_leastMeeting 0 = .ok (.iconst 0, 1) := by decide +kernel
theorem dX1_leastMeeting_1 : decode cX1_leastMeeting 1 = .ok (.istore_n 2, 1) := by decide +kernel
theorem dX1_leastMeeting_2 : decode cX1_leastMeeting 2 = .ok (.iload_n 2, 1) := by decide +kernel
theorem dX1_leastMeeting_3 : decode cX1_leastMeeting 3 = .ok (.aload_n 0, 1) := by decide +kernel
theorem dX1_leastMeeting_4 : decode cX1_leastMeeting 4 = .ok (.getfield 28, 3) := by decide +kernel
theorem dX1_leastMeeting_7 : decode cX1_leastMeeting 7 = .ok (.if_icmp .ge 44, 3) := by decide +kernel
theorem dX1_leastMeeting_10 : decode cX1_leastMeeting 10 = .ok (.iload_n 2, 1) := by decide +kernel
theorem dX1_leastMeeting_11 : decode cX1_leastMeeting 11 = .ok (.iconst 1, 1) := by decide +kernel
theorem dX1_leastMeeting_12 : decode cX1_leastMeeting 12 = .ok (.iadd, 1) := by decide +kernel
theorem dX1_leastMeeting_13 : decode cX1_leastMeeting 13 = .ok (.istore_n 3, 1) := by decide +kernel
theorem dX1_leastMeeting_14 : decode cX1_leastMeeting 14 = .ok (.iload_n 3, 1) := by decide +kernel
theorem dX1_leastMeeting_15 : decode cX1_leastMeeting 15 = .ok (.aload_n 0, 1) := by decide +kernel
theorem dX1_leastMeeting_16 : decode cX1_leastMeeting 16 = .ok (.getfield 28, 3) := by decide +kernel
theorem dX1_leastMeeting_19 : decode cX1_leastMeeting 19 = .ok (.if_icmp .ge 26, 3) := by decide +kernel
theorem dX1_leastMeeting_22 : decode cX1_leastMeeting 22 = .ok (.aload_n 0, 1) := by decide +kernel
theorem dX1_leastMeeting_23 : decode cX1_leastMeeting 23 = .ok (.iload_n 1, 1) := by decide +kernel
theorem dX1_leastMeeting_24 : decode cX1_leastMeeting 24 = .ok (.iload_n 2, 1) := by decide +kernel
theorem dX1_leastMeeting_25 : decode cX1_leastMeeting 25 = .ok (.iload_n 3, 1) := by decide +kernel
theorem dX1_leastMeeting_26 : decode cX1_leastMeeting 26 = .ok (.invokestatic 56, 3) := by decide +kernel
theorem dX1_leastMeeting_29 : decode cX1_leastMeeting 29 = .ok (.ifCond .eq 10, 3) := by decide +kernel
theorem dX1_leastMeeting_32 : decode cX1_leastMeeting 32 = .ok (.bipush 100, 2) := by decide +kernel
theorem dX1_leastMeeting_34 : decode cX1_leastMeeting 34 = .ok (.iload_n 2, 1) := by decide +kernel
theorem dX1_leastMeeting_35 : decode cX1_leastMeeting 35 = .ok (.imul, 1) := by decide +kernel
theorem dX1_leastMeeting_36 : decode cX1_leastMeeting 36 = .ok (.iload_n 3, 1) := by decide +kernel
theorem dX1_leastMeeting_37 : decode cX1_leastMeeting 37 = .ok (.iadd, 1) := by decide +kernel
theorem dX1_leastMeeting_38 : decode cX1_leastMeeting 38 = .ok (.ireturn, 1) := by decide +kernel
theorem dX1_leastMeeting_39 : decode cX1_leastMeeting 39 = .ok (.iinc 3 1, 3) := by decide +kernel
theorem dX1_leastMeeting_42 : decode cX1_leastMeeting 42 = .ok (.goto (-28), 3) := by decide +kernel
theorem dX1_leastMeeting_45 : decode cX1_leastMeeting 45 = .ok (.iinc 2 1, 3) := by decide +kernel
theorem dX1_leastMeeting_48 : decode cX1_leastMeeting 48 = .ok (.goto (-46), 3) := by decide +kernel
theorem dX1_leastMeeting_51 : decode cX1_leastMeeting 51 = .ok (.bipush (-9), 2) := by decide +kernel
theorem dX1_leastMeeting_53 : decode cX1_leastMeeting 53 = .ok (.ireturn, 1) := by decide +kernel
theorem dX1_meetingBits_0 : decode cX1_meetingBits 0 = .ok (.iconst 0, 1) := by decide +kernel
theorem dX1_meetingBits_1 : decode cX1_meetingBits 1 = .ok (.istore_n 1, 1) := by decide +kernel
theorem dX1_meetingBits_2 : decode cX1_meetingBits 2 = .ok (.iconst 0, 1) := by decide +kernel
theorem dX1_meetingBits_3 : decode cX1_meetingBits 3 = .ok (.istore_n 2, 1) := by decide +kernel
theorem dX1_meetingBits_4 : decode cX1_meetingBits 4 = .ok (.iload_n 2, 1) := by decide +kernel
theorem dX1_meetingBits_5 : decode cX1_meetingBits 5 = .ok (.iconst 4, 1) := by decide +kernel
theorem dX1_meetingBits_6 : decode cX1_meetingBits 6 = .ok (.if_icmp .ge 25, 3) := by decide +kernel
theorem dX1_meetingBits_9 : decode cX1_meetingBits 9 = .ok (.aload_n 0, 1) := by decide +kernel
theorem dX1_meetingBits_10 : decode cX1_meetingBits 10 = .ok (.iload_n 2, 1) := by decide +kernel
theorem dX1_meetingBits_11 : decode cX1_meetingBits 11 = .ok (.invokestatic 60, 3) := by decide +kernel
theorem dX1_meetingBits_14 : decode cX1_meetingBits 14 = .ok (.bipush (-9), 2) := by decide +kernel
theorem dX1_meetingBits_16 : decode cX1_meetingBits 16 = .ok (.if_icmp .eq 9, 3) := by decide +kernel
theorem dX1_meetingBits_19 : decode cX1_meetingBits 19 = .ok (.iload_n 1, 1) := by decide +kernel
theorem dX1_meetingBits_20 : decode cX1_meetingBits 20 = .ok (.iconst 1, 1) := by decide +kernel
theorem dX1_meetingBits_21 : decode cX1_meetingBits 21 = .ok (.iload_n 2, 1) := by decide +kernel
theorem dX1_meetingBits_22 : decode cX1_meetingBits 22 = .ok (.ishl, 1) := by decide +kernel
theorem dX1_meetingBits_23 : decode cX1_meetingBits 23 = .ok (.ior, 1) := by decide +kernel
theorem dX1_meetingBits_24 : decode cX1_meetingBits 24 = .ok (.istore_n 1, 1) := by decide +kernel
theorem dX1_meetingBits_25 : decode cX1_meetingBits 25 = .ok (.iinc 2 1, 3) := by decide +kernel
theorem dX1_meetingBits_28 : decode cX1_meetingBits 28 = .ok (.goto (-24), 3) := by decide +kernel
theorem dX1_meetingBits_31 : decode cX1_meetingBits 31 = .ok (.iload_n 1, 1) := by decide +kernel
theorem dX1_meetingBits_32 : decode cX1_meetingBits 32 = .ok (.ireturn, 1) := by decide +kernel
theorem dX2_init_0 : decode cX2_init 0 = .ok (.aload_n 0, 1) := by decide +kernel
theorem dX2_init_1 : decode cX2_init 1 = .ok (.invokespecial 3, 3) := by decide +kernel
theorem dX2_init_4 : decode cX2_init 4 = .ok (.aload_n 0, 1) := by decide +kernel
theorem dX2_init_5 : decode cX2_init 5 = .ok (.bipush 64, 2) := by decide +kernel
theorem dX2_init_7 : decode cX2_init 7 = .ok (.newarray .long, 2) := by decide +kernel
theorem dX2_init_9 : decode cX2_init 9 = .ok (.putfield 11, 3) := by decide +kernel
theorem dX2_init_12 : decode cX2_init 12 = .ok (.aload_n 0, 1) := by decide +kernel
theorem dX2_init_13 : decode cX2_init 13 = .ok (.bipush 64, 2) := by decide +kernel
theorem dX2_init_15 : decode cX2_init 15 = .ok (.newarray .long, 2) := by decide +kernel
theorem dX2_init_17 : decode cX2_init 17 = .ok (.putfield 17, 3) := by decide +kernel
theorem dX2_init_20 : decode cX2_init 20 = .ok (.aload_n 0, 1) := by decide +kernel
theorem dX2_init_21 : decode cX2_init 21 = .ok (.lconst 1, 1) := by decide +kernel
theorem dX2_init_22 : decode cX2_init 22 = .ok (.putfield 20, 3) := by decide +kernel
theorem dX2_init_25 : decode cX2_init 25 = .ok (.return_, 1) := by decide +kernel
theorem dX2_ofFlagged_0 : decode cX2_ofFlagged 0 = .ok (.aload_n 0, 1) := by decide +kernel
theorem dX2_ofFlagged_1 : decode cX2_ofFlagged 1 = .ok (.getfield 11, 3) := by decide +kernel
theorem dX2_ofFlagged_4 : decode cX2_ofFlagged 4 = .ok (.bipush 48, 2) := by decide +kernel
theorem dX2_ofFlagged_6 : decode cX2_ofFlagged 6 = .ok (.laload, 1) := by decide +kernel
theorem dX2_ofFlagged_7 : decode cX2_ofFlagged 7 = .ok (.lreturn, 1) := by decide +kernel
theorem dX2_spread_0 : decode cX2_spread 0 = .ok (.aload_n 0, 1) := by decide +kernel
theorem dX2_spread_1 : decode cX2_spread 1 = .ok (.getfield 11, 3) := by decide +kernel
theorem dX2_spread_4 : decode cX2_spread 4 = .ok (.lconst 0, 1) := by decide +kernel
theorem dX2_spread_5 : decode cX2_spread 5 = .ok (.invokestatic 24, 3) := by decide +kernel
theorem dX2_spread_8 : decode cX2_spread 8 = .ok (.aload_n 0, 1) := by decide +kernel
theorem dX2_spread_9 : decode cX2_spread 9 = .ok (.getfield 11, 3) := by decide +kernel
theorem dX2_spread_12 : decode cX2_spread 12 = .ok (.iconst 0, 1) := by decide +kernel
theorem dX2_spread_13 : decode cX2_spread 13 = .ok (.lconst 1, 1) := by decide +kernel
theorem dX2_spread_14 : decode cX2_spread 14 = .ok (.lastore, 1) := by decide +kernel
theorem dX2_spread_15 : decode cX2_spread 15 = .ok (.aload_n 0, 1) := by decide +kernel
theorem dX2_spread_16 : decode cX2_spread 16 = .ok (.lconst 1, 1) := by decide +kernel
theorem dX2_spread_17 : decode cX2_spread 17 = .ok (.putfield 20, 3) := by decide +kernel
theorem dX2_spread_20 : decode cX2_spread 20 = .ok (.iconst 0, 1) := by decide +kernel
theorem dX2_spread_21 : decode cX2_spread 21 = .ok (.istore 4, 2) := by decide +kernel
theorem dX2_spread_23 : decode cX2_spread 23 = .ok (.iload 4, 2) := by decide +kernel
theorem dX2_spread_25 : decode cX2_spread 25 = .ok (.aload_n 1, 1) := by decide +kernel
theorem dX2_spread_26 : decode cX2_spread 26 = .ok (.getfield 30, 3) := by decide +kernel
theorem dX2_spread_29 : decode cX2_spread 29 = .ok (.if_icmp .ge 39, 3) := by decide +kernel
theorem dX2_spread_32 : decode cX2_spread 32 = .ok (.aload_n 1, 1) := by decide +kernel
theorem dX2_spread_33 : decode cX2_spread 33 = .ok (.iload 4, 2) := by decide +kernel
theorem dX2_spread_35 : decode cX2_spread 35 = .ok (.iload_n 2, 1) := by decide +kernel
theorem dX2_spread_36 : decode cX2_spread 36 = .ok (.invokevirtual 36, 3) := by decide +kernel
theorem dX2_spread_39 : decode cX2_spread 39 = .ok (.ifCond .eq 23, 3) := by decide +kernel
theorem dX2_spread_42 : decode cX2_spread 42 = .ok (.aload_n 0, 1) := by decide +kernel
theorem dX2_spread_43 : decode cX2_spread 43 = .ok (.aload_n 1, 1) := by decide +kernel
theorem dX2_spread_44 : decode cX2_spread 44 = .ok (.iload 4, 2) := by decide +kernel
theorem dX2_spread_46 : decode cX2_spread 46 = .ok (.iload_n 3, 1) := by decide +kernel
theorem dX2_spread_47 : decode cX2_spread 47 = .ok (.invokevirtual 40, 3) := by decide +kernel
theorem dX2_spread_50 : decode cX2_spread 50 = .ok (.aload_n 0, 1) := by decide +kernel
theorem dX2_spread_51 : decode cX2_spread 51 = .ok (.dup, 1) := by decide +kernel
theorem dX2_spread_52 : decode cX2_spread 52 = .ok (.getfield 20, 3) := by decide +kernel
theorem dX2_spread_55 : decode cX2_spread 55 = .ok (.ldc2_w 44, 3) := by decide +kernel
theorem dX2_spread_58 : decode cX2_spread 58 = .ok (.lmul, 1) := by decide +kernel
theorem dX2_spread_59 : decode cX2_spread 59 = .ok (.putfield 20, 3) := by decide +kernel
theorem dX2_spread_62 : decode cX2_spread 62 = .ok (.iinc 4 1, 3) := by decide +kernel
theorem dX2_spread_65 : decode cX2_spread 65 = .ok (.goto (-42), 3) := by decide +kernel
theorem dX2_spread_68 : decode cX2_spread 68 = .ok (.return_, 1) := by decide +kernel
theorem dX2_spreadTouch_0 : decode cX2_spreadTouch 0 = .ok (.aload_n 0, 1) := by decide +kernel
theorem dX2_spreadTouch_1 : decode cX2_spreadTouch 1 = .ok (.getfield 17, 3) := by decide +kernel
theorem dX2_spreadTouch_4 : decode cX2_spreadTouch 4 = .ok (.lconst 0, 1) := by decide +kernel
theorem dX2_spreadTouch_5 : decode cX2_spreadTouch 5 = .ok (.invokestatic 24, 3) := by decide +kernel
theorem dX2_spreadTouch_8 : decode cX2_spreadTouch 8 = .ok (.iconst 0, 1) := by decide +kernel
theorem dX2_spreadTouch_9 : decode cX2_spreadTouch 9 = .ok (.istore 4, 2) := by decide +kernel
theorem dX2_spreadTouch_11 : decode cX2_spreadTouch 11 = .ok (.iload 4, 2) := by decide +kernel
theorem dX2_spreadTouch_13 : decode cX2_spreadTouch 13 = .ok (.bipush 64, 2) := by decide +kernel
theorem dX2_spreadTouch_15 : decode cX2_spreadTouch 15 = .ok (.if_icmp .ge 78, 3) := by decide +kernel
theorem dX2_spreadTouch_18 : decode cX2_spreadTouch 18 = .ok (.aload_n 0, 1) := by decide +kernel
theorem dX2_spreadTouch_19 : decode cX2_spreadTouch 19 = .ok (.getfield 11, 3) := by decide +kernel
theorem dX2_spreadTouch_22 : decode cX2_spreadTouch 22 = .ok (.iload 4, 2) := by decide +kernel
theorem dX2_spreadTouch_24 : decode cX2_spreadTouch 24 = .ok (.laload, 1) := by decide +kernel
theorem dX2_spreadTouch_25 : decode cX2_spreadTouch 25 = .ok (.lconst 0, 1) := by decide +kernel
theorem dX2_spreadTouch_26 : decode cX2_spreadTouch 26 = .ok (.lcmp, 1) := by decide +kernel
theorem dX2_spreadTouch_27 : decode cX2_spreadTouch 27 = .ok (.ifCond .eq 60, 3) := by decide +kernel
theorem dX2_spreadTouch_30 : decode cX2_spreadTouch 30 = .ok (.aload_n 0, 1) := by decide +kernel
theorem dX2_spreadTouch_31 : decode cX2_spreadTouch 31 = .ok (.getfield 17, 3) := by decide +kernel
theorem dX2_spreadTouch_34 : decode cX2_spreadTouch 34 = .ok (.iload 4, 2) := by decide +kernel
theorem dX2_spreadTouch_36 : decode cX2_spreadTouch 36 = .ok (.dup2, 1) := by decide +kernel
theorem dX2_spreadTouch_37 : decode cX2_spreadTouch 37 = .ok (.laload, 1) := by decide +kernel
theorem dX2_spreadTouch_38 : decode cX2_spreadTouch 38 = .ok (.aload_n 0, 1) := by decide +kernel
theorem dX2_spreadTouch_39 : decode cX2_spreadTouch 39 = .ok (.getfield 11, 3) := by decide +kernel
theorem dX2_spreadTouch_42 : decode cX2_spreadTouch 42 = .ok (.iload 4, 2) := by decide +kernel
theorem dX2_spreadTouch_44 : decode cX2_spreadTouch 44 = .ok (.laload, 1) := by decide +kernel
theorem dX2_spreadTouch_45 : decode cX2_spreadTouch 45 = .ok (.iload_n 3, 1) := by decide +kernel
theorem dX2_spreadTouch_46 : decode cX2_spreadTouch 46 = .ok (.i2l, 1) := by decide +kernel
theorem dX2_spreadTouch_47 : decode cX2_spreadTouch 47 = .ok (.lmul, 1) := by decide +kernel
theorem dX2_spreadTouch_48 : decode cX2_spreadTouch 48 = .ok (.ladd, 1) := by decide +kernel
theorem dX2_spreadTouch_49 : decode cX2_spreadTouch 49 = .ok (.lastore, 1) := by decide +kernel
theorem dX2_spreadTouch_50 : decode cX2_spreadTouch 50 = .ok (.iload 4, 2) := by decide +kernel
theorem dX2_spreadTouch_52 : decode cX2_spreadTouch 52 = .ok (.aload_n 1, 1) := by decide +kernel
theorem dX2_spreadTouch_53 : decode cX2_spreadTouch 53 = .ok (.iload_n 2, 1) := by decide +kernel
theorem dX2_spreadTouch_54 : decode cX2_spreadTouch 54 = .ok (.bipush 15, 2) := by decide +kernel
theorem dX2_spreadTouch_56 : decode cX2_spreadTouch 56 = .ok (.invokestatic 46, 3) := by decide +kernel
theorem dX2_spreadTouch_59 : decode cX2_spreadTouch 59 = .ok (.istore 5, 2) := by decide +kernel
theorem dX2_spreadTouch_61 : decode cX2_spreadTouch 61 = .ok (.aload_n 0, 1) := by decide +kernel
theorem dX2_spreadTouch_62 : decode cX2_spreadTouch 62 = .ok (.getfield 17, 3) := by decide +kernel
theorem dX2_spreadTouch_65 : decode cX2_spreadTouch 65 = .ok (.iload 5, 2) := by decide +kernel
theorem dX2_spreadTouch_67 : decode cX2_spreadTouch 67 = .ok (.bipush 63, 2) := by decide +kernel
theorem dX2_spreadTouch_69 : decode cX2_spreadTouch 69 = .ok (.iand, 1) := by decide +kernel
theorem dX2_spreadTouch_70 : decode cX2_spreadTouch 70 = .ok (.dup2, 1) := by decide +kernel
theorem dX2_spreadTouch_71 : decode cX2_spreadTouch 71 = .ok (.laload, 1) := by decide +kernel
theorem dX2_spreadTouch_72 : decode cX2_spreadTouch 72 = .ok (.aload_n 0, 1) := by decide +kernel
theorem dX2_spreadTouch_73 : decode cX2_spreadTouch 73 = .ok (.getfield 11, 3) := by decide +kernel
theorem dX2_spreadTouch_76 : decode cX2_spreadTouch 76 = .ok (.iload 4, 2) := by decide +kernel
theorem dX2_spreadTouch_78 : decode cX2_spreadTouch 78 = .ok (.laload, 1) := by decide +kernel
theorem dX2_spreadTouch_79 : decode cX2_spreadTouch 79 = .ok (.bipush 10, 2) := by decide +kernel
theorem dX2_spreadTouch_81 : decode cX2_spreadTouch 81 = .ok (.iload_n 3, 1) := by decide +kernel
theorem dX2_spreadTouch_82 : decode cX2_spreadTouch 82 = .ok (.isub, 1) := by decide +kernel
theorem dX2_spreadTouch_83 : decode cX2_spreadTouch 83 = .ok (.i2l, 1) := by decide +kernel
theorem dX2_spreadTouch_84 : decode cX2_spreadTouch 84 = .ok (.lmul, 1) := by decide +kernel
theorem dX2_spreadTouch_85 : decode cX2_spreadTouch 85 = .ok (.ladd, 1) := by decide +kernel
theorem dX2_spreadTouch_86 : decode cX2_spreadTouch 86 = .ok (.lastore, 1) := by decide +kernel
theorem dX2_spreadTouch_87 : decode cX2_spreadTouch 87 = .ok (.iinc 4 1, 3) := by decide +kernel
theorem dX2_spreadTouch_90 : decode cX2_spreadTouch 90 = .ok (.goto (-79), 3) := by decide +kernel
theorem dX2_spreadTouch_93 : decode cX2_spreadTouch 93 = .ok (.aload_n 0, 1) := by decide +kernel
theorem dX2_spreadTouch_94 : decode cX2_spreadTouch 94 = .ok (.getfield 17, 3) := by decide +kernel
theorem dX2_spreadTouch_97 : decode cX2_spreadTouch 97 = .ok (.iconst 0, 1) := by decide +kernel
theorem dX2_spreadTouch_98 : decode cX2_spreadTouch 98 = .ok (.aload_n 0, 1) := by decide +kernel
theorem dX2_spreadTouch_99 : decode cX2_spreadTouch 99 = .ok (.getfield 11, 3) := by decide +kernel
theorem dX2_spreadTouch_102 : decode cX2_spreadTouch 102 = .ok (.iconst 0, 1) := by decide +kernel
theorem dX2_spreadTouch_103 : decode cX2_spreadTouch 103 = .ok (.bipush 64, 2) := by decide +kernel
theorem dX2_spreadTouch_105 : decode cX2_spreadTouch 105 = .ok (.invokestatic 50, 3) := by decide +kernel
theorem dX2_spreadTouch_108 : decode cX2_spreadTouch 108 = .ok (.return_, 1) := by decide +kernel
theorem dX3_init_0 : decode cX3_init 0 = .ok (.aload_n 0, 1) := by decide +kernel
theorem dX3_init_1 : decode cX3_init 1 = .ok (.invokespecial 3, 3) := by decide +kernel
theorem dX3_init_4 : decode cX3_init 4 = .ok (.aload_n 0, 1) := by decide +kernel
theorem dX3_init_5 : decode cX3_init 5 = .ok (.bipush 80, 2) := by decide +kernel
theorem dX3_init_7 : decode cX3_init 7 = .ok (.newarray .int, 2) := by decide +kernel
theorem dX3_init_9 : decode cX3_init 9 = .ok (.putfield 11, 3) := by decide +kernel
theorem dX3_init_12 : decode cX3_init 12 = .ok (.aload_n 0, 1) := by decide +kernel
theorem dX3_init_13 : decode cX3_init 13 = .ok (.bipush 80, 2) := by decide +kernel
theorem dX3_init_15 : decode cX3_init 15 = .ok (.newarray .int, 2) := by decide +kernel
theorem dX3_init_17 : decode cX3_init 17 = .ok (.putfield 15, 3) := by decide +kernel
theorem dX3_init_20 : decode cX3_init 20 = .ok (.aload_n 0, 1) := by decide +kernel
theorem dX3_init_21 : decode cX3_init 21 = .ok (.bipush 80, 2) := by decide +kernel
theorem dX3_init_23 : decode cX3_init 23 = .ok (.newarray .int, 2) := by decide +kernel
theorem dX3_init_25 : decode cX3_init 25 = .ok (.putfield 18, 3) := by decide +kernel
theorem dX3_init_28 : decode cX3_init 28 = .ok (.aload_n 0, 1) := by decide +kernel
theorem dX3_init_29 : decode cX3_init 29 = .ok (.bipush 20, 2) := by decide +kernel
theorem dX3_init_31 : decode cX3_init 31 = .ok (.newarray .int, 2) := by decide +kernel
theorem dX3_init_33 : decode cX3_init 33 = .ok (.putfield 21, 3) := by decide +kernel
theorem dX3_init_36 : decode cX3_init 36 = .ok (.aload_n 0, 1) := by decide +kernel
theorem dX3_init_37 : decode cX3_init 37 = .ok (.iconst 4, 1) := by decide +kernel
theorem dX3_init_38 : decode cX3_init 38 = .ok (.newarray .int, 2) := by decide +kernel
theorem dX3_init_40 : decode cX3_init 40 = .ok (.putfield 24, 3) := by decide +kernel
theorem dX3_init_43 : decode cX3_init 43 = .ok (.aload_n 0, 1) := by decide +kernel
theorem dX3_init_44 : decode cX3_init 44 = .ok (.bipush (-9), 2) := by decide +kernel
theorem dX3_init_46 : decode cX3_init 46 = .ok (.putfield 27, 3) := by decide +kernel
theorem dX3_init_49 : decode cX3_init 49 = .ok (.return_, 1) := by decide +kernel
theorem dX3_collect_0 : decode cX3_collect 0 = .ok (.aload_n 0, 1) := by decide +kernel
theorem dX3_collect_1 : decode cX3_collect 1 = .ok (.iconst 0, 1) := by decide +kernel
theorem dX3_collect_2 : decode cX3_collect 2 = .ok (.putfield 31, 3) := by decide +kernel
theorem dX3_collect_5 : decode cX3_collect 5 = .ok (.iconst 0, 1) := by decide +kernel
theorem dX3_collect_6 : decode cX3_collect 6 = .ok (.istore_n 2, 1) := by decide +kernel
theorem dX3_collect_7 : decode cX3_collect 7 = .ok (.iload_n 2, 1) := by decide +kernel
theorem dX3_collect_8 : decode cX3_collect 8 = .ok (.aload_n 1, 1) := by decide +kernel
theorem dX3_collect_9 : decode cX3_collect 9 = .ok (.getfield 34, 3) := by decide +kernel
theorem dX3_collect_12 : decode cX3_collect 12 = .ok (.if_icmp .ge 96, 3) := by decide +kernel
theorem dX3_collect_15 : decode cX3_collect 15 = .ok (.iconst 0, 1) := by decide +kernel
theorem dX3_collect_16 : decode cX3_collect 16 = .ok (.istore_n 3, 1) := by decide +kernel
theorem dX3_collect_17 : decode cX3_collect 17 = .ok (.iload_n 3, 1) := by decide +kernel
theorem dX3_collect_18 : decode cX3_collect 18 = .ok (.iconst 4, 1) := by decide +kernel
theorem dX3_collect_19 : decode cX3_collect 19 = .ok (.if_icmp .ge 83, 3) := by decide +kernel
theorem dX3_collect_22 : decode cX3_collect 22 = .ok (.aload_n 1, 1) := by decide +kernel
theorem dX3_collect_23 : decode cX3_collect 23 = .ok (.iload_n 2, 1) := by decide +kernel
theorem dX3_collect_24 : decode cX3_collect 24 = .ok (.invokevirtual 37, 3) := by decide +kernel
theorem dX3_collect_27 : decode cX3_collect 27 = .ok (.ifCond .eq 69, 3) := by decide +kernel
theorem dX3_collect_30 : decode cX3_collect 30 = .ok (.aload_n 1, 1) := by decide +kernel
theorem dX3_collect_31 : decode cX3_collect 31 = .ok (.iload_n 2, 1) := by decide +kernel
theorem dX3_collect_32 : decode cX3_collect 32 = .ok (.invokevirtual 41, 3) := by decide +kernel
theorem dX3_collect_35 : decode cX3_collect 35 = .ok (.iload_n 3, 1) := by decide +kernel
theorem dX3_collect_36 : decode cX3_collect 36 = .ok (.ishr, 1) := by decide +kernel
theorem dX3_collect_37 : decode cX3_collect 37 = .ok (.iconst 1, 1) := by decide +kernel
theorem dX3_collect_38 : decode cX3_collect 38 = .ok (.iand, 1) := by decide +kernel
theorem dX3_collect_39 : decode cX3_collect 39 = .ok (.iconst 1, 1) := by decide +kernel
theorem dX3_collect_40 : decode cX3_collect 40 = .ok (.if_icmp .ne 56, 3) := by decide +kernel
theorem dX3_collect_43 : decode cX3_collect 43 = .ok (.aload_n 0, 1) := by decide +kernel
theorem dX3_collect_44 : decode cX3_collect 44 = .ok (.getfield 31, 3) := by decide +kernel
theorem dX3_collect_47 : decode cX3_collect 47 = .ok (.bipush 80, 2) := by decide +kernel
theorem dX3_collect_49 : decode cX3_collect 49 = .ok (.if_icmp .ge 47, 3) := by decide +kernel
theorem dX3_collect_52 : decode cX3_collect 52 = .ok (.aload_n 0, 1) := by decide +kernel
theorem dX3_collect_53 : decode cX3_collect 53 = .ok (.getfield 11, 3) := by decide +kernel
theorem dX3_collect_56 : decode cX3_collect 56 = .ok (.aload_n 0, 1) := by decide +kernel
theorem dX3_collect_57 : decode cX3_collect 57 = .ok (.getfield 31, 3) := by decide +kernel
theorem dX3_collect_60 : decode cX3_collect 60 = .ok (.iload_n 2, 1) := by decide +kernel
theorem dX3_collect_61 : decode cX3_collect 61 = .ok (.iastore, 1) := by decide +kernel
theorem dX3_collect_62 : decode cX3_collect 62 = .ok (.aload_n 0, 1) := by decide +kernel
theorem dX3_collect_63 : decode cX3_collect 63 = .ok (.getfield 15, 3) := by decide +kernel
theorem dX3_collect_66 : decode cX3_collect 66 = .ok (.aload_n 0, 1) := by decide +kernel
theorem dX3_collect_67 : decode cX3_collect 67 = .ok (.getfield 31, 3) := by decide +kernel
theorem dX3_collect_70 : decode cX3_collect 70 = .ok (.iload_n 3, 1) := by decide +kernel
theorem dX3_collect_71 : decode cX3_collect 71 = .ok (.iastore, 1) := by decide +kernel
theorem dX3_collect_72 : decode cX3_collect 72 = .ok (.aload_n 0, 1) := by decide +kernel
theorem dX3_collect_73 : decode cX3_collect 73 = .ok (.getfield 18, 3) := by decide +kernel
theorem dX3_collect_76 : decode cX3_collect 76 = .ok (.aload_n 0, 1) := by decide +kernel
theorem dX3_collect_77 : decode cX3_collect 77 = .ok (.getfield 31, 3) := by decide +kernel
theorem dX3_collect_80 : decode cX3_collect 80 = .ok (.aload_n 1, 1) := by decide +kernel
theorem dX3_collect_81 : decode cX3_collect 81 = .ok (.iload_n 2, 1) := by decide +kernel
theorem dX3_collect_82 : decode cX3_collect 82 = .ok (.invokevirtual 45, 3) := by decide +kernel
theorem dX3_collect_85 : decode cX3_collect 85 = .ok (.iastore, 1) := by decide +kernel
theorem dX3_collect_86 : decode cX3_collect 86 = .ok (.aload_n 0, 1) := by decide +kernel
theorem dX3_collect_87 : decode cX3_collect 87 = .ok (.dup, 1) := by decide +kernel
theorem dX3_collect_88 : decode cX3_collect 88 = .ok (.getfield 31, 3) := by decide +kernel
theorem dX3_collect_91 : decode cX3_collect 91 = .ok (.iconst 1, 1) := by decide +kernel
theorem dX3_collect_92 : decode cX3_collect 92 = .ok (.iadd, 1) := by decide +kernel
theorem dX3_collect_93 : decode cX3_collect 93 = .ok (.putfield 31, 3) := by decide +kernel
theorem dX3_collect_96 : decode cX3_collect 96 = .ok (.iinc 3 1, 3) := by decide +kernel
theorem dX3_collect_99 : decode cX3_collect 99 = .ok (.goto (-82), 3) := by decide +kernel
theorem dX3_collect_102 : decode cX3_collect 102 = .ok (.iinc 2 1, 3) := by decide +kernel
theorem dX3_collect_105 : decode cX3_collect 105 = .ok (.goto (-98), 3) := by decide +kernel
theorem dX3_collect_108 : decode cX3_collect 108 = .ok (.return_, 1) := by decide +kernel
theorem dX3_between_0 : decode cX3_between 0 = .ok (.iconst 0, 1) := by decide +kernel
theorem dX3_between_1 : decode cX3_between 1 = .ok (.istore_n 3, 1) := by decide +kernel
theorem dX3_between_2 : decode cX3_between 2 = .ok (.iconst 0, 1) := by decide +kernel
theorem dX3_between_3 : decode cX3_between 3 = .ok (.istore 4, 2) := by decide +kernel
theorem dX3_between_5 : decode cX3_between 5 = .ok (.iload 4, 2) := by decide +kernel
theorem dX3_between_7 : decode cX3_between 7 = .ok (.aload_n 0, 1) := by decide +kernel
theorem dX3_between_8 : decode cX3_between 8 = .ok (.getfield 31, 3) := by decide +kernel
theorem dX3_between_11 : decode cX3_between 11 = .ok (.if_icmp .ge 34, 3) := by decide +kernel
theorem dX3_between_14 : decode cX3_between 14 = .ok (.aload_n 0, 1) := by decide +kernel
theorem dX3_between_15 : decode cX3_between 15 = .ok (.getfield 15, 3) := by decide +kernel
theorem dX3_between_18 : decode cX3_between 18 = .ok (.iload 4, 2) := by decide +kernel
theorem dX3_between_20 : decode cX3_between 20 = .ok (.iaload, 1) := by decide +kernel
theorem dX3_between_21 : decode cX3_between 21 = .ok (.iload_n 1, 1) := by decide +kernel
theorem dX3_between_22 : decode cX3_between 22 = .ok (.if_icmp .ne 17, 3) := by decide +kernel
theorem dX3_between_25 : decode cX3_between 25 = .ok (.aload_n 0, 1) := by decide +kernel
theorem dX3_between_26 : decode cX3_between 26 = .ok (.getfield 18, 3) := by decide +kernel
theorem dX3_between_29 : decode cX3_between 29 = .ok (.iload 4, 2) := by decide +kernel
theorem dX3_between_31 : decode cX3_between 31 = .ok (.iaload, 1) := by decide +kernel
theorem dX3_between_32 : decode cX3_between 32 = .ok (.iload_n 2, 1) := by decide +kernel
theorem dX3_between_33 : decode cX3_between 33 = .ok (.if_icmp .ne 6, 3) := by decide +kernel
theorem dX3_between_36 : decode cX3_between 36 = .ok (.iinc 3 1, 3) := by decide +kernel
theorem dX3_between_39 : decode cX3_between 39 = .ok (.iinc 4 1, 3) := by decide +kernel
theorem dX3_between_42 : decode cX3_between 42 = .ok (.goto (-37), 3) := by decide +kernel
theorem dX3_between_45 : decode cX3_between 45 = .ok (.iload_n 3, 1) := by decide +kernel
theorem dX3_between_46 : decode cX3_between 46 = .ok (.ireturn, 1) := by decide +kernel
theorem dX3_feasible_0 : decode cX3_feasible 0 = .ok (.iconst 0, 1) := by decide +kernel
theorem dX3_feasible_1 : decode cX3_feasible 1 = .ok (.istore_n 1, 1) := by decide +kernel
theorem dX3_feasible_2 : decode cX3_feasible 2 = .ok (.iconst 2, 1) := by decide +kernel
theorem dX3_feasible_3 : decode cX3_feasible 3 = .ok (.istore_n 2, 1) := by decide +kernel
theorem dX3_feasible_4 : decode cX3_feasible 4 = .ok (.iload_n 2, 1) := by decide +kernel
theorem dX3_feasible_5 : decode cX3_feasible 5 = .ok (.iconst 4, 1) := by decide +kernel
theorem dX3_feasible_6 : decode cX3_feasible 6 = .ok (.if_icmp .gt 22, 3) := by decide +kernel
theorem dX3_feasible_9 : decode cX3_feasible 9 = .ok (.iload_n 1, 1) := by decide +kernel
theorem dX3_feasible_10 : decode cX3_feasible 10 = .ok (.aload_n 0, 1) := by decide +kernel
theorem dX3_feasible_11 : decode cX3_feasible 11 = .ok (.getfield 21, 3) := by decide +kernel
theorem dX3_feasible_14 : decode cX3_feasible 14 = .ok (.iload_n 2, 1) := by decide +kernel
theorem dX3_feasible_15 : decode cX3_feasible 15 = .ok (.iconst 4, 1) := by decide +kernel
theorem dX3_feasible_16 : decode cX3_feasible 16 = .ok (.imul, 1) := by decide +kernel
theorem dX3_feasible_17 : decode cX3_feasible 17 = .ok (.iconst 3, 1) := by decide +kernel
theorem dX3_feasible_18 : decode cX3_feasible 18 = .ok (.iadd, 1) := by decide +kernel
theorem dX3_feasible_19 : decode cX3_feasible 19 = .ok (.iaload, 1) := by decide +kernel
theorem dX3_feasible_20 : decode cX3_feasible 20 = .ok (.iadd, 1) := by decide +kernel
theorem dX3_feasible_21 : decode cX3_feasible 21 = .ok (.istore_n 1, 1) := by decide +kernel
theorem dX3_feasible_22 : decode cX3_feasible 22 = .ok (.iinc 2 1, 3) := by decide +kernel
theorem dX3_feasible_25 : decode cX3_feasible 25 = .ok (.goto (-21), 3) := by decide +kernel
theorem dX3_feasible_28 : decode cX3_feasible 28 = .ok (.iload_n 1, 1) := by decide +kernel
theorem dX3_feasible_29 : decode cX3_feasible 29 = .ok (.ireturn, 1) := by decide +kernel
theorem dX3_find_0 : decode cX3_find 0 = .ok (.aload_n 0, 1) := by decide +kernel
theorem dX3_find_1 : decode cX3_find 1 = .ok (.aload_n 1, 1) := by decide +kernel
theorem dX3_find_2 : decode cX3_find 2 = .ok (.invokevirtual 48, 3) := by decide +kernel
theorem dX3_find_5 : decode cX3_find 5 = .ok (.aload_n 0, 1) := by decide +kernel
theorem dX3_find_6 : decode cX3_find 6 = .ok (.getfield 21, 3) := by decide +kernel
theorem dX3_find_9 : decode cX3_find 9 = .ok (.iconst 0, 1) := by decide +kernel
theorem dX3_find_10 : decode cX3_find 10 = .ok (.invokestatic 52, 3) := by decide +kernel
theorem dX3_find_13 : decode cX3_find 13 = .ok (.aload_n 0, 1) := by decide +kernel
theorem dX3_find_14 : decode cX3_find 14 = .ok (.bipush (-9), 2) := by decide +kernel
theorem dX3_find_16 : decode cX3_find 16 = .ok (.putfield 27, 3) := by decide +kernel
theorem dX3_find_19 : decode cX3_find 19 = .ok (.iconst 0, 1) := by decide +kernel
theorem dX3_find_20 : decode cX3_find 20 = .ok (.istore_n 2, 1) := by decide +kernel
theorem dX3_find_21 : decode cX3_find 21 = .ok (.iload_n 2, 1) := by decide +kernel
theorem dX3_find_22 : decode cX3_find 22 = .ok (.aload_n 0, 1) := by decide +kernel
theorem dX3_find_23 : decode cX3_find 23 = .ok (.getfield 31, 3) := by decide +kernel
theorem dX3_find_26 : decode cX3_find 26 = .ok (.if_icmp .ge 42, 3) := by decide +kernel
theorem dX3_find_29 : decode cX3_find 29 = .ok (.aload_n 0, 1) := by decide +kernel
theorem dX3_find_30 : decode cX3_find 30 = .ok (.getfield 24, 3) := by decide +kernel
theorem dX3_find_33 : decode cX3_find 33 = .ok (.iconst 0, 1) := by decide +kernel
theorem dX3_find_34 : decode cX3_find 34 = .ok (.iload_n 2, 1) := by decide +kernel
theorem dX3_find_35 : decode cX3_find 35 = .ok (.iastore, 1) := by decide +kernel
theorem dX3_find_36 : decode cX3_find 36 = .ok (.aload_n 0, 1) := by decide +kernel
theorem dX3_find_37 : decode cX3_find 37 = .ok (.aload_n 1, 1) := by decide +kernel
theorem dX3_find_38 : decode cX3_find 38 = .ok (.iconst 1, 1) := by decide +kernel
theorem dX3_find_39 : decode cX3_find 39 = .ok (.iconst 1, 1) := by decide +kernel
theorem dX3_find_40 : decode cX3_find 40 = .ok (.aload_n 1, 1) := by decide +kernel
theorem dX3_find_41 : decode cX3_find 41 = .ok (.aload_n 0, 1) := by decide +kernel
theorem dX3_find_42 : decode cX3_find 42 = .ok (.getfield 11, 3) := by decide +kernel
theorem dX3_find_45 : decode cX3_find 45 = .ok (.iload_n 2, 1) := by decide +kernel
theorem dX3_find_46 : decode cX3_find 46 = .ok (.iaload, 1) := by decide +kernel
theorem dX3_find_47 : decode cX3_find 47 = .ok (.invokevirtual 58, 3) := by decide +kernel
theorem dX3_find_50 : decode cX3_find 50 = .ok (.ishl, 1) := by decide +kernel
theorem dX3_find_51 : decode cX3_find 51 = .ok (.iconst 1, 1) := by decide +kernel
theorem dX3_find_52 : decode cX3_find 52 = .ok (.aload_n 0, 1) := by decide +kernel
theorem dX3_find_53 : decode cX3_find 53 = .ok (.getfield 15, 3) := by decide +kernel
theorem dX3_find_56 : decode cX3_find 56 = .ok (.iload_n 2, 1) := by decide +kernel
theorem dX3_find_57 : decode cX3_find 57 = .ok (.iaload, 1) := by decide +kernel
theorem dX3_find_58 : decode cX3_find 58 = .ok (.ishl, 1) := by decide +kernel
theorem dX3_find_59 : decode cX3_find 59 = .ok (.invokestatic 61, 3) := by decide +kernel
theorem dX3_find_62 : decode cX3_find 62 = .ok (.iinc 2 1, 3) := by decide +kernel
theorem dX3_find_65 : decode cX3_find 65 = .ok (.goto (-44), 3) := by decide +kernel
theorem dX3_find_68 : decode cX3_find 68 = .ok (.return_, 1) := by decide +kernel
theorem dX3_grow_0 : decode cX3_grow 0 = .ok (.iload_n 2, 1) := by decide +kernel
theorem dX3_grow_1 : decode cX3_grow 1 = .ok (.iconst 1, 1) := by decide +kernel
theorem dX3_grow_2 : decode cX3_grow 2 = .ok (.if_icmp .lt 8, 3) := by decide +kernel
theorem dX3_grow_5 : decode cX3_grow 5 = .ok (.iload_n 2, 1) := by decide +kernel
theorem dX3_grow_6 : decode cX3_grow 6 = .ok (.iconst 4, 1) := by decide +kernel
theorem dX3_grow_7 : decode cX3_grow 7 = .ok (.if_icmp .lt 4, 3) := by decide +kernel
theorem dX3_grow_10 : decode cX3_grow 10 = .ok (.return_, 1) := by decide +kernel
theorem dX3_grow_11 : decode cX3_grow 11 = .ok (.aload_n 0, 1) := by decide +kernel
theorem dX3_grow_12 : decode cX3_grow 12 = .ok (.getfield 24, 3) := by decide +kernel
theorem dX3_grow_15 : decode cX3_grow 15 = .ok (.iconst 0, 1) := by decide +kernel
theorem dX3_grow_16 : decode cX3_grow 16 = .ok (.iaload, 1) := by decide +kernel
theorem dX3_grow_17 : decode cX3_grow 17 = .ok (.istore 5, 2) := by decide +kernel
theorem dX3_grow_19 : decode cX3_grow 19 = .ok (.iconst 0, 1) := by decide +kernel
theorem dX3_grow_20 : decode cX3_grow 20 = .ok (.istore 6, 2) := by decide +kernel
theorem dX3_grow_22 : decode cX3_grow 22 = .ok (.iload 6, 2) := by decide +kernel
theorem dX3_grow_24 : decode cX3_grow 24 = .ok (.aload_n 0, 1) := by decide +kernel
theorem dX3_grow_25 : decode cX3_grow 25 = .ok (.getfield 31, 3) := by decide +kernel
theorem dX3_grow_28 : decode cX3_grow 28 = .ok (.if_icmp .ge 148, 3) := by decide +kernel
theorem dX3_grow_31 : decode cX3_grow 31 = .ok (.iconst 1, 1) := by decide +kernel
theorem dX3_grow_32 : decode cX3_grow 32 = .ok (.aload_n 1, 1) := by decide +kernel
theorem dX3_grow_33 : decode cX3_grow 33 = .ok (.aload_n 0, 1) := by decide +kernel
theorem dX3_grow_34 : decode cX3_grow 34 = .ok (.getfield 11, 3) := by decide +kernel
theorem dX3_grow_37 : decode cX3_grow 37 = .ok (.iload 6, 2) := by decide +kernel
theorem dX3_grow_39 : decode cX3_grow 39 = .ok (.iaload, 1) := by decide +kernel
theorem dX3_grow_40 : decode cX3_grow 40 = .ok (.invokevirtual 58, 3) := by decide +kernel
theorem dX3_grow_43 : decode cX3_grow 43 = .ok (.ishl, 1) := by decide +kernel
theorem dX3_grow_44 : decode cX3_grow 44 = .ok (.istore 7, 2) := by decide +kernel
theorem dX3_grow_46 : decode cX3_grow 46 = .ok (.aload_n 0, 1) := by decide +kernel
theorem dX3_grow_47 : decode cX3_grow 47 = .ok (.getfield 11, 3) := by decide +kernel
theorem dX3_grow_50 : decode cX3_grow 50 = .ok (.iload 6, 2) := by decide +kernel
theorem dX3_grow_52 : decode cX3_grow 52 = .ok (.iaload, 1) := by decide +kernel
theorem dX3_grow_53 : decode cX3_grow 53 = .ok (.aload_n 0, 1) := by decide +kernel
theorem dX3_grow_54 : decode cX3_grow 54 = .ok (.getfield 11, 3) := by decide +kernel
theorem dX3_grow_57 : decode cX3_grow 57 = .ok (.iload 5, 2) := by decide +kernel
theorem dX3_grow_59 : decode cX3_grow 59 = .ok (.iaload, 1) := by decide +kernel
theorem dX3_grow_60 : decode cX3_grow 60 = .ok (.if_icmp .le 14, 3) := by decide +kernel
theorem dX3_grow_63 : decode cX3_grow 63 = .ok (.iload_n 3, 1) := by decide +kernel
theorem dX3_grow_64 : decode cX3_grow 64 = .ok (.iload 7, 2) := by decide +kernel
theorem dX3_grow_66 : decode cX3_grow 66 = .ok (.iand, 1) := by decide +kernel
theorem dX3_grow_67 : decode cX3_grow 67 = .ok (.ifCond .ne 7, 3) := by decide +kernel
theorem dX3_grow_70 : decode cX3_grow 70 = .ok (.iconst 1, 1) := by decide +kernel
theorem dX3_grow_71 : decode cX3_grow 71 = .ok (.goto 4, 3) := by decide +kernel
theorem dX3_grow_74 : decode cX3_grow 74 = .ok (.iconst 0, 1) := by decide +kernel
theorem dX3_grow_75 : decode cX3_grow 75 = .ok (.istore 8, 2) := by decide +kernel
theorem dX3_grow_77 : decode cX3_grow 77 = .ok (.iload 8, 2) := by decide +kernel
theorem dX3_grow_79 : decode cX3_grow 79 = .ok (.ifCond .eq 91, 3) := by decide +kernel
theorem dX3_grow_82 : decode cX3_grow 82 = .ok (.aload_n 0, 1) := by decide +kernel
theorem dX3_grow_83 : decode cX3_grow 83 = .ok (.aload_n 1, 1) := by decide +kernel
theorem dX3_grow_84 : decode cX3_grow 84 = .ok (.aload_n 0, 1) := by decide +kernel
theorem dX3_grow_85 : decode cX3_grow 85 = .ok (.getfield 24, 3) := by decide +kernel
theorem dX3_grow_88 : decode cX3_grow 88 = .ok (.iload_n 2, 1) := by decide +kernel
theorem dX3_grow_89 : decode cX3_grow 89 = .ok (.iconst 1, 1) := by decide +kernel
theorem dX3_grow_90 : decode cX3_grow 90 = .ok (.isub, 1) := by decide +kernel
theorem dX3_grow_91 : decode cX3_grow 91 = .ok (.iaload, 1) := by decide +kernel
theorem dX3_grow_92 : decode cX3_grow 92 = .ok (.iload 6, 2) := by decide +kernel
theorem dX3_grow_94 : decode cX3_grow 94 = .ok (.invokevirtual 65, 3) := by decide +kernel
theorem dX3_grow_97 : decode cX3_grow 97 = .ok (.ifCond .eq 73, 3) := by decide +kernel
theorem dX3_grow_100 : decode cX3_grow 100 = .ok (.aload_n 0, 1) := by decide +kernel
theorem dX3_grow_101 : decode cX3_grow 101 = .ok (.getfield 24, 3) := by decide +kernel
theorem dX3_grow_104 : decode cX3_grow 104 = .ok (.iload_n 2, 1) := by decide +kernel
theorem dX3_grow_105 : decode cX3_grow 105 = .ok (.iload 6, 2) := by decide +kernel
theorem dX3_grow_107 : decode cX3_grow 107 = .ok (.iastore, 1) := by decide +kernel
theorem dX3_grow_108 : decode cX3_grow 108 = .ok (.aload_n 0, 1) := by decide +kernel
theorem dX3_grow_109 : decode cX3_grow 109 = .ok (.aload_n 1, 1) := by decide +kernel
theorem dX3_grow_110 : decode cX3_grow 110 = .ok (.iload 6, 2) := by decide +kernel
theorem dX3_grow_112 : decode cX3_grow 112 = .ok (.iload 5, 2) := by decide +kernel
theorem dX3_grow_114 : decode cX3_grow 114 = .ok (.invokevirtual 65, 3) := by decide +kernel
theorem dX3_grow_117 : decode cX3_grow 117 = .ok (.ifCond .eq 14, 3) := by decide +kernel
theorem dX3_grow_120 : decode cX3_grow 120 = .ok (.aload_n 0, 1) := by decide +kernel
theorem dX3_grow_121 : decode cX3_grow 121 = .ok (.aload_n 1, 1) := by decide +kernel
theorem dX3_grow_122 : decode cX3_grow 122 = .ok (.iload_n 2, 1) := by decide +kernel
theorem dX3_grow_123 : decode cX3_grow 123 = .ok (.iconst 1, 1) := by decide +kernel
theorem dX3_grow_124 : decode cX3_grow 124 = .ok (.iadd, 1) := by decide +kernel
theorem dX3_grow_125 : decode cX3_grow 125 = .ok (.invokevirtual 69, 3) := by decide +kernel
theorem dX3_grow_128 : decode cX3_grow 128 = .ok (.goto 42, 3) := by decide +kernel
theorem dX3_grow_131 : decode cX3_grow 131 = .ok (.iload 4, 2) := by decide +kernel
theorem dX3_grow_133 : decode cX3_grow 133 = .ok (.aload_n 0, 1) := by decide +kernel
theorem dX3_grow_134 : decode cX3_grow 134 = .ok (.getfield 18, 3) := by decide +kernel
theorem dX3_grow_137 : decode cX3_grow 137 = .ok (.iload 6, 2) := by decide +kernel
theorem dX3_grow_139 : decode cX3_grow 139 = .ok (.iaload, 1) := by decide +kernel
theorem dX3_grow_140 : decode cX3_grow 140 = .ok (.ishr, 1) := by decide +kernel
theorem dX3_grow_141 : decode cX3_grow 141 = .ok (.iconst 1, 1) := by decide +kernel
theorem dX3_grow_142 : decode cX3_grow 142 = .ok (.iand, 1) := by decide +kernel
theorem dX3_grow_143 : decode cX3_grow 143 = .ok (.ifCond .ne 27, 3) := by decide +kernel
theorem dX3_grow_146 : decode cX3_grow 146 = .ok (.aload_n 0, 1) := by decide +kernel
theorem dX3_grow_147 : decode cX3_grow 147 = .ok (.aload_n 1, 1) := by decide +kernel
theorem dX3_grow_148 : decode cX3_grow 148 = .ok (.iload_n 2, 1) := by decide +kernel
theorem dX3_grow_149 : decode cX3_grow 149 = .ok (.iconst 1, 1) := by decide +kernel
theorem dX3_grow_150 : decode cX3_grow 150 = .ok (.iadd, 1) := by decide +kernel
theorem dX3_grow_151 : decode cX3_grow 151 = .ok (.iload_n 3, 1) := by decide +kernel
theorem dX3_grow_152 : decode cX3_grow 152 = .ok (.iload 7, 2) := by decide +kernel
theorem dX3_grow_154 : decode cX3_grow 154 = .ok (.ior, 1) := by decide +kernel
theorem dX3_grow_155 : decode cX3_grow 155 = .ok (.iload 4, 2) := by decide +kernel
theorem dX3_grow_157 : decode cX3_grow 157 = .ok (.iconst 1, 1) := by decide +kernel
theorem dX3_grow_158 : decode cX3_grow 158 = .ok (.aload_n 0, 1) := by decide +kernel
theorem dX3_grow_159 : decode cX3_grow 159 = .ok (.getfield 15, 3) := by decide +kernel
theorem dX3_grow_162 : decode cX3_grow 162 = .ok (.iload 6, 2) := by decide +kernel
theorem dX3_grow_164 : decode cX3_grow 164 = .ok (.iaload, 1) := by decide +kernel
theorem dX3_grow_165 : decode cX3_grow 165 = .ok (.ishl, 1) := by decide +kernel
theorem dX3_grow_166 : decode cX3_grow 166 = .ok (.ior, 1) := by decide +kernel
theorem dX3_grow_167 : decode cX3_grow 167 = .ok (.invokestatic 61, 3) := by decide +kernel
theorem dX3_grow_170 : decode cX3_grow 170 = .ok (.iinc 6 1, 3) := by decide +kernel
theorem dX3_grow_173 : decode cX3_grow 173 = .ok (.goto (-151), 3) := by decide +kernel
theorem dX3_grow_176 : decode cX3_grow 176 = .ok (.return_, 1) := by decide +kernel
theorem dX3_links_0 : decode cX3_links 0 = .ok (.aload_n 0, 1) := by decide +kernel
theorem dX3_links_1 : decode cX3_links 1 = .ok (.getfield 18, 3) := by decide +kernel
theorem dX3_links_4 : decode cX3_links 4 = .ok (.iload_n 2, 1) := by decide +kernel
theorem dX3_links_5 : decode cX3_links 5 = .ok (.iaload, 1) := by decide +kernel
theorem dX3_links_6 : decode cX3_links 6 = .ok (.aload_n 0, 1) := by decide +kernel
theorem dX3_links_7 : decode cX3_links 7 = .ok (.getfield 15, 3) := by decide +kernel
theorem dX3_links_10 : decode cX3_links 10 = .ok (.iload_n 3, 1) := by decide +kernel
theorem dX3_links_11 : decode cX3_links 11 = .ok (.iaload, 1) := by decide +kernel
theorem dX3_links_12 : decode cX3_links 12 = .ok (.if_icmp .eq 5, 3) := by decide +kernel
theorem dX3_links_15 : decode cX3_links 15 = .ok (.iconst 0, 1) := by decide +kernel
theorem dX3_links_16 : decode cX3_links 16 = .ok (.ireturn, 1) := by decide +kernel
theorem dX3_links_17 : decode cX3_links 17 = .ok (.aload_n 1, 1) := by decide +kernel
theorem dX3_links_18 : decode cX3_links 18 = .ok (.aload_n 0, 1) := by decide +kernel
theorem dX3_links_19 : decode cX3_links 19 = .ok (.getfield 11, 3) := by decide +kernel
theorem dX3_links_22 : decode cX3_links 22 = .ok (.iload_n 2, 1) := by decide +kernel
theorem dX3_links_23 : decode cX3_links 23 = .ok (.iaload, 1) := by decide +kernel
theorem dX3_links_24 : decode cX3_links 24 = .ok (.invokevirtual 73, 3) := by decide +kernel
theorem dX3_links_27 : decode cX3_links 27 = .ok (.bipush 115, 2) := by decide +kernel
theorem dX3_links_29 : decode cX3_links 29 = .ok (.if_icmp .ne 7, 3) := by decide +kernel
theorem dX3_links_32 : decode cX3_links 32 = .ok (.iconst 1, 1) := by decide +kernel
theorem dX3_links_33 : decode cX3_links 33 = .ok (.goto 4, 3) := by decide +kernel
theorem dX3_links_36 : decode cX3_links 36 = .ok (.iconst 0, 1) := by decide +kernel
theorem dX3_links_37 : decode cX3_links 37 = .ok (.istore 4, 2) := by decide +kernel
theorem dX3_links_39 : decode cX3_links 39 = .ok (.aload_n 1, 1) := by decide +kernel
theorem dX3_links_40 : decode cX3_links 40 = .ok (.getfield 76, 3) := by decide +kernel
theorem dX3_links_43 : decode cX3_links 43 = .ok (.aload_n 0, 1) := by decide +kernel
theorem dX3_links_44 : decode cX3_links 44 = .ok (.getfield 11, 3) := by decide +kernel
theorem dX3_links_47 : decode cX3_links 47 = .ok (.iload_n 3, 1) := by decide +kernel
theorem dX3_links_48 : decode cX3_links 48 = .ok (.iaload, 1) := by decide +kernel
theorem dX3_links_49 : decode cX3_links 49 = .ok (.iaload, 1) := by decide +kernel
theorem dX3_links_50 : decode cX3_links 50 = .ok (.aload_n 0, 1) := by decide +kernel
theorem dX3_links_51 : decode cX3_links 51 = .ok (.getfield 15, 3) := by decide +kernel
theorem dX3_links_54 : decode cX3_links 54 = .ok (.iload_n 3, 1) := by decide +kernel
theorem dX3_links_55 : decode cX3_links 55 = .ok (.iaload, 1) := by decide +kernel
theorem dX3_links_56 : decode cX3_links 56 = .ok (.ishr, 1) := by decide +kernel
theorem dX3_links_57 : decode cX3_links 57 = .ok (.iconst 1, 1) := by decide +kernel
theorem dX3_links_58 : decode cX3_links 58 = .ok (.iand, 1) := by decide +kernel
theorem dX3_links_59 : decode cX3_links 59 = .ok (.iconst 1, 1) := by decide +kernel
theorem dX3_links_60 : decode cX3_links 60 = .ok (.if_icmp .ne 7, 3) := by decide +kernel
theorem dX3_links_63 : decode cX3_links 63 = .ok (.iconst 1, 1) := by decide +kernel
theorem dX3_links_64 : decode cX3_links 64 = .ok (.goto 4, 3) := by decide +kernel
theorem dX3_links_67 : decode cX3_links 67 = .ok (.iconst 0, 1) := by decide +kernel
theorem dX3_links_68 : decode cX3_links 68 = .ok (.istore 5, 2) := by decide +kernel
theorem dX3_links_70 : decode cX3_links 70 = .ok (.iload 4, 2) := by decide +kernel
theorem dX3_links_72 : decode cX3_links 72 = .ok (.ifCond .eq 8, 3) := by decide +kernel
theorem dX3_links_75 : decode cX3_links 75 = .ok (.iload 5, 2) := by decide +kernel
theorem dX3_links_77 : decode cX3_links 77 = .ok (.ifCond .ne 7, 3) := by decide +kernel
theorem dX3_links_80 : decode cX3_links 80 = .ok (.iconst 1, 1) := by decide +kernel
theorem dX3_links_81 : decode cX3_links 81 = .ok (.goto 4, 3) := by decide +kernel
theorem dX3_links_84 : decode cX3_links 84 = .ok (.iconst 0, 1) := by decide +kernel
theorem dX3_links_85 : decode cX3_links 85 = .ok (.ireturn, 1) := by decide +kernel
theorem dX3_tallyRing_0 : decode cX3_tallyRing 0 = .ok (.iconst 0, 1) := by decide +kernel
theorem dX3_tallyRing_1 : decode cX3_tallyRing 1 = .ok (.istore_n 3, 1) := by decide +kernel
theorem dX3_tallyRing_2 : decode cX3_tallyRing 2 = .ok (.iconst 0, 1) := by decide +kernel
theorem dX3_tallyRing_3 : decode cX3_tallyRing 3 = .ok (.istore 4, 2) := by decide +kernel
theorem dX3_tallyRing_5 : decode cX3_tallyRing 5 = .ok (.iconst 0, 1) := by decide +kernel
theorem dX3_tallyRing_6 : decode cX3_tallyRing 6 = .ok (.istore 5, 2) := by decide +kernel
theorem dX3_tallyRing_8 : decode cX3_tallyRing 8 = .ok (.iconst 0, 1) := by decide +kernel
theorem dX3_tallyRing_9 : decode cX3_tallyRing 9 = .ok (.istore 6, 2) := by decide +kernel
theorem dX3_tallyRing_11 : decode cX3_tallyRing 11 = .ok (.iload 6, 2) := by decide +kernel
theorem dX3_tallyRing_13 : decode cX3_tallyRing 13 = .ok (.iload_n 2, 1) := by decide +kernel
theorem dX3_tallyRing_14 : decode cX3_tallyRing 14 = .ok (.if_icmp .ge 121, 3) := by decide +kernel
theorem dX3_tallyRing_17 : decode cX3_tallyRing 17 = .ok (.aload_n 0, 1) := by decide +kernel
theorem dX3_tallyRing_18 : decode cX3_tallyRing 18 = .ok (.getfield 11, 3) := by decide +kernel
theorem dX3_tallyRing_21 : decode cX3_tallyRing 21 = .ok (.aload_n 0, 1) := by decide +kernel
theorem dX3_tallyRing_22 : decode cX3_tallyRing 22 = .ok (.getfield 24, 3) := by decide +kernel
theorem dX3_tallyRing_25 : decode cX3_tallyRing 25 = .ok (.iload 6, 2) := by decide +kernel
theorem dX3_tallyRing_27 : decode cX3_tallyRing 27 = .ok (.iaload, 1) := by decide +kernel
theorem dX3_tallyRing_28 : decode cX3_tallyRing 28 = .ok (.iaload, 1) := by decide +kernel
theorem dX3_tallyRing_29 : decode cX3_tallyRing 29 = .ok (.istore 7, 2) := by decide +kernel
theorem dX3_tallyRing_31 : decode cX3_tallyRing 31 = .ok (.iload 5, 2) := by decide +kernel
theorem dX3_tallyRing_33 : decode cX3_tallyRing 33 = .ok (.bipush 100, 2) := by decide +kernel
theorem dX3_tallyRing_35 : decode cX3_tallyRing 35 = .ok (.imul, 1) := by decide +kernel
theorem dX3_tallyRing_36 : decode cX3_tallyRing 36 = .ok (.iload 7, 2) := by decide +kernel
theorem dX3_tallyRing_38 : decode cX3_tallyRing 38 = .ok (.iadd, 1) := by decide +kernel
theorem dX3_tallyRing_39 : decode cX3_tallyRing 39 = .ok (.iconst 1, 1) := by decide +kernel
theorem dX3_tallyRing_40 : decode cX3_tallyRing 40 = .ok (.iadd, 1) := by decide +kernel
theorem dX3_tallyRing_41 : decode cX3_tallyRing 41 = .ok (.istore 5, 2) := by decide +kernel
theorem dX3_tallyRing_43 : decode cX3_tallyRing 43 = .ok (.iconst 0, 1) := by decide +kernel
theorem dX3_tallyRing_44 : decode cX3_tallyRing 44 = .ok (.istore 8, 2) := by decide +kernel
theorem dX3_tallyRing_46 : decode cX3_tallyRing 46 = .ok (.iload 8, 2) := by decide +kernel
theorem dX3_tallyRing_48 : decode cX3_tallyRing 48 = .ok (.iload_n 2, 1) := by decide +kernel
theorem dX3_tallyRing_49 : decode cX3_tallyRing 49 = .ok (.if_icmp .ge 80, 3) := by decide +kernel
theorem dX3_tallyRing_52 : decode cX3_tallyRing 52 = .ok (.aload_n 0, 1) := by decide +kernel
theorem dX3_tallyRing_53 : decode cX3_tallyRing 53 = .ok (.getfield 11, 3) := by decide +kernel
theorem dX3_tallyRing_56 : decode cX3_tallyRing 56 = .ok (.aload_n 0, 1) := by decide +kernel
theorem dX3_tallyRing_57 : decode cX3_tallyRing 57 = .ok (.getfield 24, 3) := by decide +kernel
theorem dX3_tallyRing_60 : decode cX3_tallyRing 60 = .ok (.iload 8, 2) := by decide +kernel
theorem dX3_tallyRing_62 : decode cX3_tallyRing 62 = .ok (.iaload, 1) := by decide +kernel
theorem dX3_tallyRing_63 : decode cX3_tallyRing 63 = .ok (.iaload, 1) := by decide +kernel
theorem dX3_tallyRing_64 : decode cX3_tallyRing 64 = .ok (.istore 9, 2) := by decide +kernel
theorem dX3_tallyRing_66 : decode cX3_tallyRing 66 = .ok (.iload_n 3, 1) := by decide +kernel
theorem dX3_tallyRing_67 : decode cX3_tallyRing 67 = .ok (.ifCond .ne 27, 3) := by decide +kernel
theorem dX3_tallyRing_70 : decode cX3_tallyRing 70 = .ok (.iload 6, 2) := by decide +kernel
theorem dX3_tallyRing_72 : decode cX3_tallyRing 72 = .ok (.iload 8, 2) := by decide +kernel
theorem dX3_tallyRing_74 : decode cX3_tallyRing 74 = .ok (.if_icmp .eq 24, 3) := by decide +kernel
theorem dX3_tallyRing_77 : decode cX3_tallyRing 77 = .ok (.aload_n 1, 1) := by decide +kernel
theorem dX3_tallyRing_78 : decode cX3_tallyRing 78 = .ok (.getfield 79, 3) := by decide +kernel
theorem dX3_tallyRing_81 : decode cX3_tallyRing 81 = .ok (.iload 7, 2) := by decide +kernel
theorem dX3_tallyRing_83 : decode cX3_tallyRing 83 = .ok (.iaload, 1) := by decide +kernel
theorem dX3_tallyRing_84 : decode cX3_tallyRing 84 = .ok (.aload_n 1, 1) := by decide +kernel
theorem dX3_tallyRing_85 : decode cX3_tallyRing 85 = .ok (.iload 9, 2) := by decide +kernel
theorem dX3_tallyRing_87 : decode cX3_tallyRing 87 = .ok (.invokevirtual 41, 3) := by decide +kernel
theorem dX3_tallyRing_90 : decode cX3_tallyRing 90 = .ok (.iand, 1) := by decide +kernel
theorem dX3_tallyRing_91 : decode cX3_tallyRing 91 = .ok (.ifCond .eq 7, 3) := by decide +kernel
theorem dX3_tallyRing_94 : decode cX3_tallyRing 94 = .ok (.iconst 1, 1) := by decide +kernel
theorem dX3_tallyRing_95 : decode cX3_tallyRing 95 = .ok (.goto 4, 3) := by decide +kernel
theorem dX3_tallyRing_98 : decode cX3_tallyRing 98 = .ok (.iconst 0, 1) := by decide +kernel
theorem dX3_tallyRing_99 : decode cX3_tallyRing 99 = .ok (.istore_n 3, 1) := by decide +kernel
theorem dX3_tallyRing_100 : decode cX3_tallyRing 100 = .ok (.iload 4, 2) := by decide +kernel
theorem dX3_tallyRing_102 : decode cX3_tallyRing 102 = .ok (.ifCond .ne 14, 3) := by decide +kernel
theorem dX3_tallyRing_105 : decode cX3_tallyRing 105 = .ok (.aload_n 1, 1) := by decide +kernel
theorem dX3_tallyRing_106 : decode cX3_tallyRing 106 = .ok (.iload 7, 2) := by decide +kernel
theorem dX3_tallyRing_108 : decode cX3_tallyRing 108 = .ok (.iload 9, 2) := by decide +kernel
theorem dX3_tallyRing_110 : decode cX3_tallyRing 110 = .ok (.invokevirtual 82, 3) := by decide +kernel
theorem dX3_tallyRing_113 : decode cX3_tallyRing 113 = .ok (.ifCond .eq 7, 3) := by decide +kernel
theorem dX3_tallyRing_116 : decode cX3_tallyRing 116 = .ok (.iconst 1, 1) := by decide +kernel
theorem dX3_tallyRing_117 : decode cX3_tallyRing 117 = .ok (.goto 4, 3) := by decide +kernel
theorem dX3_tallyRing_120 : decode cX3_tallyRing 120 = .ok (.iconst 0, 1) := by decide +kernel
theorem dX3_tallyRing_121 : decode cX3_tallyRing 121 = .ok (.istore 4, 2) := by decide +kernel
theorem dX3_tallyRing_123 : decode cX3_tallyRing 123 = .ok (.iinc 8 1, 3) := by decide +kernel
theorem dX3_tallyRing_126 : decode cX3_tallyRing 126 = .ok (.goto (-80), 3) := by decide +kernel
theorem dX3_tallyRing_129 : decode cX3_tallyRing 129 = .ok (.iinc 6 1, 3) := by decide +kernel
theorem dX3_tallyRing_132 : decode cX3_tallyRing 132 = .ok (.goto (-121), 3) := by decide +kernel
theorem dX3_tallyRing_135 : decode cX3_tallyRing 135 = .ok (.iload_n 2, 1) := by decide +kernel
theorem dX3_tallyRing_136 : decode cX3_tallyRing 136 = .ok (.iconst 4, 1) := by decide +kernel
theorem dX3_tallyRing_137 : decode cX3_tallyRing 137 = .ok (.imul, 1) := by decide +kernel
theorem dX3_tallyRing_138 : decode cX3_tallyRing 138 = .ok (.istore 6, 2) := by decide +kernel
theorem dX3_tallyRing_140 : decode cX3_tallyRing 140 = .ok (.aload_n 0, 1) := by decide +kernel
theorem dX3_tallyRing_141 : decode cX3_tallyRing 141 = .ok (.getfield 21, 3) := by decide +kernel
theorem dX3_tallyRing_144 : decode cX3_tallyRing 144 = .ok (.iload 6, 2) := by decide +kernel
theorem dX3_tallyRing_146 : decode cX3_tallyRing 146 = .ok (.dup2, 1) := by decide +kernel
theorem dX3_tallyRing_147 : decode cX3_tallyRing 147 = .ok (.iaload, 1) := by decide +kernel
theorem dX3_tallyRing_148 : decode cX3_tallyRing 148 = .ok (.iconst 1, 1) := by decide +kernel
theorem dX3_tallyRing_149 : decode cX3_tallyRing 149 = .ok (.iadd, 1) := by decide +kernel
theorem dX3_tallyRing_150 : decode cX3_tallyRing 150 = .ok (.iastore, 1) := by decide +kernel
theorem dX3_tallyRing_151 : decode cX3_tallyRing 151 = .ok (.aload_n 0, 1) := by decide +kernel
theorem dX3_tallyRing_152 : decode cX3_tallyRing 152 = .ok (.getfield 21, 3) := by decide +kernel
theorem dX3_tallyRing_155 : decode cX3_tallyRing 155 = .ok (.iload 6, 2) := by decide +kernel
theorem dX3_tallyRing_157 : decode cX3_tallyRing 157 = .ok (.iconst 1, 1) := by decide +kernel
theorem dX3_tallyRing_158 : decode cX3_tallyRing 158 = .ok (.iadd, 1) := by decide +kernel
theorem dX3_tallyRing_159 : decode cX3_tallyRing 159 = .ok (.dup2, 1) := by decide +kernel
theorem dX3_tallyRing_160 : decode cX3_tallyRing 160 = .ok (.iaload, 1) := by decide +kernel
theorem dX3_tallyRing_161 : decode cX3_tallyRing 161 = .ok (.iload_n 3, 1) := by decide +kernel
theorem dX3_tallyRing_162 : decode cX3_tallyRing 162 = .ok (.ifCond .eq 7, 3) := by decide +kernel
theorem dX3_tallyRing_165 : decode cX3_tallyRing 165 = .ok (.iconst 1, 1) := by decide +kernel
theorem dX3_tallyRing_166 : decode cX3_tallyRing 166 = .ok (.goto 4, 3) := by decide +kernel
theorem dX3_tallyRing_169 : decode cX3_tallyRing 169 = .ok (.iconst 0, 1) := by decide +kernel
theorem dX3_tallyRing_170 : decode cX3_tallyRing 170 = .ok (.iadd, 1) := by decide +kernel
theorem dX3_tallyRing_171 : decode cX3_tallyRing 171 = .ok (.iastore, 1) := by decide +kernel
theorem dX3_tallyRing_172 : decode cX3_tallyRing 172 = .ok (.aload_n 0, 1) := by decide +kernel
theorem dX3_tallyRing_173 : decode cX3_tallyRing 173 = .ok (.getfield 21, 3) := by decide +kernel
theorem dX3_tallyRing_176 : decode cX3_tallyRing 176 = .ok (.iload 6, 2) := by decide +kernel
theorem dX3_tallyRing_178 : decode cX3_tallyRing 178 = .ok (.iconst 2, 1) := by decide +kernel
theorem dX3_tallyRing_179 : decode cX3_tallyRing 179 = .ok (.iadd, 1) := by decide +kernel
theorem dX3_tallyRing_180 : decode cX3_tallyRing 180 = .ok (.dup2, 1) := by decide +kernel
theorem dX3_tallyRing_181 : decode cX3_tallyRing 181 = .ok (.iaload, 1) := by decide +kernel
theorem dX3_tallyRing_182 : decode cX3_tallyRing 182 = .ok (.iload 4, 2) := by decide +kernel
theorem dX3_tallyRing_184 : decode cX3_tallyRing 184 = .ok (.ifCond .eq 7, 3) := by decide +kernel
theorem dX3_tallyRing_187 : decode cX3_tallyRing 187 = .ok (.iconst 1, 1) := by decide +kernel
theorem dX3_tallyRing_188 : decode cX3_tallyRing 188 = .ok (.goto 4, 3) := by decide +kernel
theorem dX3_tallyRing_191 : decode cX3_tallyRing 191 = .ok (.iconst 0, 1) := by decide +kernel
theorem dX3_tallyRing_192 : decode cX3_tallyRing 192 = .ok (.iadd, 1) := by decide +kernel
theorem dX3_tallyRing_193 : decode cX3_tallyRing 193 = .ok (.iastore, 1) := by decide +kernel
theorem dX3_tallyRing_194 : decode cX3_tallyRing 194 = .ok (.iload_n 3, 1) := by decide +kernel
theorem dX3_tallyRing_195 : decode cX3_tallyRing 195 = .ok (.ifCond .ne 48, 3) := by decide +kernel
theorem dX3_tallyRing_198 : decode cX3_tallyRing 198 = .ok (.iload 4, 2) := by decide +kernel
theorem dX3_tallyRing_200 : decode cX3_tallyRing 200 = .ok (.ifCond .ne 43, 3) := by decide +kernel
theorem dX3_tallyRing_203 : decode cX3_tallyRing 203 = .ok (.aload_n 0, 1) := by decide +kernel
theorem dX3_tallyRing_204 : decode cX3_tallyRing 204 = .ok (.getfield 21, 3) := by decide +kernel
theorem dX3_tallyRing_207 : decode cX3_tallyRing 207 = .ok (.iload 6, 2) := by decide +kernel
theorem dX3_tallyRing_209 : decode cX3_tallyRing 209 = .ok (.iconst 3, 1) := by decide +kernel
theorem dX3_tallyRing_210 : decode cX3_tallyRing 210 = .ok (.iadd, 1) := by decide +kernel
theorem dX3_tallyRing_211 : decode cX3_tallyRing 211 = .ok (.dup2, 1) := by decide +kernel
theorem dX3_tallyRing_212 : decode cX3_tallyRing 212 = .ok (.iaload, 1) := by decide +kernel
theorem dX3_tallyRing_213 : decode cX3_tallyRing 213 = .ok (.iconst 1, 1) := by decide +kernel
theorem dX3_tallyRing_214 : decode cX3_tallyRing 214 = .ok (.iadd, 1) := by decide +kernel
theorem dX3_tallyRing_215 : decode cX3_tallyRing 215 = .ok (.iastore, 1) := by decide +kernel
theorem dX3_tallyRing_216 : decode cX3_tallyRing 216 = .ok (.aload_n 0, 1) := by decide +kernel
theorem dX3_tallyRing_217 : decode cX3_tallyRing 217 = .ok (.aload_n 0, 1) := by decide +kernel
theorem dX3_tallyRing_218 : decode cX3_tallyRing 218 = .ok (.getfield 27, 3) := by decide +kernel
theorem dX3_tallyRing_221 : decode cX3_tallyRing 221 = .ok (.bipush (-9), 2) := by decide +kernel
theorem dX3_tallyRing_223 : decode cX3_tallyRing 223 = .ok (.if_icmp .ne 8, 3) := by decide +kernel
theorem dX3_tallyRing_226 : decode cX3_tallyRing 226 = .ok (.iload 5, 2) := by decide +kernel
theorem dX3_tallyRing_228 : decode cX3_tallyRing 228 = .ok (.goto 12, 3) := by decide +kernel
theorem dX3_tallyRing_231 : decode cX3_tallyRing 231 = .ok (.aload_n 0, 1) := by decide +kernel
theorem dX3_tallyRing_232 : decode cX3_tallyRing 232 = .ok (.getfield 27, 3) := by decide +kernel
theorem dX3_tallyRing_235 : decode cX3_tallyRing 235 = .ok (.iload 5, 2) := by decide +kernel
theorem dX3_tallyRing_237 : decode cX3_tallyRing 237 = .ok (.invokestatic 86, 3) := by decide +kernel
theorem dX3_tallyRing_240 : decode cX3_tallyRing 240 = .ok (.putfield 27, 3) := by decide +kernel
theorem dX3_tallyRing_243 : decode cX3_tallyRing 243 = .ok (.return_, 1) := by decide +kernel
theorem dX4_init_0 : decode cX4_init 0 = .ok (.aload_n 0, 1) := by decide +kernel
theorem dX4_init_1 : decode cX4_init 1 = .ok (.invokespecial 3, 3) := by decide +kernel
theorem dX4_init_4 : decode cX4_init 4 = .ok (.aload_n 0, 1) := by decide +kernel
theorem dX4_init_5 : decode cX4_init 5 = .ok (.bipush 20, 2) := by decide +kernel
theorem dX4_init_7 : decode cX4_init 7 = .ok (.newarray .int, 2) := by decide +kernel
theorem dX4_init_9 : decode cX4_init 9 = .ok (.putfield 9, 3) := by decide +kernel
theorem dX4_init_12 : decode cX4_init 12 = .ok (.aload_n 0, 1) := by decide +kernel
theorem dX4_init_13 : decode cX4_init 13 = .ok (.bipush 20, 2) := by decide +kernel
theorem dX4_init_15 : decode cX4_init 15 = .ok (.newarray .int, 2) := by decide +kernel
theorem dX4_init_17 : decode cX4_init 17 = .ok (.putfield 15, 3) := by decide +kernel
theorem dX4_init_20 : decode cX4_init 20 = .ok (.aload_n 0, 1) := by decide +kernel
theorem dX4_init_21 : decode cX4_init 21 = .ok (.bipush 20, 2) := by decide +kernel
theorem dX4_init_23 : decode cX4_init 23 = .ok (.newarray .int, 2) := by decide +kernel
theorem dX4_init_25 : decode cX4_init 25 = .ok (.putfield 18, 3) := by decide +kernel
theorem dX4_init_28 : decode cX4_init 28 = .ok (.aload_n 0, 1) := by decide +kernel
theorem dX4_init_29 : decode cX4_init 29 = .ok (.bipush 20, 2) := by decide +kernel
theorem dX4_init_31 : decode cX4_init 31 = .ok (.newarray .int, 2) := by decide +kernel
theorem dX4_init_33 : decode cX4_init 33 = .ok (.putfield 21, 3) := by decide +kernel
theorem dX4_init_36 : decode cX4_init 36 = .ok (.aload_n 0, 1) := by decide +kernel
theorem dX4_init_37 : decode cX4_init 37 = .ok (.bipush 20, 2) := by decide +kernel
theorem dX4_init_39 : decode cX4_init 39 = .ok (.newarray .int, 2) := by decide +kernel
theorem dX4_init_41 : decode cX4_init 41 = .ok (.putfield 24, 3) := by decide +kernel
theorem dX4_init_44 : decode cX4_init 44 = .ok (.aload_n 0, 1) := by decide +kernel
theorem dX4_init_45 : decode cX4_init 45 = .ok (.iconst 4, 1) := by decide +kernel
theorem dX4_init_46 : decode cX4_init 46 = .ok (.newarray .int, 2) := by decide +kernel
theorem dX4_init_48 : decode cX4_init 48 = .ok (.putfield 27, 3) := by decide +kernel
theorem dX4_init_51 : decode cX4_init 51 = .ok (.aload_n 0, 1) := by decide +kernel
theorem dX4_init_52 : decode cX4_init 52 = .ok (.new 30, 3) := by decide +kernel
theorem dX4_init_55 : decode cX4_init 55 = .ok (.dup, 1) := by decide +kernel
theorem dX4_init_56 : decode cX4_init 56 = .ok (.invokespecial 32, 3) := by decide +kernel
theorem dX4_init_59 : decode cX4_init 59 = .ok (.putfield 33, 3) := by decide +kernel
theorem dX4_init_62 : decode cX4_init 62 = .ok (.aload_n 0, 1) := by decide +kernel
theorem dX4_init_63 : decode cX4_init 63 = .ok (.invokevirtual 37, 3) := by decide +kernel
theorem dX4_init_66 : decode cX4_init 66 = .ok (.return_, 1) := by decide +kernel
theorem dX4_begin_0 : decode cX4_begin 0 = .ok (.aload_n 0, 1) := by decide +kernel
theorem dX4_begin_1 : decode cX4_begin 1 = .ok (.iconst 0, 1) := by decide +kernel
theorem dX4_begin_2 : decode cX4_begin 2 = .ok (.putfield 40, 3) := by decide +kernel
theorem dX4_begin_5 : decode cX4_begin 5 = .ok (.aload_n 0, 1) := by decide +kernel
theorem dX4_begin_6 : decode cX4_begin 6 = .ok (.iconst 0, 1) := by decide +kernel
theorem dX4_begin_7 : decode cX4_begin 7 = .ok (.putfield 44, 3) := by decide +kernel
theorem dX4_begin_10 : decode cX4_begin 10 = .ok (.aload_n 0, 1) := by decide +kernel
theorem dX4_begin_11 : decode cX4_begin 11 = .ok (.getfield 27, 3) := by decide +kernel
theorem dX4_begin_14 : decode cX4_begin 14 = .ok (.iconst 0, 1) := by decide +kernel
theorem dX4_begin_15 : decode cX4_begin 15 = .ok (.invokestatic 47, 3) := by decide +kernel
theorem dX4_begin_18 : decode cX4_begin 18 = .ok (.aload_n 0, 1) := by decide +kernel
theorem dX4_begin_19 : decode cX4_begin 19 = .ok (.getfield 33, 3) := by decide +kernel
theorem dX4_begin_22 : decode cX4_begin 22 = .ok (.invokevirtual 53, 3) := by decide +kernel
theorem dX4_begin_25 : decode cX4_begin 25 = .ok (.return_, 1) := by decide +kernel
theorem dX4_pack_0 : decode cX4_pack 0 = .ok (.iload_n 1, 1) := by decide +kernel
theorem dX4_pack_1 : decode cX4_pack 1 = .ok (.iconst 4, 1) := by decide +kernel
theorem dX4_pack_2 : decode cX4_pack 2 = .ok (.ishl, 1) := by decide +kernel
theorem dX4_pack_3 : decode cX4_pack 3 = .ok (.iload_n 0, 1) := by decide +kernel
theorem dX4_pack_4 : decode cX4_pack 4 = .ok (.iconst 3, 1) := by decide +kernel
theorem dX4_pack_5 : decode cX4_pack 5 = .ok (.iand, 1) := by decide +kernel
theorem dX4_pack_6 : decode cX4_pack 6 = .ok (.iconst 2, 1) := by decide +kernel
theorem dX4_pack_7 : decode cX4_pack 7 = .ok (.ishl, 1) := by decide +kernel
theorem dX4_pack_8 : decode cX4_pack 8 = .ok (.ior, 1) := by decide +kernel
theorem dX4_pack_9 : decode cX4_pack 9 = .ok (.iload_n 2, 1) := by decide +kernel
theorem dX4_pack_10 : decode cX4_pack 10 = .ok (.iconst 3, 1) := by decide +kernel
theorem dX4_pack_11 : decode cX4_pack 11 = .ok (.iand, 1) := by decide +kernel
theorem dX4_pack_12 : decode cX4_pack 12 = .ok (.ior, 1) := by decide +kernel
theorem dX4_pack_13 : decode cX4_pack 13 = .ok (.ireturn, 1) := by decide +kernel
theorem dX4_put_0 : decode cX4_put 0 = .ok (.iload_n 1, 1) := by decide +kernel
theorem dX4_put_1 : decode cX4_put 1 = .ok (.iconst 2, 1) := by decide +kernel
theorem dX4_put_2 : decode cX4_put 2 = .ok (.ishr, 1) := by decide +kernel
theorem dX4_put_3 : decode cX4_put 3 = .ok (.iconst 3, 1) := by decide +kernel
theorem dX4_put_4 : decode cX4_put 4 = .ok (.iand, 1) := by decide +kernel
theorem dX4_put_5 : decode cX4_put 5 = .ok (.istore_n 2, 1) := by decide +kernel
theorem dX4_put_6 : decode cX4_put 6 = .ok (.iload_n 1, 1) := by decide +kernel
theorem dX4_put_7 : decode cX4_put 7 = .ok (.iconst 4, 1) := by decide +kernel
theorem dX4_put_8 : decode cX4_put 8 = .ok (.ishr, 1) := by decide +kernel
theorem dX4_put_9 : decode cX4_put 9 = .ok (.istore_n 3, 1) := by decide +kernel
theorem dX4_put_10 : decode cX4_put 10 = .ok (.iload_n 1, 1) := by decide +kernel
theorem dX4_put_11 : decode cX4_put 11 = .ok (.iconst 3, 1) := by decide +kernel
theorem dX4_put_12 : decode cX4_put 12 = .ok (.iand, 1) := by decide +kernel
theorem dX4_put_13 : decode cX4_put 13 = .ok (.istore 4, 2) := by decide +kernel
theorem dX4_put_15 : decode cX4_put 15 = .ok (.aload_n 0, 1) := by decide +kernel
theorem dX4_put_16 : decode cX4_put 16 = .ok (.getfield 40, 3) := by decide +kernel
theorem dX4_put_19 : decode cX4_put 19 = .ok (.bipush 20, 2) := by decide +kernel
theorem dX4_put_21 : decode cX4_put 21 = .ok (.if_icmp .ge 20, 3) := by decide +kernel
theorem dX4_put_24 : decode cX4_put 24 = .ok (.aload_n 0, 1) := by decide +kernel
theorem dX4_put_25 : decode cX4_put 25 = .ok (.getfield 33, 3) := by decide +kernel
theorem dX4_put_28 : decode cX4_put 28 = .ok (.iload_n 2, 1) := by decide +kernel
theorem dX4_put_29 : decode cX4_put 29 = .ok (.iload_n 3, 1) := by decide +kernel
theorem dX4_put_30 : decode cX4_put 30 = .ok (.invokevirtual 54, 3) := by decide +kernel
theorem dX4_put_33 : decode cX4_put 33 = .ok (.iload 4, 2) := by decide +kernel
theorem dX4_put_35 : decode cX4_put 35 = .ok (.ishr, 1) := by decide +kernel
theorem dX4_put_36 : decode cX4_put 36 = .ok (.iconst 1, 1) := by decide +kernel
theorem dX4_put_37 : decode cX4_put 37 = .ok (.iand, 1) := by decide +kernel
theorem dX4_put_38 : decode cX4_put 38 = .ok (.ifCond .ne 5, 3) := by decide +kernel
theorem dX4_put_41 : decode cX4_put 41 = .ok (.iconst 0, 1) := by decide +kernel
theorem dX4_put_42 : decode cX4_put 42 = .ok (.ireturn, 1) := by decide +kernel
theorem dX4_put_43 : decode cX4_put 43 = .ok (.aload_n 0, 1) := by decide +kernel
theorem dX4_put_44 : decode cX4_put 44 = .ok (.getfield 9, 3) := by decide +kernel
theorem dX4_put_47 : decode cX4_put 47 = .ok (.aload_n 0, 1) := by decide +kernel
theorem dX4_put_48 : decode cX4_put 48 = .ok (.getfield 40, 3) := by decide +kernel
theorem dX4_put_51 : decode cX4_put 51 = .ok (.iload_n 1, 1) := by decide +kernel
theorem dX4_put_52 : decode cX4_put 52 = .ok (.iastore, 1) := by decide +kernel
theorem dX4_put_53 : decode cX4_put 53 = .ok (.aload_n 0, 1) := by decide +kernel
theorem dX4_put_54 : decode cX4_put 54 = .ok (.getfield 15, 3) := by decide +kernel
theorem dX4_put_57 : decode cX4_put 57 = .ok (.aload_n 0, 1) := by decide +kernel
theorem dX4_put_58 : decode cX4_put 58 = .ok (.getfield 40, 3) := by decide +kernel
theorem dX4_put_61 : decode cX4_put 61 = .ok (.aload_n 0, 1) := by decide +kernel
theorem dX4_put_62 : decode cX4_put 62 = .ok (.getfield 33, 3) := by decide +kernel
theorem dX4_put_65 : decode cX4_put 65 = .ok (.getfield 58, 3) := by decide +kernel
theorem dX4_put_68 : decode cX4_put 68 = .ok (.iload_n 2, 1) := by decide +kernel
theorem dX4_put_69 : decode cX4_put 69 = .ok (.iaload, 1) := by decide +kernel
theorem dX4_put_70 : decode cX4_put 70 = .ok (.iastore, 1) := by decide +kernel
theorem dX4_put_71 : decode cX4_put 71 = .ok (.aload_n 0, 1) := by decide +kernel
theorem dX4_put_72 : decode cX4_put 72 = .ok (.getfield 18, 3) := by decide +kernel
theorem dX4_put_75 : decode cX4_put 75 = .ok (.aload_n 0, 1) := by decide +kernel
theorem dX4_put_76 : decode cX4_put 76 = .ok (.getfield 40, 3) := by decide +kernel
theorem dX4_put_79 : decode cX4_put 79 = .ok (.aload_n 0, 1) := by decide +kernel
theorem dX4_put_80 : decode cX4_put 80 = .ok (.getfield 33, 3) := by decide +kernel
theorem dX4_put_83 : decode cX4_put 83 = .ok (.getfield 61, 3) := by decide +kernel
theorem dX4_put_86 : decode cX4_put 86 = .ok (.iload_n 2, 1) := by decide +kernel
theorem dX4_put_87 : decode cX4_put 87 = .ok (.iaload, 1) := by decide +kernel
theorem dX4_put_88 : decode cX4_put 88 = .ok (.iastore, 1) := by decide +kernel
theorem dX4_put_89 : decode cX4_put 89 = .ok (.aload_n 0, 1) := by decide +kernel
theorem dX4_put_90 : decode cX4_put 90 = .ok (.getfield 21, 3) := by decide +kernel
theorem dX4_put_93 : decode cX4_put 93 = .ok (.aload_n 0, 1) := by decide +kernel
theorem dX4_put_94 : decode cX4_put 94 = .ok (.getfield 40, 3) := by decide +kernel
theorem dX4_put_97 : decode cX4_put 97 = .ok (.iload_n 3, 1) := by decide +kernel
theorem dX4_put_98 : decode cX4_put 98 = .ok (.bipush 119, 2) := by decide +kernel
theorem dX4_put_100 : decode cX4_put 100 = .ok (.if_icmp .ne 15, 3) := by decide +kernel
theorem dX4_put_103 : decode cX4_put 103 = .ok (.aload_n 0, 1) := by decide +kernel
theorem dX4_put_104 : decode cX4_put 104 = .ok (.getfield 15, 3) := by decide +kernel
theorem dX4_put_107 : decode cX4_put 107 = .ok (.aload_n 0, 1) := by decide +kernel
theorem dX4_put_108 : decode cX4_put 108 = .ok (.getfield 40, 3) := by decide +kernel
theorem dX4_put_111 : decode cX4_put 111 = .ok (.iaload, 1) := by decide +kernel
theorem dX4_put_112 : decode cX4_put 112 = .ok (.goto 22, 3) := by decide +kernel
theorem dX4_put_115 : decode cX4_put 115 = .ok (.aload_n 0, 1) := by decide +kernel
theorem dX4_put_116 : decode cX4_put 116 = .ok (.getfield 15, 3) := by decide +kernel
theorem dX4_put_119 : decode cX4_put 119 = .ok (.aload_n 0, 1) := by decide +kernel
theorem dX4_put_120 : decode cX4_put 120 = .ok (.getfield 40, 3) := by decide +kernel
theorem dX4_put_123 : decode cX4_put 123 = .ok (.iaload, 1) := by decide +kernel
theorem dX4_put_124 : decode cX4_put 124 = .ok (.aload_n 0, 1) := by decide +kernel
theorem dX4_put_125 : decode cX4_put 125 = .ok (.getfield 18, 3) := by decide +kernel
theorem dX4_put_128 : decode cX4_put 128 = .ok (.aload_n 0, 1) := by decide +kernel
theorem dX4_put_129 : decode cX4_put 129 = .ok (.getfield 40, 3) := by decide +kernel
theorem dX4_put_132 : decode cX4_put 132 = .ok (.iaload, 1) := by decide +kernel
theorem dX4_put_133 : decode cX4_put 133 = .ok (.ior, 1) := by decide +kernel
theorem dX4_put_134 : decode cX4_put 134 = .ok (.iastore, 1) := by decide +kernel
theorem dX4_put_135 : decode cX4_put 135 = .ok (.aload_n 0, 1) := by decide +kernel
theorem dX4_put_136 : decode cX4_put 136 = .ok (.iload_n 2, 1) := by decide +kernel
theorem dX4_put_137 : decode cX4_put 137 = .ok (.iload_n 3, 1) := by decide +kernel
theorem dX4_put_138 : decode cX4_put 138 = .ok (.iload 4, 2) := by decide +kernel
theorem dX4_put_140 : decode cX4_put 140 = .ok (.invokevirtual 64, 3) := by decide +kernel
theorem dX4_put_143 : decode cX4_put 143 = .ok (.aload_n 0, 1) := by decide +kernel
theorem dX4_put_144 : decode cX4_put 144 = .ok (.getfield 33, 3) := by decide +kernel
theorem dX4_put_147 : decode cX4_put 147 = .ok (.iload_n 2, 1) := by decide +kernel
theorem dX4_put_148 : decode cX4_put 148 = .ok (.iload_n 3, 1) := by decide +kernel
theorem dX4_put_149 : decode cX4_put 149 = .ok (.iload 4, 2) := by decide +kernel
theorem dX4_put_151 : decode cX4_put 151 = .ok (.invokevirtual 68, 3) := by decide +kernel
theorem dX4_put_154 : decode cX4_put 154 = .ok (.aload_n 0, 1) := by decide +kernel
theorem dX4_put_155 : decode cX4_put 155 = .ok (.dup, 1) := by decide +kernel
theorem dX4_put_156 : decode cX4_put 156 = .ok (.getfield 40, 3) := by decide +kernel
theorem dX4_put_159 : decode cX4_put 159 = .ok (.iconst 1, 1) := by decide +kernel
theorem dX4_put_160 : decode cX4_put 160 = .ok (.iadd, 1) := by decide +kernel
theorem dX4_put_161 : decode cX4_put 161 = .ok (.putfield 40, 3) := by decide +kernel
theorem dX4_put_164 : decode cX4_put 164 = .ok (.iconst 1, 1) := by decide +kernel
theorem dX4_put_165 : decode cX4_put 165 = .ok (.ireturn, 1) := by decide +kernel
theorem dX4_order_0 : decode cX4_order 0 = .ok (.aload_n 0, 1) := by decide +kernel
theorem dX4_order_1 : decode cX4_order 1 = .ok (.getfield 27, 3) := by decide +kernel
theorem dX4_order_4 : decode cX4_order 4 = .ok (.iload_n 1, 1) := by decide +kernel
theorem dX4_order_5 : decode cX4_order 5 = .ok (.iaload, 1) := by decide +kernel
theorem dX4_order_6 : decode cX4_order 6 = .ok (.istore 4, 2) := by decide +kernel
theorem dX4_order_8 : decode cX4_order 8 = .ok (.iload_n 2, 1) := by decide +kernel
theorem dX4_order_9 : decode cX4_order 9 = .ok (.bipush 106, 2) := by decide +kernel
theorem dX4_order_11 : decode cX4_order 11 = .ok (.if_icmp .ne 26, 3) := by decide +kernel
theorem dX4_order_14 : decode cX4_order 14 = .ok (.aload_n 0, 1) := by decide +kernel
theorem dX4_order_15 : decode cX4_order 15 = .ok (.getfield 44, 3) := by decide +kernel
theorem dX4_order_18 : decode cX4_order 18 = .ok (.iload_n 3, 1) := by decide +kernel
theorem dX4_order_19 : decode cX4_order 19 = .ok (.ishr, 1) := by decide +kernel
theorem dX4_order_20 : decode cX4_order 20 = .ok (.iconst 1, 1) := by decide +kernel
theorem dX4_order_21 : decode cX4_order 21 = .ok (.iand, 1) := by decide +kernel
theorem dX4_order_22 : decode cX4_order 22 = .ok (.iconst 1, 1) := by decide +kernel
theorem dX4_order_23 : decode cX4_order 23 = .ok (.if_icmp .ne 14, 3) := by decide +kernel
theorem dX4_order_26 : decode cX4_order 26 = .ok (.iload 4, 2) := by decide +kernel
theorem dX4_order_28 : decode cX4_order 28 = .ok (.aload_n 0, 1) := by decide +kernel
theorem dX4_order_29 : decode cX4_order 29 = .ok (.getfield 27, 3) := by decide +kernel
theorem dX4_order_32 : decode cX4_order 32 = .ok (.iload_n 3, 1) := by decide +kernel
theorem dX4_order_33 : decode cX4_order 33 = .ok (.iaload, 1) := by decide +kernel
theorem dX4_order_34 : decode cX4_order 34 = .ok (.ior, 1) := by decide +kernel
theorem dX4_order_35 : decode cX4_order 35 = .ok (.istore 4, 2) := by decide +kernel
theorem dX4_order_37 : decode cX4_order 37 = .ok (.aload_n 0, 1) := by decide +kernel
theorem dX4_order_38 : decode cX4_order 38 = .ok (.getfield 24, 3) := by decide +kernel
theorem dX4_order_41 : decode cX4_order 41 = .ok (.aload_n 0, 1) := by decide +kernel
theorem dX4_order_42 : decode cX4_order 42 = .ok (.getfield 40, 3) := by decide +kernel
theorem dX4_order_45 : decode cX4_order 45 = .ok (.iload 4, 2) := by decide +kernel
theorem dX4_order_47 : decode cX4_order 47 = .ok (.iastore, 1) := by decide +kernel
theorem dX4_order_48 : decode cX4_order 48 = .ok (.aload_n 0, 1) := by decide +kernel
theorem dX4_order_49 : decode cX4_order 49 = .ok (.getfield 27, 3) := by decide +kernel
theorem dX4_order_52 : decode cX4_order 52 = .ok (.iload_n 1, 1) := by decide +kernel
theorem dX4_order_53 : decode cX4_order 53 = .ok (.iload 4, 2) := by decide +kernel
theorem dX4_order_55 : decode cX4_order 55 = .ok (.iconst 1, 1) := by decide +kernel
theorem dX4_order_56 : decode cX4_order 56 = .ok (.aload_n 0, 1) := by decide +kernel
theorem dX4_order_57 : decode cX4_order 57 = .ok (.getfield 40, 3) := by decide +kernel
theorem dX4_order_60 : decode cX4_order 60 = .ok (.ishl, 1) := by decide +kernel
theorem dX4_order_61 : decode cX4_order 61 = .ok (.ior, 1) := by decide +kernel
theorem dX4_order_62 : decode cX4_order 62 = .ok (.iastore, 1) := by decide +kernel
theorem dX4_order_63 : decode cX4_order 63 = .ok (.iload_n 2, 1) := by decide +kernel
theorem dX4_order_64 : decode cX4_order 64 = .ok (.bipush 102, 2) := by decide +kernel
theorem dX4_order_66 : decode cX4_order 66 = .ok (.if_icmp .ne 15, 3) := by decide +kernel
theorem dX4_order_69 : decode cX4_order 69 = .ok (.aload_n 0, 1) := by decide +kernel
theorem dX4_order_70 : decode cX4_order 70 = .ok (.getfield 27, 3) := by decide +kernel
theorem dX4_order_73 : decode cX4_order 73 = .ok (.iload_n 3, 1) := by decide +kernel
theorem dX4_order_74 : decode cX4_order 74 = .ok (.aload_n 0, 1) := by decide +kernel
theorem dX4_order_75 : decode cX4_order 75 = .ok (.getfield 27, 3) := by decide +kernel
theorem dX4_order_78 : decode cX4_order 78 = .ok (.iload_n 1, 1) := by decide +kernel
theorem dX4_order_79 : decode cX4_order 79 = .ok (.iaload, 1) := by decide +kernel
theorem dX4_order_80 : decode cX4_order 80 = .ok (.iastore, 1) := by decide +kernel
theorem dX4_order_81 : decode cX4_order 81 = .ok (.aload_n 0, 1) := by decide +kernel
theorem dX4_order_82 : decode cX4_order 82 = .ok (.dup, 1) := by decide +kernel
theorem dX4_order_83 : decode cX4_order 83 = .ok (.getfield 44, 3) := by decide +kernel
theorem dX4_order_86 : decode cX4_order 86 = .ok (.iconst 1, 1) := by decide +kernel
theorem dX4_order_87 : decode cX4_order 87 = .ok (.iload_n 1, 1) := by decide +kernel
theorem dX4_order_88 : decode cX4_order 88 = .ok (.ishl, 1) := by decide +kernel
theorem dX4_order_89 : decode cX4_order 89 = .ok (.ior, 1) := by decide +kernel
theorem dX4_order_90 : decode cX4_order 90 = .ok (.putfield 44, 3) := by decide +kernel
theorem dX4_order_93 : decode cX4_order 93 = .ok (.return_, 1) := by decide +kernel
theorem dX4_copy_0 : decode cX4_copy 0 = .ok (.aload_n 0, 1) := by decide +kernel
theorem dX4_copy_1 : decode cX4_copy 1 = .ok (.invokevirtual 37, 3) := by decide +kernel
theorem dX4_copy_4 : decode cX4_copy 4 = .ok (.iconst 0, 1) := by decide +kernel
theorem dX4_copy_5 : decode cX4_copy 5 = .ok (.istore_n 2, 1) := by decide +kernel
theorem dX4_copy_6 : decode cX4_copy 6 = .ok (.iload_n 2, 1) := by decide +kernel
theorem dX4_copy_7 : decode cX4_copy 7 = .ok (.aload_n 1, 1) := by decide +kernel
theorem dX4_copy_8 : decode cX4_copy 8 = .ok (.getfield 40, 3) := by decide +kernel
theorem dX4_copy_11 : decode cX4_copy 11 = .ok (.if_icmp .ge 20, 3) := by decide +kernel
theorem dX4_copy_14 : decode cX4_copy 14 = .ok (.aload_n 0, 1) := by decide +kernel
theorem dX4_copy_15 : decode cX4_copy 15 = .ok (.aload_n 1, 1) := by decide +kernel
theorem dX4_copy_16 : decode cX4_copy 16 = .ok (.getfield 9, 3) := by decide +kernel
theorem dX4_copy_19 : decode cX4_copy 19 = .ok (.iload_n 2, 1) := by decide +kernel
theorem dX4_copy_20 : decode cX4_copy 20 = .ok (.iaload, 1) := by decide +kernel
theorem dX4_copy_21 : decode cX4_copy 21 = .ok (.invokevirtual 71, 3) := by decide +kernel
theorem dX4_copy_24 : decode cX4_copy 24 = .ok (.pop, 1) := by decide +kernel
theorem dX4_copy_25 : decode cX4_copy 25 = .ok (.iinc 2 1, 3) := by decide +kernel
theorem dX4_copy_28 : decode cX4_copy 28 = .ok (.goto (-22), 3) := by decide +kernel
theorem dX4_copy_31 : decode cX4_copy 31 = .ok (.return_, 1) := by decide +kernel
theorem dX4_has_0 : decode cX4_has 0 = .ok (.iload_n 1, 1) := by decide +kernel
theorem dX4_has_1 : decode cX4_has 1 = .ok (.ifCond .lt 15, 3) := by decide +kernel
theorem dX4_has_4 : decode cX4_has 4 = .ok (.iload_n 1, 1) := by decide +kernel
theorem dX4_has_5 : decode cX4_has 5 = .ok (.aload_n 0, 1) := by decide +kernel
theorem dX4_has_6 : decode cX4_has 6 = .ok (.getfield 40, 3) := by decide +kernel
theorem dX4_has_9 : decode cX4_has 9 = .ok (.if_icmp .ge 7, 3) := by decide +kernel
theorem dX4_has_12 : decode cX4_has 12 = .ok (.iconst 1, 1) := by decide +kernel
theorem dX4_has_13 : decode cX4_has 13 = .ok (.goto 4, 3) := by decide +kernel
theorem dX4_has_16 : decode cX4_has 16 = .ok (.iconst 0, 1) := by decide +kernel
theorem dX4_has_17 : decode cX4_has 17 = .ok (.ireturn, 1) := by decide +kernel
theorem dX4_hasPair_0 : decode cX4_hasPair 0 = .ok (.iload_n 1, 1) := by decide +kernel
theorem dX4_hasPair_1 : decode cX4_hasPair 1 = .ok (.ifCond .lt 17, 3) := by decide +kernel
theorem dX4_hasPair_4 : decode cX4_hasPair 4 = .ok (.iload_n 1, 1) := by decide +kernel
theorem dX4_hasPair_5 : decode cX4_hasPair 5 = .ok (.aload_n 0, 1) := by decide +kernel
theorem dX4_hasPair_6 : decode cX4_hasPair 6 = .ok (.getfield 40, 3) := by decide +kernel
theorem dX4_hasPair_9 : decode cX4_hasPair 9 = .ok (.iconst 1, 1) := by decide +kernel
theorem dX4_hasPair_10 : decode cX4_hasPair 10 = .ok (.isub, 1) := by decide +kernel
theorem dX4_hasPair_11 : decode cX4_hasPair 11 = .ok (.if_icmp .ge 7, 3) := by decide +kernel
theorem dX4_hasPair_14 : decode cX4_hasPair 14 = .ok (.iconst 1, 1) := by decide +kernel
theorem dX4_hasPair_15 : decode cX4_hasPair 15 = .ok (.goto 4, 3) := by decide +kernel
theorem dX4_hasPair_18 : decode cX4_hasPair 18 = .ok (.iconst 0, 1) := by decide +kernel
theorem dX4_hasPair_19 : decode cX4_hasPair 19 = .ok (.ireturn, 1) := by decide +kernel
theorem dX4_threadAt_0 : decode cX4_threadAt 0 = .ok (.aload_n 0, 1) := by decide +kernel
theorem dX4_threadAt_1 : decode cX4_threadAt 1 = .ok (.getfield 9, 3) := by decide +kernel
theorem dX4_threadAt_4 : decode cX4_threadAt 4 = .ok (.iload_n 1, 1) := by decide +kernel
theorem dX4_threadAt_5 : decode cX4_threadAt 5 = .ok (.iaload, 1) := by decide +kernel
theorem dX4_threadAt_6 : decode cX4_threadAt 6 = .ok (.iconst 2, 1) := by decide +kernel
theorem dX4_threadAt_7 : decode cX4_threadAt 7 = .ok (.ishr, 1) := by decide +kernel
theorem dX4_threadAt_8 : decode cX4_threadAt 8 = .ok (.iconst 3, 1) := by decide +kernel
theorem dX4_threadAt_9 : decode cX4_threadAt 9 = .ok (.iand, 1) := by decide +kernel
theorem dX4_threadAt_10 : decode cX4_threadAt 10 = .ok (.ireturn, 1) := by decide +kernel
theorem dX4_signAt_0 : decode cX4_signAt 0 = .ok (.aload_n 0, 1) := by decide +kernel
theorem dX4_signAt_1 : decode cX4_signAt 1 = .ok (.getfield 9, 3) := by decide +kernel
theorem dX4_signAt_4 : decode cX4_signAt 4 = .ok (.iload_n 1, 1) := by decide +kernel
theorem dX4_signAt_5 : decode cX4_signAt 5 = .ok (.iaload, 1) := by decide +kernel
theorem dX4_signAt_6 : decode cX4_signAt 6 = .ok (.iconst 4, 1) := by decide +kernel
theorem dX4_signAt_7 : decode cX4_signAt 7 = .ok (.ishr, 1) := by decide +kernel
theorem dX4_signAt_8 : decode cX4_signAt 8 = .ok (.ireturn, 1) := by decide +kernel
theorem dX4_aboutAt_0 : decode cX4_aboutAt 0 = .ok (.aload_n 0, 1) := by decide +kernel
theorem dX4_aboutAt_1 : decode cX4_aboutAt 1 = .ok (.getfield 9, 3) := by decide +kernel
theorem dX4_aboutAt_4 : decode cX4_aboutAt 4 = .ok (.iload_n 1, 1) := by decide +kernel
theorem dX4_aboutAt_5 : decode cX4_aboutAt 5 = .ok (.iaload, 1) := by decide +kernel
theorem dX4_aboutAt_6 : decode cX4_aboutAt 6 = .ok (.iconst 3, 1) := by decide +kernel
theorem dX4_aboutAt_7 : decode cX4_aboutAt 7 = .ok (.iand, 1) := by decide +kernel
theorem dX4_aboutAt_8 : decode cX4_aboutAt 8 = .ok (.ireturn, 1) := by decide +kernel
theorem dX4_heldAt_0 : decode cX4_heldAt 0 = .ok (.aload_n 0, 1) := by decide +kernel
theorem dX4_heldAt_1 : decode cX4_heldAt 1 = .ok (.getfield 15, 3) := by decide +kernel
theorem dX4_heldAt_4 : decode cX4_heldAt 4 = .ok (.iload_n 1, 1) := by decide +kernel
theorem dX4_heldAt_5 : decode cX4_heldAt 5 = .ok (.iaload, 1) := by decide +kernel
theorem dX4_heldAt_6 : decode cX4_heldAt 6 = .ok (.aload_n 0, 1) := by decide +kernel
theorem dX4_heldAt_7 : decode cX4_heldAt 7 = .ok (.getfield 18, 3) := by decide +kernel
theorem dX4_heldAt_10 : decode cX4_heldAt 10 = .ok (.iload_n 1, 1) := by decide +kernel
theorem dX4_heldAt_11 : decode cX4_heldAt 11 = .ok (.iaload, 1) := by decide +kernel
theorem dX4_heldAt_12 : decode cX4_heldAt 12 = .ok (.ior, 1) := by decide +kernel
theorem dX4_heldAt_13 : decode cX4_heldAt 13 = .ok (.ireturn, 1) := by decide +kernel
theorem dX4_isAhead_0 : decode cX4_isAhead 0 = .ok (.aload_n 0, 1) := by decide +kernel
theorem dX4_isAhead_1 : decode cX4_isAhead 1 = .ok (.getfield 24, 3) := by decide +kernel
theorem dX4_isAhead_4 : decode cX4_isAhead 4 = .ok (.iload_n 2, 1) := by decide +kernel
theorem dX4_isAhead_5 : decode cX4_isAhead 5 = .ok (.iaload, 1) := by decide +kernel
theorem dX4_isAhead_6 : decode cX4_isAhead 6 = .ok (.iload_n 1, 1) := by decide +kernel
theorem dX4_isAhead_7 : decode cX4_isAhead 7 = .ok (.ishr, 1) := by decide +kernel
theorem dX4_isAhead_8 : decode cX4_isAhead 8 = .ok (.iconst 1, 1) := by decide +kernel
theorem dX4_isAhead_9 : decode cX4_isAhead 9 = .ok (.iand, 1) := by decide +kernel
theorem dX4_isAhead_10 : decode cX4_isAhead 10 = .ok (.iconst 1, 1) := by decide +kernel
theorem dX4_isAhead_11 : decode cX4_isAhead 11 = .ok (.if_icmp .ne 7, 3) := by decide +kernel
theorem dX4_isAhead_14 : decode cX4_isAhead 14 = .ok (.iconst 1, 1) := by decide +kernel
theorem dX4_isAhead_15 : decode cX4_isAhead 15 = .ok (.goto 4, 3) := by decide +kernel
theorem dX4_isAhead_18 : decode cX4_isAhead 18 = .ok (.iconst 0, 1) := by decide +kernel
theorem dX4_isAhead_19 : decode cX4_isAhead 19 = .ok (.ireturn, 1) := by decide +kernel
theorem dX4_takesAt_0 : decode cX4_takesAt 0 = .ok (.aload_n 0, 1) := by decide +kernel
theorem dX4_takesAt_1 : decode cX4_takesAt 1 = .ok (.getfield 9, 3) := by decide +kernel
theorem dX4_takesAt_4 : decode cX4_takesAt 4 = .ok (.iload_n 1, 1) := by decide +kernel
theorem dX4_takesAt_5 : decode cX4_takesAt 5 = .ok (.iaload, 1) := by decide +kernel
theorem dX4_takesAt_6 : decode cX4_takesAt 6 = .ok (.iconst 4, 1) := by decide +kernel
theorem dX4_takesAt_7 : decode cX4_takesAt 7 = .ok (.ishr, 1) := by decide +kernel
theorem dX4_takesAt_8 : decode cX4_takesAt 8 = .ok (.istore_n 2, 1) := by decide +kernel
theorem dX4_takesAt_9 : decode cX4_takesAt 9 = .ok (.iload_n 2, 1) := by decide +kernel
theorem dX4_takesAt_10 : decode cX4_takesAt 10 = .ok (.bipush 108, 2) := by decide +kernel
theorem dX4_takesAt_12 : decode cX4_takesAt 12 = .ok (.if_icmp .eq 9, 3) := by decide +kernel
theorem dX4_takesAt_15 : decode cX4_takesAt 15 = .ok (.iload_n 2, 1) := by decide +kernel
theorem dX4_takesAt_16 : decode cX4_takesAt 16 = .ok (.bipush 115, 2) := by decide +kernel
theorem dX4_takesAt_18 : decode cX4_takesAt 18 = .ok (.if_icmp .ne 7, 3) := by decide +kernel
theorem dX4_takesAt_21 : decode cX4_takesAt 21 = .ok (.iconst 1, 1) := by decide +kernel
theorem dX4_takesAt_22 : decode cX4_takesAt 22 = .ok (.goto 4, 3) := by decide +kernel
theorem dX4_takesAt_25 : decode cX4_takesAt 25 = .ok (.iconst 0, 1) := by decide +kernel
theorem dX4_takesAt_26 : decode cX4_takesAt 26 = .ok (.ireturn, 1) := by decide +kernel
theorem dX4_writesAt_0 : decode cX4_writesAt 0 = .ok (.aload_n 0, 1) := by decide +kernel
theorem dX4_writesAt_1 : decode cX4_writesAt 1 = .ok (.getfield 9, 3) := by decide +kernel
theorem dX4_writesAt_4 : decode cX4_writesAt 4 = .ok (.iload_n 1, 1) := by decide +kernel
theorem dX4_writesAt_5 : decode cX4_writesAt 5 = .ok (.iaload, 1) := by decide +kernel
theorem dX4_writesAt_6 : decode cX4_writesAt 6 = .ok (.iconst 4, 1) := by decide +kernel
theorem dX4_writesAt_7 : decode cX4_writesAt 7 = .ok (.ishr, 1) := by decide +kernel
theorem dX4_writesAt_8 : decode cX4_writesAt 8 = .ok (.bipush 119, 2) := by decide +kernel
theorem dX4_writesAt_10 : decode cX4_writesAt 10 = .ok (.if_icmp .ne 7, 3) := by decide +kernel
theorem dX4_writesAt_13 : decode cX4_writesAt 13 = .ok (.iconst 1, 1) := by decide +kernel
theorem dX4_writesAt_14 : decode cX4_writesAt 14 = .ok (.goto 4, 3) := by decide +kernel
theorem dX4_writesAt_17 : decode cX4_writesAt 17 = .ok (.iconst 0, 1) := by decide +kernel
theorem dX4_writesAt_18 : decode cX4_writesAt 18 = .ok (.ireturn, 1) := by decide +kernel
theorem dX4_isTouch_0 : decode cX4_isTouch 0 = .ok (.aload_n 0, 1) := by decide +kernel
theorem dX4_isTouch_1 : decode cX4_isTouch 1 = .ok (.getfield 9, 3) := by decide +kernel
theorem dX4_isTouch_4 : decode cX4_isTouch 4 = .ok (.iload_n 1, 1) := by decide +kernel
theorem dX4_isTouch_5 : decode cX4_isTouch 5 = .ok (.iaload, 1) := by decide +kernel
theorem dX4_isTouch_6 : decode cX4_isTouch 6 = .ok (.iconst 4, 1) := by decide +kernel
theorem dX4_isTouch_7 : decode cX4_isTouch 7 = .ok (.ishr, 1) := by decide +kernel
theorem dX4_isTouch_8 : decode cX4_isTouch 8 = .ok (.istore_n 2, 1) := by decide +kernel
theorem dX4_isTouch_9 : decode cX4_isTouch 9 = .ok (.iload_n 2, 1) := by decide +kernel
theorem dX4_isTouch_10 : decode cX4_isTouch 10 = .ok (.bipush 114, 2) := by decide +kernel
theorem dX4_isTouch_12 : decode cX4_isTouch 12 = .ok (.if_icmp .eq 9, 3) := by decide +kernel
theorem dX4_isTouch_15 : decode cX4_isTouch 15 = .ok (.iload_n 2, 1) := by decide +kernel
theorem dX4_isTouch_16 : decode cX4_isTouch 16 = .ok (.bipush 119, 2) := by decide +kernel
theorem dX4_isTouch_18 : decode cX4_isTouch 18 = .ok (.if_icmp .ne 7, 3) := by decide +kernel
theorem dX4_isTouch_21 : decode cX4_isTouch 21 = .ok (.iconst 1, 1) := by decide +kernel
theorem dX4_isTouch_22 : decode cX4_isTouch 22 = .ok (.goto 4, 3) := by decide +kernel
theorem dX4_isTouch_25 : decode cX4_isTouch 25 = .ok (.iconst 0, 1) := by decide +kernel
theorem dX4_isTouch_26 : decode cX4_isTouch 26 = .ok (.ireturn, 1) := by decide +kernel
theorem dX4_touchesAt_0 : decode cX4_touchesAt 0 = .ok (.aload_n 0, 1) := by decide +kernel
theorem dX4_touchesAt_1 : decode cX4_touchesAt 1 = .ok (.iload_n 1, 1) := by decide +kernel
theorem dX4_touchesAt_2 : decode cX4_touchesAt 2 = .ok (.invokevirtual 75, 3) := by decide +kernel
theorem dX4_touchesAt_5 : decode cX4_touchesAt 5 = .ok (.ifCond .eq 19, 3) := by decide +kernel
theorem dX4_touchesAt_8 : decode cX4_touchesAt 8 = .ok (.aload_n 0, 1) := by decide +kernel
theorem dX4_touchesAt_9 : decode cX4_touchesAt 9 = .ok (.getfield 9, 3) := by decide +kernel
theorem dX4_touchesAt_12 : decode cX4_touchesAt 12 = .ok (.iload_n 1, 1) := by decide +kernel
theorem dX4_touchesAt_13 : decode cX4_touchesAt 13 = .ok (.iaload, 1) := by decide +kernel
theorem dX4_touchesAt_14 : decode cX4_touchesAt 14 = .ok (.iconst 3, 1) := by decide +kernel
theorem dX4_touchesAt_15 : decode cX4_touchesAt 15 = .ok (.iand, 1) := by decide +kernel
theorem dX4_touchesAt_16 : decode cX4_touchesAt 16 = .ok (.iload_n 2, 1) := by decide +kernel
theorem dX4_touchesAt_17 : decode cX4_touchesAt 17 = .ok (.if_icmp .ne 7, 3) := by decide +kernel
theorem dX4_touchesAt_20 : decode cX4_touchesAt 20 = .ok (.iconst 1, 1) := by decide +kernel
theorem dX4_touchesAt_21 : decode cX4_touchesAt 21 = .ok (.goto 4, 3) := by decide +kernel
theorem dX4_touchesAt_24 : decode cX4_touchesAt 24 = .ok (.iconst 0, 1) := by decide +kernel
theorem dX4_touchesAt_25 : decode cX4_touchesAt 25 = .ok (.ireturn, 1) := by decide +kernel
theorem dX4_takeOut_0 : decode cX4_takeOut 0 = .ok (.aload_n 0, 1) := by decide +kernel
theorem dX4_takeOut_1 : decode cX4_takeOut 1 = .ok (.iload_n 1, 1) := by decide +kernel
theorem dX4_takeOut_2 : decode cX4_takeOut 2 = .ok (.invokevirtual 78, 3) := by decide +kernel
theorem dX4_takeOut_5 : decode cX4_takeOut 5 = .ok (.ifCond .ne 5, 3) := by decide +kernel
theorem dX4_takeOut_8 : decode cX4_takeOut 8 = .ok (.iconst 0, 1) := by decide +kernel
theorem dX4_takeOut_9 : decode cX4_takeOut 9 = .ok (.ireturn, 1) := by decide +kernel
theorem dX4_takeOut_10 : decode cX4_takeOut 10 = .ok (.aload_n 0, 1) := by decide +kernel
theorem dX4_takeOut_11 : decode cX4_takeOut 11 = .ok (.getfield 40, 3) := by decide +kernel
theorem dX4_takeOut_14 : decode cX4_takeOut 14 = .ok (.istore_n 2, 1) := by decide +kernel
theorem dX4_takeOut_15 : decode cX4_takeOut 15 = .ok (.aload_n 0, 1) := by decide +kernel
theorem dX4_takeOut_16 : decode cX4_takeOut 16 = .ok (.getfield 9, 3) := by decide +kernel
theorem dX4_takeOut_19 : decode cX4_takeOut 19 = .ok (.iload_n 1, 1) := by decide +kernel
theorem dX4_takeOut_20 : decode cX4_takeOut 20 = .ok (.iaload, 1) := by decide +kernel
theorem dX4_takeOut_21 : decode cX4_takeOut 21 = .ok (.istore_n 3, 1) := by decide +kernel
theorem dX4_takeOut_22 : decode cX4_takeOut 22 = .ok (.iload_n 1, 1) := by decide +kernel
theorem dX4_takeOut_23 : decode cX4_takeOut 23 = .ok (.istore 4, 2) := by decide +kernel
theorem dX4_takeOut_25 : decode cX4_takeOut 25 = .ok (.iload 4, 2) := by decide +kernel
theorem dX4_takeOut_27 : decode cX4_takeOut 27 = .ok (.iload_n 2, 1) := by decide +kernel
theorem dX4_takeOut_28 : decode cX4_takeOut 28 = .ok (.iconst 1, 1) := by decide +kernel
theorem dX4_takeOut_29 : decode cX4_takeOut 29 = .ok (.isub, 1) := by decide +kernel
theorem dX4_takeOut_30 : decode cX4_takeOut 30 = .ok (.if_icmp .ge 25, 3) := by decide +kernel
theorem dX4_takeOut_33 : decode cX4_takeOut 33 = .ok (.aload_n 0, 1) := by decide +kernel
theorem dX4_takeOut_34 : decode cX4_takeOut 34 = .ok (.getfield 9, 3) := by decide +kernel
theorem dX4_takeOut_37 : decode cX4_takeOut 37 = .ok (.iload 4, 2) := by decide +kernel
theorem dX4_takeOut_39 : decode cX4_takeOut 39 = .ok (.aload_n 0, 1) := by decide +kernel
theorem dX4_takeOut_40 : decode cX4_takeOut 40 = .ok (.getfield 9, 3) := by decide +kernel
theorem dX4_takeOut_43 : decode cX4_takeOut 43 = .ok (.iload 4, 2) := by decide +kernel
theorem dX4_takeOut_45 : decode cX4_takeOut 45 = .ok (.iconst 1, 1) := by decide +kernel
theorem dX4_takeOut_46 : decode cX4_takeOut 46 = .ok (.iadd, 1) := by decide +kernel
theorem dX4_takeOut_47 : decode cX4_takeOut 47 = .ok (.iaload, 1) := by decide +kernel
theorem dX4_takeOut_48 : decode cX4_takeOut 48 = .ok (.iastore, 1) := by decide +kernel
theorem dX4_takeOut_49 : decode cX4_takeOut 49 = .ok (.iinc 4 1, 3) := by decide +kernel
theorem dX4_takeOut_52 : decode cX4_takeOut 52 = .ok (.goto (-27), 3) := by decide +kernel
theorem dX4_takeOut_55 : decode cX4_takeOut 55 = .ok (.aload_n 0, 1) := by decide +kernel
theorem dX4_takeOut_56 : decode cX4_takeOut 56 = .ok (.iload_n 2, 1) := by decide +kernel
theorem dX4_takeOut_57 : decode cX4_takeOut 57 = .ok (.iconst 1, 1) := by decide +kernel
theorem dX4_takeOut_58 : decode cX4_takeOut 58 = .ok (.isub, 1) := by decide +kernel
theorem dX4_takeOut_59 : decode cX4_takeOut 59 = .ok (.invokevirtual 81, 3) := by decide +kernel
theorem dX4_takeOut_62 : decode cX4_takeOut 62 = .ok (.ifCond .eq 5, 3) := by decide +kernel
theorem dX4_takeOut_65 : decode cX4_takeOut 65 = .ok (.iconst 1, 1) := by decide +kernel
theorem dX4_takeOut_66 : decode cX4_takeOut 66 = .ok (.ireturn, 1) := by decide +kernel
theorem dX4_takeOut_67 : decode cX4_takeOut 67 = .ok (.aload_n 0, 1) := by decide +kernel
theorem dX4_takeOut_68 : decode cX4_takeOut 68 = .ok (.iload_n 1, 1) := by decide +kernel
theorem dX4_takeOut_69 : decode cX4_takeOut 69 = .ok (.iload_n 3, 1) := by decide +kernel
theorem dX4_takeOut_70 : decode cX4_takeOut 70 = .ok (.iload_n 2, 1) := by decide +kernel
theorem dX4_takeOut_71 : decode cX4_takeOut 71 = .ok (.invokevirtual 84, 3) := by decide +kernel
theorem dX4_takeOut_74 : decode cX4_takeOut 74 = .ok (.aload_n 0, 1) := by decide +kernel
theorem dX4_takeOut_75 : decode cX4_takeOut 75 = .ok (.iload_n 2, 1) := by decide +kernel
theorem dX4_takeOut_76 : decode cX4_takeOut 76 = .ok (.invokevirtual 81, 3) := by decide +kernel
theorem dX4_takeOut_79 : decode cX4_takeOut 79 = .ok (.pop, 1) := by decide +kernel
theorem dX4_takeOut_80 : decode cX4_takeOut 80 = .ok (.iconst 0, 1) := by decide +kernel
theorem dX4_takeOut_81 : decode cX4_takeOut 81 = .ok (.ireturn, 1) := by decide +kernel
theorem dX4_putBack_0 : decode cX4_putBack 0 = .ok (.aload_n 0, 1) := by decide +kernel
theorem dX4_putBack_1 : decode cX4_putBack 1 = .ok (.getfield 40, 3) := by decide +kernel
theorem dX4_putBack_4 : decode cX4_putBack 4 = .ok (.bipush 20, 2) := by decide +kernel
theorem dX4_putBack_6 : decode cX4_putBack 6 = .ok (.if_icmp .ge 35, 3) := by decide +kernel
theorem dX4_putBack_9 : decode cX4_putBack 9 = .ok (.iload_n 1, 1) := by decide +kernel
theorem dX4_putBack_10 : decode cX4_putBack 10 = .ok (.ifCond .lt 31, 3) := by decide +kernel
theorem dX4_putBack_13 : decode cX4_putBack 13 = .ok (.iload_n 1, 1) := by decide +kernel
theorem dX4_putBack_14 : decode cX4_putBack 14 = .ok (.aload_n 0, 1) := by decide +kernel
theorem dX4_putBack_15 : decode cX4_putBack 15 = .ok (.getfield 40, 3) := by decide +kernel
theorem dX4_putBack_18 : decode cX4_putBack 18 = .ok (.if_icmp .gt 23, 3) := by decide +kernel
theorem dX4_putBack_21 : decode cX4_putBack 21 = .ok (.aload_n 0, 1) := by decide +kernel
theorem dX4_putBack_22 : decode cX4_putBack 22 = .ok (.getfield 40, 3) := by decide +kernel
theorem dX4_putBack_25 : decode cX4_putBack 25 = .ok (.iconst 1, 1) := by decide +kernel
theorem dX4_putBack_26 : decode cX4_putBack 26 = .ok (.iadd, 1) := by decide +kernel
theorem dX4_putBack_27 : decode cX4_putBack 27 = .ok (.istore_n 3, 1) := by decide +kernel
theorem dX4_putBack_28 : decode cX4_putBack 28 = .ok (.aload_n 0, 1) := by decide +kernel
theorem dX4_putBack_29 : decode cX4_putBack 29 = .ok (.iload_n 1, 1) := by decide +kernel
theorem dX4_putBack_30 : decode cX4_putBack 30 = .ok (.iload_n 2, 1) := by decide +kernel
theorem dX4_putBack_31 : decode cX4_putBack 31 = .ok (.iload_n 3, 1) := by decide +kernel
theorem dX4_putBack_32 : decode cX4_putBack 32 = .ok (.invokevirtual 84, 3) := by decide +kernel
theorem dX4_putBack_35 : decode cX4_putBack 35 = .ok (.aload_n 0, 1) := by decide +kernel
theorem dX4_putBack_36 : decode cX4_putBack 36 = .ok (.iload_n 3, 1) := by decide +kernel
theorem dX4_putBack_37 : decode cX4_putBack 37 = .ok (.invokevirtual 81, 3) := by decide +kernel
theorem dX4_putBack_40 : decode cX4_putBack 40 = .ok (.pop, 1) := by decide +kernel
theorem dX4_putBack_41 : decode cX4_putBack 41 = .ok (.return_, 1) := by decide +kernel
theorem dX4_open_0 : decode cX4_open 0 = .ok (.iload_n 3, 1) := by decide +kernel
theorem dX4_open_1 : decode cX4_open 1 = .ok (.iconst 1, 1) := by decide +kernel
theorem dX4_open_2 : decode cX4_open 2 = .ok (.isub, 1) := by decide +kernel
theorem dX4_open_3 : decode cX4_open 3 = .ok (.istore 4, 2) := by decide +kernel
theorem dX4_open_5 : decode cX4_open 5 = .ok (.iload 4, 2) := by decide +kernel
theorem dX4_open_7 : decode cX4_open 7 = .ok (.iload_n 1, 1) := by decide +kernel
theorem dX4_open_8 : decode cX4_open 8 = .ok (.if_icmp .le 25, 3) := by decide +kernel
theorem dX4_open_11 : decode cX4_open 11 = .ok (.aload_n 0, 1) := by decide +kernel
theorem dX4_open_12 : decode cX4_open 12 = .ok (.getfield 9, 3) := by decide +kernel
theorem dX4_open_15 : decode cX4_open 15 = .ok (.iload 4, 2) := by decide +kernel
theorem dX4_open_17 : decode cX4_open 17 = .ok (.aload_n 0, 1) := by decide +kernel
theorem dX4_open_18 : decode cX4_open 18 = .ok (.getfield 9, 3) := by decide +kernel
theorem dX4_open_21 : decode cX4_open 21 = .ok (.iload 4, 2) := by decide +kernel
theorem dX4_open_23 : decode cX4_open 23 = .ok (.iconst 1, 1) := by decide +kernel
theorem dX4_open_24 : decode cX4_open 24 = .ok (.isub, 1) := by decide +kernel
theorem dX4_open_25 : decode cX4_open 25 = .ok (.iaload, 1) := by decide +kernel
theorem dX4_open_26 : decode cX4_open 26 = .ok (.iastore, 1) := by decide +kernel
theorem dX4_open_27 : decode cX4_open 27 = .ok (.iinc 4 (-1), 3) := by decide +kernel
theorem dX4_open_30 : decode cX4_open 30 = .ok (.goto (-25), 3) := by decide +kernel
theorem dX4_open_33 : decode cX4_open 33 = .ok (.aload_n 0, 1) := by decide +kernel
theorem dX4_open_34 : decode cX4_open 34 = .ok (.getfield 9, 3) := by decide +kernel
theorem dX4_open_37 : decode cX4_open 37 = .ok (.iload_n 1, 1) := by decide +kernel
theorem dX4_open_38 : decode cX4_open 38 = .ok (.iload_n 2, 1) := by decide +kernel
theorem dX4_open_39 : decode cX4_open 39 = .ok (.iastore, 1) := by decide +kernel
theorem dX4_open_40 : decode cX4_open 40 = .ok (.return_, 1) := by decide +kernel
theorem dX4_changePlaces_0 : decode cX4_changePlaces 0 = .ok (.aload_n 0, 1) := by decide +kernel
theorem dX4_changePlaces_1 : decode cX4_changePlaces 1 = .ok (.iload_n 1, 1) := by decide +kernel
theorem dX4_changePlaces_2 : decode cX4_changePlaces 2 = .ok (.invokevirtual 87, 3) := by decide +kernel
theorem dX4_changePlaces_5 : decode cX4_changePlaces 5 = .ok (.ifCond .ne 5, 3) := by decide +kernel
theorem dX4_changePlaces_8 : decode cX4_changePlaces 8 = .ok (.iconst 0, 1) := by decide +kernel
theorem dX4_changePlaces_9 : decode cX4_changePlaces 9 = .ok (.ireturn, 1) := by decide +kernel
theorem dX4_changePlaces_10 : decode cX4_changePlaces 10 = .ok (.aload_n 0, 1) := by decide +kernel
theorem dX4_changePlaces_11 : decode cX4_changePlaces 11 = .ok (.getfield 40, 3) := by decide +kernel
theorem dX4_changePlaces_14 : decode cX4_changePlaces 14 = .ok (.istore_n 2, 1) := by decide +kernel
theorem dX4_changePlaces_15 : decode cX4_changePlaces 15 = .ok (.aload_n 0, 1) := by decide +kernel
theorem dX4_changePlaces_16 : decode cX4_changePlaces 16 = .ok (.iload_n 1, 1) := by decide +kernel
theorem dX4_changePlaces_17 : decode cX4_changePlaces 17 = .ok (.invokevirtual 90, 3) := by decide +kernel
theorem dX4_changePlaces_20 : decode cX4_changePlaces 20 = .ok (.aload_n 0, 1) := by decide +kernel
