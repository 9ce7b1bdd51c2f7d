theorem dX9_findBefore_1 : decode cX9_findBefore 1 = .ok (.istore_n 2, 1) := by decide +kernel
theorem dX9_findBefore_2 : decode cX9_findBefore 2 = .ok (.iload_n 2, 1) := by decide +kernel
theorem dX9_findBefore_3 : decode cX9_findBefore 3 = .ok (.aload_n 0, 1) := by decide +kernel
theorem dX9_findBefore_4 : decode cX9_findBefore 4 = .ok (.iload_n 1, 1) := by decide +kernel
theorem dX9_findBefore_5 : decode cX9_findBefore 5 = .ok (.invokevirtual 128, 3) := by decide +kernel
theorem dX9_findBefore_8 : decode cX9_findBefore 8 = .ok (.if_icmp .ge 139, 3) := by decide +kernel
theorem dX9_findBefore_11 : decode cX9_findBefore 11 = .ok (.aload_n 0, 1) := by decide +kernel
theorem dX9_findBefore_12 : decode cX9_findBefore 12 = .ok (.iload_n 1, 1) := by decide +kernel
theorem dX9_findBefore_13 : decode cX9_findBefore 13 = .ok (.iload_n 2, 1) := by decide +kernel
theorem dX9_findBefore_14 : decode cX9_findBefore 14 = .ok (.invokevirtual 132, 3) := by decide +kernel
theorem dX9_findBefore_17 : decode cX9_findBefore 17 = .ok (.istore_n 3, 1) := by decide +kernel
theorem dX9_findBefore_18 : decode cX9_findBefore 18 = .ok (.aload_n 0, 1) := by decide +kernel
theorem dX9_findBefore_19 : decode cX9_findBefore 19 = .ok (.getfield 34, 3) := by decide +kernel
theorem dX9_findBefore_22 : decode cX9_findBefore 22 = .ok (.iload_n 2, 1) := by decide +kernel
theorem dX9_findBefore_23 : decode cX9_findBefore 23 = .ok (.aload_n 0, 1) := by decide +kernel
theorem dX9_findBefore_24 : decode cX9_findBefore 24 = .ok (.iload_n 1, 1) := by decide +kernel
theorem dX9_findBefore_25 : decode cX9_findBefore 25 = .ok (.iload_n 3, 1) := by decide +kernel
theorem dX9_findBefore_26 : decode cX9_findBefore 26 = .ok (.iload_n 2, 1) := by decide +kernel
theorem dX9_findBefore_27 : decode cX9_findBefore 27 = .ok (.invokevirtual 225, 3) := by decide +kernel
theorem dX9_findBefore_30 : decode cX9_findBefore 30 = .ok (.iastore, 1) := by decide +kernel
theorem dX9_findBefore_31 : decode cX9_findBefore 31 = .ok (.iconst 0, 1) := by decide +kernel
theorem dX9_findBefore_32 : decode cX9_findBefore 32 = .ok (.istore 4, 2) := by decide +kernel
theorem dX9_findBefore_34 : decode cX9_findBefore 34 = .ok (.iload 4, 2) := by decide +kernel
theorem dX9_findBefore_36 : decode cX9_findBefore 36 = .ok (.iload_n 2, 1) := by decide +kernel
theorem dX9_findBefore_37 : decode cX9_findBefore 37 = .ok (.if_icmp .ge 68, 3) := by decide +kernel
theorem dX9_findBefore_40 : decode cX9_findBefore 40 = .ok (.aload_n 0, 1) := by decide +kernel
theorem dX9_findBefore_41 : decode cX9_findBefore 41 = .ok (.iload_n 1, 1) := by decide +kernel
theorem dX9_findBefore_42 : decode cX9_findBefore 42 = .ok (.iload 4, 2) := by decide +kernel
theorem dX9_findBefore_44 : decode cX9_findBefore 44 = .ok (.invokevirtual 115, 3) := by decide +kernel
theorem dX9_findBefore_47 : decode cX9_findBefore 47 = .ok (.iconst 5, 1) := by decide +kernel
theorem dX9_findBefore_48 : decode cX9_findBefore 48 = .ok (.if_icmp .ne 18, 3) := by decide +kernel
theorem dX9_findBefore_51 : decode cX9_findBefore 51 = .ok (.aload_n 0, 1) := by decide +kernel
theorem dX9_findBefore_52 : decode cX9_findBefore 52 = .ok (.iload_n 1, 1) := by decide +kernel
theorem dX9_findBefore_53 : decode cX9_findBefore 53 = .ok (.iload 4, 2) := by decide +kernel
theorem dX9_findBefore_55 : decode cX9_findBefore 55 = .ok (.invokevirtual 122, 3) := by decide +kernel
theorem dX9_findBefore_58 : decode cX9_findBefore 58 = .ok (.iload_n 3, 1) := by decide +kernel
theorem dX9_findBefore_59 : decode cX9_findBefore 59 = .ok (.if_icmp .ne 7, 3) := by decide +kernel
theorem dX9_findBefore_62 : decode cX9_findBefore 62 = .ok (.iconst 1, 1) := by decide +kernel
theorem dX9_findBefore_63 : decode cX9_findBefore 63 = .ok (.goto 4, 3) := by decide +kernel
theorem dX9_findBefore_66 : decode cX9_findBefore 66 = .ok (.iconst 0, 1) := by decide +kernel
theorem dX9_findBefore_67 : decode cX9_findBefore 67 = .ok (.istore 5, 2) := by decide +kernel
theorem dX9_findBefore_69 : decode cX9_findBefore 69 = .ok (.aload_n 0, 1) := by decide +kernel
theorem dX9_findBefore_70 : decode cX9_findBefore 70 = .ok (.getfield 34, 3) := by decide +kernel
theorem dX9_findBefore_73 : decode cX9_findBefore 73 = .ok (.iload_n 2, 1) := by decide +kernel
theorem dX9_findBefore_74 : decode cX9_findBefore 74 = .ok (.dup2, 1) := by decide +kernel
theorem dX9_findBefore_75 : decode cX9_findBefore 75 = .ok (.iaload, 1) := by decide +kernel
theorem dX9_findBefore_76 : decode cX9_findBefore 76 = .ok (.iload 5, 2) := by decide +kernel
theorem dX9_findBefore_78 : decode cX9_findBefore 78 = .ok (.ifCond .eq 18, 3) := by decide +kernel
theorem dX9_findBefore_81 : decode cX9_findBefore 81 = .ok (.iconst 1, 1) := by decide +kernel
theorem dX9_findBefore_82 : decode cX9_findBefore 82 = .ok (.iload 4, 2) := by decide +kernel
theorem dX9_findBefore_84 : decode cX9_findBefore 84 = .ok (.ishl, 1) := by decide +kernel
theorem dX9_findBefore_85 : decode cX9_findBefore 85 = .ok (.aload_n 0, 1) := by decide +kernel
theorem dX9_findBefore_86 : decode cX9_findBefore 86 = .ok (.getfield 34, 3) := by decide +kernel
theorem dX9_findBefore_89 : decode cX9_findBefore 89 = .ok (.iload 4, 2) := by decide +kernel
theorem dX9_findBefore_91 : decode cX9_findBefore 91 = .ok (.iaload, 1) := by decide +kernel
theorem dX9_findBefore_92 : decode cX9_findBefore 92 = .ok (.ior, 1) := by decide +kernel
theorem dX9_findBefore_93 : decode cX9_findBefore 93 = .ok (.goto 4, 3) := by decide +kernel
theorem dX9_findBefore_96 : decode cX9_findBefore 96 = .ok (.iconst 0, 1) := by decide +kernel
theorem dX9_findBefore_97 : decode cX9_findBefore 97 = .ok (.ior, 1) := by decide +kernel
theorem dX9_findBefore_98 : decode cX9_findBefore 98 = .ok (.iastore, 1) := by decide +kernel
theorem dX9_findBefore_99 : decode cX9_findBefore 99 = .ok (.iinc 4 1, 3) := by decide +kernel
theorem dX9_findBefore_102 : decode cX9_findBefore 102 = .ok (.goto (-68), 3) := by decide +kernel
theorem dX9_findBefore_105 : decode cX9_findBefore 105 = .ok (.aload_n 0, 1) := by decide +kernel
theorem dX9_findBefore_106 : decode cX9_findBefore 106 = .ok (.getfield 34, 3) := by decide +kernel
theorem dX9_findBefore_109 : decode cX9_findBefore 109 = .ok (.iload_n 2, 1) := by decide +kernel
theorem dX9_findBefore_110 : decode cX9_findBefore 110 = .ok (.dup2, 1) := by decide +kernel
theorem dX9_findBefore_111 : decode cX9_findBefore 111 = .ok (.iaload, 1) := by decide +kernel
theorem dX9_findBefore_112 : decode cX9_findBefore 112 = .ok (.aload_n 0, 1) := by decide +kernel
theorem dX9_findBefore_113 : decode cX9_findBefore 113 = .ok (.iload_n 1, 1) := by decide +kernel
theorem dX9_findBefore_114 : decode cX9_findBefore 114 = .ok (.iload_n 2, 1) := by decide +kernel
theorem dX9_findBefore_115 : decode cX9_findBefore 115 = .ok (.invokevirtual 115, 3) := by decide +kernel
theorem dX9_findBefore_118 : decode cX9_findBefore 118 = .ok (.bipush 6, 2) := by decide +kernel
theorem dX9_findBefore_120 : decode cX9_findBefore 120 = .ok (.if_icmp .ne 18, 3) := by decide +kernel
theorem dX9_findBefore_123 : decode cX9_findBefore 123 = .ok (.aload_n 0, 1) := by decide +kernel
theorem dX9_findBefore_124 : decode cX9_findBefore 124 = .ok (.iload_n 1, 1) := by decide +kernel
theorem dX9_findBefore_125 : decode cX9_findBefore 125 = .ok (.aload_n 0, 1) := by decide +kernel
theorem dX9_findBefore_126 : decode cX9_findBefore 126 = .ok (.iload_n 1, 1) := by decide +kernel
theorem dX9_findBefore_127 : decode cX9_findBefore 127 = .ok (.iload_n 2, 1) := by decide +kernel
theorem dX9_findBefore_128 : decode cX9_findBefore 128 = .ok (.invokevirtual 122, 3) := by decide +kernel
theorem dX9_findBefore_131 : decode cX9_findBefore 131 = .ok (.iload_n 2, 1) := by decide +kernel
theorem dX9_findBefore_132 : decode cX9_findBefore 132 = .ok (.invokevirtual 225, 3) := by decide +kernel
theorem dX9_findBefore_135 : decode cX9_findBefore 135 = .ok (.goto 4, 3) := by decide +kernel
theorem dX9_findBefore_138 : decode cX9_findBefore 138 = .ok (.iconst 0, 1) := by decide +kernel
theorem dX9_findBefore_139 : decode cX9_findBefore 139 = .ok (.ior, 1) := by decide +kernel
theorem dX9_findBefore_140 : decode cX9_findBefore 140 = .ok (.iastore, 1) := by decide +kernel
theorem dX9_findBefore_141 : decode cX9_findBefore 141 = .ok (.iinc 2 1, 3) := by decide +kernel
theorem dX9_findBefore_144 : decode cX9_findBefore 144 = .ok (.goto (-142), 3) := by decide +kernel
theorem dX9_findBefore_147 : decode cX9_findBefore 147 = .ok (.return_, 1) := by decide +kernel
theorem dX9_ahead_0 : decode cX9_ahead 0 = .ok (.aload_n 0, 1) := by decide +kernel
theorem dX9_ahead_1 : decode cX9_ahead 1 = .ok (.iconst 0, 1) := by decide +kernel
theorem dX9_ahead_2 : decode cX9_ahead 2 = .ok (.iload_n 1, 1) := by decide +kernel
theorem dX9_ahead_3 : decode cX9_ahead 3 = .ok (.invokevirtual 159, 3) := by decide +kernel
theorem dX9_ahead_6 : decode cX9_ahead 6 = .ok (.ifCond .eq 12, 3) := by decide +kernel
theorem dX9_ahead_9 : decode cX9_ahead 9 = .ok (.aload_n 0, 1) := by decide +kernel
theorem dX9_ahead_10 : decode cX9_ahead 10 = .ok (.iconst 0, 1) := by decide +kernel
theorem dX9_ahead_11 : decode cX9_ahead 11 = .ok (.iload_n 2, 1) := by decide +kernel
theorem dX9_ahead_12 : decode cX9_ahead 12 = .ok (.invokevirtual 159, 3) := by decide +kernel
theorem dX9_ahead_15 : decode cX9_ahead 15 = .ok (.ifCond .ne 5, 3) := by decide +kernel
theorem dX9_ahead_18 : decode cX9_ahead 18 = .ok (.iconst (-1), 1) := by decide +kernel
theorem dX9_ahead_19 : decode cX9_ahead 19 = .ok (.ireturn, 1) := by decide +kernel
theorem dX9_ahead_20 : decode cX9_ahead 20 = .ok (.aload_n 0, 1) := by decide +kernel
theorem dX9_ahead_21 : decode cX9_ahead 21 = .ok (.iconst 0, 1) := by decide +kernel
theorem dX9_ahead_22 : decode cX9_ahead 22 = .ok (.invokevirtual 229, 3) := by decide +kernel
theorem dX9_ahead_25 : decode cX9_ahead 25 = .ok (.aload_n 0, 1) := by decide +kernel
theorem dX9_ahead_26 : decode cX9_ahead 26 = .ok (.getfield 34, 3) := by decide +kernel
theorem dX9_ahead_29 : decode cX9_ahead 29 = .ok (.iload_n 2, 1) := by decide +kernel
theorem dX9_ahead_30 : decode cX9_ahead 30 = .ok (.iaload, 1) := by decide +kernel
theorem dX9_ahead_31 : decode cX9_ahead 31 = .ok (.iload_n 1, 1) := by decide +kernel
theorem dX9_ahead_32 : decode cX9_ahead 32 = .ok (.invokestatic 93, 3) := by decide +kernel
theorem dX9_ahead_35 : decode cX9_ahead 35 = .ok (.ifCond .eq 7, 3) := by decide +kernel
theorem dX9_ahead_38 : decode cX9_ahead 38 = .ok (.iconst 1, 1) := by decide +kernel
theorem dX9_ahead_39 : decode cX9_ahead 39 = .ok (.goto 4, 3) := by decide +kernel
theorem dX9_ahead_42 : decode cX9_ahead 42 = .ok (.iconst 0, 1) := by decide +kernel
theorem dX9_ahead_43 : decode cX9_ahead 43 = .ok (.ireturn, 1) := by decide +kernel
theorem dX9_areMeeting_0 : decode cX9_areMeeting 0 = .ok (.aload_n 0, 1) := by decide +kernel
theorem dX9_areMeeting_1 : decode cX9_areMeeting 1 = .ok (.iconst 0, 1) := by decide +kernel
theorem dX9_areMeeting_2 : decode cX9_areMeeting 2 = .ok (.iload_n 1, 1) := by decide +kernel
theorem dX9_areMeeting_3 : decode cX9_areMeeting 3 = .ok (.invokevirtual 132, 3) := by decide +kernel
theorem dX9_areMeeting_6 : decode cX9_areMeeting 6 = .ok (.aload_n 0, 1) := by decide +kernel
theorem dX9_areMeeting_7 : decode cX9_areMeeting 7 = .ok (.iconst 0, 1) := by decide +kernel
theorem dX9_areMeeting_8 : decode cX9_areMeeting 8 = .ok (.iload_n 2, 1) := by decide +kernel
theorem dX9_areMeeting_9 : decode cX9_areMeeting 9 = .ok (.invokevirtual 132, 3) := by decide +kernel
theorem dX9_areMeeting_12 : decode cX9_areMeeting 12 = .ok (.if_icmp .eq 7, 3) := by decide +kernel
theorem dX9_areMeeting_15 : decode cX9_areMeeting 15 = .ok (.iconst 1, 1) := by decide +kernel
theorem dX9_areMeeting_16 : decode cX9_areMeeting 16 = .ok (.goto 4, 3) := by decide +kernel
theorem dX9_areMeeting_19 : decode cX9_areMeeting 19 = .ok (.iconst 0, 1) := by decide +kernel
theorem dX9_areMeeting_20 : decode cX9_areMeeting 20 = .ok (.istore_n 3, 1) := by decide +kernel
theorem dX9_areMeeting_21 : decode cX9_areMeeting 21 = .ok (.aload_n 0, 1) := by decide +kernel
theorem dX9_areMeeting_22 : decode cX9_areMeeting 22 = .ok (.iconst 0, 1) := by decide +kernel
theorem dX9_areMeeting_23 : decode cX9_areMeeting 23 = .ok (.iload_n 1, 1) := by decide +kernel
theorem dX9_areMeeting_24 : decode cX9_areMeeting 24 = .ok (.invokevirtual 115, 3) := by decide +kernel
theorem dX9_areMeeting_27 : decode cX9_areMeeting 27 = .ok (.iconst 4, 1) := by decide +kernel
theorem dX9_areMeeting_28 : decode cX9_areMeeting 28 = .ok (.if_icmp .eq 13, 3) := by decide +kernel
theorem dX9_areMeeting_31 : decode cX9_areMeeting 31 = .ok (.aload_n 0, 1) := by decide +kernel
theorem dX9_areMeeting_32 : decode cX9_areMeeting 32 = .ok (.iconst 0, 1) := by decide +kernel
theorem dX9_areMeeting_33 : decode cX9_areMeeting 33 = .ok (.iload_n 2, 1) := by decide +kernel
theorem dX9_areMeeting_34 : decode cX9_areMeeting 34 = .ok (.invokevirtual 115, 3) := by decide +kernel
theorem dX9_areMeeting_37 : decode cX9_areMeeting 37 = .ok (.iconst 4, 1) := by decide +kernel
theorem dX9_areMeeting_38 : decode cX9_areMeeting 38 = .ok (.if_icmp .ne 7, 3) := by decide +kernel
theorem dX9_areMeeting_41 : decode cX9_areMeeting 41 = .ok (.iconst 1, 1) := by decide +kernel
theorem dX9_areMeeting_42 : decode cX9_areMeeting 42 = .ok (.goto 4, 3) := by decide +kernel
theorem dX9_areMeeting_45 : decode cX9_areMeeting 45 = .ok (.iconst 0, 1) := by decide +kernel
theorem dX9_areMeeting_46 : decode cX9_areMeeting 46 = .ok (.istore 4, 2) := by decide +kernel
theorem dX9_areMeeting_48 : decode cX9_areMeeting 48 = .ok (.iload_n 3, 1) := by decide +kernel
theorem dX9_areMeeting_49 : decode cX9_areMeeting 49 = .ok (.ifCond .eq 41, 3) := by decide +kernel
theorem dX9_areMeeting_52 : decode cX9_areMeeting 52 = .ok (.iload 4, 2) := by decide +kernel
theorem dX9_areMeeting_54 : decode cX9_areMeeting 54 = .ok (.ifCond .eq 36, 3) := by decide +kernel
theorem dX9_areMeeting_57 : decode cX9_areMeeting 57 = .ok (.aload_n 0, 1) := by decide +kernel
theorem dX9_areMeeting_58 : decode cX9_areMeeting 58 = .ok (.getfield 34, 3) := by decide +kernel
theorem dX9_areMeeting_61 : decode cX9_areMeeting 61 = .ok (.iload_n 2, 1) := by decide +kernel
theorem dX9_areMeeting_62 : decode cX9_areMeeting 62 = .ok (.iaload, 1) := by decide +kernel
theorem dX9_areMeeting_63 : decode cX9_areMeeting 63 = .ok (.iload_n 1, 1) := by decide +kernel
theorem dX9_areMeeting_64 : decode cX9_areMeeting 64 = .ok (.invokestatic 93, 3) := by decide +kernel
theorem dX9_areMeeting_67 : decode cX9_areMeeting 67 = .ok (.ifCond .ne 23, 3) := by decide +kernel
theorem dX9_areMeeting_70 : decode cX9_areMeeting 70 = .ok (.aload_n 0, 1) := by decide +kernel
theorem dX9_areMeeting_71 : decode cX9_areMeeting 71 = .ok (.iconst 0, 1) := by decide +kernel
theorem dX9_areMeeting_72 : decode cX9_areMeeting 72 = .ok (.iload_n 1, 1) := by decide +kernel
theorem dX9_areMeeting_73 : decode cX9_areMeeting 73 = .ok (.invokevirtual 192, 3) := by decide +kernel
theorem dX9_areMeeting_76 : decode cX9_areMeeting 76 = .ok (.aload_n 0, 1) := by decide +kernel
theorem dX9_areMeeting_77 : decode cX9_areMeeting 77 = .ok (.iconst 0, 1) := by decide +kernel
theorem dX9_areMeeting_78 : decode cX9_areMeeting 78 = .ok (.iload_n 2, 1) := by decide +kernel
theorem dX9_areMeeting_79 : decode cX9_areMeeting 79 = .ok (.invokevirtual 192, 3) := by decide +kernel
theorem dX9_areMeeting_82 : decode cX9_areMeeting 82 = .ok (.iand, 1) := by decide +kernel
theorem dX9_areMeeting_83 : decode cX9_areMeeting 83 = .ok (.ifCond .ne 7, 3) := by decide +kernel
theorem dX9_areMeeting_86 : decode cX9_areMeeting 86 = .ok (.iconst 1, 1) := by decide +kernel
theorem dX9_areMeeting_87 : decode cX9_areMeeting 87 = .ok (.goto 4, 3) := by decide +kernel
theorem dX9_areMeeting_90 : decode cX9_areMeeting 90 = .ok (.iconst 0, 1) := by decide +kernel
theorem dX9_areMeeting_91 : decode cX9_areMeeting 91 = .ok (.ireturn, 1) := by decide +kernel
theorem dX9_meetingsOf_0 : decode cX9_meetingsOf 0 = .ok (.iconst 0, 1) := by decide +kernel
theorem dX9_meetingsOf_1 : decode cX9_meetingsOf 1 = .ok (.istore_n 2, 1) := by decide +kernel
theorem dX9_meetingsOf_2 : decode cX9_meetingsOf 2 = .ok (.aload_n 0, 1) := by decide +kernel
theorem dX9_meetingsOf_3 : decode cX9_meetingsOf 3 = .ok (.bipush (-9), 2) := by decide +kernel
theorem dX9_meetingsOf_5 : decode cX9_meetingsOf 5 = .ok (.putfield 232, 3) := by decide +kernel
theorem dX9_meetingsOf_8 : decode cX9_meetingsOf 8 = .ok (.iconst 0, 1) := by decide +kernel
theorem dX9_meetingsOf_9 : decode cX9_meetingsOf 9 = .ok (.istore_n 3, 1) := by decide +kernel
theorem dX9_meetingsOf_10 : decode cX9_meetingsOf 10 = .ok (.iload_n 3, 1) := by decide +kernel
theorem dX9_meetingsOf_11 : decode cX9_meetingsOf 11 = .ok (.aload_n 0, 1) := by decide +kernel
theorem dX9_meetingsOf_12 : decode cX9_meetingsOf 12 = .ok (.iconst 0, 1) := by decide +kernel
theorem dX9_meetingsOf_13 : decode cX9_meetingsOf 13 = .ok (.invokevirtual 128, 3) := by decide +kernel
theorem dX9_meetingsOf_16 : decode cX9_meetingsOf 16 = .ok (.if_icmp .ge 86, 3) := by decide +kernel
theorem dX9_meetingsOf_19 : decode cX9_meetingsOf 19 = .ok (.iload_n 3, 1) := by decide +kernel
theorem dX9_meetingsOf_20 : decode cX9_meetingsOf 20 = .ok (.iconst 1, 1) := by decide +kernel
theorem dX9_meetingsOf_21 : decode cX9_meetingsOf 21 = .ok (.iadd, 1) := by decide +kernel
theorem dX9_meetingsOf_22 : decode cX9_meetingsOf 22 = .ok (.istore 4, 2) := by decide +kernel
theorem dX9_meetingsOf_24 : decode cX9_meetingsOf 24 = .ok (.iload 4, 2) := by decide +kernel
theorem dX9_meetingsOf_26 : decode cX9_meetingsOf 26 = .ok (.aload_n 0, 1) := by decide +kernel
theorem dX9_meetingsOf_27 : decode cX9_meetingsOf 27 = .ok (.iconst 0, 1) := by decide +kernel
theorem dX9_meetingsOf_28 : decode cX9_meetingsOf 28 = .ok (.invokevirtual 128, 3) := by decide +kernel
theorem dX9_meetingsOf_31 : decode cX9_meetingsOf 31 = .ok (.if_icmp .ge 65, 3) := by decide +kernel
theorem dX9_meetingsOf_34 : decode cX9_meetingsOf 34 = .ok (.aload_n 0, 1) := by decide +kernel
theorem dX9_meetingsOf_35 : decode cX9_meetingsOf 35 = .ok (.iconst 0, 1) := by decide +kernel
theorem dX9_meetingsOf_36 : decode cX9_meetingsOf 36 = .ok (.iload_n 3, 1) := by decide +kernel
theorem dX9_meetingsOf_37 : decode cX9_meetingsOf 37 = .ok (.iload_n 1, 1) := by decide +kernel
theorem dX9_meetingsOf_38 : decode cX9_meetingsOf 38 = .ok (.invokevirtual 210, 3) := by decide +kernel
theorem dX9_meetingsOf_41 : decode cX9_meetingsOf 41 = .ok (.ifCond .eq 49, 3) := by decide +kernel
theorem dX9_meetingsOf_44 : decode cX9_meetingsOf 44 = .ok (.aload_n 0, 1) := by decide +kernel
theorem dX9_meetingsOf_45 : decode cX9_meetingsOf 45 = .ok (.iconst 0, 1) := by decide +kernel
theorem dX9_meetingsOf_46 : decode cX9_meetingsOf 46 = .ok (.iload 4, 2) := by decide +kernel
theorem dX9_meetingsOf_48 : decode cX9_meetingsOf 48 = .ok (.iload_n 1, 1) := by decide +kernel
theorem dX9_meetingsOf_49 : decode cX9_meetingsOf 49 = .ok (.invokevirtual 210, 3) := by decide +kernel
theorem dX9_meetingsOf_52 : decode cX9_meetingsOf 52 = .ok (.ifCond .eq 38, 3) := by decide +kernel
theorem dX9_meetingsOf_55 : decode cX9_meetingsOf 55 = .ok (.aload_n 0, 1) := by decide +kernel
theorem dX9_meetingsOf_56 : decode cX9_meetingsOf 56 = .ok (.iload_n 3, 1) := by decide +kernel
theorem dX9_meetingsOf_57 : decode cX9_meetingsOf 57 = .ok (.iload 4, 2) := by decide +kernel
theorem dX9_meetingsOf_59 : decode cX9_meetingsOf 59 = .ok (.invokevirtual 235, 3) := by decide +kernel
theorem dX9_meetingsOf_62 : decode cX9_meetingsOf 62 = .ok (.ifCond .eq 28, 3) := by decide +kernel
theorem dX9_meetingsOf_65 : decode cX9_meetingsOf 65 = .ok (.aload_n 0, 1) := by decide +kernel
theorem dX9_meetingsOf_66 : decode cX9_meetingsOf 66 = .ok (.iload_n 2, 1) := by decide +kernel
theorem dX9_meetingsOf_67 : decode cX9_meetingsOf 67 = .ok (.ifCond .ne 13, 3) := by decide +kernel
theorem dX9_meetingsOf_70 : decode cX9_meetingsOf 70 = .ok (.bipush 100, 2) := by decide +kernel
theorem dX9_meetingsOf_72 : decode cX9_meetingsOf 72 = .ok (.iload_n 3, 1) := by decide +kernel
theorem dX9_meetingsOf_73 : decode cX9_meetingsOf 73 = .ok (.imul, 1) := by decide +kernel
theorem dX9_meetingsOf_74 : decode cX9_meetingsOf 74 = .ok (.iload 4, 2) := by decide +kernel
theorem dX9_meetingsOf_76 : decode cX9_meetingsOf 76 = .ok (.iadd, 1) := by decide +kernel
theorem dX9_meetingsOf_77 : decode cX9_meetingsOf 77 = .ok (.goto 7, 3) := by decide +kernel
theorem dX9_meetingsOf_80 : decode cX9_meetingsOf 80 = .ok (.aload_n 0, 1) := by decide +kernel
theorem dX9_meetingsOf_81 : decode cX9_meetingsOf 81 = .ok (.getfield 232, 3) := by decide +kernel
theorem dX9_meetingsOf_84 : decode cX9_meetingsOf 84 = .ok (.putfield 232, 3) := by decide +kernel
theorem dX9_meetingsOf_87 : decode cX9_meetingsOf 87 = .ok (.iinc 2 1, 3) := by decide +kernel
theorem dX9_meetingsOf_90 : decode cX9_meetingsOf 90 = .ok (.iinc 4 1, 3) := by decide +kernel
theorem dX9_meetingsOf_93 : decode cX9_meetingsOf 93 = .ok (.goto (-69), 3) := by decide +kernel
theorem dX9_meetingsOf_96 : decode cX9_meetingsOf 96 = .ok (.iinc 3 1, 3) := by decide +kernel
theorem dX9_meetingsOf_99 : decode cX9_meetingsOf 99 = .ok (.goto (-89), 3) := by decide +kernel
theorem dX9_meetingsOf_102 : decode cX9_meetingsOf 102 = .ok (.iload_n 2, 1) := by decide +kernel
theorem dX9_meetingsOf_103 : decode cX9_meetingsOf 103 = .ok (.ireturn, 1) := by decide +kernel
theorem dX9_meetings_0 : decode cX9_meetings 0 = .ok (.iload_n 1, 1) := by decide +kernel
theorem dX9_meetings_1 : decode cX9_meetings 1 = .ok (.invokestatic 216, 3) := by decide +kernel
theorem dX9_meetings_4 : decode cX9_meetings 4 = .ok (.ifCond .ne 5, 3) := by decide +kernel
theorem dX9_meetings_7 : decode cX9_meetings 7 = .ok (.iconst (-1), 1) := by decide +kernel
theorem dX9_meetings_8 : decode cX9_meetings 8 = .ok (.ireturn, 1) := by decide +kernel
theorem dX9_meetings_9 : decode cX9_meetings 9 = .ok (.iload_n 2, 1) := by decide +kernel
theorem dX9_meetings_10 : decode cX9_meetings 10 = .ok (.i2l, 1) := by decide +kernel
theorem dX9_meetings_11 : decode cX9_meetings 11 = .ok (.lconst 0, 1) := by decide +kernel
theorem dX9_meetings_12 : decode cX9_meetings 12 = .ok (.lconst 1, 1) := by decide +kernel
theorem dX9_meetings_13 : decode cX9_meetings 13 = .ok (.invokestatic 89, 3) := by decide +kernel
theorem dX9_meetings_16 : decode cX9_meetings 16 = .ok (.ifCond .ne 6, 3) := by decide +kernel
theorem dX9_meetings_19 : decode cX9_meetings 19 = .ok (.bipush (-2), 2) := by decide +kernel
theorem dX9_meetings_21 : decode cX9_meetings 21 = .ok (.ireturn, 1) := by decide +kernel
theorem dX9_meetings_22 : decode cX9_meetings 22 = .ok (.aload_n 0, 1) := by decide +kernel
theorem dX9_meetings_23 : decode cX9_meetings 23 = .ok (.iconst 0, 1) := by decide +kernel
theorem dX9_meetings_24 : decode cX9_meetings 24 = .ok (.invokevirtual 162, 3) := by decide +kernel
theorem dX9_meetings_27 : decode cX9_meetings 27 = .ok (.aload_n 0, 1) := by decide +kernel
theorem dX9_meetings_28 : decode cX9_meetings 28 = .ok (.iconst 0, 1) := by decide +kernel
theorem dX9_meetings_29 : decode cX9_meetings 29 = .ok (.invokevirtual 229, 3) := by decide +kernel
theorem dX9_meetings_32 : decode cX9_meetings 32 = .ok (.aload_n 0, 1) := by decide +kernel
theorem dX9_meetings_33 : decode cX9_meetings 33 = .ok (.iload_n 1, 1) := by decide +kernel
theorem dX9_meetings_34 : decode cX9_meetings 34 = .ok (.invokevirtual 238, 3) := by decide +kernel
theorem dX9_meetings_37 : decode cX9_meetings 37 = .ok (.istore_n 3, 1) := by decide +kernel
theorem dX9_meetings_38 : decode cX9_meetings 38 = .ok (.iload_n 2, 1) := by decide +kernel
theorem dX9_meetings_39 : decode cX9_meetings 39 = .ok (.ifCond .ne 7, 3) := by decide +kernel
theorem dX9_meetings_42 : decode cX9_meetings 42 = .ok (.iload_n 3, 1) := by decide +kernel
theorem dX9_meetings_43 : decode cX9_meetings 43 = .ok (.goto 7, 3) := by decide +kernel
theorem dX9_meetings_46 : decode cX9_meetings 46 = .ok (.aload_n 0, 1) := by decide +kernel
theorem dX9_meetings_47 : decode cX9_meetings 47 = .ok (.getfield 232, 3) := by decide +kernel
theorem dX9_meetings_50 : decode cX9_meetings 50 = .ok (.ireturn, 1) := by decide +kernel
theorem dX9_findEdges_0 : decode cX9_findEdges 0 = .ok (.aload_n 0, 1) := by decide +kernel
theorem dX9_findEdges_1 : decode cX9_findEdges 1 = .ok (.iconst 0, 1) := by decide +kernel
theorem dX9_findEdges_2 : decode cX9_findEdges 2 = .ok (.putfield 241, 3) := by decide +kernel
theorem dX9_findEdges_5 : decode cX9_findEdges 5 = .ok (.iconst 0, 1) := by decide +kernel
theorem dX9_findEdges_6 : decode cX9_findEdges 6 = .ok (.istore_n 2, 1) := by decide +kernel
theorem dX9_findEdges_7 : decode cX9_findEdges 7 = .ok (.iload_n 2, 1) := by decide +kernel
theorem dX9_findEdges_8 : decode cX9_findEdges 8 = .ok (.aload_n 0, 1) := by decide +kernel
theorem dX9_findEdges_9 : decode cX9_findEdges 9 = .ok (.iload_n 1, 1) := by decide +kernel
theorem dX9_findEdges_10 : decode cX9_findEdges 10 = .ok (.invokevirtual 128, 3) := by decide +kernel
theorem dX9_findEdges_13 : decode cX9_findEdges 13 = .ok (.if_icmp .ge 97, 3) := by decide +kernel
theorem dX9_findEdges_16 : decode cX9_findEdges 16 = .ok (.iconst 0, 1) := by decide +kernel
theorem dX9_findEdges_17 : decode cX9_findEdges 17 = .ok (.istore_n 3, 1) := by decide +kernel
theorem dX9_findEdges_18 : decode cX9_findEdges 18 = .ok (.iload_n 3, 1) := by decide +kernel
theorem dX9_findEdges_19 : decode cX9_findEdges 19 = .ok (.iconst 4, 1) := by decide +kernel
theorem dX9_findEdges_20 : decode cX9_findEdges 20 = .ok (.if_icmp .ge 84, 3) := by decide +kernel
theorem dX9_findEdges_23 : decode cX9_findEdges 23 = .ok (.aload_n 0, 1) := by decide +kernel
theorem dX9_findEdges_24 : decode cX9_findEdges 24 = .ok (.iload_n 1, 1) := by decide +kernel
theorem dX9_findEdges_25 : decode cX9_findEdges 25 = .ok (.iload_n 2, 1) := by decide +kernel
theorem dX9_findEdges_26 : decode cX9_findEdges 26 = .ok (.invokevirtual 115, 3) := by decide +kernel
theorem dX9_findEdges_29 : decode cX9_findEdges 29 = .ok (.iconst 2, 1) := by decide +kernel
theorem dX9_findEdges_30 : decode cX9_findEdges 30 = .ok (.if_icmp .ge 74, 3) := by decide +kernel
theorem dX9_findEdges_33 : decode cX9_findEdges 33 = .ok (.aload_n 0, 1) := by decide +kernel
theorem dX9_findEdges_34 : decode cX9_findEdges 34 = .ok (.getfield 25, 3) := by decide +kernel
theorem dX9_findEdges_37 : decode cX9_findEdges 37 = .ok (.iload_n 2, 1) := by decide +kernel
theorem dX9_findEdges_38 : decode cX9_findEdges 38 = .ok (.iaload, 1) := by decide +kernel
theorem dX9_findEdges_39 : decode cX9_findEdges 39 = .ok (.aload_n 0, 1) := by decide +kernel
theorem dX9_findEdges_40 : decode cX9_findEdges 40 = .ok (.getfield 28, 3) := by decide +kernel
theorem dX9_findEdges_43 : decode cX9_findEdges 43 = .ok (.iload_n 2, 1) := by decide +kernel
theorem dX9_findEdges_44 : decode cX9_findEdges 44 = .ok (.iaload, 1) := by decide +kernel
theorem dX9_findEdges_45 : decode cX9_findEdges 45 = .ok (.ior, 1) := by decide +kernel
theorem dX9_findEdges_46 : decode cX9_findEdges 46 = .ok (.iload_n 3, 1) := by decide +kernel
theorem dX9_findEdges_47 : decode cX9_findEdges 47 = .ok (.invokestatic 93, 3) := by decide +kernel
theorem dX9_findEdges_50 : decode cX9_findEdges 50 = .ok (.ifCond .eq 48, 3) := by decide +kernel
theorem dX9_findEdges_53 : decode cX9_findEdges 53 = .ok (.aload_n 0, 1) := by decide +kernel
theorem dX9_findEdges_54 : decode cX9_findEdges 54 = .ok (.getfield 37, 3) := by decide +kernel
theorem dX9_findEdges_57 : decode cX9_findEdges 57 = .ok (.aload_n 0, 1) := by decide +kernel
theorem dX9_findEdges_58 : decode cX9_findEdges 58 = .ok (.getfield 241, 3) := by decide +kernel
theorem dX9_findEdges_61 : decode cX9_findEdges 61 = .ok (.iload_n 2, 1) := by decide +kernel
theorem dX9_findEdges_62 : decode cX9_findEdges 62 = .ok (.iastore, 1) := by decide +kernel
theorem dX9_findEdges_63 : decode cX9_findEdges 63 = .ok (.aload_n 0, 1) := by decide +kernel
theorem dX9_findEdges_64 : decode cX9_findEdges 64 = .ok (.getfield 40, 3) := by decide +kernel
theorem dX9_findEdges_67 : decode cX9_findEdges 67 = .ok (.aload_n 0, 1) := by decide +kernel
theorem dX9_findEdges_68 : decode cX9_findEdges 68 = .ok (.getfield 241, 3) := by decide +kernel
theorem dX9_findEdges_71 : decode cX9_findEdges 71 = .ok (.iload_n 3, 1) := by decide +kernel
theorem dX9_findEdges_72 : decode cX9_findEdges 72 = .ok (.iastore, 1) := by decide +kernel
theorem dX9_findEdges_73 : decode cX9_findEdges 73 = .ok (.aload_n 0, 1) := by decide +kernel
theorem dX9_findEdges_74 : decode cX9_findEdges 74 = .ok (.getfield 43, 3) := by decide +kernel
theorem dX9_findEdges_77 : decode cX9_findEdges 77 = .ok (.aload_n 0, 1) := by decide +kernel
theorem dX9_findEdges_78 : decode cX9_findEdges 78 = .ok (.getfield 241, 3) := by decide +kernel
theorem dX9_findEdges_81 : decode cX9_findEdges 81 = .ok (.aload_n 0, 1) := by decide +kernel
theorem dX9_findEdges_82 : decode cX9_findEdges 82 = .ok (.iload_n 1, 1) := by decide +kernel
theorem dX9_findEdges_83 : decode cX9_findEdges 83 = .ok (.iload_n 2, 1) := by decide +kernel
theorem dX9_findEdges_84 : decode cX9_findEdges 84 = .ok (.invokevirtual 122, 3) := by decide +kernel
theorem dX9_findEdges_87 : decode cX9_findEdges 87 = .ok (.iastore, 1) := by decide +kernel
theorem dX9_findEdges_88 : decode cX9_findEdges 88 = .ok (.aload_n 0, 1) := by decide +kernel
theorem dX9_findEdges_89 : decode cX9_findEdges 89 = .ok (.dup, 1) := by decide +kernel
theorem dX9_findEdges_90 : decode cX9_findEdges 90 = .ok (.getfield 241, 3) := by decide +kernel
theorem dX9_findEdges_93 : decode cX9_findEdges 93 = .ok (.iconst 1, 1) := by decide +kernel
theorem dX9_findEdges_94 : decode cX9_findEdges 94 = .ok (.iadd, 1) := by decide +kernel
theorem dX9_findEdges_95 : decode cX9_findEdges 95 = .ok (.putfield 241, 3) := by decide +kernel
theorem dX9_findEdges_98 : decode cX9_findEdges 98 = .ok (.iinc 3 1, 3) := by decide +kernel
theorem dX9_findEdges_101 : decode cX9_findEdges 101 = .ok (.goto (-83), 3) := by decide +kernel
theorem dX9_findEdges_104 : decode cX9_findEdges 104 = .ok (.iinc 2 1, 3) := by decide +kernel
theorem dX9_findEdges_107 : decode cX9_findEdges 107 = .ok (.goto (-100), 3) := by decide +kernel
theorem dX9_findEdges_110 : decode cX9_findEdges 110 = .ok (.return_, 1) := by decide +kernel
theorem dX9_edges_0 : decode cX9_edges 0 = .ok (.iload_n 1, 1) := by decide +kernel
theorem dX9_edges_1 : decode cX9_edges 1 = .ok (.i2l, 1) := by decide +kernel
theorem dX9_edges_2 : decode cX9_edges 2 = .ok (.lconst 0, 1) := by decide +kernel
theorem dX9_edges_3 : decode cX9_edges 3 = .ok (.ldc2_w 244, 3) := by decide +kernel
theorem dX9_edges_6 : decode cX9_edges 6 = .ok (.invokestatic 89, 3) := by decide +kernel
theorem dX9_edges_9 : decode cX9_edges 9 = .ok (.ifCond .ne 6, 3) := by decide +kernel
theorem dX9_edges_12 : decode cX9_edges 12 = .ok (.bipush (-2), 2) := by decide +kernel
theorem dX9_edges_14 : decode cX9_edges 14 = .ok (.ireturn, 1) := by decide +kernel
theorem dX9_edges_15 : decode cX9_edges 15 = .ok (.aload_n 0, 1) := by decide +kernel
theorem dX9_edges_16 : decode cX9_edges 16 = .ok (.iconst 0, 1) := by decide +kernel
theorem dX9_edges_17 : decode cX9_edges 17 = .ok (.invokevirtual 162, 3) := by decide +kernel
theorem dX9_edges_20 : decode cX9_edges 20 = .ok (.aload_n 0, 1) := by decide +kernel
theorem dX9_edges_21 : decode cX9_edges 21 = .ok (.iconst 0, 1) := by decide +kernel
theorem dX9_edges_22 : decode cX9_edges 22 = .ok (.invokevirtual 246, 3) := by decide +kernel
theorem dX9_edges_25 : decode cX9_edges 25 = .ok (.iconst 0, 1) := by decide +kernel
theorem dX9_edges_26 : decode cX9_edges 26 = .ok (.istore_n 2, 1) := by decide +kernel
theorem dX9_edges_27 : decode cX9_edges 27 = .ok (.iconst 0, 1) := by decide +kernel
theorem dX9_edges_28 : decode cX9_edges 28 = .ok (.istore_n 3, 1) := by decide +kernel
theorem dX9_edges_29 : decode cX9_edges 29 = .ok (.iload_n 3, 1) := by decide +kernel
theorem dX9_edges_30 : decode cX9_edges 30 = .ok (.aload_n 0, 1) := by decide +kernel
theorem dX9_edges_31 : decode cX9_edges 31 = .ok (.getfield 241, 3) := by decide +kernel
theorem dX9_edges_34 : decode cX9_edges 34 = .ok (.if_icmp .ge 42, 3) := by decide +kernel
theorem dX9_edges_37 : decode cX9_edges 37 = .ok (.iload_n 2, 1) := by decide +kernel
theorem dX9_edges_38 : decode cX9_edges 38 = .ok (.iload_n 1, 1) := by decide +kernel
theorem dX9_edges_39 : decode cX9_edges 39 = .ok (.ifCond .eq 24, 3) := by decide +kernel
theorem dX9_edges_42 : decode cX9_edges 42 = .ok (.iload_n 1, 1) := by decide +kernel
theorem dX9_edges_43 : decode cX9_edges 43 = .ok (.iconst 1, 1) := by decide +kernel
theorem dX9_edges_44 : decode cX9_edges 44 = .ok (.iconst 4, 1) := by decide +kernel
theorem dX9_edges_45 : decode cX9_edges 45 = .ok (.aload_n 0, 1) := by decide +kernel
theorem dX9_edges_46 : decode cX9_edges 46 = .ok (.getfield 40, 3) := by decide +kernel
theorem dX9_edges_49 : decode cX9_edges 49 = .ok (.iload_n 3, 1) := by decide +kernel
theorem dX9_edges_50 : decode cX9_edges 50 = .ok (.iaload, 1) := by decide +kernel
theorem dX9_edges_51 : decode cX9_edges 51 = .ok (.imul, 1) := by decide +kernel
theorem dX9_edges_52 : decode cX9_edges 52 = .ok (.iadd, 1) := by decide +kernel
theorem dX9_edges_53 : decode cX9_edges 53 = .ok (.aload_n 0, 1) := by decide +kernel
theorem dX9_edges_54 : decode cX9_edges 54 = .ok (.getfield 43, 3) := by decide +kernel
theorem dX9_edges_57 : decode cX9_edges 57 = .ok (.iload_n 3, 1) := by decide +kernel
theorem dX9_edges_58 : decode cX9_edges 58 = .ok (.iaload, 1) := by decide +kernel
theorem dX9_edges_59 : decode cX9_edges 59 = .ok (.iadd, 1) := by decide +kernel
theorem dX9_edges_60 : decode cX9_edges 60 = .ok (.if_icmp .ne 7, 3) := by decide +kernel
theorem dX9_edges_63 : decode cX9_edges 63 = .ok (.iconst 1, 1) := by decide +kernel
theorem dX9_edges_64 : decode cX9_edges 64 = .ok (.goto 4, 3) := by decide +kernel
theorem dX9_edges_67 : decode cX9_edges 67 = .ok (.iconst 0, 1) := by decide +kernel
theorem dX9_edges_68 : decode cX9_edges 68 = .ok (.iadd, 1) := by decide +kernel
theorem dX9_edges_69 : decode cX9_edges 69 = .ok (.istore_n 2, 1) := by decide +kernel
theorem dX9_edges_70 : decode cX9_edges 70 = .ok (.iinc 3 1, 3) := by decide +kernel
theorem dX9_edges_73 : decode cX9_edges 73 = .ok (.goto (-44), 3) := by decide +kernel
theorem dX9_edges_76 : decode cX9_edges 76 = .ok (.iload_n 2, 1) := by decide +kernel
theorem dX9_edges_77 : decode cX9_edges 77 = .ok (.ireturn, 1) := by decide +kernel
theorem dX9_follows_0 : decode cX9_follows 0 = .ok (.aload_n 0, 1) := by decide +kernel
theorem dX9_follows_1 : decode cX9_follows 1 = .ok (.aload_n 0, 1) := by decide +kernel
theorem dX9_follows_2 : decode cX9_follows 2 = .ok (.getfield 249, 3) := by decide +kernel
theorem dX9_follows_5 : decode cX9_follows 5 = .ok (.aload_n 0, 1) := by decide +kernel
theorem dX9_follows_6 : decode cX9_follows 6 = .ok (.getfield 37, 3) := by decide +kernel
theorem dX9_follows_9 : decode cX9_follows 9 = .ok (.iload_n 1, 1) := by decide +kernel
theorem dX9_follows_10 : decode cX9_follows 10 = .ok (.iaload, 1) := by decide +kernel
theorem dX9_follows_11 : decode cX9_follows 11 = .ok (.invokevirtual 115, 3) := by decide +kernel
theorem dX9_follows_14 : decode cX9_follows 14 = .ok (.iconst 1, 1) := by decide +kernel
theorem dX9_follows_15 : decode cX9_follows 15 = .ok (.if_icmp .ne 30, 3) := by decide +kernel
theorem dX9_follows_18 : decode cX9_follows 18 = .ok (.aload_n 0, 1) := by decide +kernel
theorem dX9_follows_19 : decode cX9_follows 19 = .ok (.getfield 28, 3) := by decide +kernel
theorem dX9_follows_22 : decode cX9_follows 22 = .ok (.aload_n 0, 1) := by decide +kernel
theorem dX9_follows_23 : decode cX9_follows 23 = .ok (.getfield 37, 3) := by decide +kernel
theorem dX9_follows_26 : decode cX9_follows 26 = .ok (.iload_n 2, 1) := by decide +kernel
theorem dX9_follows_27 : decode cX9_follows 27 = .ok (.iaload, 1) := by decide +kernel
theorem dX9_follows_28 : decode cX9_follows 28 = .ok (.iaload, 1) := by decide +kernel
theorem dX9_follows_29 : decode cX9_follows 29 = .ok (.aload_n 0, 1) := by decide +kernel
theorem dX9_follows_30 : decode cX9_follows 30 = .ok (.getfield 40, 3) := by decide +kernel
theorem dX9_follows_33 : decode cX9_follows 33 = .ok (.iload_n 2, 1) := by decide +kernel
theorem dX9_follows_34 : decode cX9_follows 34 = .ok (.iaload, 1) := by decide +kernel
theorem dX9_follows_35 : decode cX9_follows 35 = .ok (.invokestatic 93, 3) := by decide +kernel
theorem dX9_follows_38 : decode cX9_follows 38 = .ok (.ifCond .eq 7, 3) := by decide +kernel
theorem dX9_follows_41 : decode cX9_follows 41 = .ok (.iconst 1, 1) := by decide +kernel
theorem dX9_follows_42 : decode cX9_follows 42 = .ok (.goto 4, 3) := by decide +kernel
theorem dX9_follows_45 : decode cX9_follows 45 = .ok (.iconst 0, 1) := by decide +kernel
theorem dX9_follows_46 : decode cX9_follows 46 = .ok (.istore_n 3, 1) := by decide +kernel
theorem dX9_follows_47 : decode cX9_follows 47 = .ok (.aload_n 0, 1) := by decide +kernel
theorem dX9_follows_48 : decode cX9_follows 48 = .ok (.getfield 43, 3) := by decide +kernel
theorem dX9_follows_51 : decode cX9_follows 51 = .ok (.iload_n 1, 1) := by decide +kernel
theorem dX9_follows_52 : decode cX9_follows 52 = .ok (.iaload, 1) := by decide +kernel
theorem dX9_follows_53 : decode cX9_follows 53 = .ok (.aload_n 0, 1) := by decide +kernel
theorem dX9_follows_54 : decode cX9_follows 54 = .ok (.getfield 40, 3) := by decide +kernel
theorem dX9_follows_57 : decode cX9_follows 57 = .ok (.iload_n 2, 1) := by decide +kernel
theorem dX9_follows_58 : decode cX9_follows 58 = .ok (.iaload, 1) := by decide +kernel
theorem dX9_follows_59 : decode cX9_follows 59 = .ok (.if_icmp .ne 11, 3) := by decide +kernel
theorem dX9_follows_62 : decode cX9_follows 62 = .ok (.iload_n 3, 1) := by decide +kernel
theorem dX9_follows_63 : decode cX9_follows 63 = .ok (.ifCond .ne 7, 3) := by decide +kernel
theorem dX9_follows_66 : decode cX9_follows 66 = .ok (.iconst 1, 1) := by decide +kernel
theorem dX9_follows_67 : decode cX9_follows 67 = .ok (.goto 4, 3) := by decide +kernel
theorem dX9_follows_70 : decode cX9_follows 70 = .ok (.iconst 0, 1) := by decide +kernel
theorem dX9_follows_71 : decode cX9_follows 71 = .ok (.ireturn, 1) := by decide +kernel
theorem dX9_isUnlike_0 : decode cX9_isUnlike 0 = .ok (.iconst 1, 1) := by decide +kernel
theorem dX9_isUnlike_1 : decode cX9_isUnlike 1 = .ok (.istore_n 3, 1) := by decide +kernel
theorem dX9_isUnlike_2 : decode cX9_isUnlike 2 = .ok (.iconst 0, 1) := by decide +kernel
theorem dX9_isUnlike_3 : decode cX9_isUnlike 3 = .ok (.istore 4, 2) := by decide +kernel
theorem dX9_isUnlike_5 : decode cX9_isUnlike 5 = .ok (.iload 4, 2) := by decide +kernel
theorem dX9_isUnlike_7 : decode cX9_isUnlike 7 = .ok (.iload_n 1, 1) := by decide +kernel
theorem dX9_isUnlike_8 : decode cX9_isUnlike 8 = .ok (.if_icmp .ge 77, 3) := by decide +kernel
theorem dX9_isUnlike_11 : decode cX9_isUnlike 11 = .ok (.iload_n 3, 1) := by decide +kernel
theorem dX9_isUnlike_12 : decode cX9_isUnlike 12 = .ok (.ifCond .eq 65, 3) := by decide +kernel
theorem dX9_isUnlike_15 : decode cX9_isUnlike 15 = .ok (.aload_n 0, 1) := by decide +kernel
theorem dX9_isUnlike_16 : decode cX9_isUnlike 16 = .ok (.getfield 43, 3) := by decide +kernel
theorem dX9_isUnlike_19 : decode cX9_isUnlike 19 = .ok (.aload_n 0, 1) := by decide +kernel
theorem dX9_isUnlike_20 : decode cX9_isUnlike 20 = .ok (.getfield 46, 3) := by decide +kernel
theorem dX9_isUnlike_23 : decode cX9_isUnlike 23 = .ok (.iload 4, 2) := by decide +kernel
theorem dX9_isUnlike_25 : decode cX9_isUnlike 25 = .ok (.iaload, 1) := by decide +kernel
theorem dX9_isUnlike_26 : decode cX9_isUnlike 26 = .ok (.iaload, 1) := by decide +kernel
theorem dX9_isUnlike_27 : decode cX9_isUnlike 27 = .ok (.aload_n 0, 1) := by decide +kernel
theorem dX9_isUnlike_28 : decode cX9_isUnlike 28 = .ok (.getfield 43, 3) := by decide +kernel
theorem dX9_isUnlike_31 : decode cX9_isUnlike 31 = .ok (.iload_n 2, 1) := by decide +kernel
theorem dX9_isUnlike_32 : decode cX9_isUnlike 32 = .ok (.iaload, 1) := by decide +kernel
theorem dX9_isUnlike_33 : decode cX9_isUnlike 33 = .ok (.if_icmp .eq 44, 3) := by decide +kernel
theorem dX9_isUnlike_36 : decode cX9_isUnlike 36 = .ok (.aload_n 0, 1) := by decide +kernel
theorem dX9_isUnlike_37 : decode cX9_isUnlike 37 = .ok (.aload_n 0, 1) := by decide +kernel
theorem dX9_isUnlike_38 : decode cX9_isUnlike 38 = .ok (.getfield 249, 3) := by decide +kernel
theorem dX9_isUnlike_41 : decode cX9_isUnlike 41 = .ok (.aload_n 0, 1) := by decide +kernel
theorem dX9_isUnlike_42 : decode cX9_isUnlike 42 = .ok (.getfield 37, 3) := by decide +kernel
theorem dX9_isUnlike_45 : decode cX9_isUnlike 45 = .ok (.aload_n 0, 1) := by decide +kernel
theorem dX9_isUnlike_46 : decode cX9_isUnlike 46 = .ok (.getfield 46, 3) := by decide +kernel
theorem dX9_isUnlike_49 : decode cX9_isUnlike 49 = .ok (.iload 4, 2) := by decide +kernel
theorem dX9_isUnlike_51 : decode cX9_isUnlike 51 = .ok (.iaload, 1) := by decide +kernel
theorem dX9_isUnlike_52 : decode cX9_isUnlike 52 = .ok (.iaload, 1) := by decide +kernel
theorem dX9_isUnlike_53 : decode cX9_isUnlike 53 = .ok (.invokevirtual 132, 3) := by decide +kernel
theorem dX9_isUnlike_56 : decode cX9_isUnlike 56 = .ok (.aload_n 0, 1) := by decide +kernel
theorem dX9_isUnlike_57 : decode cX9_isUnlike 57 = .ok (.aload_n 0, 1) := by decide +kernel
theorem dX9_isUnlike_58 : decode cX9_isUnlike 58 = .ok (.getfield 249, 3) := by decide +kernel
theorem dX9_isUnlike_61 : decode cX9_isUnlike 61 = .ok (.aload_n 0, 1) := by decide +kernel
theorem dX9_isUnlike_62 : decode cX9_isUnlike 62 = .ok (.getfield 37, 3) := by decide +kernel
theorem dX9_isUnlike_65 : decode cX9_isUnlike 65 = .ok (.iload_n 2, 1) := by decide +kernel
theorem dX9_isUnlike_66 : decode cX9_isUnlike 66 = .ok (.iaload, 1) := by decide +kernel
theorem dX9_isUnlike_67 : decode cX9_isUnlike 67 = .ok (.invokevirtual 132, 3) := by decide +kernel
theorem dX9_isUnlike_70 : decode cX9_isUnlike 70 = .ok (.if_icmp .eq 7, 3) := by decide +kernel
theorem dX9_isUnlike_73 : decode cX9_isUnlike 73 = .ok (.iconst 1, 1) := by decide +kernel
theorem dX9_isUnlike_74 : decode cX9_isUnlike 74 = .ok (.goto 4, 3) := by decide +kernel
theorem dX9_isUnlike_77 : decode cX9_isUnlike 77 = .ok (.iconst 0, 1) := by decide +kernel
theorem dX9_isUnlike_78 : decode cX9_isUnlike 78 = .ok (.istore_n 3, 1) := by decide +kernel
theorem dX9_isUnlike_79 : decode cX9_isUnlike 79 = .ok (.iinc 4 1, 3) := by decide +kernel
theorem dX9_isUnlike_82 : decode cX9_isUnlike 82 = .ok (.goto (-77), 3) := by decide +kernel
theorem dX9_isUnlike_85 : decode cX9_isUnlike 85 = .ok (.iload_n 3, 1) := by decide +kernel
theorem dX9_isUnlike_86 : decode cX9_isUnlike 86 = .ok (.ireturn, 1) := by decide +kernel
theorem dX9_areGated_0 : decode cX9_areGated 0 = .ok (.aload_n 0, 1) := by decide +kernel
theorem dX9_areGated_1 : decode cX9_areGated 1 = .ok (.getfield 25, 3) := by decide +kernel
theorem dX9_areGated_4 : decode cX9_areGated 4 = .ok (.iload_n 1, 1) := by decide +kernel
theorem dX9_areGated_5 : decode cX9_areGated 5 = .ok (.iaload, 1) := by decide +kernel
theorem dX9_areGated_6 : decode cX9_areGated 6 = .ok (.aload_n 0, 1) := by decide +kernel
theorem dX9_areGated_7 : decode cX9_areGated 7 = .ok (.getfield 28, 3) := by decide +kernel
theorem dX9_areGated_10 : decode cX9_areGated 10 = .ok (.iload_n 1, 1) := by decide +kernel
theorem dX9_areGated_11 : decode cX9_areGated 11 = .ok (.iaload, 1) := by decide +kernel
theorem dX9_areGated_12 : decode cX9_areGated 12 = .ok (.ior, 1) := by decide +kernel
theorem dX9_areGated_13 : decode cX9_areGated 13 = .ok (.aload_n 0, 1) := by decide +kernel
theorem dX9_areGated_14 : decode cX9_areGated 14 = .ok (.getfield 25, 3) := by decide +kernel
theorem dX9_areGated_17 : decode cX9_areGated 17 = .ok (.iload_n 2, 1) := by decide +kernel
theorem dX9_areGated_18 : decode cX9_areGated 18 = .ok (.iaload, 1) := by decide +kernel
theorem dX9_areGated_19 : decode cX9_areGated 19 = .ok (.aload_n 0, 1) := by decide +kernel
theorem dX9_areGated_20 : decode cX9_areGated 20 = .ok (.getfield 28, 3) := by decide +kernel
theorem dX9_areGated_23 : decode cX9_areGated 23 = .ok (.iload_n 2, 1) := by decide +kernel
theorem dX9_areGated_24 : decode cX9_areGated 24 = .ok (.iaload, 1) := by decide +kernel
theorem dX9_areGated_25 : decode cX9_areGated 25 = .ok (.ior, 1) := by decide +kernel
theorem dX9_areGated_26 : decode cX9_areGated 26 = .ok (.iand, 1) := by decide +kernel
theorem dX9_areGated_27 : decode cX9_areGated 27 = .ok (.istore_n 3, 1) := by decide +kernel
theorem dX9_areGated_28 : decode cX9_areGated 28 = .ok (.iload_n 3, 1) := by decide +kernel
theorem dX9_areGated_29 : decode cX9_areGated 29 = .ok (.aload_n 0, 1) := by decide +kernel
theorem dX9_areGated_30 : decode cX9_areGated 30 = .ok (.getfield 25, 3) := by decide +kernel
theorem dX9_areGated_33 : decode cX9_areGated 33 = .ok (.iload_n 1, 1) := by decide +kernel
theorem dX9_areGated_34 : decode cX9_areGated 34 = .ok (.iaload, 1) := by decide +kernel
theorem dX9_areGated_35 : decode cX9_areGated 35 = .ok (.aload_n 0, 1) := by decide +kernel
theorem dX9_areGated_36 : decode cX9_areGated 36 = .ok (.getfield 25, 3) := by decide +kernel
theorem dX9_areGated_39 : decode cX9_areGated 39 = .ok (.iload_n 2, 1) := by decide +kernel
theorem dX9_areGated_40 : decode cX9_areGated 40 = .ok (.iaload, 1) := by decide +kernel
theorem dX9_areGated_41 : decode cX9_areGated 41 = .ok (.ior, 1) := by decide +kernel
theorem dX9_areGated_42 : decode cX9_areGated 42 = .ok (.iand, 1) := by decide +kernel
theorem dX9_areGated_43 : decode cX9_areGated 43 = .ok (.ifCond .eq 7, 3) := by decide +kernel
theorem dX9_areGated_46 : decode cX9_areGated 46 = .ok (.iconst 1, 1) := by decide +kernel
theorem dX9_areGated_47 : decode cX9_areGated 47 = .ok (.goto 4, 3) := by decide +kernel
theorem dX9_areGated_50 : decode cX9_areGated 50 = .ok (.iconst 0, 1) := by decide +kernel
theorem dX9_areGated_51 : decode cX9_areGated 51 = .ok (.ireturn, 1) := by decide +kernel
theorem dX9_takeRing_0 : decode cX9_takeRing 0 = .ok (.iconst 0, 1) := by decide +kernel
theorem dX9_takeRing_1 : decode cX9_takeRing 1 = .ok (.istore_n 2, 1) := by decide +kernel
theorem dX9_takeRing_2 : decode cX9_takeRing 2 = .ok (.iconst 0, 1) := by decide +kernel
theorem dX9_takeRing_3 : decode cX9_takeRing 3 = .ok (.istore_n 3, 1) := by decide +kernel
theorem dX9_takeRing_4 : decode cX9_takeRing 4 = .ok (.iconst 0, 1) := by decide +kernel
theorem dX9_takeRing_5 : decode cX9_takeRing 5 = .ok (.istore 4, 2) := by decide +kernel
theorem dX9_takeRing_7 : decode cX9_takeRing 7 = .ok (.iconst 0, 1) := by decide +kernel
theorem dX9_takeRing_8 : decode cX9_takeRing 8 = .ok (.istore 5, 2) := by decide +kernel
theorem dX9_takeRing_10 : decode cX9_takeRing 10 = .ok (.iload 5, 2) := by decide +kernel
theorem dX9_takeRing_12 : decode cX9_takeRing 12 = .ok (.iload_n 1, 1) := by decide +kernel
theorem dX9_takeRing_13 : decode cX9_takeRing 13 = .ok (.if_icmp .ge 153, 3) := by decide +kernel
theorem dX9_takeRing_16 : decode cX9_takeRing 16 = .ok (.aload_n 0, 1) := by decide +kernel
theorem dX9_takeRing_17 : decode cX9_takeRing 17 = .ok (.getfield 37, 3) := by decide +kernel
theorem dX9_takeRing_20 : decode cX9_takeRing 20 = .ok (.aload_n 0, 1) := by decide +kernel
theorem dX9_takeRing_21 : decode cX9_takeRing 21 = .ok (.getfield 46, 3) := by decide +kernel
theorem dX9_takeRing_24 : decode cX9_takeRing 24 = .ok (.iload 5, 2) := by decide +kernel
theorem dX9_takeRing_26 : decode cX9_takeRing 26 = .ok (.iaload, 1) := by decide +kernel
theorem dX9_takeRing_27 : decode cX9_takeRing 27 = .ok (.iaload, 1) := by decide +kernel
theorem dX9_takeRing_28 : decode cX9_takeRing 28 = .ok (.aload_n 0, 1) := by decide +kernel
theorem dX9_takeRing_29 : decode cX9_takeRing 29 = .ok (.getfield 37, 3) := by decide +kernel
theorem dX9_takeRing_32 : decode cX9_takeRing 32 = .ok (.aload_n 0, 1) := by decide +kernel
theorem dX9_takeRing_33 : decode cX9_takeRing 33 = .ok (.getfield 46, 3) := by decide +kernel
theorem dX9_takeRing_36 : decode cX9_takeRing 36 = .ok (.iload 4, 2) := by decide +kernel
theorem dX9_takeRing_38 : decode cX9_takeRing 38 = .ok (.iaload, 1) := by decide +kernel
theorem dX9_takeRing_39 : decode cX9_takeRing 39 = .ok (.iaload, 1) := by decide +kernel
theorem dX9_takeRing_40 : decode cX9_takeRing 40 = .ok (.if_icmp .ge 8, 3) := by decide +kernel
theorem dX9_takeRing_43 : decode cX9_takeRing 43 = .ok (.iload 5, 2) := by decide +kernel
theorem dX9_takeRing_45 : decode cX9_takeRing 45 = .ok (.goto 5, 3) := by decide +kernel
theorem dX9_takeRing_48 : decode cX9_takeRing 48 = .ok (.iload 4, 2) := by decide +kernel
theorem dX9_takeRing_50 : decode cX9_takeRing 50 = .ok (.istore 4, 2) := by decide +kernel
theorem dX9_takeRing_52 : decode cX9_takeRing 52 = .ok (.iconst 0, 1) := by decide +kernel
theorem dX9_takeRing_53 : decode cX9_takeRing 53 = .ok (.istore 6, 2) := by decide +kernel
theorem dX9_takeRing_55 : decode cX9_takeRing 55 = .ok (.iload 6, 2) := by decide +kernel
theorem dX9_takeRing_57 : decode cX9_takeRing 57 = .ok (.iload_n 1, 1) := by decide +kernel
theorem dX9_takeRing_58 : decode cX9_takeRing 58 = .ok (.if_icmp .ge 102, 3) := by decide +kernel
theorem dX9_takeRing_61 : decode cX9_takeRing 61 = .ok (.iload_n 2, 1) := by decide +kernel
theorem dX9_takeRing_62 : decode cX9_takeRing 62 = .ok (.ifCond .ne 41, 3) := by decide +kernel
theorem dX9_takeRing_65 : decode cX9_takeRing 65 = .ok (.iload 5, 2) := by decide +kernel
theorem dX9_takeRing_67 : decode cX9_takeRing 67 = .ok (.iload 6, 2) := by decide +kernel
theorem dX9_takeRing_69 : decode cX9_takeRing 69 = .ok (.if_icmp .eq 38, 3) := by decide +kernel
theorem dX9_takeRing_72 : decode cX9_takeRing 72 = .ok (.aload_n 0, 1) := by decide +kernel
theorem dX9_takeRing_73 : decode cX9_takeRing 73 = .ok (.aload_n 0, 1) := by decide +kernel
theorem dX9_takeRing_74 : decode cX9_takeRing 74 = .ok (.getfield 37, 3) := by decide +kernel
theorem dX9_takeRing_77 : decode cX9_takeRing 77 = .ok (.aload_n 0, 1) := by decide +kernel
theorem dX9_takeRing_78 : decode cX9_takeRing 78 = .ok (.getfield 46, 3) := by decide +kernel
theorem dX9_takeRing_81 : decode cX9_takeRing 81 = .ok (.iload 5, 2) := by decide +kernel
theorem dX9_takeRing_83 : decode cX9_takeRing 83 = .ok (.iaload, 1) := by decide +kernel
theorem dX9_takeRing_84 : decode cX9_takeRing 84 = .ok (.iaload, 1) := by decide +kernel
theorem dX9_takeRing_85 : decode cX9_takeRing 85 = .ok (.aload_n 0, 1) := by decide +kernel
theorem dX9_takeRing_86 : decode cX9_takeRing 86 = .ok (.getfield 37, 3) := by decide +kernel
theorem dX9_takeRing_89 : decode cX9_takeRing 89 = .ok (.aload_n 0, 1) := by decide +kernel
theorem dX9_takeRing_90 : decode cX9_takeRing 90 = .ok (.getfield 46, 3) := by decide +kernel
theorem dX9_takeRing_93 : decode cX9_takeRing 93 = .ok (.iload 6, 2) := by decide +kernel
theorem dX9_takeRing_95 : decode cX9_takeRing 95 = .ok (.iaload, 1) := by decide +kernel
theorem dX9_takeRing_96 : decode cX9_takeRing 96 = .ok (.iaload, 1) := by decide +kernel
theorem dX9_takeRing_97 : decode cX9_takeRing 97 = .ok (.invokevirtual 252, 3) := by decide +kernel
theorem dX9_takeRing_100 : decode cX9_takeRing 100 = .ok (.ifCond .eq 7, 3) := by decide +kernel
theorem dX9_takeRing_103 : decode cX9_takeRing 103 = .ok (.iconst 1, 1) := by decide +kernel
theorem dX9_takeRing_104 : decode cX9_takeRing 104 = .ok (.goto 4, 3) := by decide +kernel
theorem dX9_takeRing_107 : decode cX9_takeRing 107 = .ok (.iconst 0, 1) := by decide +kernel
theorem dX9_takeRing_108 : decode cX9_takeRing 108 = .ok (.istore_n 2, 1) := by decide +kernel
theorem dX9_takeRing_109 : decode cX9_takeRing 109 = .ok (.iload_n 3, 1) := by decide +kernel
theorem dX9_takeRing_110 : decode cX9_takeRing 110 = .ok (.ifCond .ne 38, 3) := by decide +kernel
theorem dX9_takeRing_113 : decode cX9_takeRing 113 = .ok (.aload_n 0, 1) := by decide +kernel
theorem dX9_takeRing_114 : decode cX9_takeRing 114 = .ok (.getfield 34, 3) := by decide +kernel
theorem dX9_takeRing_117 : decode cX9_takeRing 117 = .ok (.aload_n 0, 1) := by decide +kernel
theorem dX9_takeRing_118 : decode cX9_takeRing 118 = .ok (.getfield 37, 3) := by decide +kernel
theorem dX9_takeRing_121 : decode cX9_takeRing 121 = .ok (.aload_n 0, 1) := by decide +kernel
theorem dX9_takeRing_122 : decode cX9_takeRing 122 = .ok (.getfield 46, 3) := by decide +kernel
theorem dX9_takeRing_125 : decode cX9_takeRing 125 = .ok (.iload 5, 2) := by decide +kernel
theorem dX9_takeRing_127 : decode cX9_takeRing 127 = .ok (.iaload, 1) := by decide +kernel
theorem dX9_takeRing_128 : decode cX9_takeRing 128 = .ok (.iaload, 1) := by decide +kernel
theorem dX9_takeRing_129 : decode cX9_takeRing 129 = .ok (.iaload, 1) := by decide +kernel
theorem dX9_takeRing_130 : decode cX9_takeRing 130 = .ok (.aload_n 0, 1) := by decide +kernel
theorem dX9_takeRing_131 : decode cX9_takeRing 131 = .ok (.getfield 37, 3) := by decide +kernel
theorem dX9_takeRing_134 : decode cX9_takeRing 134 = .ok (.aload_n 0, 1) := by decide +kernel
theorem dX9_takeRing_135 : decode cX9_takeRing 135 = .ok (.getfield 46, 3) := by decide +kernel
theorem dX9_takeRing_138 : decode cX9_takeRing 138 = .ok (.iload 6, 2) := by decide +kernel
theorem dX9_takeRing_140 : decode cX9_takeRing 140 = .ok (.iaload, 1) := by decide +kernel
theorem dX9_takeRing_141 : decode cX9_takeRing 141 = .ok (.iaload, 1) := by decide +kernel
theorem dX9_takeRing_142 : decode cX9_takeRing 142 = .ok (.invokestatic 93, 3) := by decide +kernel
theorem dX9_takeRing_145 : decode cX9_takeRing 145 = .ok (.ifCond .eq 7, 3) := by decide +kernel
theorem dX9_takeRing_148 : decode cX9_takeRing 148 = .ok (.iconst 1, 1) := by decide +kernel
theorem dX9_takeRing_149 : decode cX9_takeRing 149 = .ok (.goto 4, 3) := by decide +kernel
theorem dX9_takeRing_152 : decode cX9_takeRing 152 = .ok (.iconst 0, 1) := by decide +kernel
theorem dX9_takeRing_153 : decode cX9_takeRing 153 = .ok (.istore_n 3, 1) := by decide +kernel
theorem dX9_takeRing_154 : decode cX9_takeRing 154 = .ok (.iinc 6 1, 3) := by decide +kernel
theorem dX9_takeRing_157 : decode cX9_takeRing 157 = .ok (.goto (-102), 3) := by decide +kernel
theorem dX9_takeRing_160 : decode cX9_takeRing 160 = .ok (.iinc 5 1, 3) := by decide +kernel
theorem dX9_takeRing_163 : decode cX9_takeRing 163 = .ok (.goto (-153), 3) := by decide +kernel
theorem dX9_takeRing_166 : decode cX9_takeRing 166 = .ok (.aload_n 0, 1) := by decide +kernel
theorem dX9_takeRing_167 : decode cX9_takeRing 167 = .ok (.getfield 49, 3) := by decide +kernel
theorem dX9_takeRing_170 : decode cX9_takeRing 170 = .ok (.iload_n 1, 1) := by decide +kernel
theorem dX9_takeRing_171 : decode cX9_takeRing 171 = .ok (.dup2, 1) := by decide +kernel
theorem dX9_takeRing_172 : decode cX9_takeRing 172 = .ok (.iaload, 1) := by decide +kernel
theorem dX9_takeRing_173 : decode cX9_takeRing 173 = .ok (.iconst 1, 1) := by decide +kernel
theorem dX9_takeRing_174 : decode cX9_takeRing 174 = .ok (.iadd, 1) := by decide +kernel
theorem dX9_takeRing_175 : decode cX9_takeRing 175 = .ok (.iastore, 1) := by decide +kernel
theorem dX9_takeRing_176 : decode cX9_takeRing 176 = .ok (.aload_n 0, 1) := by decide +kernel
theorem dX9_takeRing_177 : decode cX9_takeRing 177 = .ok (.getfield 52, 3) := by decide +kernel
theorem dX9_takeRing_180 : decode cX9_takeRing 180 = .ok (.iload_n 1, 1) := by decide +kernel
theorem dX9_takeRing_181 : decode cX9_takeRing 181 = .ok (.dup2, 1) := by decide +kernel
theorem dX9_takeRing_182 : decode cX9_takeRing 182 = .ok (.iaload, 1) := by decide +kernel
theorem dX9_takeRing_183 : decode cX9_takeRing 183 = .ok (.iload_n 2, 1) := by decide +kernel
theorem dX9_takeRing_184 : decode cX9_takeRing 184 = .ok (.ifCond .eq 7, 3) := by decide +kernel
theorem dX9_takeRing_187 : decode cX9_takeRing 187 = .ok (.iconst 1, 1) := by decide +kernel
theorem dX9_takeRing_188 : decode cX9_takeRing 188 = .ok (.goto 4, 3) := by decide +kernel
theorem dX9_takeRing_191 : decode cX9_takeRing 191 = .ok (.iconst 0, 1) := by decide +kernel
theorem dX9_takeRing_192 : decode cX9_takeRing 192 = .ok (.iadd, 1) := by decide +kernel
theorem dX9_takeRing_193 : decode cX9_takeRing 193 = .ok (.iastore, 1) := by decide +kernel
theorem dX9_takeRing_194 : decode cX9_takeRing 194 = .ok (.aload_n 0, 1) := by decide +kernel
theorem dX9_takeRing_195 : decode cX9_takeRing 195 = .ok (.getfield 55, 3) := by decide +kernel
theorem dX9_takeRing_198 : decode cX9_takeRing 198 = .ok (.iload_n 1, 1) := by decide +kernel
theorem dX9_takeRing_199 : decode cX9_takeRing 199 = .ok (.dup2, 1) := by decide +kernel
theorem dX9_takeRing_200 : decode cX9_takeRing 200 = .ok (.iaload, 1) := by decide +kernel
theorem dX9_takeRing_201 : decode cX9_takeRing 201 = .ok (.iload_n 3, 1) := by decide +kernel
theorem dX9_takeRing_202 : decode cX9_takeRing 202 = .ok (.ifCond .eq 7, 3) := by decide +kernel
theorem dX9_takeRing_205 : decode cX9_takeRing 205 = .ok (.iconst 1, 1) := by decide +kernel
theorem dX9_takeRing_206 : decode cX9_takeRing 206 = .ok (.goto 4, 3) := by decide +kernel
theorem dX9_takeRing_209 : decode cX9_takeRing 209 = .ok (.iconst 0, 1) := by decide +kernel
theorem dX9_takeRing_210 : decode cX9_takeRing 210 = .ok (.iadd, 1) := by decide +kernel
theorem dX9_takeRing_211 : decode cX9_takeRing 211 = .ok (.iastore, 1) := by decide +kernel
theorem dX9_takeRing_212 : decode cX9_takeRing 212 = .ok (.iload_n 2, 1) := by decide +kernel
theorem dX9_takeRing_213 : decode cX9_takeRing 213 = .ok (.ifCond .ne 7, 3) := by decide +kernel
theorem dX9_takeRing_216 : decode cX9_takeRing 216 = .ok (.iload_n 3, 1) := by decide +kernel
theorem dX9_takeRing_217 : decode cX9_takeRing 217 = .ok (.ifCond .eq 4, 3) := by decide +kernel
theorem dX9_takeRing_220 : decode cX9_takeRing 220 = .ok (.return_, 1) := by decide +kernel
theorem dX9_takeRing_221 : decode cX9_takeRing 221 = .ok (.aload_n 0, 1) := by decide +kernel
theorem dX9_takeRing_222 : decode cX9_takeRing 222 = .ok (.getfield 58, 3) := by decide +kernel
theorem dX9_takeRing_225 : decode cX9_takeRing 225 = .ok (.iload_n 1, 1) := by decide +kernel
theorem dX9_takeRing_226 : decode cX9_takeRing 226 = .ok (.dup2, 1) := by decide +kernel
theorem dX9_takeRing_227 : decode cX9_takeRing 227 = .ok (.iaload, 1) := by decide +kernel
theorem dX9_takeRing_228 : decode cX9_takeRing 228 = .ok (.iconst 1, 1) := by decide +kernel
theorem dX9_takeRing_229 : decode cX9_takeRing 229 = .ok (.iadd, 1) := by decide +kernel
theorem dX9_takeRing_230 : decode cX9_takeRing 230 = .ok (.iastore, 1) := by decide +kernel
theorem dX9_takeRing_231 : decode cX9_takeRing 231 = .ok (.lconst 0, 1) := by decide +kernel
theorem dX9_takeRing_232 : decode cX9_takeRing 232 = .ok (.lstore 5, 2) := by decide +kernel
theorem dX9_takeRing_234 : decode cX9_takeRing 234 = .ok (.iconst 0, 1) := by decide +kernel
theorem dX9_takeRing_235 : decode cX9_takeRing 235 = .ok (.istore 7, 2) := by decide +kernel
theorem dX9_takeRing_237 : decode cX9_takeRing 237 = .ok (.iload 7, 2) := by decide +kernel
theorem dX9_takeRing_239 : decode cX9_takeRing 239 = .ok (.iload_n 1, 1) := by decide +kernel
theorem dX9_takeRing_240 : decode cX9_takeRing 240 = .ok (.if_icmp .ge 38, 3) := by decide +kernel
theorem dX9_takeRing_243 : decode cX9_takeRing 243 = .ok (.ldc2_w 255, 3) := by decide +kernel
theorem dX9_takeRing_246 : decode cX9_takeRing 246 = .ok (.lload 5, 2) := by decide +kernel
theorem dX9_takeRing_248 : decode cX9_takeRing 248 = .ok (.lmul, 1) := by decide +kernel
theorem dX9_takeRing_249 : decode cX9_takeRing 249 = .ok (.aload_n 0, 1) := by decide +kernel
theorem dX9_takeRing_250 : decode cX9_takeRing 250 = .ok (.getfield 37, 3) := by decide +kernel
theorem dX9_takeRing_253 : decode cX9_takeRing 253 = .ok (.aload_n 0, 1) := by decide +kernel
theorem dX9_takeRing_254 : decode cX9_takeRing 254 = .ok (.getfield 46, 3) := by decide +kernel
theorem dX9_takeRing_257 : decode cX9_takeRing 257 = .ok (.iload 4, 2) := by decide +kernel
theorem dX9_takeRing_259 : decode cX9_takeRing 259 = .ok (.iload 7, 2) := by decide +kernel
theorem dX9_takeRing_261 : decode cX9_takeRing 261 = .ok (.iadd, 1) := by decide +kernel
theorem dX9_takeRing_262 : decode cX9_takeRing 262 = .ok (.iload_n 1, 1) := by decide +kernel
theorem dX9_takeRing_263 : decode cX9_takeRing 263 = .ok (.irem, 1) := by decide +kernel
theorem dX9_takeRing_264 : decode cX9_takeRing 264 = .ok (.iaload, 1) := by decide +kernel
theorem dX9_takeRing_265 : decode cX9_takeRing 265 = .ok (.iaload, 1) := by decide +kernel
theorem dX9_takeRing_266 : decode cX9_takeRing 266 = .ok (.i2l, 1) := by decide +kernel
theorem dX9_takeRing_267 : decode cX9_takeRing 267 = .ok (.ladd, 1) := by decide +kernel
theorem dX9_takeRing_268 : decode cX9_takeRing 268 = .ok (.lconst 1, 1) := by decide +kernel
theorem dX9_takeRing_269 : decode cX9_takeRing 269 = .ok (.ladd, 1) := by decide +kernel
theorem dX9_takeRing_270 : decode cX9_takeRing 270 = .ok (.lstore 5, 2) := by decide +kernel
theorem dX9_takeRing_272 : decode cX9_takeRing 272 = .ok (.iinc 7 1, 3) := by decide +kernel
theorem dX9_takeRing_275 : decode cX9_takeRing 275 = .ok (.goto (-38), 3) := by decide +kernel
theorem dX9_takeRing_278 : decode cX9_takeRing 278 = .ok (.aload_n 0, 1) := by decide +kernel
theorem dX9_takeRing_279 : decode cX9_takeRing 279 = .ok (.aload_n 0, 1) := by decide +kernel
theorem dX9_takeRing_280 : decode cX9_takeRing 280 = .ok (.getfield 257, 3) := by decide +kernel
theorem dX9_takeRing_283 : decode cX9_takeRing 283 = .ok (.ldc2_w 261, 3) := by decide +kernel
theorem dX9_takeRing_286 : decode cX9_takeRing 286 = .ok (.lcmp, 1) := by decide +kernel
theorem dX9_takeRing_287 : decode cX9_takeRing 287 = .ok (.ifCond .eq 13, 3) := by decide +kernel
theorem dX9_takeRing_290 : decode cX9_takeRing 290 = .ok (.lload 5, 2) := by decide +kernel
theorem dX9_takeRing_292 : decode cX9_takeRing 292 = .ok (.aload_n 0, 1) := by decide +kernel
theorem dX9_takeRing_293 : decode cX9_takeRing 293 = .ok (.getfield 257, 3) := by decide +kernel
theorem dX9_takeRing_296 : decode cX9_takeRing 296 = .ok (.lcmp, 1) := by decide +kernel
theorem dX9_takeRing_297 : decode cX9_takeRing 297 = .ok (.ifCond .ge 8, 3) := by decide +kernel
theorem dX9_takeRing_300 : decode cX9_takeRing 300 = .ok (.lload 5, 2) := by decide +kernel
theorem dX9_takeRing_302 : decode cX9_takeRing 302 = .ok (.goto 7, 3) := by decide +kernel
theorem dX9_takeRing_305 : decode cX9_takeRing 305 = .ok (.aload_n 0, 1) := by decide +kernel
theorem dX9_takeRing_306 : decode cX9_takeRing 306 = .ok (.getfield 257, 3) := by decide +kernel
theorem dX9_takeRing_309 : decode cX9_takeRing 309 = .ok (.putfield 257, 3) := by decide +kernel
theorem dX9_takeRing_312 : decode cX9_takeRing 312 = .ok (.return_, 1) := by decide +kernel
theorem dX9_close_0 : decode cX9_close 0 = .ok (.aload_n 0, 1) := by decide +kernel
theorem dX9_close_1 : decode cX9_close 1 = .ok (.aload_n 0, 1) := by decide +kernel
theorem dX9_close_2 : decode cX9_close 2 = .ok (.getfield 46, 3) := by decide +kernel
theorem dX9_close_5 : decode cX9_close 5 = .ok (.iload_n 1, 1) := by decide +kernel
theorem dX9_close_6 : decode cX9_close 6 = .ok (.iconst 1, 1) := by decide +kernel
theorem dX9_close_7 : decode cX9_close 7 = .ok (.isub, 1) := by decide +kernel
theorem dX9_close_8 : decode cX9_close 8 = .ok (.iaload, 1) := by decide +kernel
theorem dX9_close_9 : decode cX9_close 9 = .ok (.aload_n 0, 1) := by decide +kernel
theorem dX9_close_10 : decode cX9_close 10 = .ok (.getfield 46, 3) := by decide +kernel
theorem dX9_close_13 : decode cX9_close 13 = .ok (.iconst 0, 1) := by decide +kernel
theorem dX9_close_14 : decode cX9_close 14 = .ok (.iaload, 1) := by decide +kernel
theorem dX9_close_15 : decode cX9_close 15 = .ok (.invokevirtual 263, 3) := by decide +kernel
theorem dX9_close_18 : decode cX9_close 18 = .ok (.ifCond .eq 8, 3) := by decide +kernel
theorem dX9_close_21 : decode cX9_close 21 = .ok (.aload_n 0, 1) := by decide +kernel
theorem dX9_close_22 : decode cX9_close 22 = .ok (.iload_n 1, 1) := by decide +kernel
theorem dX9_close_23 : decode cX9_close 23 = .ok (.invokevirtual 266, 3) := by decide +kernel
theorem dX9_close_26 : decode cX9_close 26 = .ok (.return_, 1) := by decide +kernel
theorem dX9_goesOn_0 : decode cX9_goesOn 0 = .ok (.iload_n 2, 1) := by decide +kernel
theorem dX9_goesOn_1 : decode cX9_goesOn 1 = .ok (.aload_n 0, 1) := by decide +kernel
theorem dX9_goesOn_2 : decode cX9_goesOn 2 = .ok (.getfield 46, 3) := by decide +kernel
theorem dX9_goesOn_5 : decode cX9_goesOn 5 = .ok (.iconst 0, 1) := by decide +kernel
theorem dX9_goesOn_6 : decode cX9_goesOn 6 = .ok (.iaload, 1) := by decide +kernel
theorem dX9_goesOn_7 : decode cX9_goesOn 7 = .ok (.if_icmp .le 32, 3) := by decide +kernel
theorem dX9_goesOn_10 : decode cX9_goesOn 10 = .ok (.aload_n 0, 1) := by decide +kernel
theorem dX9_goesOn_11 : decode cX9_goesOn 11 = .ok (.aload_n 0, 1) := by decide +kernel
theorem dX9_goesOn_12 : decode cX9_goesOn 12 = .ok (.getfield 46, 3) := by decide +kernel
theorem dX9_goesOn_15 : decode cX9_goesOn 15 = .ok (.iload_n 1, 1) := by decide +kernel
theorem dX9_goesOn_16 : decode cX9_goesOn 16 = .ok (.iconst 1, 1) := by decide +kernel
theorem dX9_goesOn_17 : decode cX9_goesOn 17 = .ok (.isub, 1) := by decide +kernel
theorem dX9_goesOn_18 : decode cX9_goesOn 18 = .ok (.iaload, 1) := by decide +kernel
theorem dX9_goesOn_19 : decode cX9_goesOn 19 = .ok (.iload_n 2, 1) := by decide +kernel
theorem dX9_goesOn_20 : decode cX9_goesOn 20 = .ok (.invokevirtual 263, 3) := by decide +kernel
theorem dX9_goesOn_23 : decode cX9_goesOn 23 = .ok (.ifCond .eq 16, 3) := by decide +kernel
theorem dX9_goesOn_26 : decode cX9_goesOn 26 = .ok (.aload_n 0, 1) := by decide +kernel
theorem dX9_goesOn_27 : decode cX9_goesOn 27 = .ok (.iload_n 1, 1) := by decide +kernel
theorem dX9_goesOn_28 : decode cX9_goesOn 28 = .ok (.iload_n 2, 1) := by decide +kernel
theorem dX9_goesOn_29 : decode cX9_goesOn 29 = .ok (.invokevirtual 269, 3) := by decide +kernel
theorem dX9_goesOn_32 : decode cX9_goesOn 32 = .ok (.ifCond .eq 7, 3) := by decide +kernel
theorem dX9_goesOn_35 : decode cX9_goesOn 35 = .ok (.iconst 1, 1) := by decide +kernel
theorem dX9_goesOn_36 : decode cX9_goesOn 36 = .ok (.goto 4, 3) := by decide +kernel
theorem dX9_goesOn_39 : decode cX9_goesOn 39 = .ok (.iconst 0, 1) := by decide +kernel
theorem dX9_goesOn_40 : decode cX9_goesOn 40 = .ok (.ireturn, 1) := by decide +kernel
theorem dX9_findRings_0 : decode cX9_findRings 0 = .ok (.aload_n 0, 1) := by decide +kernel
theorem dX9_findRings_1 : decode cX9_findRings 1 = .ok (.iload_n 1, 1) := by decide +kernel
theorem dX9_findRings_2 : decode cX9_findRings 2 = .ok (.invokevirtual 162, 3) := by decide +kernel
theorem dX9_findRings_5 : decode cX9_findRings 5 = .ok (.aload_n 0, 1) := by decide +kernel
theorem dX9_findRings_6 : decode cX9_findRings 6 = .ok (.iload_n 1, 1) := by decide +kernel
theorem dX9_findRings_7 : decode cX9_findRings 7 = .ok (.invokevirtual 229, 3) := by decide +kernel
theorem dX9_findRings_10 : decode cX9_findRings 10 = .ok (.aload_n 0, 1) := by decide +kernel
theorem dX9_findRings_11 : decode cX9_findRings 11 = .ok (.iload_n 1, 1) := by decide +kernel
theorem dX9_findRings_12 : decode cX9_findRings 12 = .ok (.invokevirtual 246, 3) := by decide +kernel
theorem dX9_findRings_15 : decode cX9_findRings 15 = .ok (.aload_n 0, 1) := by decide +kernel
theorem dX9_findRings_16 : decode cX9_findRings 16 = .ok (.iload_n 1, 1) := by decide +kernel
theorem dX9_findRings_17 : decode cX9_findRings 17 = .ok (.putfield 249, 3) := by decide +kernel
theorem dX9_findRings_20 : decode cX9_findRings 20 = .ok (.aload_n 0, 1) := by decide +kernel
theorem dX9_findRings_21 : decode cX9_findRings 21 = .ok (.ldc2_w 261, 3) := by decide +kernel
theorem dX9_findRings_24 : decode cX9_findRings 24 = .ok (.putfield 257, 3) := by decide +kernel
theorem dX9_findRings_27 : decode cX9_findRings 27 = .ok (.iconst 0, 1) := by decide +kernel
theorem dX9_findRings_28 : decode cX9_findRings 28 = .ok (.istore_n 2, 1) := by decide +kernel
theorem dX9_findRings_29 : decode cX9_findRings 29 = .ok (.iload_n 2, 1) := by decide +kernel
theorem dX9_findRings_30 : decode cX9_findRings 30 = .ok (.iconst 5, 1) := by decide +kernel
theorem dX9_findRings_31 : decode cX9_findRings 31 = .ok (.if_icmp .ge 37, 3) := by decide +kernel
theorem dX9_findRings_34 : decode cX9_findRings 34 = .ok (.aload_n 0, 1) := by decide +kernel
theorem dX9_findRings_35 : decode cX9_findRings 35 = .ok (.getfield 49, 3) := by decide +kernel
theorem dX9_findRings_38 : decode cX9_findRings 38 = .ok (.iload_n 2, 1) := by decide +kernel
theorem dX9_findRings_39 : decode cX9_findRings 39 = .ok (.iconst 0, 1) := by decide +kernel
theorem dX9_findRings_40 : decode cX9_findRings 40 = .ok (.iastore, 1) := by decide +kernel
theorem dX9_findRings_41 : decode cX9_findRings 41 = .ok (.aload_n 0, 1) := by decide +kernel
theorem dX9_findRings_42 : decode cX9_findRings 42 = .ok (.getfield 52, 3) := by decide +kernel
theorem dX9_findRings_45 : decode cX9_findRings 45 = .ok (.iload_n 2, 1) := by decide +kernel
theorem dX9_findRings_46 : decode cX9_findRings 46 = .ok (.iconst 0, 1) := by decide +kernel
theorem dX9_findRings_47 : decode cX9_findRings 47 = .ok (.iastore, 1) := by decide +kernel
theorem dX9_findRings_48 : decode cX9_findRings 48 = .ok (.aload_n 0, 1) := by decide +kernel
theorem dX9_findRings_49 : decode cX9_findRings 49 = .ok (.getfield 55, 3) := by decide +kernel
theorem dX9_findRings_52 : decode cX9_findRings 52 = .ok (.iload_n 2, 1) := by decide +kernel
theorem dX9_findRings_53 : decode cX9_findRings 53 = .ok (.iconst 0, 1) := by decide +kernel
theorem dX9_findRings_54 : decode cX9_findRings 54 = .ok (.iastore, 1) := by decide +kernel
theorem dX9_findRings_55 : decode cX9_findRings 55 = .ok (.aload_n 0, 1) := by decide +kernel
theorem dX9_findRings_56 : decode cX9_findRings 56 = .ok (.getfield 58, 3) := by decide +kernel
theorem dX9_findRings_59 : decode cX9_findRings 59 = .ok (.iload_n 2, 1) := by decide +kernel
theorem dX9_findRings_60 : decode cX9_findRings 60 = .ok (.iconst 0, 1) := by decide +kernel
theorem dX9_findRings_61 : decode cX9_findRings 61 = .ok (.iastore, 1) := by decide +kernel
theorem dX9_findRings_62 : decode cX9_findRings 62 = .ok (.iinc 2 1, 3) := by decide +kernel
theorem dX9_findRings_65 : decode cX9_findRings 65 = .ok (.goto (-36), 3) := by decide +kernel
theorem dX9_findRings_68 : decode cX9_findRings 68 = .ok (.iconst 0, 1) := by decide +kernel
theorem dX9_findRings_69 : decode cX9_findRings 69 = .ok (.istore_n 2, 1) := by decide +kernel
theorem dX9_findRings_70 : decode cX9_findRings 70 = .ok (.iload_n 2, 1) := by decide +kernel
theorem dX9_findRings_71 : decode cX9_findRings 71 = .ok (.aload_n 0, 1) := by decide +kernel
theorem dX9_findRings_72 : decode cX9_findRings 72 = .ok (.getfield 241, 3) := by decide +kernel
theorem dX9_findRings_75 : decode cX9_findRings 75 = .ok (.if_icmp .ge 59, 3) := by decide +kernel
theorem dX9_findRings_78 : decode cX9_findRings 78 = .ok (.iload_n 2, 1) := by decide +kernel
theorem dX9_findRings_79 : decode cX9_findRings 79 = .ok (.iconst 1, 1) := by decide +kernel
theorem dX9_findRings_80 : decode cX9_findRings 80 = .ok (.iadd, 1) := by decide +kernel
theorem dX9_findRings_81 : decode cX9_findRings 81 = .ok (.istore_n 3, 1) := by decide +kernel
theorem dX9_findRings_82 : decode cX9_findRings 82 = .ok (.iload_n 3, 1) := by decide +kernel
theorem dX9_findRings_83 : decode cX9_findRings 83 = .ok (.aload_n 0, 1) := by decide +kernel
theorem dX9_findRings_84 : decode cX9_findRings 84 = .ok (.getfield 241, 3) := by decide +kernel
theorem dX9_findRings_87 : decode cX9_findRings 87 = .ok (.if_icmp .ge 41, 3) := by decide +kernel
theorem dX9_findRings_90 : decode cX9_findRings 90 = .ok (.aload_n 0, 1) := by decide +kernel
theorem dX9_findRings_91 : decode cX9_findRings 91 = .ok (.getfield 46, 3) := by decide +kernel
theorem dX9_findRings_94 : decode cX9_findRings 94 = .ok (.iconst 0, 1) := by decide +kernel
theorem dX9_findRings_95 : decode cX9_findRings 95 = .ok (.iload_n 2, 1) := by decide +kernel
theorem dX9_findRings_96 : decode cX9_findRings 96 = .ok (.iastore, 1) := by decide +kernel
theorem dX9_findRings_97 : decode cX9_findRings 97 = .ok (.aload_n 0, 1) := by decide +kernel
theorem dX9_findRings_98 : decode cX9_findRings 98 = .ok (.iconst 1, 1) := by decide +kernel
theorem dX9_findRings_99 : decode cX9_findRings 99 = .ok (.iload_n 3, 1) := by decide +kernel
theorem dX9_findRings_100 : decode cX9_findRings 100 = .ok (.invokevirtual 272, 3) := by decide +kernel
theorem dX9_findRings_103 : decode cX9_findRings 103 = .ok (.ifCond .eq 19, 3) := by decide +kernel
theorem dX9_findRings_106 : decode cX9_findRings 106 = .ok (.aload_n 0, 1) := by decide +kernel
theorem dX9_findRings_107 : decode cX9_findRings 107 = .ok (.getfield 46, 3) := by decide +kernel
theorem dX9_findRings_110 : decode cX9_findRings 110 = .ok (.iconst 1, 1) := by decide +kernel
theorem dX9_findRings_111 : decode cX9_findRings 111 = .ok (.iload_n 3, 1) := by decide +kernel
theorem dX9_findRings_112 : decode cX9_findRings 112 = .ok (.iastore, 1) := by decide +kernel
theorem dX9_findRings_113 : decode cX9_findRings 113 = .ok (.aload_n 0, 1) := by decide +kernel
theorem dX9_findRings_114 : decode cX9_findRings 114 = .ok (.iconst 2, 1) := by decide +kernel
theorem dX9_findRings_115 : decode cX9_findRings 115 = .ok (.invokevirtual 275, 3) := by decide +kernel
theorem dX9_findRings_118 : decode cX9_findRings 118 = .ok (.aload_n 0, 1) := by decide +kernel
theorem dX9_findRings_119 : decode cX9_findRings 119 = .ok (.invokevirtual 278, 3) := by decide +kernel
theorem dX9_findRings_122 : decode cX9_findRings 122 = .ok (.iinc 3 1, 3) := by decide +kernel
theorem dX9_findRings_125 : decode cX9_findRings 125 = .ok (.goto (-43), 3) := by decide +kernel
theorem dX9_findRings_128 : decode cX9_findRings 128 = .ok (.iinc 2 1, 3) := by decide +kernel
theorem dX9_findRings_131 : decode cX9_findRings 131 = .ok (.goto (-61), 3) := by decide +kernel
theorem dX9_findRings_134 : decode cX9_findRings 134 = .ok (.return_, 1) := by decide +kernel
theorem dX9_findLonger_0 : decode cX9_findLonger 0 = .ok (.iconst 0, 1) := by decide +kernel
theorem dX9_findLonger_1 : decode cX9_findLonger 1 = .ok (.istore_n 1, 1) := by decide +kernel
theorem dX9_findLonger_2 : decode cX9_findLonger 2 = .ok (.iload_n 1, 1) := by decide +kernel
theorem dX9_findLonger_3 : decode cX9_findLonger 3 = .ok (.aload_n 0, 1) := by decide +kernel
theorem dX9_findLonger_4 : decode cX9_findLonger 4 = .ok (.getfield 241, 3) := by decide +kernel
theorem dX9_findLonger_7 : decode cX9_findLonger 7 = .ok (.if_icmp .ge 67, 3) := by decide +kernel
theorem dX9_findLonger_10 : decode cX9_findLonger 10 = .ok (.aload_n 0, 1) := by decide +kernel
theorem dX9_findLonger_11 : decode cX9_findLonger 11 = .ok (.iconst 2, 1) := by decide +kernel
theorem dX9_findLonger_12 : decode cX9_findLonger 12 = .ok (.iload_n 1, 1) := by decide +kernel
theorem dX9_findLonger_13 : decode cX9_findLonger 13 = .ok (.invokevirtual 272, 3) := by decide +kernel
theorem dX9_findLonger_16 : decode cX9_findLonger 16 = .ok (.ifCond .eq 52, 3) := by decide +kernel
theorem dX9_findLonger_19 : decode cX9_findLonger 19 = .ok (.aload_n 0, 1) := by decide +kernel
theorem dX9_findLonger_20 : decode cX9_findLonger 20 = .ok (.getfield 46, 3) := by decide +kernel
theorem dX9_findLonger_23 : decode cX9_findLonger 23 = .ok (.iconst 2, 1) := by decide +kernel
theorem dX9_findLonger_24 : decode cX9_findLonger 24 = .ok (.iload_n 1, 1) := by decide +kernel
theorem dX9_findLonger_25 : decode cX9_findLonger 25 = .ok (.iastore, 1) := by decide +kernel
theorem dX9_findLonger_26 : decode cX9_findLonger 26 = .ok (.aload_n 0, 1) := by decide +kernel
theorem dX9_findLonger_27 : decode cX9_findLonger 27 = .ok (.iconst 3, 1) := by decide +kernel
theorem dX9_findLonger_28 : decode cX9_findLonger 28 = .ok (.invokevirtual 275, 3) := by decide +kernel
theorem dX9_findLonger_31 : decode cX9_findLonger 31 = .ok (.iconst 0, 1) := by decide +kernel
theorem dX9_findLonger_32 : decode cX9_findLonger 32 = .ok (.istore_n 2, 1) := by decide +kernel
theorem dX9_findLonger_33 : decode cX9_findLonger 33 = .ok (.iload_n 2, 1) := by decide +kernel
theorem dX9_findLonger_34 : decode cX9_findLonger 34 = .ok (.aload_n 0, 1) := by decide +kernel
theorem dX9_findLonger_35 : decode cX9_findLonger 35 = .ok (.getfield 241, 3) := by decide +kernel
theorem dX9_findLonger_38 : decode cX9_findLonger 38 = .ok (.if_icmp .ge 30, 3) := by decide +kernel
theorem dX9_findLonger_41 : decode cX9_findLonger 41 = .ok (.aload_n 0, 1) := by decide +kernel
theorem dX9_findLonger_42 : decode cX9_findLonger 42 = .ok (.iconst 3, 1) := by decide +kernel
theorem dX9_findLonger_43 : decode cX9_findLonger 43 = .ok (.iload_n 2, 1) := by decide +kernel
theorem dX9_findLonger_44 : decode cX9_findLonger 44 = .ok (.invokevirtual 272, 3) := by decide +kernel
theorem dX9_findLonger_47 : decode cX9_findLonger 47 = .ok (.ifCond .eq 15, 3) := by decide +kernel
theorem dX9_findLonger_50 : decode cX9_findLonger 50 = .ok (.aload_n 0, 1) := by decide +kernel
theorem dX9_findLonger_51 : decode cX9_findLonger 51 = .ok (.getfield 46, 3) := by decide +kernel
theorem dX9_findLonger_54 : decode cX9_findLonger 54 = .ok (.iconst 3, 1) := by decide +kernel
theorem dX9_findLonger_55 : decode cX9_findLonger 55 = .ok (.iload_n 2, 1) := by decide +kernel
theorem dX9_findLonger_56 : decode cX9_findLonger 56 = .ok (.iastore, 1) := by decide +kernel
theorem dX9_findLonger_57 : decode cX9_findLonger 57 = .ok (.aload_n 0, 1) := by decide +kernel
theorem dX9_findLonger_58 : decode cX9_findLonger 58 = .ok (.iconst 4, 1) := by decide +kernel
theorem dX9_findLonger_59 : decode cX9_findLonger 59 = .ok (.invokevirtual 275, 3) := by decide +kernel
theorem dX9_findLonger_62 : decode cX9_findLonger 62 = .ok (.iinc 2 1, 3) := by decide +kernel
theorem dX9_findLonger_65 : decode cX9_findLonger 65 = .ok (.goto (-32), 3) := by decide +kernel
theorem dX9_findLonger_68 : decode cX9_findLonger 68 = .ok (.iinc 1 1, 3) := by decide +kernel
theorem dX9_findLonger_71 : decode cX9_findLonger 71 = .ok (.goto (-69), 3) := by decide +kernel
theorem dX9_findLonger_74 : decode cX9_findLonger 74 = .ok (.return_, 1) := by decide +kernel
theorem dX9_rings_0 : decode cX9_rings 0 = .ok (.iload_n 1, 1) := by decide +kernel
theorem dX9_rings_1 : decode cX9_rings 1 = .ok (.i2l, 1) := by decide +kernel
theorem dX9_rings_2 : decode cX9_rings 2 = .ok (.ldc2_w 281, 3) := by decide +kernel
theorem dX9_rings_5 : decode cX9_rings 5 = .ok (.ldc2_w 219, 3) := by decide +kernel
theorem dX9_rings_8 : decode cX9_rings 8 = .ok (.invokestatic 89, 3) := by decide +kernel
theorem dX9_rings_11 : decode cX9_rings 11 = .ok (.ifCond .eq 15, 3) := by decide +kernel
theorem dX9_rings_14 : decode cX9_rings 14 = .ok (.iload_n 2, 1) := by decide +kernel
theorem dX9_rings_15 : decode cX9_rings 15 = .ok (.i2l, 1) := by decide +kernel
theorem dX9_rings_16 : decode cX9_rings 16 = .ok (.lconst 0, 1) := by decide +kernel
theorem dX9_rings_17 : decode cX9_rings 17 = .ok (.ldc2_w 87, 3) := by decide +kernel
theorem dX9_rings_20 : decode cX9_rings 20 = .ok (.invokestatic 89, 3) := by decide +kernel
theorem dX9_rings_23 : decode cX9_rings 23 = .ok (.ifCond .ne 6, 3) := by decide +kernel
theorem dX9_rings_26 : decode cX9_rings 26 = .ok (.bipush (-2), 2) := by decide +kernel
theorem dX9_rings_28 : decode cX9_rings 28 = .ok (.ireturn, 1) := by decide +kernel
theorem dX9_rings_29 : decode cX9_rings 29 = .ok (.aload_n 0, 1) := by decide +kernel
theorem dX9_rings_30 : decode cX9_rings 30 = .ok (.iconst 0, 1) := by decide +kernel
theorem dX9_rings_31 : decode cX9_rings 31 = .ok (.invokevirtual 283, 3) := by decide +kernel
theorem dX9_rings_34 : decode cX9_rings 34 = .ok (.iload_n 2, 1) := by decide +kernel
theorem dX9_rings_35 : decode cX9_rings 35 = .ok (.ifCond .ne 12, 3) := by decide +kernel
theorem dX9_rings_38 : decode cX9_rings 38 = .ok (.aload_n 0, 1) := by decide +kernel
theorem dX9_rings_39 : decode cX9_rings 39 = .ok (.getfield 49, 3) := by decide +kernel
theorem dX9_rings_42 : decode cX9_rings 42 = .ok (.iload_n 1, 1) := by decide +kernel
theorem dX9_rings_43 : decode cX9_rings 43 = .ok (.iaload, 1) := by decide +kernel
theorem dX9_rings_44 : decode cX9_rings 44 = .ok (.goto 37, 3) := by decide +kernel
theorem dX9_rings_47 : decode cX9_rings 47 = .ok (.iload_n 2, 1) := by decide +kernel
theorem dX9_rings_48 : decode cX9_rings 48 = .ok (.iconst 1, 1) := by decide +kernel
theorem dX9_rings_49 : decode cX9_rings 49 = .ok (.if_icmp .ne 12, 3) := by decide +kernel
theorem dX9_rings_52 : decode cX9_rings 52 = .ok (.aload_n 0, 1) := by decide +kernel
theorem dX9_rings_53 : decode cX9_rings 53 = .ok (.getfield 52, 3) := by decide +kernel
theorem dX9_rings_56 : decode cX9_rings 56 = .ok (.iload_n 1, 1) := by decide +kernel
theorem dX9_rings_57 : decode cX9_rings 57 = .ok (.iaload, 1) := by decide +kernel
theorem dX9_rings_58 : decode cX9_rings 58 = .ok (.goto 23, 3) := by decide +kernel
theorem dX9_rings_61 : decode cX9_rings 61 = .ok (.iload_n 2, 1) := by decide +kernel
theorem dX9_rings_62 : decode cX9_rings 62 = .ok (.iconst 2, 1) := by decide +kernel
theorem dX9_rings_63 : decode cX9_rings 63 = .ok (.if_icmp .ne 12, 3) := by decide +kernel
theorem dX9_rings_66 : decode cX9_rings 66 = .ok (.aload_n 0, 1) := by decide +kernel
theorem dX9_rings_67 : decode cX9_rings 67 = .ok (.getfield 55, 3) := by decide +kernel
theorem dX9_rings_70 : decode cX9_rings 70 = .ok (.iload_n 1, 1) := by decide +kernel
theorem dX9_rings_71 : decode cX9_rings 71 = .ok (.iaload, 1) := by decide +kernel
theorem dX9_rings_72 : decode cX9_rings 72 = .ok (.goto 9, 3) := by decide +kernel
theorem dX9_rings_75 : decode cX9_rings 75 = .ok (.aload_n 0, 1) := by decide +kernel
theorem dX9_rings_76 : decode cX9_rings 76 = .ok (.getfield 58, 3) := by decide +kernel
theorem dX9_rings_79 : decode cX9_rings 79 = .ok (.iload_n 1, 1) := by decide +kernel
theorem dX9_rings_80 : decode cX9_rings 80 = .ok (.iaload, 1) := by decide +kernel
theorem dX9_rings_81 : decode cX9_rings 81 = .ok (.ireturn, 1) := by decide +kernel
theorem dX9_first_0 : decode cX9_first 0 = .ok (.aload_n 0, 1) := by decide +kernel
theorem dX9_first_1 : decode cX9_first 1 = .ok (.iconst 0, 1) := by decide +kernel
theorem dX9_first_2 : decode cX9_first 2 = .ok (.invokevirtual 283, 3) := by decide +kernel
theorem dX9_first_5 : decode cX9_first 5 = .ok (.aload_n 0, 1) := by decide +kernel
theorem dX9_first_6 : decode cX9_first 6 = .ok (.getfield 257, 3) := by decide +kernel
theorem dX9_first_9 : decode cX9_first 9 = .ok (.l2i, 1) := by decide +kernel
theorem dX9_first_10 : decode cX9_first 10 = .ok (.ireturn, 1) := by decide +kernel
theorem dX9_feasibleOn_0 : decode cX9_feasibleOn 0 = .ok (.aload_n 0, 1) := by decide +kernel
theorem dX9_feasibleOn_1 : decode cX9_feasibleOn 1 = .ok (.iload_n 1, 1) := by decide +kernel
theorem dX9_feasibleOn_2 : decode cX9_feasibleOn 2 = .ok (.invokevirtual 283, 3) := by decide +kernel
theorem dX9_feasibleOn_5 : decode cX9_feasibleOn 5 = .ok (.aload_n 0, 1) := by decide +kernel
theorem dX9_feasibleOn_6 : decode cX9_feasibleOn 6 = .ok (.getfield 58, 3) := by decide +kernel
theorem dX9_feasibleOn_9 : decode cX9_feasibleOn 9 = .ok (.iconst 2, 1) := by decide +kernel
theorem dX9_feasibleOn_10 : decode cX9_feasibleOn 10 = .ok (.iaload, 1) := by decide +kernel
theorem dX9_feasibleOn_11 : decode cX9_feasibleOn 11 = .ok (.aload_n 0, 1) := by decide +kernel
theorem dX9_feasibleOn_12 : decode cX9_feasibleOn 12 = .ok (.getfield 58, 3) := by decide +kernel
theorem dX9_feasibleOn_15 : decode cX9_feasibleOn 15 = .ok (.iconst 3, 1) := by decide +kernel
theorem dX9_feasibleOn_16 : decode cX9_feasibleOn 16 = .ok (.iaload, 1) := by decide +kernel
theorem dX9_feasibleOn_17 : decode cX9_feasibleOn 17 = .ok (.iadd, 1) := by decide +kernel
theorem dX9_feasibleOn_18 : decode cX9_feasibleOn 18 = .ok (.aload_n 0, 1) := by decide +kernel
theorem dX9_feasibleOn_19 : decode cX9_feasibleOn 19 = .ok (.getfield 58, 3) := by decide +kernel
theorem dX9_feasibleOn_22 : decode cX9_feasibleOn 22 = .ok (.iconst 4, 1) := by decide +kernel
theorem dX9_feasibleOn_23 : decode cX9_feasibleOn 23 = .ok (.iaload, 1) := by decide +kernel
theorem dX9_feasibleOn_24 : decode cX9_feasibleOn 24 = .ok (.iadd, 1) := by decide +kernel
theorem dX9_feasibleOn_25 : decode cX9_feasibleOn 25 = .ok (.ireturn, 1) := by decide +kernel
theorem dX9_isSo_0 : decode cX9_isSo 0 = .ok (.aload_n 0, 1) := by decide +kernel
theorem dX9_isSo_1 : decode cX9_isSo 1 = .ok (.iconst 1, 1) := by decide +kernel
theorem dX9_isSo_2 : decode cX9_isSo 2 = .ok (.invokevirtual 162, 3) := by decide +kernel
theorem dX9_isSo_5 : decode cX9_isSo 5 = .ok (.iload_n 1, 1) := by decide +kernel
theorem dX9_isSo_6 : decode cX9_isSo 6 = .ok (.tableswitch 196 3 6 #[30, 80, 135, 154], 30) := by decide +kernel
theorem dX9_isSo_36 : decode cX9_isSo 36 = .ok (.aload_n 0, 1) := by decide +kernel
theorem dX9_isSo_37 : decode cX9_isSo 37 = .ok (.iconst 1, 1) := by decide +kernel
theorem dX9_isSo_38 : decode cX9_isSo 38 = .ok (.iload_n 2, 1) := by decide +kernel
theorem dX9_isSo_39 : decode cX9_isSo 39 = .ok (.bipush 10, 2) := by decide +kernel
theorem dX9_isSo_41 : decode cX9_isSo 41 = .ok (.idiv, 1) := by decide +kernel
theorem dX9_isSo_42 : decode cX9_isSo 42 = .ok (.iconst 4, 1) := by decide +kernel
theorem dX9_isSo_43 : decode cX9_isSo 43 = .ok (.irem, 1) := by decide +kernel
theorem dX9_isSo_44 : decode cX9_isSo 44 = .ok (.aload_n 0, 1) := by decide +kernel
theorem dX9_isSo_45 : decode cX9_isSo 45 = .ok (.iconst 1, 1) := by decide +kernel
theorem dX9_isSo_46 : decode cX9_isSo 46 = .ok (.invokevirtual 128, 3) := by decide +kernel
theorem dX9_isSo_49 : decode cX9_isSo 49 = .ok (.bipush 15, 2) := by decide +kernel
theorem dX9_isSo_51 : decode cX9_isSo 51 = .ok (.iconst 0, 1) := by decide +kernel
theorem dX9_isSo_52 : decode cX9_isSo 52 = .ok (.invokevirtual 221, 3) := by decide +kernel
theorem dX9_isSo_55 : decode cX9_isSo 55 = .ok (.iload_n 2, 1) := by decide +kernel
theorem dX9_isSo_56 : decode cX9_isSo 56 = .ok (.bipush 10, 2) := by decide +kernel
theorem dX9_isSo_58 : decode cX9_isSo 58 = .ok (.irem, 1) := by decide +kernel
theorem dX9_isSo_59 : decode cX9_isSo 59 = .ok (.ifCond .ne 25, 3) := by decide +kernel
theorem dX9_isSo_62 : decode cX9_isSo 62 = .ok (.iload_n 2, 1) := by decide +kernel
theorem dX9_isSo_63 : decode cX9_isSo 63 = .ok (.bipush 10, 2) := by decide +kernel
theorem dX9_isSo_65 : decode cX9_isSo 65 = .ok (.idiv, 1) := by decide +kernel
theorem dX9_isSo_66 : decode cX9_isSo 66 = .ok (.invokestatic 216, 3) := by decide +kernel
theorem dX9_isSo_69 : decode cX9_isSo 69 = .ok (.ifCond .eq 15, 3) := by decide +kernel
theorem dX9_isSo_72 : decode cX9_isSo 72 = .ok (.aload_n 0, 1) := by decide +kernel
theorem dX9_isSo_73 : decode cX9_isSo 73 = .ok (.getfield 198, 3) := by decide +kernel
theorem dX9_isSo_76 : decode cX9_isSo 76 = .ok (.iload_n 3, 1) := by decide +kernel
theorem dX9_isSo_77 : decode cX9_isSo 77 = .ok (.if_icmp .ne 7, 3) := by decide +kernel
theorem dX9_isSo_80 : decode cX9_isSo 80 = .ok (.iconst 1, 1) := by decide +kernel
theorem dX9_isSo_81 : decode cX9_isSo 81 = .ok (.goto 4, 3) := by decide +kernel
theorem dX9_isSo_84 : decode cX9_isSo 84 = .ok (.iconst 0, 1) := by decide +kernel
theorem dX9_isSo_85 : decode cX9_isSo 85 = .ok (.ireturn, 1) := by decide +kernel
theorem dX9_isSo_86 : decode cX9_isSo 86 = .ok (.iload_n 2, 1) := by decide +kernel
theorem dX9_isSo_87 : decode cX9_isSo 87 = .ok (.bipush 10, 2) := by decide +kernel
theorem dX9_isSo_89 : decode cX9_isSo 89 = .ok (.irem, 1) := by decide +kernel
theorem dX9_isSo_90 : decode cX9_isSo 90 = .ok (.ifCond .ne 49, 3) := by decide +kernel
theorem dX9_isSo_93 : decode cX9_isSo 93 = .ok (.iload_n 2, 1) := by decide +kernel
theorem dX9_isSo_94 : decode cX9_isSo 94 = .ok (.bipush 10, 2) := by decide +kernel
theorem dX9_isSo_96 : decode cX9_isSo 96 = .ok (.idiv, 1) := by decide +kernel
theorem dX9_isSo_97 : decode cX9_isSo 97 = .ok (.invokestatic 216, 3) := by decide +kernel
theorem dX9_isSo_100 : decode cX9_isSo 100 = .ok (.ifCond .eq 39, 3) := by decide +kernel
theorem dX9_isSo_103 : decode cX9_isSo 103 = .ok (.iload_n 3, 1) := by decide +kernel
theorem dX9_isSo_104 : decode cX9_isSo 104 = .ok (.iconst 2, 1) := by decide +kernel
theorem dX9_isSo_105 : decode cX9_isSo 105 = .ok (.if_icmp .ge 34, 3) := by decide +kernel
theorem dX9_isSo_108 : decode cX9_isSo 108 = .ok (.aload_n 0, 1) := by decide +kernel
theorem dX9_isSo_109 : decode cX9_isSo 109 = .ok (.iconst 1, 1) := by decide +kernel
theorem dX9_isSo_110 : decode cX9_isSo 110 = .ok (.bipush 15, 2) := by decide +kernel
theorem dX9_isSo_112 : decode cX9_isSo 112 = .ok (.invokevirtual 286, 3) := by decide +kernel
theorem dX9_isSo_115 : decode cX9_isSo 115 = .ok (.iload_n 2, 1) := by decide +kernel
theorem dX9_isSo_116 : decode cX9_isSo 116 = .ok (.bipush 10, 2) := by decide +kernel
theorem dX9_isSo_118 : decode cX9_isSo 118 = .ok (.idiv, 1) := by decide +kernel
theorem dX9_isSo_119 : decode cX9_isSo 119 = .ok (.invokestatic 93, 3) := by decide +kernel
theorem dX9_isSo_122 : decode cX9_isSo 122 = .ok (.iload_n 3, 1) := by decide +kernel
theorem dX9_isSo_123 : decode cX9_isSo 123 = .ok (.iconst 1, 1) := by decide +kernel
theorem dX9_isSo_124 : decode cX9_isSo 124 = .ok (.if_icmp .ne 7, 3) := by decide +kernel
theorem dX9_isSo_127 : decode cX9_isSo 127 = .ok (.iconst 1, 1) := by decide +kernel
theorem dX9_isSo_128 : decode cX9_isSo 128 = .ok (.goto 4, 3) := by decide +kernel
theorem dX9_isSo_131 : decode cX9_isSo 131 = .ok (.iconst 0, 1) := by decide +kernel
theorem dX9_isSo_132 : decode cX9_isSo 132 = .ok (.if_icmp .ne 7, 3) := by decide +kernel
theorem dX9_isSo_135 : decode cX9_isSo 135 = .ok (.iconst 1, 1) := by decide +kernel
theorem dX9_isSo_136 : decode cX9_isSo 136 = .ok (.goto 4, 3) := by decide +kernel
theorem dX9_isSo_139 : decode cX9_isSo 139 = .ok (.iconst 0, 1) := by decide +kernel
theorem dX9_isSo_140 : decode cX9_isSo 140 = .ok (.ireturn, 1) := by decide +kernel
theorem dX9_isSo_141 : decode cX9_isSo 141 = .ok (.iload_n 2, 1) := by decide +kernel
theorem dX9_isSo_142 : decode cX9_isSo 142 = .ok (.ifCond .ne 16, 3) := by decide +kernel
theorem dX9_isSo_145 : decode cX9_isSo 145 = .ok (.aload_n 0, 1) := by decide +kernel
theorem dX9_isSo_146 : decode cX9_isSo 146 = .ok (.iconst 1, 1) := by decide +kernel
theorem dX9_isSo_147 : decode cX9_isSo 147 = .ok (.invokevirtual 289, 3) := by decide +kernel
theorem dX9_isSo_150 : decode cX9_isSo 150 = .ok (.iload_n 3, 1) := by decide +kernel
theorem dX9_isSo_151 : decode cX9_isSo 151 = .ok (.if_icmp .lt 7, 3) := by decide +kernel
theorem dX9_isSo_154 : decode cX9_isSo 154 = .ok (.iconst 1, 1) := by decide +kernel
theorem dX9_isSo_155 : decode cX9_isSo 155 = .ok (.goto 4, 3) := by decide +kernel
theorem dX9_isSo_158 : decode cX9_isSo 158 = .ok (.iconst 0, 1) := by decide +kernel
theorem dX9_isSo_159 : decode cX9_isSo 159 = .ok (.ireturn, 1) := by decide +kernel
theorem dX9_isSo_160 : decode cX9_isSo 160 = .ok (.aload_n 0, 1) := by decide +kernel
theorem dX9_isSo_161 : decode cX9_isSo 161 = .ok (.iconst 1, 1) := by decide +kernel
theorem dX9_isSo_162 : decode cX9_isSo 162 = .ok (.iload_n 2, 1) := by decide +kernel
theorem dX9_isSo_163 : decode cX9_isSo 163 = .ok (.invokevirtual 159, 3) := by decide +kernel
theorem dX9_isSo_166 : decode cX9_isSo 166 = .ok (.ifCond .eq 34, 3) := by decide +kernel
theorem dX9_isSo_169 : decode cX9_isSo 169 = .ok (.iload_n 3, 1) := by decide +kernel
theorem dX9_isSo_170 : decode cX9_isSo 170 = .ok (.invokestatic 216, 3) := by decide +kernel
theorem dX9_isSo_173 : decode cX9_isSo 173 = .ok (.ifCond .eq 27, 3) := by decide +kernel
theorem dX9_isSo_176 : decode cX9_isSo 176 = .ok (.aload_n 0, 1) := by decide +kernel
theorem dX9_isSo_177 : decode cX9_isSo 177 = .ok (.getfield 25, 3) := by decide +kernel
theorem dX9_isSo_180 : decode cX9_isSo 180 = .ok (.iload_n 2, 1) := by decide +kernel
theorem dX9_isSo_181 : decode cX9_isSo 181 = .ok (.iaload, 1) := by decide +kernel
theorem dX9_isSo_182 : decode cX9_isSo 182 = .ok (.aload_n 0, 1) := by decide +kernel
theorem dX9_isSo_183 : decode cX9_isSo 183 = .ok (.getfield 28, 3) := by decide +kernel
theorem dX9_isSo_186 : decode cX9_isSo 186 = .ok (.iload_n 2, 1) := by decide +kernel
theorem dX9_isSo_187 : decode cX9_isSo 187 = .ok (.iaload, 1) := by decide +kernel
theorem dX9_isSo_188 : decode cX9_isSo 188 = .ok (.ior, 1) := by decide +kernel
theorem dX9_isSo_189 : decode cX9_isSo 189 = .ok (.iload_n 3, 1) := by decide +kernel
theorem dX9_isSo_190 : decode cX9_isSo 190 = .ok (.invokestatic 93, 3) := by decide +kernel
theorem dX9_isSo_193 : decode cX9_isSo 193 = .ok (.ifCond .eq 7, 3) := by decide +kernel
theorem dX9_isSo_196 : decode cX9_isSo 196 = .ok (.iconst 1, 1) := by decide +kernel
theorem dX9_isSo_197 : decode cX9_isSo 197 = .ok (.goto 4, 3) := by decide +kernel
theorem dX9_isSo_200 : decode cX9_isSo 200 = .ok (.iconst 0, 1) := by decide +kernel
theorem dX9_isSo_201 : decode cX9_isSo 201 = .ok (.ireturn, 1) := by decide +kernel
theorem dX9_isSo_202 : decode cX9_isSo 202 = .ok (.iconst 0, 1) := by decide +kernel
theorem dX9_isSo_203 : decode cX9_isSo 203 = .ok (.ireturn, 1) := by decide +kernel
theorem dX9_tryThing_0 : decode cX9_tryThing 0 = .ok (.iload_n 1, 1) := by decide +kernel
theorem dX9_tryThing_1 : decode cX9_tryThing 1 = .ok (.iconst 1, 1) := by decide +kernel
theorem dX9_tryThing_2 : decode cX9_tryThing 2 = .ok (.if_icmp .eq 8, 3) := by decide +kernel
theorem dX9_tryThing_5 : decode cX9_tryThing 5 = .ok (.iload_n 1, 1) := by decide +kernel
theorem dX9_tryThing_6 : decode cX9_tryThing 6 = .ok (.iconst 2, 1) := by decide +kernel
theorem dX9_tryThing_7 : decode cX9_tryThing 7 = .ok (.if_icmp .ne 7, 3) := by decide +kernel
theorem dX9_tryThing_10 : decode cX9_tryThing 10 = .ok (.iconst 1, 1) := by decide +kernel
theorem dX9_tryThing_11 : decode cX9_tryThing 11 = .ok (.goto 4, 3) := by decide +kernel
theorem dX9_tryThing_14 : decode cX9_tryThing 14 = .ok (.iconst 0, 1) := by decide +kernel
theorem dX9_tryThing_15 : decode cX9_tryThing 15 = .ok (.istore 4, 2) := by decide +kernel
theorem dX9_tryThing_17 : decode cX9_tryThing 17 = .ok (.iload 4, 2) := by decide +kernel
theorem dX9_tryThing_19 : decode cX9_tryThing 19 = .ok (.ifCond .ne 11, 3) := by decide +kernel
theorem dX9_tryThing_22 : decode cX9_tryThing 22 = .ok (.aload_n 0, 1) := by decide +kernel
theorem dX9_tryThing_23 : decode cX9_tryThing 23 = .ok (.iload_n 1, 1) := by decide +kernel
theorem dX9_tryThing_24 : decode cX9_tryThing 24 = .ok (.iload_n 2, 1) := by decide +kernel
theorem dX9_tryThing_25 : decode cX9_tryThing 25 = .ok (.iload_n 3, 1) := by decide +kernel
theorem dX9_tryThing_26 : decode cX9_tryThing 26 = .ok (.invokevirtual 292, 3) := by decide +kernel
theorem dX9_tryThing_29 : decode cX9_tryThing 29 = .ok (.ireturn, 1) := by decide +kernel
theorem dX9_tryThing_30 : decode cX9_tryThing 30 = .ok (.iload_n 3, 1) := by decide +kernel
theorem dX9_tryThing_31 : decode cX9_tryThing 31 = .ok (.ifCond .ne 32, 3) := by decide +kernel
theorem dX9_tryThing_34 : decode cX9_tryThing 34 = .ok (.aload_n 0, 1) := by decide +kernel
theorem dX9_tryThing_35 : decode cX9_tryThing 35 = .ok (.iconst 1, 1) := by decide +kernel
theorem dX9_tryThing_36 : decode cX9_tryThing 36 = .ok (.iload_n 2, 1) := by decide +kernel
theorem dX9_tryThing_37 : decode cX9_tryThing 37 = .ok (.invokevirtual 159, 3) := by decide +kernel
theorem dX9_tryThing_40 : decode cX9_tryThing 40 = .ok (.ifCond .eq 23, 3) := by decide +kernel
theorem dX9_tryThing_43 : decode cX9_tryThing 43 = .ok (.iload_n 1, 1) := by decide +kernel
theorem dX9_tryThing_44 : decode cX9_tryThing 44 = .ok (.iconst 1, 1) := by decide +kernel
theorem dX9_tryThing_45 : decode cX9_tryThing 45 = .ok (.if_icmp .eq 14, 3) := by decide +kernel
theorem dX9_tryThing_48 : decode cX9_tryThing 48 = .ok (.iload_n 2, 1) := by decide +kernel
theorem dX9_tryThing_49 : decode cX9_tryThing 49 = .ok (.aload_n 0, 1) := by decide +kernel
theorem dX9_tryThing_50 : decode cX9_tryThing 50 = .ok (.iconst 1, 1) := by decide +kernel
theorem dX9_tryThing_51 : decode cX9_tryThing 51 = .ok (.invokevirtual 128, 3) := by decide +kernel
theorem dX9_tryThing_54 : decode cX9_tryThing 54 = .ok (.iconst 1, 1) := by decide +kernel
theorem dX9_tryThing_55 : decode cX9_tryThing 55 = .ok (.isub, 1) := by decide +kernel
theorem dX9_tryThing_56 : decode cX9_tryThing 56 = .ok (.if_icmp .ge 7, 3) := by decide +kernel
theorem dX9_tryThing_59 : decode cX9_tryThing 59 = .ok (.iconst 1, 1) := by decide +kernel
theorem dX9_tryThing_60 : decode cX9_tryThing 60 = .ok (.goto 4, 3) := by decide +kernel
theorem dX9_tryThing_63 : decode cX9_tryThing 63 = .ok (.iconst 0, 1) := by decide +kernel
theorem dX9_tryThing_64 : decode cX9_tryThing 64 = .ok (.istore 5, 2) := by decide +kernel
theorem dX9_tryThing_66 : decode cX9_tryThing 66 = .ok (.iload 5, 2) := by decide +kernel
theorem dX9_tryThing_68 : decode cX9_tryThing 68 = .ok (.ifCond .ne 5, 3) := by decide +kernel
theorem dX9_tryThing_71 : decode cX9_tryThing 71 = .ok (.iconst 0, 1) := by decide +kernel
theorem dX9_tryThing_72 : decode cX9_tryThing 72 = .ok (.ireturn, 1) := by decide +kernel
theorem dX9_tryThing_73 : decode cX9_tryThing 73 = .ok (.iconst 0, 1) := by decide +kernel
theorem dX9_tryThing_74 : decode cX9_tryThing 74 = .ok (.istore 6, 2) := by decide +kernel
theorem dX9_tryThing_76 : decode cX9_tryThing 76 = .ok (.iload 6, 2) := by decide +kernel
theorem dX9_tryThing_78 : decode cX9_tryThing 78 = .ok (.bipush 21, 2) := by decide +kernel
theorem dX9_tryThing_80 : decode cX9_tryThing 80 = .ok (.if_icmp .ge 26, 3) := by decide +kernel
theorem dX9_tryThing_83 : decode cX9_tryThing 83 = .ok (.aload_n 0, 1) := by decide +kernel
theorem dX9_tryThing_84 : decode cX9_tryThing 84 = .ok (.getfield 61, 3) := by decide +kernel
theorem dX9_tryThing_87 : decode cX9_tryThing 87 = .ok (.iload 6, 2) := by decide +kernel
theorem dX9_tryThing_89 : decode cX9_tryThing 89 = .ok (.aload_n 0, 1) := by decide +kernel
theorem dX9_tryThing_90 : decode cX9_tryThing 90 = .ok (.getfield 16, 3) := by decide +kernel
theorem dX9_tryThing_93 : decode cX9_tryThing 93 = .ok (.bipush 21, 2) := by decide +kernel
theorem dX9_tryThing_95 : decode cX9_tryThing 95 = .ok (.iload 6, 2) := by decide +kernel
theorem dX9_tryThing_97 : decode cX9_tryThing 97 = .ok (.iadd, 1) := by decide +kernel
theorem dX9_tryThing_98 : decode cX9_tryThing 98 = .ok (.iaload, 1) := by decide +kernel
theorem dX9_tryThing_99 : decode cX9_tryThing 99 = .ok (.iastore, 1) := by decide +kernel
theorem dX9_tryThing_100 : decode cX9_tryThing 100 = .ok (.iinc 6 1, 3) := by decide +kernel
theorem dX9_tryThing_103 : decode cX9_tryThing 103 = .ok (.goto (-27), 3) := by decide +kernel
theorem dX9_tryThing_106 : decode cX9_tryThing 106 = .ok (.iload_n 1, 1) := by decide +kernel
theorem dX9_tryThing_107 : decode cX9_tryThing 107 = .ok (.iconst 1, 1) := by decide +kernel
theorem dX9_tryThing_108 : decode cX9_tryThing 108 = .ok (.if_icmp .ne 12, 3) := by decide +kernel
theorem dX9_tryThing_111 : decode cX9_tryThing 111 = .ok (.aload_n 0, 1) := by decide +kernel
theorem dX9_tryThing_112 : decode cX9_tryThing 112 = .ok (.iconst 1, 1) := by decide +kernel
theorem dX9_tryThing_113 : decode cX9_tryThing 113 = .ok (.iload_n 2, 1) := by decide +kernel
theorem dX9_tryThing_114 : decode cX9_tryThing 114 = .ok (.invokevirtual 182, 3) := by decide +kernel
theorem dX9_tryThing_117 : decode cX9_tryThing 117 = .ok (.goto 9, 3) := by decide +kernel
theorem dX9_tryThing_120 : decode cX9_tryThing 120 = .ok (.aload_n 0, 1) := by decide +kernel
theorem dX9_tryThing_121 : decode cX9_tryThing 121 = .ok (.iconst 1, 1) := by decide +kernel
theorem dX9_tryThing_122 : decode cX9_tryThing 122 = .ok (.iload_n 2, 1) := by decide +kernel
theorem dX9_tryThing_123 : decode cX9_tryThing 123 = .ok (.invokevirtual 189, 3) := by decide +kernel
theorem dX9_tryThing_126 : decode cX9_tryThing 126 = .ok (.aload_n 0, 1) := by decide +kernel
theorem dX9_tryThing_127 : decode cX9_tryThing 127 = .ok (.iconst 1, 1) := by decide +kernel
theorem dX9_tryThing_128 : decode cX9_tryThing 128 = .ok (.invokevirtual 172, 3) := by decide +kernel
theorem dX9_tryThing_131 : decode cX9_tryThing 131 = .ok (.istore 6, 2) := by decide +kernel
theorem dX9_tryThing_133 : decode cX9_tryThing 133 = .ok (.iconst 0, 1) := by decide +kernel
theorem dX9_tryThing_134 : decode cX9_tryThing 134 = .ok (.istore 7, 2) := by decide +kernel
theorem dX9_tryThing_136 : decode cX9_tryThing 136 = .ok (.iload 7, 2) := by decide +kernel
theorem dX9_tryThing_138 : decode cX9_tryThing 138 = .ok (.bipush 21, 2) := by decide +kernel
theorem dX9_tryThing_140 : decode cX9_tryThing 140 = .ok (.if_icmp .ge 31, 3) := by decide +kernel
theorem dX9_tryThing_143 : decode cX9_tryThing 143 = .ok (.iload 6, 2) := by decide +kernel
theorem dX9_tryThing_145 : decode cX9_tryThing 145 = .ok (.ifCond .ne 26, 3) := by decide +kernel
theorem dX9_tryThing_148 : decode cX9_tryThing 148 = .ok (.aload_n 0, 1) := by decide +kernel
theorem dX9_tryThing_149 : decode cX9_tryThing 149 = .ok (.getfield 16, 3) := by decide +kernel
theorem dX9_tryThing_152 : decode cX9_tryThing 152 = .ok (.bipush 21, 2) := by decide +kernel
theorem dX9_tryThing_154 : decode cX9_tryThing 154 = .ok (.iload 7, 2) := by decide +kernel
theorem dX9_tryThing_156 : decode cX9_tryThing 156 = .ok (.iadd, 1) := by decide +kernel
theorem dX9_tryThing_157 : decode cX9_tryThing 157 = .ok (.aload_n 0, 1) := by decide +kernel
theorem dX9_tryThing_158 : decode cX9_tryThing 158 = .ok (.getfield 61, 3) := by decide +kernel
theorem dX9_tryThing_161 : decode cX9_tryThing 161 = .ok (.iload 7, 2) := by decide +kernel
theorem dX9_tryThing_163 : decode cX9_tryThing 163 = .ok (.iaload, 1) := by decide +kernel
theorem dX9_tryThing_164 : decode cX9_tryThing 164 = .ok (.iastore, 1) := by decide +kernel
theorem dX9_tryThing_165 : decode cX9_tryThing 165 = .ok (.iinc 7 1, 3) := by decide +kernel
theorem dX9_tryThing_168 : decode cX9_tryThing 168 = .ok (.goto (-32), 3) := by decide +kernel
theorem dX9_tryThing_171 : decode cX9_tryThing 171 = .ok (.iload 6, 2) := by decide +kernel
theorem dX9_tryThing_173 : decode cX9_tryThing 173 = .ok (.ireturn, 1) := by decide +kernel
theorem dX9_tenThousandTo_0 : decode cX9_tenThousandTo 0 = .ok (.lconst 1, 1) := by decide +kernel
theorem dX9_tenThousandTo_1 : decode cX9_tenThousandTo 1 = .ok (.lstore_n 1, 1) := by decide +kernel
theorem dX9_tenThousandTo_2 : decode cX9_tenThousandTo 2 = .ok (.iconst 0, 1) := by decide +kernel
theorem dX9_tenThousandTo_3 : decode cX9_tenThousandTo 3 = .ok (.istore_n 3, 1) := by decide +kernel
theorem dX9_tenThousandTo_4 : decode cX9_tenThousandTo 4 = .ok (.iload_n 3, 1) := by decide +kernel
theorem dX9_tenThousandTo_5 : decode cX9_tenThousandTo 5 = .ok (.iload_n 0, 1) := by decide +kernel
theorem dX9_tenThousandTo_6 : decode cX9_tenThousandTo 6 = .ok (.if_icmp .ge 15, 3) := by decide +kernel
theorem dX9_tenThousandTo_9 : decode cX9_tenThousandTo 9 = .ok (.lload_n 1, 1) := by decide +kernel
theorem dX9_tenThousandTo_10 : decode cX9_tenThousandTo 10 = .ok (.ldc2_w 295, 3) := by decide +kernel
theorem dX9_tenThousandTo_13 : decode cX9_tenThousandTo 13 = .ok (.lmul, 1) := by decide +kernel
theorem dX9_tenThousandTo_14 : decode cX9_tenThousandTo 14 = .ok (.lstore_n 1, 1) := by decide +kernel
theorem dX9_tenThousandTo_15 : decode cX9_tenThousandTo 15 = .ok (.iinc 3 1, 3) := by decide +kernel
theorem dX9_tenThousandTo_18 : decode cX9_tenThousandTo 18 = .ok (.goto (-14), 3) := by decide +kernel
theorem dX9_tenThousandTo_21 : decode cX9_tenThousandTo 21 = .ok (.lload_n 1, 1) := by decide +kernel
theorem dX9_tenThousandTo_22 : decode cX9_tenThousandTo 22 = .ok (.lreturn, 1) := by decide +kernel
theorem dX9_judge_0 : decode cX9_judge 0 = .ok (.iload_n 1, 1) := by decide +kernel
theorem dX9_judge_1 : decode cX9_judge 1 = .ok (.i2l, 1) := by decide +kernel
theorem dX9_judge_2 : decode cX9_judge 2 = .ok (.lconst 1, 1) := by decide +kernel
theorem dX9_judge_3 : decode cX9_judge 3 = .ok (.ldc2_w 219, 3) := by decide +kernel
theorem dX9_judge_6 : decode cX9_judge 6 = .ok (.invokestatic 89, 3) := by decide +kernel
theorem dX9_judge_9 : decode cX9_judge 9 = .ok (.ifCond .eq 17, 3) := by decide +kernel
theorem dX9_judge_12 : decode cX9_judge 12 = .ok (.lload_n 2, 1) := by decide +kernel
theorem dX9_judge_13 : decode cX9_judge 13 = .ok (.lconst 0, 1) := by decide +kernel
theorem dX9_judge_14 : decode cX9_judge 14 = .ok (.iload_n 1, 1) := by decide +kernel
theorem dX9_judge_15 : decode cX9_judge 15 = .ok (.invokestatic 297, 3) := by decide +kernel
theorem dX9_judge_18 : decode cX9_judge 18 = .ok (.lconst 1, 1) := by decide +kernel
theorem dX9_judge_19 : decode cX9_judge 19 = .ok (.lsub, 1) := by decide +kernel
theorem dX9_judge_20 : decode cX9_judge 20 = .ok (.invokestatic 89, 3) := by decide +kernel
theorem dX9_judge_23 : decode cX9_judge 23 = .ok (.ifCond .ne 6, 3) := by decide +kernel
theorem dX9_judge_26 : decode cX9_judge 26 = .ok (.bipush (-2), 2) := by decide +kernel
theorem dX9_judge_28 : decode cX9_judge 28 = .ok (.ireturn, 1) := by decide +kernel
theorem dX9_judge_29 : decode cX9_judge 29 = .ok (.aload_n 0, 1) := by decide +kernel
theorem dX9_judge_30 : decode cX9_judge 30 = .ok (.iconst 1, 1) := by decide +kernel
theorem dX9_judge_31 : decode cX9_judge 31 = .ok (.iconst 0, 1) := by decide +kernel
theorem dX9_judge_32 : decode cX9_judge 32 = .ok (.invokevirtual 178, 3) := by decide +kernel
theorem dX9_judge_35 : decode cX9_judge 35 = .ok (.iconst 0, 1) := by decide +kernel
theorem dX9_judge_36 : decode cX9_judge 36 = .ok (.istore 4, 2) := by decide +kernel
theorem dX9_judge_38 : decode cX9_judge 38 = .ok (.iload 4, 2) := by decide +kernel
theorem dX9_judge_40 : decode cX9_judge 40 = .ok (.iload_n 1, 1) := by decide +kernel
theorem dX9_judge_41 : decode cX9_judge 41 = .ok (.if_icmp .ge 56, 3) := by decide +kernel
theorem dX9_judge_44 : decode cX9_judge 44 = .ok (.lload_n 2, 1) := by decide +kernel
theorem dX9_judge_45 : decode cX9_judge 45 = .ok (.iload_n 1, 1) := by decide +kernel
theorem dX9_judge_46 : decode cX9_judge 46 = .ok (.iconst 1, 1) := by decide +kernel
theorem dX9_judge_47 : decode cX9_judge 47 = .ok (.isub, 1) := by decide +kernel
theorem dX9_judge_48 : decode cX9_judge 48 = .ok (.iload 4, 2) := by decide +kernel
theorem dX9_judge_50 : decode cX9_judge 50 = .ok (.isub, 1) := by decide +kernel
theorem dX9_judge_51 : decode cX9_judge 51 = .ok (.invokestatic 297, 3) := by decide +kernel
theorem dX9_judge_54 : decode cX9_judge 54 = .ok (.ldiv, 1) := by decide +kernel
theorem dX9_judge_55 : decode cX9_judge 55 = .ok (.ldc2_w 295, 3) := by decide +kernel
theorem dX9_judge_58 : decode cX9_judge 58 = .ok (.lrem, 1) := by decide +kernel
theorem dX9_judge_59 : decode cX9_judge 59 = .ok (.l2i, 1) := by decide +kernel
theorem dX9_judge_60 : decode cX9_judge 60 = .ok (.istore 5, 2) := by decide +kernel
theorem dX9_judge_62 : decode cX9_judge 62 = .ok (.aload_n 0, 1) := by decide +kernel
theorem dX9_judge_63 : decode cX9_judge 63 = .ok (.iload 5, 2) := by decide +kernel
theorem dX9_judge_65 : decode cX9_judge 65 = .ok (.sipush 1000, 3) := by decide +kernel
theorem dX9_judge_68 : decode cX9_judge 68 = .ok (.idiv, 1) := by decide +kernel
theorem dX9_judge_69 : decode cX9_judge 69 = .ok (.iload 5, 2) := by decide +kernel
theorem dX9_judge_71 : decode cX9_judge 71 = .ok (.bipush 10, 2) := by decide +kernel
theorem dX9_judge_73 : decode cX9_judge 73 = .ok (.idiv, 1) := by decide +kernel
theorem dX9_judge_74 : decode cX9_judge 74 = .ok (.bipush 100, 2) := by decide +kernel
theorem dX9_judge_76 : decode cX9_judge 76 = .ok (.irem, 1) := by decide +kernel
theorem dX9_judge_77 : decode cX9_judge 77 = .ok (.iload 5, 2) := by decide +kernel
theorem dX9_judge_79 : decode cX9_judge 79 = .ok (.bipush 10, 2) := by decide +kernel
theorem dX9_judge_81 : decode cX9_judge 81 = .ok (.irem, 1) := by decide +kernel
theorem dX9_judge_82 : decode cX9_judge 82 = .ok (.invokevirtual 301, 3) := by decide +kernel
theorem dX9_judge_85 : decode cX9_judge 85 = .ok (.ifCond .ne 6, 3) := by decide +kernel
theorem dX9_judge_88 : decode cX9_judge 88 = .ok (.iload 4, 2) := by decide +kernel
theorem dX9_judge_90 : decode cX9_judge 90 = .ok (.ireturn, 1) := by decide +kernel
theorem dX9_judge_91 : decode cX9_judge 91 = .ok (.iinc 4 1, 3) := by decide +kernel
theorem dX9_judge_94 : decode cX9_judge 94 = .ok (.goto (-56), 3) := by decide +kernel
theorem dX9_judge_97 : decode cX9_judge 97 = .ok (.bipush (-9), 2) := by decide +kernel
theorem dX9_judge_99 : decode cX9_judge 99 = .ok (.ireturn, 1) := by decide +kernel
theorem dX9_see_0 : decode cX9_see 0 = .ok (.iload_n 1, 1) := by decide +kernel
theorem dX9_see_1 : decode cX9_see 1 = .ok (.invokestatic 216, 3) := by decide +kernel
theorem dX9_see_4 : decode cX9_see 4 = .ok (.ifCond .ne 5, 3) := by decide +kernel
theorem dX9_see_7 : decode cX9_see 7 = .ok (.iconst (-1), 1) := by decide +kernel
theorem dX9_see_8 : decode cX9_see 8 = .ok (.ireturn, 1) := by decide +kernel
theorem dX9_see_9 : decode cX9_see 9 = .ok (.iload_n 2, 1) := by decide +kernel
theorem dX9_see_10 : decode cX9_see 10 = .ok (.invokestatic 216, 3) := by decide +kernel
theorem dX9_see_13 : decode cX9_see 13 = .ok (.ifCond .eq 13, 3) := by decide +kernel
theorem dX9_see_16 : decode cX9_see 16 = .ok (.iload_n 3, 1) := by decide +kernel
theorem dX9_see_17 : decode cX9_see 17 = .ok (.i2l, 1) := by decide +kernel
theorem dX9_see_18 : decode cX9_see 18 = .ok (.lconst 0, 1) := by decide +kernel
theorem dX9_see_19 : decode cX9_see 19 = .ok (.lconst 1, 1) := by decide +kernel
theorem dX9_see_20 : decode cX9_see 20 = .ok (.invokestatic 89, 3) := by decide +kernel
theorem dX9_see_23 : decode cX9_see 23 = .ok (.ifCond .ne 6, 3) := by decide +kernel
theorem dX9_see_26 : decode cX9_see 26 = .ok (.bipush (-2), 2) := by decide +kernel
theorem dX9_see_28 : decode cX9_see 28 = .ok (.ireturn, 1) := by decide +kernel
theorem dX9_see_29 : decode cX9_see 29 = .ok (.aload_n 0, 1) := by decide +kernel
theorem dX9_see_30 : decode cX9_see 30 = .ok (.getfield 304, 3) := by decide +kernel
theorem dX9_see_33 : decode cX9_see 33 = .ok (.bipush 6, 2) := by decide +kernel
theorem dX9_see_35 : decode cX9_see 35 = .ok (.if_icmp .ne 6, 3) := by decide +kernel
theorem dX9_see_38 : decode cX9_see 38 = .ok (.bipush (-4), 2) := by decide +kernel
theorem dX9_see_40 : decode cX9_see 40 = .ok (.ireturn, 1) := by decide +kernel
theorem dX9_see_41 : decode cX9_see 41 = .ok (.aload_n 0, 1) := by decide +kernel
theorem dX9_see_42 : decode cX9_see 42 = .ok (.getfield 64, 3) := by decide +kernel
theorem dX9_see_45 : decode cX9_see 45 = .ok (.aload_n 0, 1) := by decide +kernel
theorem dX9_see_46 : decode cX9_see 46 = .ok (.getfield 304, 3) := by decide +kernel
theorem dX9_see_49 : decode cX9_see 49 = .ok (.iload_n 1, 1) := by decide +kernel
theorem dX9_see_50 : decode cX9_see 50 = .ok (.iastore, 1) := by decide +kernel
theorem dX9_see_51 : decode cX9_see 51 = .ok (.aload_n 0, 1) := by decide +kernel
theorem dX9_see_52 : decode cX9_see 52 = .ok (.getfield 67, 3) := by decide +kernel
theorem dX9_see_55 : decode cX9_see 55 = .ok (.aload_n 0, 1) := by decide +kernel
theorem dX9_see_56 : decode cX9_see 56 = .ok (.getfield 304, 3) := by decide +kernel
theorem dX9_see_59 : decode cX9_see 59 = .ok (.iload_n 2, 1) := by decide +kernel
theorem dX9_see_60 : decode cX9_see 60 = .ok (.iastore, 1) := by decide +kernel
theorem dX9_see_61 : decode cX9_see 61 = .ok (.aload_n 0, 1) := by decide +kernel
theorem dX9_see_62 : decode cX9_see 62 = .ok (.getfield 70, 3) := by decide +kernel
theorem dX9_see_65 : decode cX9_see 65 = .ok (.aload_n 0, 1) := by decide +kernel
theorem dX9_see_66 : decode cX9_see 66 = .ok (.getfield 304, 3) := by decide +kernel
theorem dX9_see_69 : decode cX9_see 69 = .ok (.iload_n 3, 1) := by decide +kernel
theorem dX9_see_70 : decode cX9_see 70 = .ok (.iastore, 1) := by decide +kernel
theorem dX9_see_71 : decode cX9_see 71 = .ok (.aload_n 0, 1) := by decide +kernel
theorem dX9_see_72 : decode cX9_see 72 = .ok (.dup, 1) := by decide +kernel
theorem dX9_see_73 : decode cX9_see 73 = .ok (.getfield 304, 3) := by decide +kernel
theorem dX9_see_76 : decode cX9_see 76 = .ok (.iconst 1, 1) := by decide +kernel
theorem dX9_see_77 : decode cX9_see 77 = .ok (.iadd, 1) := by decide +kernel
theorem dX9_see_78 : decode cX9_see 78 = .ok (.putfield 304, 3) := by decide +kernel
theorem dX9_see_81 : decode cX9_see 81 = .ok (.aload_n 0, 1) := by decide +kernel
theorem dX9_see_82 : decode cX9_see 82 = .ok (.getfield 304, 3) := by decide +kernel
theorem dX9_see_85 : decode cX9_see 85 = .ok (.ireturn, 1) := by decide +kernel
theorem dX9_unsee_0 : decode cX9_unsee 0 = .ok (.aload_n 0, 1) := by decide +kernel
theorem dX9_unsee_1 : decode cX9_unsee 1 = .ok (.getfield 304, 3) := by decide +kernel
theorem dX9_unsee_4 : decode cX9_unsee 4 = .ok (.istore_n 1, 1) := by decide +kernel
theorem dX9_unsee_5 : decode cX9_unsee 5 = .ok (.aload_n 0, 1) := by decide +kernel
theorem dX9_unsee_6 : decode cX9_unsee 6 = .ok (.iconst 0, 1) := by decide +kernel
theorem dX9_unsee_7 : decode cX9_unsee 7 = .ok (.putfield 304, 3) := by decide +kernel
theorem dX9_unsee_10 : decode cX9_unsee 10 = .ok (.iload_n 1, 1) := by decide +kernel
theorem dX9_unsee_11 : decode cX9_unsee 11 = .ok (.ireturn, 1) := by decide +kernel
theorem dX9_which_0 : decode cX9_which 0 = .ok (.iload_n 1, 1) := by decide +kernel
theorem dX9_which_1 : decode cX9_which 1 = .ok (.i2l, 1) := by decide +kernel
theorem dX9_which_2 : decode cX9_which 2 = .ok (.lconst 0, 1) := by decide +kernel
theorem dX9_which_3 : decode cX9_which 3 = .ok (.lconst 1, 1) := by decide +kernel
theorem dX9_which_4 : decode cX9_which 4 = .ok (.invokestatic 89, 3) := by decide +kernel
theorem dX9_which_7 : decode cX9_which 7 = .ok (.ifCond .ne 6, 3) := by decide +kernel
theorem dX9_which_10 : decode cX9_which 10 = .ok (.bipush (-2), 2) := by decide +kernel
theorem dX9_which_12 : decode cX9_which 12 = .ok (.ireturn, 1) := by decide +kernel
theorem dX9_which_13 : decode cX9_which 13 = .ok (.aload_n 0, 1) := by decide +kernel
theorem dX9_which_14 : decode cX9_which 14 = .ok (.iconst 0, 1) := by decide +kernel
theorem dX9_which_15 : decode cX9_which 15 = .ok (.invokevirtual 162, 3) := by decide +kernel
theorem dX9_which_18 : decode cX9_which 18 = .ok (.iconst 0, 1) := by decide +kernel
theorem dX9_which_19 : decode cX9_which 19 = .ok (.istore_n 2, 1) := by decide +kernel
theorem dX9_which_20 : decode cX9_which 20 = .ok (.bipush (-9), 2) := by decide +kernel
theorem dX9_which_22 : decode cX9_which 22 = .ok (.istore_n 3, 1) := by decide +kernel
theorem dX9_which_23 : decode cX9_which 23 = .ok (.iconst 0, 1) := by decide +kernel
theorem dX9_which_24 : decode cX9_which 24 = .ok (.istore 4, 2) := by decide +kernel
theorem dX9_which_26 : decode cX9_which 26 = .ok (.iload 4, 2) := by decide +kernel
theorem dX9_which_28 : decode cX9_which 28 = .ok (.aload_n 0, 1) := by decide +kernel
theorem dX9_which_29 : decode cX9_which 29 = .ok (.iconst 0, 1) := by decide +kernel
theorem dX9_which_30 : decode cX9_which 30 = .ok (.invokevirtual 128, 3) := by decide +kernel
theorem dX9_which_33 : decode cX9_which 33 = .ok (.if_icmp .ge 138, 3) := by decide +kernel
theorem dX9_which_36 : decode cX9_which 36 = .ok (.aload_n 0, 1) := by decide +kernel
theorem dX9_which_37 : decode cX9_which 37 = .ok (.iconst 0, 1) := by decide +kernel
theorem dX9_which_38 : decode cX9_which 38 = .ok (.iload 4, 2) := by decide +kernel
theorem dX9_which_40 : decode cX9_which 40 = .ok (.invokevirtual 119, 3) := by decide +kernel
theorem dX9_which_43 : decode cX9_which 43 = .ok (.istore 5, 2) := by decide +kernel
theorem dX9_which_45 : decode cX9_which 45 = .ok (.iconst 0, 1) := by decide +kernel
theorem dX9_which_46 : decode cX9_which 46 = .ok (.istore 6, 2) := by decide +kernel
theorem dX9_which_48 : decode cX9_which 48 = .ok (.iload 6, 2) := by decide +kernel
theorem dX9_which_50 : decode cX9_which 50 = .ok (.aload_n 0, 1) := by decide +kernel
theorem dX9_which_51 : decode cX9_which 51 = .ok (.getfield 304, 3) := by decide +kernel
theorem dX9_which_54 : decode cX9_which 54 = .ok (.if_icmp .ge 82, 3) := by decide +kernel
theorem dX9_which_57 : decode cX9_which 57 = .ok (.iload 5, 2) := by decide +kernel
theorem dX9_which_59 : decode cX9_which 59 = .ok (.ifCond .eq 77, 3) := by decide +kernel
theorem dX9_which_62 : decode cX9_which 62 = .ok (.aload_n 0, 1) := by decide +kernel
theorem dX9_which_63 : decode cX9_which 63 = .ok (.iconst 0, 1) := by decide +kernel
theorem dX9_which_64 : decode cX9_which 64 = .ok (.aload_n 0, 1) := by decide +kernel
theorem dX9_which_65 : decode cX9_which 65 = .ok (.getfield 64, 3) := by decide +kernel
theorem dX9_which_68 : decode cX9_which 68 = .ok (.iload 6, 2) := by decide +kernel
theorem dX9_which_70 : decode cX9_which 70 = .ok (.iaload, 1) := by decide +kernel
theorem dX9_which_71 : decode cX9_which 71 = .ok (.aload_n 0, 1) := by decide +kernel
theorem dX9_which_72 : decode cX9_which 72 = .ok (.iconst 0, 1) := by decide +kernel
theorem dX9_which_73 : decode cX9_which 73 = .ok (.invokevirtual 128, 3) := by decide +kernel
theorem dX9_which_76 : decode cX9_which 76 = .ok (.bipush 15, 2) := by decide +kernel
theorem dX9_which_78 : decode cX9_which 78 = .ok (.iconst 1, 1) := by decide +kernel
theorem dX9_which_79 : decode cX9_which 79 = .ok (.iload 4, 2) := by decide +kernel
theorem dX9_which_81 : decode cX9_which 81 = .ok (.ishl, 1) := by decide +kernel
theorem dX9_which_82 : decode cX9_which 82 = .ok (.invokevirtual 221, 3) := by decide +kernel
theorem dX9_which_85 : decode cX9_which 85 = .ok (.aload_n 0, 1) := by decide +kernel
theorem dX9_which_86 : decode cX9_which 86 = .ok (.getfield 198, 3) := by decide +kernel
theorem dX9_which_89 : decode cX9_which 89 = .ok (.aload_n 0, 1) := by decide +kernel
theorem dX9_which_90 : decode cX9_which 90 = .ok (.getfield 67, 3) := by decide +kernel
theorem dX9_which_93 : decode cX9_which 93 = .ok (.iload 6, 2) := by decide +kernel
theorem dX9_which_95 : decode cX9_which 95 = .ok (.iaload, 1) := by decide +kernel
theorem dX9_which_96 : decode cX9_which 96 = .ok (.if_icmp .ne 7, 3) := by decide +kernel
theorem dX9_which_99 : decode cX9_which 99 = .ok (.iconst 1, 1) := by decide +kernel
theorem dX9_which_100 : decode cX9_which 100 = .ok (.goto 4, 3) := by decide +kernel
theorem dX9_which_103 : decode cX9_which 103 = .ok (.iconst 0, 1) := by decide +kernel
theorem dX9_which_104 : decode cX9_which 104 = .ok (.aload_n 0, 1) := by decide +kernel
theorem dX9_which_105 : decode cX9_which 105 = .ok (.getfield 70, 3) := by decide +kernel
theorem dX9_which_108 : decode cX9_which 108 = .ok (.iload 6, 2) := by decide +kernel
theorem dX9_which_110 : decode cX9_which 110 = .ok (.iaload, 1) := by decide +kernel
theorem dX9_which_111 : decode cX9_which 111 = .ok (.iconst 1, 1) := by decide +kernel
theorem dX9_which_112 : decode cX9_which 112 = .ok (.if_icmp .ne 7, 3) := by decide +kernel
theorem dX9_which_115 : decode cX9_which 115 = .ok (.iconst 1, 1) := by decide +kernel
theorem dX9_which_116 : decode cX9_which 116 = .ok (.goto 4, 3) := by decide +kernel
theorem dX9_which_119 : decode cX9_which 119 = .ok (.iconst 0, 1) := by decide +kernel
theorem dX9_which_120 : decode cX9_which 120 = .ok (.if_icmp .ne 7, 3) := by decide +kernel
theorem dX9_which_123 : decode cX9_which 123 = .ok (.iconst 1, 1) := by decide +kernel
theorem dX9_which_124 : decode cX9_which 124 = .ok (.goto 4, 3) := by decide +kernel
theorem dX9_which_127 : decode cX9_which 127 = .ok (.iconst 0, 1) := by decide +kernel
theorem dX9_which_128 : decode cX9_which 128 = .ok (.istore 5, 2) := by decide +kernel
theorem dX9_which_130 : decode cX9_which 130 = .ok (.iinc 6 1, 3) := by decide +kernel
theorem dX9_which_133 : decode cX9_which 133 = .ok (.goto (-85), 3) := by decide +kernel
theorem dX9_which_136 : decode cX9_which 136 = .ok (.iload 5, 2) := by decide +kernel
theorem dX9_which_138 : decode cX9_which 138 = .ok (.ifCond .eq 12, 3) := by decide +kernel
theorem dX9_which_141 : decode cX9_which 141 = .ok (.iload_n 2, 1) := by decide +kernel
theorem dX9_which_142 : decode cX9_which 142 = .ok (.ifCond .ne 8, 3) := by decide +kernel
theorem dX9_which_145 : decode cX9_which 145 = .ok (.iload 4, 2) := by decide +kernel
theorem dX9_which_147 : decode cX9_which 147 = .ok (.goto 4, 3) := by decide +kernel
theorem dX9_which_150 : decode cX9_which 150 = .ok (.iload_n 3, 1) := by decide +kernel
theorem dX9_which_151 : decode cX9_which 151 = .ok (.istore_n 3, 1) := by decide +kernel
theorem dX9_which_152 : decode cX9_which 152 = .ok (.iload_n 2, 1) := by decide +kernel
theorem dX9_which_153 : decode cX9_which 153 = .ok (.iload 5, 2) := by decide +kernel
theorem dX9_which_155 : decode cX9_which 155 = .ok (.ifCond .eq 7, 3) := by decide +kernel
theorem dX9_which_158 : decode cX9_which 158 = .ok (.iconst 1, 1) := by decide +kernel
theorem dX9_which_159 : decode cX9_which 159 = .ok (.goto 4, 3) := by decide +kernel
theorem dX9_which_162 : decode cX9_which 162 = .ok (.iconst 0, 1) := by decide +kernel
theorem dX9_which_163 : decode cX9_which 163 = .ok (.iadd, 1) := by decide +kernel
theorem dX9_which_164 : decode cX9_which 164 = .ok (.istore_n 2, 1) := by decide +kernel
theorem dX9_which_165 : decode cX9_which 165 = .ok (.iinc 4 1, 3) := by decide +kernel
theorem dX9_which_168 : decode cX9_which 168 = .ok (.goto (-142), 3) := by decide +kernel
theorem dX9_which_171 : decode cX9_which 171 = .ok (.iload_n 1, 1) := by decide +kernel
theorem dX9_which_172 : decode cX9_which 172 = .ok (.ifCond .ne 7, 3) := by decide +kernel
theorem dX9_which_175 : decode cX9_which 175 = .ok (.iload_n 2, 1) := by decide +kernel
theorem dX9_which_176 : decode cX9_which 176 = .ok (.goto 4, 3) := by decide +kernel
theorem dX9_which_179 : decode cX9_which 179 = .ok (.iload_n 3, 1) := by decide +kernel
theorem dX9_which_180 : decode cX9_which 180 = .ok (.ireturn, 1) := by decide +kernel
theorem dX9_factorial_0 : decode cX9_factorial 0 = .ok (.iconst 1, 1) := by decide +kernel
theorem dX9_factorial_1 : decode cX9_factorial 1 = .ok (.istore_n 1, 1) := by decide +kernel
theorem dX9_factorial_2 : decode cX9_factorial 2 = .ok (.iconst 2, 1) := by decide +kernel
theorem dX9_factorial_3 : decode cX9_factorial 3 = .ok (.istore_n 2, 1) := by decide +kernel
theorem dX9_factorial_4 : decode cX9_factorial 4 = .ok (.iload_n 2, 1) := by decide +kernel
theorem dX9_factorial_5 : decode cX9_factorial 5 = .ok (.iload_n 0, 1) := by decide +kernel
theorem dX9_factorial_6 : decode cX9_factorial 6 = .ok (.if_icmp .gt 13, 3) := by decide +kernel
theorem dX9_factorial_9 : decode cX9_factorial 9 = .ok (.iload_n 1, 1) := by decide +kernel
theorem dX9_factorial_10 : decode cX9_factorial 10 = .ok (.iload_n 2, 1) := by decide +kernel
theorem dX9_factorial_11 : decode cX9_factorial 11 = .ok (.imul, 1) := by decide +kernel
theorem dX9_factorial_12 : decode cX9_factorial 12 = .ok (.istore_n 1, 1) := by decide +kernel
theorem dX9_factorial_13 : decode cX9_factorial 13 = .ok (.iinc 2 1, 3) := by decide +kernel
theorem dX9_factorial_16 : decode cX9_factorial 16 = .ok (.goto (-12), 3) := by decide +kernel
theorem dX9_factorial_19 : decode cX9_factorial 19 = .ok (.iload_n 1, 1) := by decide +kernel
theorem dX9_factorial_20 : decode cX9_factorial 20 = .ok (.ireturn, 1) := by decide +kernel
theorem dX9_common_0 : decode cX9_common 0 = .ok (.iload_n 0, 1) := by decide +kernel
theorem dX9_common_1 : decode cX9_common 1 = .ok (.ifCond .ge 8, 3) := by decide +kernel
theorem dX9_common_4 : decode cX9_common 4 = .ok (.iload_n 0, 1) := by decide +kernel
theorem dX9_common_5 : decode cX9_common 5 = .ok (.ineg, 1) := by decide +kernel
theorem dX9_common_6 : decode cX9_common 6 = .ok (.goto 4, 3) := by decide +kernel
theorem dX9_common_9 : decode cX9_common 9 = .ok (.iload_n 0, 1) := by decide +kernel
theorem dX9_common_10 : decode cX9_common 10 = .ok (.istore_n 2, 1) := by decide +kernel
theorem dX9_common_11 : decode cX9_common 11 = .ok (.iload_n 1, 1) := by decide +kernel
theorem dX9_common_12 : decode cX9_common 12 = .ok (.istore_n 3, 1) := by decide +kernel
theorem dX9_common_13 : decode cX9_common 13 = .ok (.iload_n 3, 1) := by decide +kernel
theorem dX9_common_14 : decode cX9_common 14 = .ok (.ifCond .eq 16, 3) := by decide +kernel
theorem dX9_common_17 : decode cX9_common 17 = .ok (.iload_n 2, 1) := by decide +kernel
theorem dX9_common_18 : decode cX9_common 18 = .ok (.iload_n 3, 1) := by decide +kernel
theorem dX9_common_19 : decode cX9_common 19 = .ok (.irem, 1) := by decide +kernel
theorem dX9_common_20 : decode cX9_common 20 = .ok (.istore 4, 2) := by decide +kernel
theorem dX9_common_22 : decode cX9_common 22 = .ok (.iload_n 3, 1) := by decide +kernel
theorem dX9_common_23 : decode cX9_common 23 = .ok (.istore_n 2, 1) := by decide +kernel
theorem dX9_common_24 : decode cX9_common 24 = .ok (.iload 4, 2) := by decide +kernel
theorem dX9_common_26 : decode cX9_common 26 = .ok (.istore_n 3, 1) := by decide +kernel
theorem dX9_common_27 : decode cX9_common 27 = .ok (.goto (-14), 3) := by decide +kernel
theorem dX9_common_30 : decode cX9_common 30 = .ok (.iload_n 2, 1) := by decide +kernel
theorem dX9_common_31 : decode cX9_common 31 = .ok (.ireturn, 1) := by decide +kernel
theorem dX9_share_0 : decode cX9_share 0 = .ok (.iload_n 1, 1) := by decide +kernel
theorem dX9_share_1 : decode cX9_share 1 = .ok (.invokestatic 216, 3) := by decide +kernel
theorem dX9_share_4 : decode cX9_share 4 = .ok (.ifCond .ne 5, 3) := by decide +kernel
theorem dX9_share_7 : decode cX9_share 7 = .ok (.iconst (-1), 1) := by decide +kernel
theorem dX9_share_8 : decode cX9_share 8 = .ok (.ireturn, 1) := by decide +kernel
theorem dX9_share_9 : decode cX9_share 9 = .ok (.aload_n 0, 1) := by decide +kernel
theorem dX9_share_10 : decode cX9_share 10 = .ok (.iconst 0, 1) := by decide +kernel
theorem dX9_share_11 : decode cX9_share 11 = .ok (.invokevirtual 162, 3) := by decide +kernel
theorem dX9_share_14 : decode cX9_share 14 = .ok (.iconst 0, 1) := by decide +kernel
theorem dX9_share_15 : decode cX9_share 15 = .ok (.istore_n 3, 1) := by decide +kernel
theorem dX9_share_16 : decode cX9_share 16 = .ok (.iconst 0, 1) := by decide +kernel
theorem dX9_share_17 : decode cX9_share 17 = .ok (.istore 4, 2) := by decide +kernel
theorem dX9_share_19 : decode cX9_share 19 = .ok (.iload 4, 2) := by decide +kernel
theorem dX9_share_21 : decode cX9_share 21 = .ok (.bipush 16, 2) := by decide +kernel
theorem dX9_share_23 : decode cX9_share 23 = .ok (.if_icmp .ge 70, 3) := by decide +kernel
theorem dX9_share_26 : decode cX9_share 26 = .ok (.iload 4, 2) := by decide +kernel
theorem dX9_share_28 : decode cX9_share 28 = .ok (.iload_n 1, 1) := by decide +kernel
theorem dX9_share_29 : decode cX9_share 29 = .ok (.invokestatic 93, 3) := by decide +kernel
theorem dX9_share_32 : decode cX9_share 32 = .ok (.ifCond .ne 55, 3) := by decide +kernel
theorem dX9_share_35 : decode cX9_share 35 = .ok (.iload 4, 2) := by decide +kernel
theorem dX9_share_37 : decode cX9_share 37 = .ok (.invokestatic 307, 3) := by decide +kernel
theorem dX9_share_40 : decode cX9_share 40 = .ok (.invokestatic 310, 3) := by decide +kernel
theorem dX9_share_43 : decode cX9_share 43 = .ok (.iconst 3, 1) := by decide +kernel
theorem dX9_share_44 : decode cX9_share 44 = .ok (.iload 4, 2) := by decide +kernel
theorem dX9_share_46 : decode cX9_share 46 = .ok (.invokestatic 307, 3) := by decide +kernel
theorem dX9_share_49 : decode cX9_share 49 = .ok (.isub, 1) := by decide +kernel
theorem dX9_share_50 : decode cX9_share 50 = .ok (.invokestatic 310, 3) := by decide +kernel
theorem dX9_share_53 : decode cX9_share 53 = .ok (.imul, 1) := by decide +kernel
theorem dX9_share_54 : decode cX9_share 54 = .ok (.istore 5, 2) := by decide +kernel
theorem dX9_share_56 : decode cX9_share 56 = .ok (.iload_n 3, 1) := by decide +kernel
theorem dX9_share_57 : decode cX9_share 57 = .ok (.iload 5, 2) := by decide +kernel
theorem dX9_share_59 : decode cX9_share 59 = .ok (.aload_n 0, 1) := by decide +kernel
theorem dX9_share_60 : decode cX9_share 60 = .ok (.iconst 0, 1) := by decide +kernel
theorem dX9_share_61 : decode cX9_share 61 = .ok (.iload 4, 2) := by decide +kernel
theorem dX9_share_63 : decode cX9_share 63 = .ok (.invokevirtual 286, 3) := by decide +kernel
theorem dX9_share_66 : decode cX9_share 66 = .ok (.invokestatic 307, 3) := by decide +kernel
theorem dX9_share_69 : decode cX9_share 69 = .ok (.aload_n 0, 1) := by decide +kernel
theorem dX9_share_70 : decode cX9_share 70 = .ok (.iconst 0, 1) := by decide +kernel
theorem dX9_share_71 : decode cX9_share 71 = .ok (.iload 4, 2) := by decide +kernel
theorem dX9_share_73 : decode cX9_share 73 = .ok (.iconst 1, 1) := by decide +kernel
theorem dX9_share_74 : decode cX9_share 74 = .ok (.iload_n 1, 1) := by decide +kernel
theorem dX9_share_75 : decode cX9_share 75 = .ok (.ishl, 1) := by decide +kernel
theorem dX9_share_76 : decode cX9_share 76 = .ok (.ior, 1) := by decide +kernel
theorem dX9_share_77 : decode cX9_share 77 = .ok (.invokevirtual 286, 3) := by decide +kernel
theorem dX9_share_80 : decode cX9_share 80 = .ok (.invokestatic 307, 3) := by decide +kernel
theorem dX9_share_83 : decode cX9_share 83 = .ok (.isub, 1) := by decide +kernel
theorem dX9_share_84 : decode cX9_share 84 = .ok (.imul, 1) := by decide +kernel
theorem dX9_share_85 : decode cX9_share 85 = .ok (.iadd, 1) := by decide +kernel
theorem dX9_share_86 : decode cX9_share 86 = .ok (.istore_n 3, 1) := by decide +kernel
theorem dX9_share_87 : decode cX9_share 87 = .ok (.iinc 4 1, 3) := by decide +kernel
theorem dX9_share_90 : decode cX9_share 90 = .ok (.goto (-71), 3) := by decide +kernel
theorem dX9_share_93 : decode cX9_share 93 = .ok (.iload_n 3, 1) := by decide +kernel
theorem dX9_share_94 : decode cX9_share 94 = .ok (.bipush 24, 2) := by decide +kernel
theorem dX9_share_96 : decode cX9_share 96 = .ok (.invokestatic 313, 3) := by decide +kernel
theorem dX9_share_99 : decode cX9_share 99 = .ok (.istore 4, 2) := by decide +kernel
theorem dX9_share_101 : decode cX9_share 101 = .ok (.iload_n 2, 1) := by decide +kernel
theorem dX9_share_102 : decode cX9_share 102 = .ok (.ifCond .eq 10, 3) := by decide +kernel
theorem dX9_share_105 : decode cX9_share 105 = .ok (.iload_n 3, 1) := by decide +kernel
theorem dX9_share_106 : decode cX9_share 106 = .ok (.iload 4, 2) := by decide +kernel
theorem dX9_share_108 : decode cX9_share 108 = .ok (.idiv, 1) := by decide +kernel
theorem dX9_share_109 : decode cX9_share 109 = .ok (.goto 8, 3) := by decide +kernel
theorem dX9_share_112 : decode cX9_share 112 = .ok (.bipush 24, 2) := by decide +kernel
theorem dX9_share_114 : decode cX9_share 114 = .ok (.iload 4, 2) := by decide +kernel
theorem dX9_share_116 : decode cX9_share 116 = .ok (.idiv, 1) := by decide +kernel
theorem dX9_share_117 : decode cX9_share 117 = .ok (.ireturn, 1) := by decide +kernel
theorem dX9_lost_0 : decode cX9_lost 0 = .ok (.iload_n 1, 1) := by decide +kernel
theorem dX9_lost_1 : decode cX9_lost 1 = .ok (.invokestatic 216, 3) := by decide +kernel
theorem dX9_lost_4 : decode cX9_lost 4 = .ok (.ifCond .ne 5, 3) := by decide +kernel
theorem dX9_lost_7 : decode cX9_lost 7 = .ok (.iconst (-1), 1) := by decide +kernel
theorem dX9_lost_8 : decode cX9_lost 8 = .ok (.ireturn, 1) := by decide +kernel
theorem dX9_lost_9 : decode cX9_lost 9 = .ok (.iload_n 2, 1) := by decide +kernel
theorem dX9_lost_10 : decode cX9_lost 10 = .ok (.i2l, 1) := by decide +kernel
theorem dX9_lost_11 : decode cX9_lost 11 = .ok (.lconst 0, 1) := by decide +kernel
theorem dX9_lost_12 : decode cX9_lost 12 = .ok (.ldc2_w 316, 3) := by decide +kernel
theorem dX9_lost_15 : decode cX9_lost 15 = .ok (.invokestatic 89, 3) := by decide +kernel
theorem dX9_lost_18 : decode cX9_lost 18 = .ok (.ifCond .ne 6, 3) := by decide +kernel
theorem dX9_lost_21 : decode cX9_lost 21 = .ok (.bipush (-2), 2) := by decide +kernel
theorem dX9_lost_23 : decode cX9_lost 23 = .ok (.ireturn, 1) := by decide +kernel
theorem dX9_lost_24 : decode cX9_lost 24 = .ok (.iconst 0, 1) := by decide +kernel
theorem dX9_lost_25 : decode cX9_lost 25 = .ok (.istore 4, 2) := by decide +kernel
theorem dX9_lost_27 : decode cX9_lost 27 = .ok (.iconst 0, 1) := by decide +kernel
theorem dX9_lost_28 : decode cX9_lost 28 = .ok (.istore 5, 2) := by decide +kernel
theorem dX9_lost_30 : decode cX9_lost 30 = .ok (.iload 5, 2) := by decide +kernel
theorem dX9_lost_32 : decode cX9_lost 32 = .ok (.aload_n 0, 1) := by decide +kernel
theorem dX9_lost_33 : decode cX9_lost 33 = .ok (.iconst 0, 1) := by decide +kernel
theorem dX9_lost_34 : decode cX9_lost 34 = .ok (.invokevirtual 128, 3) := by decide +kernel
theorem dX9_lost_37 : decode cX9_lost 37 = .ok (.if_icmp .ge 33, 3) := by decide +kernel
theorem dX9_lost_40 : decode cX9_lost 40 = .ok (.iload 4, 2) := by decide +kernel
theorem dX9_lost_42 : decode cX9_lost 42 = .ok (.aload_n 0, 1) := by decide +kernel
theorem dX9_lost_43 : decode cX9_lost 43 = .ok (.iconst 0, 1) := by decide +kernel
theorem dX9_lost_44 : decode cX9_lost 44 = .ok (.iload 5, 2) := by decide +kernel
theorem dX9_lost_46 : decode cX9_lost 46 = .ok (.iload_n 1, 1) := by decide +kernel
theorem dX9_lost_47 : decode cX9_lost 47 = .ok (.invokevirtual 210, 3) := by decide +kernel
theorem dX9_lost_50 : decode cX9_lost 50 = .ok (.ifCond .eq 10, 3) := by decide +kernel
theorem dX9_lost_53 : decode cX9_lost 53 = .ok (.iconst 1, 1) := by decide +kernel
theorem dX9_lost_54 : decode cX9_lost 54 = .ok (.iload 5, 2) := by decide +kernel
theorem dX9_lost_56 : decode cX9_lost 56 = .ok (.ishl, 1) := by decide +kernel
theorem dX9_lost_57 : decode cX9_lost 57 = .ok (.goto 4, 3) := by decide +kernel
theorem dX9_lost_60 : decode cX9_lost 60 = .ok (.iconst 0, 1) := by decide +kernel
theorem dX9_lost_61 : decode cX9_lost 61 = .ok (.ior, 1) := by decide +kernel
theorem dX9_lost_62 : decode cX9_lost 62 = .ok (.istore 4, 2) := by decide +kernel
theorem dX9_lost_64 : decode cX9_lost 64 = .ok (.iinc 5 1, 3) := by decide +kernel
theorem dX9_lost_67 : decode cX9_lost 67 = .ok (.goto (-37), 3) := by decide +kernel
theorem dX9_lost_70 : decode cX9_lost 70 = .ok (.iload 4, 2) := by decide +kernel
theorem dX9_lost_72 : decode cX9_lost 72 = .ok (.invokestatic 307, 3) := by decide +kernel
theorem dX9_lost_75 : decode cX9_lost 75 = .ok (.istore 5, 2) := by decide +kernel
theorem dX9_lost_77 : decode cX9_lost 77 = .ok (.iload 5, 2) := by decide +kernel
theorem dX9_lost_79 : decode cX9_lost 79 = .ok (.bipush 9, 2) := by decide +kernel
theorem dX9_lost_81 : decode cX9_lost 81 = .ok (.if_icmp .le 6, 3) := by decide +kernel
theorem dX9_lost_84 : decode cX9_lost 84 = .ok (.bipush (-4), 2) := by decide +kernel
theorem dX9_lost_86 : decode cX9_lost 86 = .ok (.ireturn, 1) := by decide +kernel
theorem dX9_lost_87 : decode cX9_lost 87 = .ok (.aload_n 0, 1) := by decide +kernel
theorem dX9_lost_88 : decode cX9_lost 88 = .ok (.iconst 0, 1) := by decide +kernel
theorem dX9_lost_89 : decode cX9_lost 89 = .ok (.invokevirtual 162, 3) := by decide +kernel
theorem dX9_lost_92 : decode cX9_lost 92 = .ok (.iconst 0, 1) := by decide +kernel
theorem dX9_lost_93 : decode cX9_lost 93 = .ok (.istore 6, 2) := by decide +kernel
theorem dX9_lost_95 : decode cX9_lost 95 = .ok (.iconst 0, 1) := by decide +kernel
theorem dX9_lost_96 : decode cX9_lost 96 = .ok (.istore 7, 2) := by decide +kernel
theorem dX9_lost_98 : decode cX9_lost 98 = .ok (.iload 4, 2) := by decide +kernel
theorem dX9_lost_100 : decode cX9_lost 100 = .ok (.istore 8, 2) := by decide +kernel
theorem dX9_lost_102 : decode cX9_lost 102 = .ok (.iload 8, 2) := by decide +kernel
theorem dX9_lost_104 : decode cX9_lost 104 = .ok (.ifCond .lt 108, 3) := by decide +kernel
theorem dX9_lost_107 : decode cX9_lost 107 = .ok (.iconst 1, 1) := by decide +kernel
